/-! statements of methods, 4 (by wip/whole/gensteps.py) -/
theorem P_Arr_copyOf (nl : Bool) (Ln : Nat) (xs : Nat → Int32) : am_Jl (TT nl Ln xs) 76 [(0, .iload_n 1, 1, []), (1, .aload_n 0, 2, []), (2, .arraylength, 3, []), (3, .if_icmp .ne 11, 6, []), (6, .aload_n 0, 7, []), (14, .iload_n 1, 15, []), (15, .newarray .byte, 17, []), (17, .astore_n 2, 18, []), (18, .aload_n 0, 19, []), (19, .iconst 0, 20, []), (20, .aload_n 2, 21, []), (21, .iconst 0, 22, []), (22, .aload_n 0, 23, []), (23, .arraylength, 24, []), (24, .iload_n 1, 25, []), (25, .invokestatic 304, 28, [12, 65, 2, 2]), (28, .invokestatic 150, 31, [14]), (31, .aload_n 2, 32, []), (32, .areturn, 33, [3])] := dk_ck (by decide +kernel)
set_option maxRecDepth 4096 in
theorem w_Arr_copyOf {nl : Bool} {Ln : Nat} {xs : Nat → Int32} {d : Nat} {p0 : Option Nat} {p1 : Int32} {σ : am_S} {F : Option Nat → am_S → Prop} (h : (∃ n, p0 = some n ∧ (am_kd σ n).1 = 1002) ∧ (p1 = (Int32.ofNat (am_kd σ (p0.getD 0)).2) → False) ∧ (¬ (p1 = (Int32.ofNat (am_kd σ (p0.getD 0)).2)) → (¬ p1 < 0) ∧ (p1.toNatClampNeg ≤ 1000000) ∧ ∀ σ5, σ5 = am_new σ 1002 p1.toNatClampNeg p1.toNatClampNeg → am_ext σ σ5 → am_fz σ5 (am_nx σ) → ∀ v7 : Option Nat, v7 = some (am_nx σ) → (∃ n, p0 = some n ∧ (am_kd σ5 n).1 = 1002) ∧ k_Math_min2 nl Ln xs d (Int32.ofNat (am_kd σ5 (p0.getD 0)).2) p1 σ5 (fun a11 σ10 => am_ext σ5 σ10 → ∃ σ12, am_cp σ10 [.int a11, .int (0 : Int32), am_ov v7, .int (0 : Int32), am_ov p0] = some ([], σ12) ∧ F v7 σ12))) : k_Arr_copyOf nl Ln xs (d + 1) p0 p1 σ F := by
  obtain ⟨j0, j1, j2, j3, j6, j14, j15, j17, j18, j19, j20, j21, j22, j23, j24, j25, j28, j31, j32, -⟩ := P_Arr_copyOf nl Ln xs
  have elo : am_lo 3 [am_ov p0, .int p1] = [some (am_ov p0), some (.int p1), none] := by simp only [am_lo, am_in_ov, am_in_int, am_in_long, am_in_nil]; rfl
  unfold k_Arr_copyOf
  rw [elo]
  refine s_iload_n j0 rfl rfl ?_
  refine s_aload_n j1 rfl rfl ?_
  obtain ⟨ho1, h⟩ := h
  refine s_len (k := 1002) kn_1002 (by decide) j2 rfl ho1 ?_
  refine s_icn j3 rfl rfl am_cc_ne (fun hc2 => ?_) (fun hc2 => ?_)
  · replace h := h.2 hc2
    refine s_iload_n j14 rfl rfl ?_
    obtain ⟨ho3, h⟩ := h
    obtain ⟨ho4, h⟩ := h
    refine s_newarray (k := 1002) (m := p1.toNatClampNeg) j15 rfl rfl (by decide) ho3 rfl ho4 (fun σ5 e6 e6x e6z => ?_)
    replace h := h σ5 e6 e6x e6z
    refine s_astore_nV j17 rfl (n := 3) (L' := fun w => [some (am_ov p0), some (.int p1), some (am_ov w)]) rfl (by decide) (fun _ => rfl) (fun v7 hv8 => ?_)
    replace h := h v7 hv8
    refine s_aload_n j18 rfl rfl ?_
    refine s_iconst j19 rfl kc_ic_0 ?_
    refine s_aload_n j20 rfl rfl ?_
    refine s_iconst j21 rfl kc_ic_0 ?_
    refine s_aload_n j22 rfl rfl ?_
    obtain ⟨ho9, h⟩ := h
    refine s_len (k := 1002) kn_1002 (by decide) j23 rfl ho9 ?_
    refine s_iload_n j24 rfl rfl ?_
    refine s_stat j25 rfl rfl rfl rfl (by decide) (in_Math_min2 _ _) (am_r8 rfl) (am_bI h (fun a11 σ10 h hx10 => ?_))
    replace h := h hx10
    obtain ⟨σ12, hcp13, h⟩ := h
    refine s_cp j28 rfl hcp13 (am_r8 rfl) ?_
    refine s_aload_n j31 rfl rfl ?_
    exact s_retR j32 rfl h
  · replace h := h.1 hc2
    refine s_aload_n j6 rfl rfl ?_
    exact h.elim
theorem P_By_byteAt (nl : Bool) (Ln : Nat) (xs : Nat → Int32) : am_Jl (TT nl Ln xs) 77 [(0, .iload_n 1, 1, []), (1, .ifCond .lt 11, 4, []), (4, .iload_n 1, 5, []), (5, .aload_n 0, 6, []), (6, .getfield 15, 9, [9, 1, 1, 0]), (9, .if_icmp .lt 7, 12, []), (12, .iconst (-1), 13, []), (13, .goto 13, 16, []), (16, .aload_n 0, 17, []), (17, .getfield 9, 20, [9, 1, 0, 2]), (20, .iload_n 1, 21, []), (21, .baload, 22, []), (22, .sipush 255, 25, []), (25, .iand, 26, []), (26, .ireturn, 27, [1])] := dk_ck (by decide +kernel)
set_option maxRecDepth 4096 in
theorem w_By_byteAt {nl : Bool} {Ln : Nat} {xs : Nat → Int32} {d : Nat} {this : Nat} {p0 : Int32} {σ : am_S} {F : Int32 → am_S → Prop} (h : (¬ (p0 < 0) → am_is σ (some this) 1) ∧ (¬ (p0 < 0) → (p0 < (am_fI σ 1001 this)) → am_is σ (some this) 1) ∧ (¬ (p0 < 0) → (p0 < (am_fI σ 1001 this)) → am_ar σ 1002 (am_fR σ 1000 this) p0) ∧ ∀ w7 : Int32, w7 = (if p0 < 0 then (-1 : Int32) else (if p0 < (am_fI σ 1001 this) then ((am_aI σ ((am_fR σ 1000 this).getD 0) p0.toNatClampNeg) &&& (255 : Int32)) else (-1 : Int32))) → F w7 σ) : k_By_byteAt nl Ln xs (d + 1) this p0 σ F := by
  obtain ⟨j0, j1, j4, j5, j6, j9, j12, j13, j16, j17, j20, j21, j22, j25, j26, -⟩ := P_By_byteAt nl Ln xs
  have elo : am_lo 2 [am_ov (some this), .int p0] = [some (am_ov (some this)), some (.int p0)] := by simp only [am_lo, am_in_ov, am_in_int, am_in_long, am_in_nil]; rfl
  unfold k_By_byteAt
  rw [elo]
  refine s_iload_n j0 rfl rfl ?_
  obtain ⟨ho2, h⟩ := h
  obtain ⟨ho4, h⟩ := h
  obtain ⟨ho5, h⟩ := h
  have K6 : ∀ (w7 : Int32), w7 = (if p0 < 0 then (-1 : Int32) else (if p0 < (am_fI σ 1001 this) then ((am_aI σ ((am_fR σ 1000 this).getD 0) p0.toNatClampNeg) &&& (255 : Int32)) else (-1 : Int32))) → am_C (TT nl Ln xs) (d + 1) 77 26 [some (am_ov (some this)), some (.int p0)] [.int w7] σ (am_qI F) := by
    intro w7 hw8
    replace h := h w7 hw8
    exact s_retI j26 rfl h
  refine s_if j1 rfl rfl am_cc_lt (fun hc1 => ?_) (fun hc1 => ?_)
  · refine s_iconst j12 rfl kc_ic_m1 ?_
    refine s_goto j13 rfl rfl ?_
    exact K6 _ (am_t1 hc1 rfl)
  · refine s_iload_n j4 rfl rfl ?_
    refine s_aload_n j5 rfl rfl ?_
    refine s_gfI j6 rfl (ho2 hc1) ?_
    refine s_ic j9 rfl rfl am_cc_lt (fun hc3 => ?_) (fun hc3 => ?_)
    · refine s_aload_n j16 rfl rfl ?_
      refine s_gfR j17 rfl (ho4 hc1 hc3) ?_
      refine s_iload_n j20 rfl rfl ?_
      refine s_baload (k := 1002) (by decide) j21 rfl (ho5 hc1 hc3) ?_
      refine s_sipush j22 rfl kc_si_255 ?_
      refine s_g j25 rfl rfl rfl rfl rfl rfl ?_
      exact K6 _ (am_t2 hc1 (am_t1 hc3 rfl))
    · refine s_iconst j12 rfl kc_ic_m1 ?_
      refine s_goto j13 rfl rfl ?_
      exact K6 _ (am_t2 hc1 (am_t2 hc3 rfl))
theorem P_Bk_finishBatch (nl : Bool) (Ln : Nat) (xs : Nat → Int32) : am_Jl (TT nl Ln xs) 78 [(0, .aload_n 0, 1, []), (1, .getfield 12, 4, [9, 6, 3, 2]), (4, .ldc2_w 221, 7, [6, 20]), (7, .invokevirtual 201, 10, [10, 74, 2, 7, 2]), (10, .iconst 0, 11, []), (11, .istore_n 3, 12, [])] := dk_ck (by decide +kernel)
set_option maxRecDepth 4096 in
theorem w_Bk_finishBatch {nl : Bool} {Ln : Nat} {xs : Nat → Int32} {d : Nat} {this : Nat} {p0 : Int32} {p1 : Int32} {σ : am_S} {F : Int32 → am_S → Prop} (h : (am_is σ (some this) 6) ∧ (am_is σ (am_fR σ 6003 this) 1) ∧ k_By_putNumber nl Ln xs d ((am_fR σ 6003 this).getD 0) (20 : Int64) σ (fun σ3 => am_ext σ σ3 → c_Bk_finishBatch_12 nl Ln xs (d + 1) this p0 p1 (0 : Int32) σ3 F)) : k_Bk_finishBatch nl Ln xs (d + 1) this p0 p1 σ F := by
  obtain ⟨j0, j1, j4, j7, j10, j11, -⟩ := P_Bk_finishBatch nl Ln xs
  have elo : am_lo 4 [am_ov (some this), .int p0, .int p1] = [some (am_ov (some this)), some (.int p0), some (.int p1), none] := by simp only [am_lo, am_in_ov, am_in_int, am_in_long, am_in_nil]; rfl
  unfold k_Bk_finishBatch
  rw [elo]
  refine s_aload_n j0 rfl rfl ?_
  obtain ⟨ho1, h⟩ := h
  refine s_gfR j1 rfl ho1 ?_
  refine s_ldc2 j4 rfl kc_ll_20 ?_
  obtain ⟨ho2, h⟩ := h
  refine s_virt j7 rfl rfl rfl rfl ho2 (by decide) (in_By_putNumber _ _) (am_r8 rfl) (am_bV h (fun σ3 h hx3 => ?_))
  replace h := h hx3
  refine s_iconst j10 rfl kc_ic_0 ?_
  refine s_istore_n j11 rfl (n := 4) (L' := [some (am_ov (some this)), some (.int p0), some (.int p1), some (.int (0 : Int32))]) rfl (by decide) rfl ?_
  exact h
theorem P_Bk_finishBatch_12 (nl : Bool) (Ln : Nat) (xs : Nat → Int32) : am_Jl (TT nl Ln xs) 78 [(12, .iload_n 3, 13, []), (13, .aload_n 0, 14, []), (14, .getfield 91, 17, [9, 6, 18, 0]), (17, .if_icmp .ge 25, 20, []), (20, .aload_n 0, 21, []), (21, .aload_n 0, 22, []), (22, .getfield 43, 25, [9, 6, 8, 2]), (25, .iload_n 3, 26, []), (26, .bipush 7, 28, []), (28, .imul, 29, []), (29, .aload_n 0, 30, []), (30, .getfield 12, 33, [9, 6, 3, 2]), (33, .invokevirtual 151, 36, [10, 73, 7, 6, 4]), (36, .iinc 3 1, 39, []), (39, .goto (-27), 42, []), (42, .aload_n 0, 43, []), (43, .getfield 12, 46, [9, 6, 3, 2]), (46, .iload_n 1, 47, []), (47, .i2l, 48, []), (48, .invokevirtual 201, 51, [10, 74, 2, 7, 2]), (51, .aload_n 0, 52, []), (52, .iconst 0, 53, []), (53, .putfield 94, 56, [9, 6, 19, 3]), (56, .aload_n 0, 57, []), (57, .iconst 0, 58, []), (58, .putfield 91, 61, [9, 6, 18, 0]), (61, .aload_n 0, 62, []), (62, .dup, 63, []), (63, .getfield 88, 66, [9, 6, 17, 0]), (66, .iconst 1, 67, []), (67, .iadd, 68, []), (68, .putfield 88, 71, [9, 6, 17, 0]), (71, .iload_n 2, 72, []), (72, .ireturn, 73, [1])] := dk_ck (by decide +kernel)
set_option maxRecDepth 4096 in
theorem w_Bk_finishBatch_12 {nl : Bool} {Ln : Nat} {xs : Nat → Int32} {d : Nat} {this : Nat} {x1 : Int32} {x2 : Int32} {x3 : Int32} {σ : am_S} {F : Int32 → am_S → Prop} (h : (am_is σ (some this) 6) ∧ (x3 < (am_fI σ 6018 this) → k_Bk_logDeed nl Ln xs d this (am_fR σ 6008 this) (x3 * (7 : Int32)) (am_fR σ 6003 this) σ (fun σ3 => am_ext σ σ3 → c_Bk_finishBatch_12 nl Ln xs (d + 1) this x1 x2 (x3 + (1 : Int32)) σ3 F)) ∧ (¬ (x3 < (am_fI σ 6018 this)) → (am_is σ (am_fR σ 6003 this) 1) ∧ k_By_putNumber nl Ln xs d ((am_fR σ 6003 this).getD 0) x1.toInt64 σ (fun σ6 => am_ext σ σ6 → ∀ σ8, σ8 = am_sfI σ6 6019 this (0 : Int32) → ∀ σ11, σ11 = am_sfI σ8 6018 this (0 : Int32) → ∀ σ14, σ14 = am_sfI σ11 6017 this ((am_fI σ11 6017 this) + (1 : Int32)) → F x2 σ14))) : c_Bk_finishBatch_12 nl Ln xs (d + 1) this x1 x2 x3 σ F := by
  obtain ⟨j12, j13, j14, j17, j20, j21, j22, j25, j26, j28, j29, j30, j33, j36, j39, j42, j43, j46, j47, j48, j51, j52, j53, j56, j57, j58, j61, j62, j63, j66, j67, j68, j71, j72, -⟩ := P_Bk_finishBatch_12 nl Ln xs
  unfold c_Bk_finishBatch_12
  refine s_iload_n j12 rfl rfl ?_
  refine s_aload_n j13 rfl rfl ?_
  obtain ⟨ho1, h⟩ := h
  refine s_gfI j14 rfl ho1 ?_
  refine s_icn j17 rfl rfl am_cc_ge (fun hc2 => ?_) (fun hc2 => ?_)
  · replace h := h.2 hc2
    refine s_aload_n j42 rfl rfl ?_
    refine s_gfR j43 rfl ho1 ?_
    refine s_iload_n j46 rfl rfl ?_
    refine s_g j47 rfl rfl rfl rfl rfl rfl ?_
    obtain ⟨ho5, h⟩ := h
    refine s_virt j48 rfl rfl rfl rfl ho5 (by decide) (in_By_putNumber _ _) (am_r8 rfl) (am_bV h (fun σ6 h hx6 => ?_))
    replace h := h hx6
    refine s_aload_n j51 rfl rfl ?_
    refine s_iconst j52 rfl kc_ic_0 ?_
    refine s_pfZ j53 rfl (am_is_ext hx6 ho1) (Or.inl rfl) (fun σ8 e9 => ?_)
    replace h := h σ8 e9
    have ek10 : am_kd σ8 = am_kd σ6 := by rw [e9]
    refine s_aload_n j56 rfl rfl ?_
    refine s_iconst j57 rfl kc_ic_0 ?_
    refine s_pfI j58 rfl (am_is_kd ek10 (am_is_ext hx6 ho1)) (fun σ11 e12 => ?_)
    replace h := h σ11 e12
    have ek13 : am_kd σ11 = am_kd σ8 := by rw [e12]
    refine s_aload_n j61 rfl rfl ?_
    refine s_dup j62 rfl (am_cov _) ?_
    refine s_gfI j63 rfl (am_is_kd ek13 (am_is_kd ek10 (am_is_ext hx6 ho1))) ?_
    refine s_iconst j66 rfl kc_ic_1 ?_
    refine s_g j67 rfl rfl rfl rfl rfl rfl ?_
    refine s_pfI j68 rfl (am_is_kd ek13 (am_is_kd ek10 (am_is_ext hx6 ho1))) (fun σ14 e15 => ?_)
    replace h := h σ14 e15
    have ek16 : am_kd σ14 = am_kd σ11 := by rw [e15]
    refine s_iload_n j71 rfl rfl ?_
    exact s_retI j72 rfl h
  · replace h := h.1 hc2
    refine s_aload_n j20 rfl rfl ?_
    refine s_aload_n j21 rfl rfl ?_
    refine s_gfR j22 rfl ho1 ?_
    refine s_iload_n j25 rfl rfl ?_
    refine s_bipush j26 rfl kc_bi_7 ?_
    refine s_g j28 rfl rfl rfl rfl rfl rfl ?_
    refine s_aload_n j29 rfl rfl ?_
    refine s_gfR j30 rfl ho1 ?_
    refine s_virt j33 rfl rfl rfl rfl ho1 (by decide) (in_Bk_logDeed _ _ _ _) (am_r8 rfl) (am_bV h (fun σ3 h hx3 => ?_))
    replace h := h hx3
    refine s_iinc (L' := [some (am_ov (some this)), some (.int x1), some (.int x2), some (.int (x3 + (1 : Int32)))]) j36 rfl rfl kc_ic_1 rfl ?_
    refine s_goto j39 rfl rfl ?_
    exact h
theorem P_Bk_forgetBehind (nl : Bool) (Ln : Nat) (xs : Nat → Int32) : am_Jl (TT nl Ln xs) 79 [(0, .iconst 0, 1, []), (1, .istore_n 2, 2, [])] := dk_ck (by decide +kernel)
set_option maxRecDepth 4096 in
theorem w_Bk_forgetBehind {nl : Bool} {Ln : Nat} {xs : Nat → Int32} {d : Nat} {this : Nat} {p0 : Int32} {σ : am_S} {F : am_S → Prop} (h : c_Bk_forgetBehind_2 nl Ln xs (d + 1) this p0 (0 : Int32) none none none σ F) : k_Bk_forgetBehind nl Ln xs (d + 1) this p0 σ F := by
  obtain ⟨j0, j1, -⟩ := P_Bk_forgetBehind nl Ln xs
  have elo : am_lo 6 [am_ov (some this), .int p0] = [some (am_ov (some this)), some (.int p0), none, none, none, none] := by simp only [am_lo, am_in_ov, am_in_int, am_in_long, am_in_nil]; rfl
  unfold k_Bk_forgetBehind
  rw [elo]
  refine s_iconst j0 rfl kc_ic_0 ?_
  refine s_istore_n j1 rfl (n := 6) (L' := [some (am_ov (some this)), some (.int p0), some (.int (0 : Int32)), none, none, none]) rfl (by decide) rfl ?_
  exact h
theorem P_Bk_forgetBehind_2 (nl : Bool) (Ln : Nat) (xs : Nat → Int32) : am_Jl (TT nl Ln xs) 79 [(2, .iload_n 2, 3, []), (3, .aload_n 0, 4, []), (4, .getfield 79, 7, [9, 6, 14, 0]), (7, .if_icmp .ge 84, 10, []), (10, .aload_n 0, 11, []), (11, .getfield 32, 14, [9, 6, 6, 2]), (14, .iload_n 2, 15, []), (15, .aaload, 16, []), (16, .astore_n 3, 17, []), (17, .iconst 0, 18, []), (18, .istore 4, 20, []), (91, .return_, 92, [0])] := dk_ck (by decide +kernel)
set_option maxRecDepth 4096 in
theorem w_Bk_forgetBehind_2 {nl : Bool} {Ln : Nat} {xs : Nat → Int32} {d : Nat} {this : Nat} {x1 : Int32} {x2 : Int32} {x3 : Option Value} {x4 : Option Value} {x5 : Option Value} {σ : am_S} {F : am_S → Prop} (h : (am_is σ (some this) 6) ∧ (x2 < (am_fI σ 6014 this) → (am_ar σ 2011 (am_fR σ 6006 this) x2) ∧ ∀ v4 : Option Nat, v4 = (am_aR σ ((am_fR σ 6006 this).getD 0) x2.toNatClampNeg) → c_Bk_forgetBehind_20 nl Ln xs (d + 1) this x1 x2 v4 (0 : Int32) x5 σ F) ∧ (¬ (x2 < (am_fI σ 6014 this)) → F σ)) : c_Bk_forgetBehind_2 nl Ln xs (d + 1) this x1 x2 x3 x4 x5 σ F := by
  obtain ⟨j2, j3, j4, j7, j10, j11, j14, j15, j16, j17, j18, j91, -⟩ := P_Bk_forgetBehind_2 nl Ln xs
  unfold c_Bk_forgetBehind_2
  refine s_iload_n j2 rfl rfl ?_
  refine s_aload_n j3 rfl rfl ?_
  obtain ⟨ho1, h⟩ := h
  refine s_gfI j4 rfl ho1 ?_
  refine s_icn j7 rfl rfl am_cc_ge (fun hc2 => ?_) (fun hc2 => ?_)
  · replace h := h.2 hc2
    exact s_retV j91 rfl h
  · replace h := h.1 hc2
    refine s_aload_n j10 rfl rfl ?_
    refine s_gfR j11 rfl ho1 ?_
    refine s_iload_n j14 rfl rfl ?_
    obtain ⟨ho3, h⟩ := h
    refine s_aaload (k := 2011) (by decide) kq_2011 j15 rfl ho3 ?_
    refine s_astore_nV j16 rfl (n := 6) (L' := fun w => [some (am_ov (some this)), some (.int x1), some (.int x2), some (am_ov w), x4, x5]) rfl (by decide) (fun _ => rfl) (fun v4 hv5 => ?_)
    replace h := h v4 hv5
    refine s_iconst j17 rfl kc_ic_0 ?_
    refine s_istore j18 rfl (n := 6) (L' := [some (am_ov (some this)), some (.int x1), some (.int x2), some (am_ov v4), some (.int (0 : Int32)), x5]) rfl (by decide) (am_st1_R [_, _, _] _ _ _ _) ?_
    exact h
theorem P_Bk_forgetBehind_20 (nl : Bool) (Ln : Nat) (xs : Nat → Int32) : am_Jl (TT nl Ln xs) 79 [(20, .iload 4, 22, []), (22, .bipush 40, 24, []), (24, .if_icmp .ge 61, 27, []), (27, .aload_n 3, 28, []), (28, .getfield 223, 31, [9, 11, 5, 2]), (31, .ifnull 54, 34, []), (34, .aload_n 3, 35, []), (35, .getfield 223, 38, [9, 11, 5, 2]), (38, .getfield 226, 41, [9, 7, 2, 0]), (41, .iload_n 1, 42, []), (42, .if_icmp .le 43, 45, []), (45, .aload_n 3, 46, []), (46, .getfield 223, 49, [9, 11, 5, 2]), (49, .astore 5, 51, []), (51, .aload_n 3, 52, []), (52, .aload 5, 54, []), (54, .getfield 136, 57, [9, 7, 5, 2]), (57, .putfield 223, 60, [9, 11, 5, 2]), (60, .aload_n 3, 61, []), (61, .dup, 62, []), (62, .getfield 229, 65, [9, 11, 6, 0]), (65, .iconst 1, 66, []), (66, .isub, 67, []), (67, .putfield 229, 70, [9, 11, 6, 0]), (70, .aload_n 0, 71, []), (71, .getfield 58, 74, [9, 6, 2, 2]), (74, .aload 5, 76, []), (76, .invokevirtual 230, 79, [10, 80, 6, 2, 2]), (79, .iinc 4 1, 82, []), (82, .goto (-62), 85, []), (85, .iinc 2 1, 88, []), (88, .goto (-86), 91, [])] := dk_ck (by decide +kernel)
set_option maxRecDepth 4096 in
theorem w_Bk_forgetBehind_20 {nl : Bool} {Ln : Nat} {xs : Nat → Int32} {d : Nat} {this : Nat} {x1 : Int32} {x2 : Int32} {x3 : Option Nat} {x4 : Int32} {x5 : Option Value} {σ : am_S} {F : am_S → Prop} (h : (x4 < (40 : Int32) → (am_is σ x3 11) ∧ ((am_fR σ 11005 (x3.getD 0)) = none → c_Bk_forgetBehind_2 nl Ln xs (d + 1) this x1 (x2 + (1 : Int32)) (some (am_ov x3)) (some (.int x4)) x5 σ F) ∧ (¬ ((am_fR σ 11005 (x3.getD 0)) = none) → (am_is σ (am_fR σ 11005 (x3.getD 0)) 7) ∧ (x1 < (am_fI σ 7002 ((am_fR σ 11005 (x3.getD 0)).getD 0)) → ∀ v6 : Option Nat, v6 = (am_fR σ 11005 (x3.getD 0)) → (am_is σ v6 7) ∧ ∀ σ9, σ9 = am_sfR σ 11005 (x3.getD 0) (am_fR σ 7005 (v6.getD 0)) → ∀ σ12, σ12 = am_sfI σ9 11006 (x3.getD 0) ((am_fI σ9 11006 (x3.getD 0)) - (1 : Int32)) → (am_is σ12 (some this) 6) ∧ (am_is σ12 (am_fR σ12 6002 this) 5) ∧ k_Sk_putBack nl Ln xs d ((am_fR σ12 6002 this).getD 0) v6 σ12 (fun σ17 => am_ext σ12 σ17 → c_Bk_forgetBehind_20 nl Ln xs (d + 1) this x1 x2 x3 (x4 + (1 : Int32)) (some (am_ov v6)) σ17 F)) ∧ (¬ (x1 < (am_fI σ 7002 ((am_fR σ 11005 (x3.getD 0)).getD 0))) → c_Bk_forgetBehind_2 nl Ln xs (d + 1) this x1 (x2 + (1 : Int32)) (some (am_ov x3)) (some (.int x4)) x5 σ F))) ∧ (¬ (x4 < (40 : Int32)) → c_Bk_forgetBehind_2 nl Ln xs (d + 1) this x1 (x2 + (1 : Int32)) (some (am_ov x3)) (some (.int x4)) x5 σ F)) : c_Bk_forgetBehind_20 nl Ln xs (d + 1) this x1 x2 x3 x4 x5 σ F := by
  obtain ⟨j20, j22, j24, j27, j28, j31, j34, j35, j38, j41, j42, j45, j46, j49, j51, j52, j54, j57, j60, j61, j62, j65, j66, j67, j70, j71, j74, j76, j79, j82, j85, j88, -⟩ := P_Bk_forgetBehind_20 nl Ln xs
  unfold c_Bk_forgetBehind_20
  refine s_iload j20 rfl rfl ?_
  refine s_bipush j22 rfl kc_bi_40 ?_
  refine s_icn j24 rfl rfl am_cc_ge (fun hc1 => ?_) (fun hc1 => ?_)
  · replace h := h.2 hc1
    refine s_iinc (L' := [some (am_ov (some this)), some (.int x1), some (.int (x2 + (1 : Int32))), some (am_ov x3), some (.int x4), x5]) j85 rfl rfl kc_ic_1 rfl ?_
    refine s_goto j88 rfl rfl ?_
    exact h
  · replace h := h.1 hc1
    refine s_aload_n j27 rfl rfl ?_
    obtain ⟨ho2, h⟩ := h
    refine s_gfR j28 rfl ho2 ?_
    refine s_ifnull j31 rfl rfl (fun hc3 => ?_) (fun hc3 => ?_)
    · replace h := h.1 hc3
      refine s_iinc (L' := [some (am_ov (some this)), some (.int x1), some (.int (x2 + (1 : Int32))), some (am_ov x3), some (.int x4), x5]) j85 rfl rfl kc_ic_1 rfl ?_
      refine s_goto j88 rfl rfl ?_
      exact h
    · replace h := h.2 hc3
      refine s_aload_n j34 rfl rfl ?_
      refine s_gfR j35 rfl ho2 ?_
      obtain ⟨ho4, h⟩ := h
      refine s_gfI j38 rfl ho4 ?_
      refine s_iload_n j41 rfl rfl ?_
      refine s_icn j42 rfl rfl am_cc_le (fun hc5 => ?_) (fun hc5 => ?_)
      · replace h := h.2 hc5
        refine s_iinc (L' := [some (am_ov (some this)), some (.int x1), some (.int (x2 + (1 : Int32))), some (am_ov x3), some (.int x4), x5]) j85 rfl rfl kc_ic_1 rfl ?_
        refine s_goto j88 rfl rfl ?_
        exact h
      · replace h := h.1 hc5
        refine s_aload_n j45 rfl rfl ?_
        refine s_gfR j46 rfl ho2 ?_
        refine s_astoreV j49 rfl (n := 6) (L' := fun w => [some (am_ov (some this)), some (.int x1), some (.int x2), some (am_ov x3), some (.int x4), some (am_ov w)]) rfl (by decide) (fun _ => rfl) (fun v6 hv7 => ?_)
        replace h := h v6 hv7
        refine s_aload_n j51 rfl rfl ?_
        refine s_aload j52 rfl rfl ?_
        obtain ⟨ho8, h⟩ := h
        refine s_gfR j54 rfl ho8 ?_
        refine s_pfR j57 rfl ho2 (fun σ9 e10 => ?_)
        replace h := h σ9 e10
        have ek11 : am_kd σ9 = am_kd σ := by rw [e10]
        refine s_aload_n j60 rfl rfl ?_
        refine s_dup j61 rfl (am_cov _) ?_
        refine s_gfI j62 rfl (am_is_kd ek11 ho2) ?_
        refine s_iconst j65 rfl kc_ic_1 ?_
        refine s_g j66 rfl rfl rfl rfl rfl rfl ?_
        refine s_pfI j67 rfl (am_is_kd ek11 ho2) (fun σ12 e13 => ?_)
        replace h := h σ12 e13
        have ek14 : am_kd σ12 = am_kd σ9 := by rw [e13]
        refine s_aload_n j70 rfl rfl ?_
        obtain ⟨ho15, h⟩ := h
        refine s_gfR j71 rfl ho15 ?_
        refine s_aload j74 rfl rfl ?_
        obtain ⟨ho16, h⟩ := h
        refine s_virt j76 rfl rfl rfl rfl ho16 (by decide) (in_Sk_putBack _ _) (am_r8 rfl) (am_bV h (fun σ17 h hx17 => ?_))
        replace h := h hx17
        refine s_iinc (L' := [some (am_ov (some this)), some (.int x1), some (.int x2), some (am_ov x3), some (.int (x4 + (1 : Int32))), some (am_ov v6)]) j79 rfl rfl kc_ic_1 (am_st1_R [_, _, _] _ _ _ _) ?_
        refine s_goto j82 rfl rfl ?_
        exact h
theorem P_Sk_putBack (nl : Bool) (Ln : Nat) (xs : Nat → Int32) : am_Jl (TT nl Ln xs) 80 [(0, .aload_n 1, 1, []), (1, .aload_n 0, 2, []), (2, .getfield 7, 5, [9, 5, 0, 2]), (5, .putfield 16, 8, [9, 7, 5, 2]), (8, .aload_n 0, 9, []), (9, .aload_n 1, 10, []), (10, .putfield 7, 13, [9, 5, 0, 2]), (13, .return_, 14, [0])] := dk_ck (by decide +kernel)
set_option maxRecDepth 4096 in
theorem w_Sk_putBack {nl : Bool} {Ln : Nat} {xs : Nat → Int32} {d : Nat} {this : Nat} {p0 : Option Nat} {σ : am_S} {F : am_S → Prop} (h : (am_is σ (some this) 5) ∧ (am_is σ p0 7) ∧ ∀ σ3, σ3 = am_sfR σ 7005 (p0.getD 0) (am_fR σ 5000 this) → ∀ σ6, σ6 = am_sfR σ3 5000 this p0 → F σ6) : k_Sk_putBack nl Ln xs (d + 1) this p0 σ F := by
  obtain ⟨j0, j1, j2, j5, j8, j9, j10, j13, -⟩ := P_Sk_putBack nl Ln xs
  have elo : am_lo 2 [am_ov (some this), am_ov p0] = [some (am_ov (some this)), some (am_ov p0)] := by simp only [am_lo, am_in_ov, am_in_int, am_in_long, am_in_nil]; rfl
  unfold k_Sk_putBack
  rw [elo]
  refine s_aload_n j0 rfl rfl ?_
  refine s_aload_n j1 rfl rfl ?_
  obtain ⟨ho1, h⟩ := h
  refine s_gfR j2 rfl ho1 ?_
  obtain ⟨ho2, h⟩ := h
  refine s_pfR j5 rfl ho2 (fun σ3 e4 => ?_)
  replace h := h σ3 e4
  have ek5 : am_kd σ3 = am_kd σ := by rw [e4]
  refine s_aload_n j8 rfl rfl ?_
  refine s_aload_n j9 rfl rfl ?_
  refine s_pfR j10 rfl (am_is_kd ek5 ho1) (fun σ6 e7 => ?_)
  replace h := h σ6 e7
  have ek8 : am_kd σ6 = am_kd σ3 := by rw [e7]
  exact s_retV j13 rfl h
theorem P_Bk_tellClauses (nl : Bool) (Ln : Nat) (xs : Nat → Int32) : am_Jl (TT nl Ln xs) 81 [(0, .aload_n 0, 1, []), (1, .aload_n 1, 2, []), (2, .iconst 1, 3, []), (3, .laload, 4, []), (4, .invokevirtual 252, 7, [10, 29, 7, 3, 2]), (7, .astore_n 3, 8, []), (8, .aload_n 3, 9, []), (9, .ifnull 22, 12, []), (12, .aload_n 3, 13, []), (13, .getfield 256, 16, [9, 9, 1, 0]), (16, .bipush 6, 18, []), (18, .if_icmp .eq 13, 21, []), (21, .aload_n 2, 22, []), (22, .getfield 208, 25, [9, 1, 1, 0]), (25, .sipush 400, 28, []), (28, .if_icmp .le 6, 31, []), (31, .bipush (-2), 33, []), (33, .ireturn, 34, [1]), (34, .aload_n 0, 35, []), (35, .bipush 6, 37, []), (37, .invokevirtual 236, 40, [10, 82, 7, 2, 2]), (40, .ifCond .eq 6, 43, []), (43, .bipush (-7), 45, []), (45, .ireturn, 46, [1]), (46, .aload_n 0, 47, []), (47, .getfield 54, 50, [9, 6, 1, 2]), (50, .aload_n 2, 51, []), (51, .invokevirtual 288, 54, [10, 83, 5, 5, 2]), (54, .astore 4, 56, []), (56, .aload_n 0, 57, []), (57, .getfield 54, 60, [9, 6, 1, 2]), (60, .getfield 292, 63, [9, 4, 5, 0]), (63, .iconst (-1), 64, []), (64, .if_icmp .eq 14, 67, []), (67, .bipush (-10), 69, []), (69, .aload_n 0, 70, []), (70, .getfield 54, 73, [9, 6, 1, 2]), (73, .getfield 292, 76, [9, 4, 5, 0]), (76, .isub, 77, []), (77, .ireturn, 78, [1]), (78, .aload_n 0, 79, []), (79, .bipush 6, 81, []), (81, .aload_n 3, 82, []), (82, .iconst 0, 83, []), (83, .lconst 0, 84, []), (84, .aload 4, 86, []), (86, .invokevirtual 267, 89, [10, 105, 7, 7, 6]), (89, .pop, 90, []), (90, .aload_n 0, 91, []), (91, .getfield 54, 94, [9, 6, 1, 2]), (94, .getfield 295, 97, [9, 4, 4, 0]), (97, .ireturn, 98, [1])] := dk_ck (by decide +kernel)
set_option maxRecDepth 4096 in
theorem w_Bk_tellClauses {nl : Bool} {Ln : Nat} {xs : Nat → Int32} {d : Nat} {this : Nat} {p0 : Option Nat} {p1 : Option Nat} {σ : am_S} {F : Int32 → am_S → Prop} (h : (am_ar σ 1001 p0 (1 : Int32)) ∧ (am_is σ (some this) 6) ∧ k_Bk_policyAt nl Ln xs d this (am_aL σ (p0.getD 0) (1 : Int32).toNatClampNeg) σ (fun a4 σ3 => am_ext σ σ3 → (a4 = none → F (-2 : Int32) σ3) ∧ (¬ (a4 = none) → (am_is σ3 a4 9) ∧ ((am_fI σ3 9001 (a4.getD 0)) = (6 : Int32) → F (-2 : Int32) σ3) ∧ (¬ ((am_fI σ3 9001 (a4.getD 0)) = (6 : Int32)) → (am_is σ3 p1 1) ∧ ((400 : Int32) < (am_fI σ3 1001 (p1.getD 0)) → F (-2 : Int32) σ3) ∧ (¬ ((400 : Int32) < (am_fI σ3 1001 (p1.getD 0))) → k_Bk_isToldOut nl Ln xs d this (6 : Int32) σ3 (fun a11 σ10 => am_ext σ3 σ10 → (a11 = true → F (-7 : Int32) σ10) ∧ (¬ (a11 = true) → (am_is σ10 (am_fR σ10 6001 this) 4) ∧ k_Rd_read nl Ln xs d ((am_fR σ10 6001 this).getD 0) p1 σ10 (fun a15 σ14 => am_ext σ10 σ14 → (am_is σ14 (am_fR σ14 6001 this) 4) ∧ ((am_fI σ14 4005 ((am_fR σ14 6001 this).getD 0)) = (-1 : Int32) → k_Bk_tellPolicy nl Ln xs d this (6 : Int32) a4 (0 : Int32) (0 : Int64) a15 σ14 (fun a19 σ18 => am_ext σ14 σ18 → (am_is σ18 (am_fR σ18 6001 this) 4) ∧ F (am_fI σ18 4004 ((am_fR σ18 6001 this).getD 0)) σ18)) ∧ (¬ ((am_fI σ14 4005 ((am_fR σ14 6001 this).getD 0)) = (-1 : Int32)) → F ((-10 : Int32) - (am_fI σ14 4005 ((am_fR σ14 6001 this).getD 0))) σ14))))))))) : k_Bk_tellClauses nl Ln xs (d + 1) this p0 p1 σ F := by
  obtain ⟨j0, j1, j2, j3, j4, j7, j8, j9, j12, j13, j16, j18, j21, j22, j25, j28, j31, j33, j34, j35, j37, j40, j43, j45, j46, j47, j50, j51, j54, j56, j57, j60, j63, j64, j67, j69, j70, j73, j76, j77, j78, j79, j81, j82, j83, j84, j86, j89, j90, j91, j94, j97, -⟩ := P_Bk_tellClauses nl Ln xs
  have elo : am_lo 5 [am_ov (some this), am_ov p0, am_ov p1] = [some (am_ov (some this)), some (am_ov p0), some (am_ov p1), none, none] := by simp only [am_lo, am_in_ov, am_in_int, am_in_long, am_in_nil]; rfl
  unfold k_Bk_tellClauses
  rw [elo]
  refine s_aload_n j0 rfl rfl ?_
  refine s_aload_n j1 rfl rfl ?_
  refine s_iconst j2 rfl kc_ic_1 ?_
  obtain ⟨ho1, h⟩ := h
  refine s_laload j3 rfl ho1 ?_
  obtain ⟨ho2, h⟩ := h
  refine s_virt j4 rfl rfl rfl rfl ho2 (by decide) (in_Bk_policyAt _ _) (am_r8 rfl) (am_bR h (fun a4 σ3 h hx3 => ?_))
  replace h := h hx3
  refine s_astore_n j7 rfl (n := 5) (L' := [some (am_ov (some this)), some (am_ov p0), some (am_ov p1), some (am_ov a4), none]) rfl (by decide) (am_st1_R [_, _] _ _ _ _) ?_
  refine s_aload_n j8 rfl rfl ?_
  refine s_ifnull j9 rfl rfl (fun hc5 => ?_) (fun hc5 => ?_)
  · replace h := h.1 hc5
    refine s_bipush j31 rfl kc_bi_m2 ?_
    exact s_retI j33 rfl h
  · replace h := h.2 hc5
    refine s_aload_n j12 rfl rfl ?_
    obtain ⟨ho6, h⟩ := h
    refine s_gfI j13 rfl ho6 ?_
    refine s_bipush j16 rfl kc_bi_6 ?_
    refine s_ic j18 rfl rfl am_cc_eq (fun hc7 => ?_) (fun hc7 => ?_)
    · replace h := h.1 hc7
      refine s_bipush j31 rfl kc_bi_m2 ?_
      exact s_retI j33 rfl h
    · replace h := h.2 hc7
      refine s_aload_n j21 rfl rfl ?_
      obtain ⟨ho8, h⟩ := h
      refine s_gfI j22 rfl ho8 ?_
      refine s_sipush j25 rfl kc_si_400 ?_
      refine s_icn j28 rfl rfl am_cc_le (fun hc9 => ?_) (fun hc9 => ?_)
      · replace h := h.2 hc9
        refine s_aload_n j34 rfl rfl ?_
        refine s_bipush j35 rfl kc_bi_6 ?_
        refine s_virt j37 rfl rfl rfl rfl (am_is_ext hx3 ho2) (by decide) (in_Bk_isToldOut _ _) (am_r8 rfl) (am_bB h (fun a11 σ10 h hx10 => ?_))
        replace h := h hx10
        refine s_ifn j40 rfl rfl am_cb_eq (fun hc12 => ?_) (fun hc12 => ?_)
        · replace h := h.2 hc12
          refine s_aload_n j46 rfl rfl ?_
          refine s_gfR j47 rfl (am_is_ext hx10 (am_is_ext hx3 ho2)) ?_
          refine s_aload_n j50 rfl rfl ?_
          obtain ⟨ho13, h⟩ := h
          refine s_virt j51 rfl rfl rfl rfl ho13 (by decide) (in_Rd_read _ _) (am_r8 rfl) (am_bR h (fun a15 σ14 h hx14 => ?_))
          replace h := h hx14
          refine s_astore j54 rfl (n := 5) (L' := [some (am_ov (some this)), some (am_ov p0), some (am_ov p1), some (am_ov a4), some (am_ov a15)]) rfl (by decide) (am_st1_R [_, _, _] _ _ _ _) ?_
          refine s_aload_n j56 rfl rfl ?_
          refine s_gfR j57 rfl (am_is_ext hx14 (am_is_ext hx10 (am_is_ext hx3 ho2))) ?_
          obtain ⟨ho16, h⟩ := h
          refine s_gfI j60 rfl ho16 ?_
          refine s_iconst j63 rfl kc_ic_m1 ?_
          refine s_ic j64 rfl rfl am_cc_eq (fun hc17 => ?_) (fun hc17 => ?_)
          · replace h := h.1 hc17
            refine s_aload_n j78 rfl rfl ?_
            refine s_bipush j79 rfl kc_bi_6 ?_
            refine s_aload_n j81 rfl rfl ?_
            refine s_iconst j82 rfl kc_ic_0 ?_
            refine s_lconst j83 rfl rfl ?_
            refine s_aload j84 rfl rfl ?_
            refine s_virt j86 rfl rfl rfl rfl (am_is_ext hx14 (am_is_ext hx10 (am_is_ext hx3 ho2))) (by decide) (in_Bk_tellPolicy _ _ _ _ _ _) (am_r8 rfl) (am_bI h (fun a19 σ18 h hx18 => ?_))
            replace h := h hx18
            refine s_pop j89 rfl rfl ?_
            refine s_aload_n j90 rfl rfl ?_
            refine s_gfR j91 rfl (am_is_ext hx18 (am_is_ext hx14 (am_is_ext hx10 (am_is_ext hx3 ho2)))) ?_
            obtain ⟨ho20, h⟩ := h
            refine s_gfI j94 rfl ho20 ?_
            exact s_retI j97 rfl h
          · replace h := h.2 hc17
            refine s_bipush j67 rfl kc_bi_m10 ?_
            refine s_aload_n j69 rfl rfl ?_
            refine s_gfR j70 rfl (am_is_ext hx14 (am_is_ext hx10 (am_is_ext hx3 ho2))) ?_
            refine s_gfI j73 rfl ho16 ?_
            refine s_g j76 rfl rfl rfl rfl rfl rfl ?_
            exact s_retI j77 rfl h
        · replace h := h.1 hc12
          refine s_bipush j43 rfl kc_bi_m7 ?_
          exact s_retI j45 rfl h
      · replace h := h.1 hc9
        refine s_bipush j31 rfl kc_bi_m2 ?_
        exact s_retI j33 rfl h
theorem P_Bk_isToldOut (nl : Bool) (Ln : Nat) (xs : Nat → Int32) : am_Jl (TT nl Ln xs) 82 [(0, .aload_n 0, 1, []), (1, .getfield 40, 4, [9, 6, 7, 2]), (4, .iload_n 1, 5, []), (5, .iaload, 6, []), (6, .getstatic 36, 9, [7, 500, 0]), (9, .iload_n 1, 10, []), (10, .iaload, 11, []), (11, .if_icmp .lt 7, 14, []), (14, .iconst 1, 15, []), (15, .goto 4, 18, []), (18, .iconst 0, 19, []), (19, .ireturn, 20, [4])] := dk_ck (by decide +kernel)
set_option maxRecDepth 4096 in
theorem w_Bk_isToldOut {nl : Bool} {Ln : Nat} {xs : Nat → Int32} {d : Nat} {this : Nat} {p0 : Int32} {σ : am_S} {F : Bool → am_S → Prop} (h : (am_is σ (some this) 6) ∧ (am_ar σ 1000 (am_fR σ 6007 this) p0) ∧ ((am_kd σ 500).1 = 0) ∧ (0 ≤ p0.toInt) ∧ (p0.toInt < am_rl (am_tz (TT nl Ln xs)) 500) ∧ F (decide (¬ ((am_aI σ ((am_fR σ 6007 this).getD 0) p0.toNatClampNeg) < (am_rv (am_tz (TT nl Ln xs)) 500 p0.toNatClampNeg)))) σ) : k_Bk_isToldOut nl Ln xs (d + 1) this p0 σ F := by
  obtain ⟨j0, j1, j4, j5, j6, j9, j10, j11, j14, j15, j18, j19, -⟩ := P_Bk_isToldOut nl Ln xs
  have elo : am_lo 2 [am_ov (some this), .int p0] = [some (am_ov (some this)), some (.int p0)] := by simp only [am_lo, am_in_ov, am_in_int, am_in_long, am_in_nil]; rfl
  unfold k_Bk_isToldOut
  rw [elo]
  refine s_aload_n j0 rfl rfl ?_
  obtain ⟨ho1, h⟩ := h
  refine s_gfR j1 rfl ho1 ?_
  refine s_iload_n j4 rfl rfl ?_
  obtain ⟨ho2, h⟩ := h
  refine s_iaload j5 rfl ho2 ?_
  refine s_static j6 rfl ?_
  refine s_iload_n j9 rfl rfl ?_
  obtain ⟨ho3, h⟩ := h
  obtain ⟨ho4, h⟩ := h
  obtain ⟨ho5, h⟩ := h
  refine s_ialoadR j10 rfl (by decide) ho3 rfl ho4 ho5 ?_
  have K7 : ∀ (w8 : Int32), w8 = (if ¬ ((am_aI σ ((am_fR σ 6007 this).getD 0) p0.toNatClampNeg) < (am_rv (am_tz (TT nl Ln xs)) 500 p0.toNatClampNeg)) then (1 : Int32) else 0) → am_C (TT nl Ln xs) (d + 1) 82 19 [some (am_ov (some this)), some (.int p0)] [.int w8] σ (am_qB F) := by
    intro w8 hw9
    subst hw9
    exact s_retZ j19 rfl h
  refine s_ic j11 rfl rfl am_cc_lt (fun hc6 => ?_) (fun hc6 => ?_)
  · refine s_iconst j18 rfl kc_ic_0 ?_
    exact K7 _ (am_e0 (Iff.trans Iff.rfl (am_p11 hc6)))
  · refine s_iconst j14 rfl kc_ic_1 ?_
    refine s_goto j15 rfl rfl ?_
    exact K7 _ (am_e1 (Iff.trans Iff.rfl (am_p12 hc6)))
theorem P_Rd_read (nl : Bool) (Ln : Nat) (xs : Nat → Int32) : am_Jl (TT nl Ln xs) 83 [(0, .aload_n 0, 1, []), (1, .aload_n 1, 2, []), (2, .invokevirtual 21, 5, [10, 84, 5, 10, 2]), (5, .aload_n 0, 6, []), (6, .iconst 0, 7, []), (7, .putfield 25, 10, [9, 4, 3, 0]), (10, .aload_n 0, 11, []), (11, .iconst 0, 12, []), (12, .putfield 29, 15, [9, 4, 4, 0]), (15, .aload_n 0, 16, []), (16, .iconst (-1), 17, []), (17, .putfield 32, 20, [9, 4, 5, 0]), (20, .aload_n 0, 21, []), (21, .aconst_null, 22, []), (22, .putfield 35, 25, [9, 4, 7, 2]), (25, .aload_n 0, 26, []), (26, .aconst_null, 27, []), (27, .putfield 39, 30, [9, 4, 8, 2]), (30, .aconst_null, 31, []), (31, .astore_n 2, 32, []), (32, .iconst 0, 33, []), (33, .istore_n 3, 34, [])] := dk_ck (by decide +kernel)
set_option maxRecDepth 4096 in
theorem w_Rd_read {nl : Bool} {Ln : Nat} {xs : Nat → Int32} {d : Nat} {this : Nat} {p0 : Option Nat} {σ : am_S} {F : Option Nat → am_S → Prop} (h : (am_is σ (some this) 4) ∧ k_Rd_scan nl Ln xs d this p0 σ (fun σ2 => am_ext σ σ2 → ∀ σ4, σ4 = am_sfI σ2 4003 this (0 : Int32) → ∀ σ7, σ7 = am_sfI σ4 4004 this (0 : Int32) → ∀ σ10, σ10 = am_sfI σ7 4005 this (-1 : Int32) → ∀ σ13, σ13 = am_sfR σ10 4007 this none → ∀ σ16, σ16 = am_sfR σ13 4008 this none → c_Rd_read_34 nl Ln xs (d + 1) this p0 none (0 : Int32) none σ16 F)) : k_Rd_read nl Ln xs (d + 1) this p0 σ F := by
  obtain ⟨j0, j1, j2, j5, j6, j7, j10, j11, j12, j15, j16, j17, j20, j21, j22, j25, j26, j27, j30, j31, j32, j33, -⟩ := P_Rd_read nl Ln xs
  have elo : am_lo 5 [am_ov (some this), am_ov p0] = [some (am_ov (some this)), some (am_ov p0), none, none, none] := by simp only [am_lo, am_in_ov, am_in_int, am_in_long, am_in_nil]; rfl
  unfold k_Rd_read
  rw [elo]
  refine s_aload_n j0 rfl rfl ?_
  refine s_aload_n j1 rfl rfl ?_
  obtain ⟨ho1, h⟩ := h
  refine s_virt j2 rfl rfl rfl rfl ho1 (by decide) (in_Rd_scan _ _) (am_r8 rfl) (am_bV h (fun σ2 h hx2 => ?_))
  replace h := h hx2
  refine s_aload_n j5 rfl rfl ?_
  refine s_iconst j6 rfl kc_ic_0 ?_
  refine s_pfI j7 rfl (am_is_ext hx2 ho1) (fun σ4 e5 => ?_)
  replace h := h σ4 e5
  have ek6 : am_kd σ4 = am_kd σ2 := by rw [e5]
  refine s_aload_n j10 rfl rfl ?_
  refine s_iconst j11 rfl kc_ic_0 ?_
  refine s_pfI j12 rfl (am_is_kd ek6 (am_is_ext hx2 ho1)) (fun σ7 e8 => ?_)
  replace h := h σ7 e8
  have ek9 : am_kd σ7 = am_kd σ4 := by rw [e8]
  refine s_aload_n j15 rfl rfl ?_
  refine s_iconst j16 rfl kc_ic_m1 ?_
  refine s_pfI j17 rfl (am_is_kd ek9 (am_is_kd ek6 (am_is_ext hx2 ho1))) (fun σ10 e11 => ?_)
  replace h := h σ10 e11
  have ek12 : am_kd σ10 = am_kd σ7 := by rw [e11]
  refine s_aload_n j20 rfl rfl ?_
  refine s_null j21 rfl ?_
  refine s_pfR j22 rfl (am_is_kd ek12 (am_is_kd ek9 (am_is_kd ek6 (am_is_ext hx2 ho1)))) (fun σ13 e14 => ?_)
  replace h := h σ13 e14
  have ek15 : am_kd σ13 = am_kd σ10 := by rw [e14]
  refine s_aload_n j25 rfl rfl ?_
  refine s_null j26 rfl ?_
  refine s_pfR j27 rfl (am_is_kd ek15 (am_is_kd ek12 (am_is_kd ek9 (am_is_kd ek6 (am_is_ext hx2 ho1))))) (fun σ16 e17 => ?_)
  replace h := h σ16 e17
  have ek18 : am_kd σ16 = am_kd σ13 := by rw [e17]
  refine s_null j30 rfl ?_
  refine s_astore_n j31 rfl (n := 5) (L' := [some (am_ov (some this)), some (am_ov p0), some (am_ov none), none, none]) rfl (by decide) (am_st1_R [_] _ _ _ _) ?_
  refine s_iconst j32 rfl kc_ic_0 ?_
  refine s_istore_n j33 rfl (n := 5) (L' := [some (am_ov (some this)), some (am_ov p0), some (am_ov none), some (.int (0 : Int32)), none]) rfl (by decide) (am_st1_R [_, _] _ _ _ _) ?_
  exact h
theorem P_Rd_read_34 (nl : Bool) (Ln : Nat) (xs : Nat → Int32) : am_Jl (TT nl Ln xs) 83 [(34, .iload_n 3, 35, []), (35, .bipush 30, 37, []), (37, .if_icmp .gt 73, 40, []), (40, .aload_n 0, 41, []), (41, .getfield 32, 44, [9, 4, 5, 0]), (44, .iconst (-1), 45, []), (45, .if_icmp .ne 65, 48, []), (48, .aload_n 0, 49, []), (49, .getfield 9, 52, [9, 4, 0, 2]), (52, .aload_n 0, 53, []), (53, .getfield 25, 56, [9, 4, 3, 0]), (56, .iaload, 57, []), (57, .bipush 30, 59, []), (59, .if_icmp .eq 51, 62, []), (62, .iload_n 3, 63, []), (63, .bipush 30, 65, []), (65, .if_icmp .ge 10, 68, []), (68, .aload_n 0, 69, []), (69, .invokevirtual 42, 72, [10, 96, 5, 4, 1]), (72, .goto 7, 75, []), (75, .aload_n 0, 76, []), (76, .invokevirtual 46, 79, [10, 103, 5, 1, 1])] := dk_ck (by decide +kernel)
set_option maxRecDepth 4096 in
theorem w_Rd_read_34 {nl : Bool} {Ln : Nat} {xs : Nat → Int32} {d : Nat} {this : Nat} {x1 : Option Nat} {x2 : Option Nat} {x3 : Int32} {x4 : Option Value} {σ : am_S} {F : Option Nat → am_S → Prop} (h : ((30 : Int32) < x3 → c_Rd_read_110 nl Ln xs (d + 1) this x1 x2 x3 x4 σ F) ∧ (¬ ((30 : Int32) < x3) → (am_is σ (some this) 4) ∧ ((am_fI σ 4005 this) = (-1 : Int32) → (am_ar σ 1000 (am_fR σ 4000 this) (am_fI σ 4003 this)) ∧ ((am_aI σ ((am_fR σ 4000 this).getD 0) (am_fI σ 4003 this).toNatClampNeg) = (30 : Int32) → c_Rd_read_110 nl Ln xs (d + 1) this x1 x2 x3 x4 σ F) ∧ (¬ ((am_aI σ ((am_fR σ 4000 this).getD 0) (am_fI σ 4003 this).toNatClampNeg) = (30 : Int32)) → (x3 < (30 : Int32) → k_Rd_readClause nl Ln xs d this σ (fun a8 σ7 => am_ext σ σ7 → c_Rd_read_79 nl Ln xs (d + 1) this x1 x2 x3 x4 a8 σ7 F)) ∧ (¬ (x3 < (30 : Int32)) → k_Rd_fail nl Ln xs d this σ (fun a10 σ9 => am_ext σ σ9 → c_Rd_read_79 nl Ln xs (d + 1) this x1 x2 x3 x4 a10 σ9 F)))) ∧ (¬ ((am_fI σ 4005 this) = (-1 : Int32)) → c_Rd_read_110 nl Ln xs (d + 1) this x1 x2 x3 x4 σ F))) : c_Rd_read_34 nl Ln xs (d + 1) this x1 x2 x3 x4 σ F := by
  obtain ⟨j34, j35, j37, j40, j41, j44, j45, j48, j49, j52, j53, j56, j57, j59, j62, j63, j65, j68, j69, j72, j75, j76, -⟩ := P_Rd_read_34 nl Ln xs
  unfold c_Rd_read_34
  refine s_iload_n j34 rfl rfl ?_
  refine s_bipush j35 rfl kc_bi_30 ?_
  refine s_ic j37 rfl rfl am_cc_gt (fun hc1 => ?_) (fun hc1 => ?_)
  · replace h := h.1 hc1
    exact h
  · replace h := h.2 hc1
    refine s_aload_n j40 rfl rfl ?_
    obtain ⟨ho2, h⟩ := h
    refine s_gfI j41 rfl ho2 ?_
    refine s_iconst j44 rfl kc_ic_m1 ?_
    refine s_icn j45 rfl rfl am_cc_ne (fun hc3 => ?_) (fun hc3 => ?_)
    · replace h := h.2 hc3
      exact h
    · replace h := h.1 hc3
      refine s_aload_n j48 rfl rfl ?_
      refine s_gfR j49 rfl ho2 ?_
      refine s_aload_n j52 rfl rfl ?_
      refine s_gfI j53 rfl ho2 ?_
      obtain ⟨ho4, h⟩ := h
      refine s_iaload j56 rfl ho4 ?_
      refine s_bipush j57 rfl kc_bi_30 ?_
      refine s_ic j59 rfl rfl am_cc_eq (fun hc5 => ?_) (fun hc5 => ?_)
      · replace h := h.1 hc5
        exact h
      · replace h := h.2 hc5
        refine s_iload_n j62 rfl rfl ?_
        refine s_bipush j63 rfl kc_bi_30 ?_
        refine s_icn j65 rfl rfl am_cc_ge (fun hc6 => ?_) (fun hc6 => ?_)
        · replace h := h.2 hc6
          refine s_aload_n j75 rfl rfl ?_
          refine s_virt j76 rfl rfl rfl rfl ho2 (by decide) (in_Rd_fail _) (am_r8 rfl) (am_bR h (fun a10 σ9 h hx9 => ?_))
          replace h := h hx9
          exact h
        · replace h := h.1 hc6
          refine s_aload_n j68 rfl rfl ?_
          refine s_virt j69 rfl rfl rfl rfl ho2 (by decide) (in_Rd_readClause _) (am_r8 rfl) (am_bR h (fun a8 σ7 h hx7 => ?_))
          replace h := h hx7
          refine s_goto j72 rfl rfl ?_
          exact h
theorem P_Rd_read_79 (nl : Bool) (Ln : Nat) (xs : Nat → Int32) : am_Jl (TT nl Ln xs) 83 [(79, .astore 4, 81, []), (81, .aload_n 2, 82, []), (82, .ifnull 9, 85, []), (85, .aload_n 2, 86, []), (86, .aload 4, 88, []), (88, .putfield 49, 91, [9, 8, 3, 2]), (91, .aload 4, 93, []), (93, .astore_n 2, 94, []), (94, .aload_n 0, 95, []), (95, .dup, 96, []), (96, .getfield 29, 99, [9, 4, 4, 0]), (99, .iconst 1, 100, []), (100, .iadd, 101, []), (101, .putfield 29, 104, [9, 4, 4, 0]), (104, .iinc 3 1, 107, []), (107, .goto (-73), 110, [])] := dk_ck (by decide +kernel)
set_option maxRecDepth 4096 in
theorem w_Rd_read_79 {nl : Bool} {Ln : Nat} {xs : Nat → Int32} {d : Nat} {this : Nat} {x1 : Option Nat} {x2 : Option Nat} {x3 : Int32} {x4 : Option Value} {y0 : Option Nat} {σ : am_S} {F : Option Nat → am_S → Prop} (h : (x2 = none → (am_is σ (some this) 4) ∧ ∀ σ3, σ3 = am_sfI σ 4004 this ((am_fI σ 4004 this) + (1 : Int32)) → c_Rd_read_34 nl Ln xs (d + 1) this x1 y0 (x3 + (1 : Int32)) (some (am_ov y0)) σ3 F) ∧ (¬ (x2 = none) → (am_is σ x2 8) ∧ ∀ σ7, σ7 = am_sfR σ 8003 (x2.getD 0) y0 → (am_is σ7 (some this) 4) ∧ ∀ σ11, σ11 = am_sfI σ7 4004 this ((am_fI σ7 4004 this) + (1 : Int32)) → c_Rd_read_34 nl Ln xs (d + 1) this x1 y0 (x3 + (1 : Int32)) (some (am_ov y0)) σ11 F)) : c_Rd_read_79 nl Ln xs (d + 1) this x1 x2 x3 x4 y0 σ F := by
  obtain ⟨j79, j81, j82, j85, j86, j88, j91, j93, j94, j95, j96, j99, j100, j101, j104, j107, -⟩ := P_Rd_read_79 nl Ln xs
  unfold c_Rd_read_79
  refine s_astore j79 rfl (n := 5) (L' := [some (am_ov (some this)), some (am_ov x1), some (am_ov x2), some (.int x3), some (am_ov y0)]) rfl (by decide) rfl ?_
  refine s_aload_n j81 rfl rfl ?_
  refine s_ifnull j82 rfl rfl (fun hc1 => ?_) (fun hc1 => ?_)
  · replace h := h.1 hc1
    refine s_aload j91 rfl rfl ?_
    refine s_astore_n j93 rfl (n := 5) (L' := [some (am_ov (some this)), some (am_ov x1), some (am_ov y0), some (.int x3), some (am_ov y0)]) rfl (by decide) (am_st1_R [_] _ _ _ _) ?_
    refine s_aload_n j94 rfl rfl ?_
    refine s_dup j95 rfl (am_cov _) ?_
    obtain ⟨ho2, h⟩ := h
    refine s_gfI j96 rfl ho2 ?_
    refine s_iconst j99 rfl kc_ic_1 ?_
    refine s_g j100 rfl rfl rfl rfl rfl rfl ?_
    refine s_pfI j101 rfl ho2 (fun σ3 e4 => ?_)
    replace h := h σ3 e4
    have ek5 : am_kd σ3 = am_kd σ := by rw [e4]
    refine s_iinc (L' := [some (am_ov (some this)), some (am_ov x1), some (am_ov y0), some (.int (x3 + (1 : Int32))), some (am_ov y0)]) j104 rfl rfl kc_ic_1 (am_st1_R [_, _] _ _ _ _) ?_
    refine s_goto j107 rfl rfl ?_
    exact h
  · replace h := h.2 hc1
    refine s_aload_n j85 rfl rfl ?_
    refine s_aload j86 rfl rfl ?_
    obtain ⟨ho6, h⟩ := h
    refine s_pfR j88 rfl ho6 (fun σ7 e8 => ?_)
    replace h := h σ7 e8
    have ek9 : am_kd σ7 = am_kd σ := by rw [e8]
    refine s_aload j91 rfl rfl ?_
    refine s_astore_n j93 rfl (n := 5) (L' := [some (am_ov (some this)), some (am_ov x1), some (am_ov y0), some (.int x3), some (am_ov y0)]) rfl (by decide) (am_st1_R [_] _ _ _ _) ?_
    refine s_aload_n j94 rfl rfl ?_
    refine s_dup j95 rfl (am_cov _) ?_
    obtain ⟨ho10, h⟩ := h
    refine s_gfI j96 rfl ho10 ?_
    refine s_iconst j99 rfl kc_ic_1 ?_
    refine s_g j100 rfl rfl rfl rfl rfl rfl ?_
    refine s_pfI j101 rfl ho10 (fun σ11 e12 => ?_)
    replace h := h σ11 e12
    have ek13 : am_kd σ11 = am_kd σ7 := by rw [e12]
    refine s_iinc (L' := [some (am_ov (some this)), some (am_ov x1), some (am_ov y0), some (.int (x3 + (1 : Int32))), some (am_ov y0)]) j104 rfl rfl kc_ic_1 (am_st1_R [_, _] _ _ _ _) ?_
    refine s_goto j107 rfl rfl ?_
    exact h
theorem P_Rd_read_110 (nl : Bool) (Ln : Nat) (xs : Nat → Int32) : am_Jl (TT nl Ln xs) 83 [(110, .aload_n 0, 111, []), (111, .getfield 32, 114, [9, 4, 5, 0]), (114, .iconst (-1), 115, []), (115, .if_icmp .eq 13, 118, []), (118, .aload_n 0, 119, []), (119, .aload_n 0, 120, []), (120, .getfield 35, 123, [9, 4, 7, 2]), (123, .invokevirtual 54, 126, [10, 104, 5, 4, 2]), (126, .aconst_null, 127, []), (127, .areturn, 128, [3]), (128, .aload_n 0, 129, []), (129, .getfield 35, 132, [9, 4, 7, 2]), (132, .areturn, 133, [3])] := dk_ck (by decide +kernel)
set_option maxRecDepth 4096 in
theorem w_Rd_read_110 {nl : Bool} {Ln : Nat} {xs : Nat → Int32} {d : Nat} {this : Nat} {x1 : Option Nat} {x2 : Option Nat} {x3 : Int32} {x4 : Option Value} {σ : am_S} {F : Option Nat → am_S → Prop} (h : (am_is σ (some this) 4) ∧ ((am_fI σ 4005 this) = (-1 : Int32) → F (am_fR σ 4007 this) σ) ∧ (¬ ((am_fI σ 4005 this) = (-1 : Int32)) → k_Rd_putBack nl Ln xs d this (am_fR σ 4007 this) σ (fun σ3 => am_ext σ σ3 → F none σ3))) : c_Rd_read_110 nl Ln xs (d + 1) this x1 x2 x3 x4 σ F := by
  obtain ⟨j110, j111, j114, j115, j118, j119, j120, j123, j126, j127, j128, j129, j132, -⟩ := P_Rd_read_110 nl Ln xs
  unfold c_Rd_read_110
  refine s_aload_n j110 rfl rfl ?_
  obtain ⟨ho1, h⟩ := h
  refine s_gfI j111 rfl ho1 ?_
  refine s_iconst j114 rfl kc_ic_m1 ?_
  refine s_ic j115 rfl rfl am_cc_eq (fun hc2 => ?_) (fun hc2 => ?_)
  · replace h := h.1 hc2
    refine s_aload_n j128 rfl rfl ?_
    refine s_gfR j129 rfl ho1 ?_
    exact s_retR j132 rfl h
  · replace h := h.2 hc2
    refine s_aload_n j118 rfl rfl ?_
    refine s_aload_n j119 rfl rfl ?_
    refine s_gfR j120 rfl ho1 ?_
    refine s_virt j123 rfl rfl rfl rfl ho1 (by decide) (in_Rd_putBack _ _) (am_r8 rfl) (am_bV h (fun σ3 h hx3 => ?_))
    replace h := h hx3
    refine s_null j126 rfl ?_
    exact s_retR j127 rfl h
theorem P_Rd_scan (nl : Bool) (Ln : Nat) (xs : Nat → Int32) : am_Jl (TT nl Ln xs) 84 [(0, .iconst 0, 1, []), (1, .istore_n 2, 2, []), (2, .iconst 0, 3, []), (3, .istore_n 3, 4, []), (4, .iconst 0, 5, []), (5, .istore 4, 7, [])] := dk_ck (by decide +kernel)
set_option maxRecDepth 4096 in
theorem w_Rd_scan {nl : Bool} {Ln : Nat} {xs : Nat → Int32} {d : Nat} {this : Nat} {p0 : Option Nat} {σ : am_S} {F : am_S → Prop} (h : c_Rd_scan_7 nl Ln xs (d + 1) this p0 (0 : Int32) (0 : Int32) (0 : Int32) none none none none none σ F) : k_Rd_scan nl Ln xs (d + 1) this p0 σ F := by
  obtain ⟨j0, j1, j2, j3, j4, j5, -⟩ := P_Rd_scan nl Ln xs
  have elo : am_lo 10 [am_ov (some this), am_ov p0] = [some (am_ov (some this)), some (am_ov p0), none, none, none, none, none, none, none, none] := by simp only [am_lo, am_in_ov, am_in_int, am_in_long, am_in_nil]; rfl
  unfold k_Rd_scan
  rw [elo]
  refine s_iconst j0 rfl kc_ic_0 ?_
  refine s_istore_n j1 rfl (n := 10) (L' := [some (am_ov (some this)), some (am_ov p0), some (.int (0 : Int32)), none, none, none, none, none, none, none]) rfl (by decide) (am_st1_R [_] _ _ _ _) ?_
  refine s_iconst j2 rfl kc_ic_0 ?_
  refine s_istore_n j3 rfl (n := 10) (L' := [some (am_ov (some this)), some (am_ov p0), some (.int (0 : Int32)), some (.int (0 : Int32)), none, none, none, none, none, none]) rfl (by decide) rfl ?_
  refine s_iconst j4 rfl kc_ic_0 ?_
  refine s_istore j5 rfl (n := 10) (L' := [some (am_ov (some this)), some (am_ov p0), some (.int (0 : Int32)), some (.int (0 : Int32)), some (.int (0 : Int32)), none, none, none, none, none]) rfl (by decide) rfl ?_
  exact h
theorem P_Rd_scan_7 (nl : Bool) (Ln : Nat) (xs : Nat → Int32) : am_Jl (TT nl Ln xs) 84 [(7, .iload 4, 9, []), (9, .sipush 400, 12, []), (12, .if_icmp .ge 219, 15, []), (15, .iload_n 3, 16, []), (16, .aload_n 1, 17, []), (17, .getfield 74, 20, [9, 1, 1, 0]), (20, .if_icmp .ge 211, 23, []), (23, .aload_n 1, 24, []), (24, .iload_n 3, 25, []), (25, .invokevirtual 79, 28, [10, 77, 2, 2, 2]), (28, .istore 5, 30, []), (30, .iload_n 3, 31, []), (31, .iconst 1, 32, []), (32, .iadd, 33, []), (33, .istore 6, 35, []), (35, .iconst 0, 36, []), (36, .istore 7, 38, []), (38, .iload 5, 40, []), (40, .bipush 40, 42, []), (42, .if_icmp .ne 8, 45, []), (45, .bipush 27, 47, []), (47, .goto 29, 50, []), (50, .iload 5, 52, []), (52, .bipush 41, 54, []), (54, .if_icmp .ne 8, 57, []), (57, .bipush 28, 59, []), (59, .goto 17, 62, []), (62, .iload 5, 64, []), (64, .bipush 59, 66, []), (66, .if_icmp .ne 8, 69, []), (69, .bipush 29, 71, []), (71, .goto 5, 74, []), (74, .bipush 31, 76, [])] := dk_ck (by decide +kernel)
set_option maxRecDepth 4096 in
theorem w_Rd_scan_7 {nl : Bool} {Ln : Nat} {xs : Nat → Int32} {d : Nat} {this : Nat} {x1 : Option Nat} {x2 : Int32} {x3 : Int32} {x4 : Int32} {x5 : Option Value} {x6 : Option Value} {x7 : Option Value} {x8 : Option Value} {x9 : Option Value} {σ : am_S} {F : am_S → Prop} (h : (x4 < (400 : Int32) → (am_is σ x1 1) ∧ (x3 < (am_fI σ 1001 (x1.getD 0)) → k_By_byteAt nl Ln xs d (x1.getD 0) x3 σ (fun a5 σ4 => am_ext σ σ4 → ∀ v6 : Int32, v6 = (x3 + (1 : Int32)) → ∀ w12 : Int32, w12 = (if a5 = (40 : Int32) then (27 : Int32) else (if a5 = (41 : Int32) then (28 : Int32) else (if a5 = (59 : Int32) then (29 : Int32) else (31 : Int32)))) → c_Rd_scan_76 nl Ln xs (d + 1) this x1 x2 x3 x4 a5 v6 (0 : Int32) x8 x9 w12 σ4 F)) ∧ (¬ (x3 < (am_fI σ 1001 (x1.getD 0))) → c_Rd_scan_231 nl Ln xs (d + 1) this x1 x2 x3 x4 x5 x6 x7 x8 x9 σ F)) ∧ (¬ (x4 < (400 : Int32)) → c_Rd_scan_231 nl Ln xs (d + 1) this x1 x2 x3 x4 x5 x6 x7 x8 x9 σ F)) : c_Rd_scan_7 nl Ln xs (d + 1) this x1 x2 x3 x4 x5 x6 x7 x8 x9 σ F := by
  obtain ⟨j7, j9, j12, j15, j16, j17, j20, j23, j24, j25, j28, j30, j31, j32, j33, j35, j36, j38, j40, j42, j45, j47, j50, j52, j54, j57, j59, j62, j64, j66, j69, j71, j74, -⟩ := P_Rd_scan_7 nl Ln xs
  unfold c_Rd_scan_7
  refine s_iload j7 rfl rfl ?_
  refine s_sipush j9 rfl kc_si_400 ?_
  refine s_icn j12 rfl rfl am_cc_ge (fun hc1 => ?_) (fun hc1 => ?_)
  · replace h := h.2 hc1
    exact h
  · replace h := h.1 hc1
    refine s_iload_n j15 rfl rfl ?_
    refine s_aload_n j16 rfl rfl ?_
    obtain ⟨ho2, h⟩ := h
    refine s_gfI j17 rfl ho2 ?_
    refine s_icn j20 rfl rfl am_cc_ge (fun hc3 => ?_) (fun hc3 => ?_)
    · replace h := h.2 hc3
      exact h
    · replace h := h.1 hc3
      refine s_aload_n j23 rfl rfl ?_
      refine s_iload_n j24 rfl rfl ?_
      refine s_virt j25 rfl rfl rfl rfl ho2 (by decide) (in_By_byteAt _ _) (am_r8 rfl) (am_bI h (fun a5 σ4 h hx4 => ?_))
      replace h := h hx4
      refine s_istore j28 rfl (n := 10) (L' := [some (am_ov (some this)), some (am_ov x1), some (.int x2), some (.int x3), some (.int x4), some (.int a5), x6, x7, x8, x9]) rfl (by decide) rfl ?_
      refine s_iload_n j30 rfl rfl ?_
      refine s_iconst j31 rfl kc_ic_1 ?_
      refine s_g j32 rfl rfl rfl rfl rfl rfl ?_
      refine s_istoreV j33 rfl (n := 10) (L' := fun w => [some (am_ov (some this)), some (am_ov x1), some (.int x2), some (.int x3), some (.int x4), some (.int a5), some (.int w), x7, x8, x9]) rfl (by decide) (fun _ => rfl) (fun v6 hv7 => ?_)
      replace h := h v6 hv7
      refine s_iconst j35 rfl kc_ic_0 ?_
      refine s_istore j36 rfl (n := 10) (L' := [some (am_ov (some this)), some (am_ov x1), some (.int x2), some (.int x3), some (.int x4), some (.int a5), some (.int v6), some (.int (0 : Int32)), x8, x9]) rfl (by decide) rfl ?_
      refine s_iload j38 rfl rfl ?_
      refine s_bipush j40 rfl kc_bi_40 ?_
      have K11 : ∀ (w12 : Int32), w12 = (if a5 = (40 : Int32) then (27 : Int32) else (if a5 = (41 : Int32) then (28 : Int32) else (if a5 = (59 : Int32) then (29 : Int32) else (31 : Int32)))) → am_C (TT nl Ln xs) (d + 1) 84 76 [some (am_ov (some this)), some (am_ov x1), some (.int x2), some (.int x3), some (.int x4), some (.int a5), some (.int v6), some (.int (0 : Int32)), x8, x9] [.int w12] σ4 (am_qV F) := by
        intro w12 hw13
        replace h := h w12 hw13
        exact h
      refine s_icn j42 rfl rfl am_cc_ne (fun hc8 => ?_) (fun hc8 => ?_)
      · refine s_iload j50 rfl rfl ?_
        refine s_bipush j52 rfl kc_bi_41 ?_
        refine s_icn j54 rfl rfl am_cc_ne (fun hc9 => ?_) (fun hc9 => ?_)
        · refine s_iload j62 rfl rfl ?_
          refine s_bipush j64 rfl kc_bi_59 ?_
          refine s_icn j66 rfl rfl am_cc_ne (fun hc10 => ?_) (fun hc10 => ?_)
          · refine s_bipush j74 rfl kc_bi_31 ?_
            exact K11 _ (am_t2 hc8 (am_t2 hc9 (am_t2 hc10 rfl)))
          · refine s_bipush j69 rfl kc_bi_29 ?_
            refine s_goto j71 rfl rfl ?_
            exact K11 _ (am_t2 hc8 (am_t2 hc9 (am_t1 hc10 rfl)))
        · refine s_bipush j57 rfl kc_bi_28 ?_
          refine s_goto j59 rfl rfl ?_
          exact K11 _ (am_t2 hc8 (am_t1 hc9 rfl))
      · refine s_bipush j45 rfl kc_bi_27 ?_
        refine s_goto j47 rfl rfl ?_
        exact K11 _ (am_t1 hc8 rfl)
theorem P_Rd_scan_76 (nl : Bool) (Ln : Nat) (xs : Nat → Int32) : am_Jl (TT nl Ln xs) 84 [(76, .istore 8, 78, []), (78, .iload 5, 80, []), (80, .bipush 97, 82, []), (82, .if_icmp .lt 36, 85, []), (85, .iload 5, 87, []), (87, .bipush 122, 89, []), (89, .if_icmp .gt 29, 92, []), (92, .aload_n 1, 93, []), (93, .iload_n 3, 94, []), (94, .bipush 97, 96, []), (96, .bipush 122, 98, []), (98, .sipush 400, 101, []), (101, .invokestatic 83, 104, [12, 85, 7, 5]), (104, .istore 6, 106, []), (106, .aload_n 1, 107, []), (107, .iload_n 3, 108, []), (108, .iload 6, 110, []), (110, .invokestatic 87, 113, [12, 86, 7, 3]), (113, .istore 8, 115, []), (115, .goto 67, 118, [])] := dk_ck (by decide +kernel)
set_option maxRecDepth 4096 in
theorem w_Rd_scan_76 {nl : Bool} {Ln : Nat} {xs : Nat → Int32} {d : Nat} {this : Nat} {x1 : Option Nat} {x2 : Int32} {x3 : Int32} {x4 : Int32} {x5 : Int32} {x6 : Int32} {x7 : Int32} {x8 : Option Value} {x9 : Option Value} {y0 : Int32} {σ : am_S} {F : am_S → Prop} (h : (x5 < (97 : Int32) → c_Rd_scan_118 nl Ln xs (d + 1) this x1 x2 x3 x4 x5 x6 x7 y0 x9 σ F) ∧ (¬ (x5 < (97 : Int32)) → ((122 : Int32) < x5 → c_Rd_scan_118 nl Ln xs (d + 1) this x1 x2 x3 x4 x5 x6 x7 y0 x9 σ F) ∧ (¬ ((122 : Int32) < x5) → k_Rd_endOfRun nl Ln xs d x1 x3 (97 : Int32) (122 : Int32) (400 : Int32) σ (fun a4 σ3 => am_ext σ σ3 → k_Rd_wordIn nl Ln xs d x1 x3 a4 σ3 (fun a6 σ5 => am_ext σ3 σ5 → c_Rd_scan_182 nl Ln xs (d + 1) this x1 x2 x3 x4 x5 a4 x7 a6 x9 σ5 F))))) : c_Rd_scan_76 nl Ln xs (d + 1) this x1 x2 x3 x4 x5 x6 x7 x8 x9 y0 σ F := by
  obtain ⟨j76, j78, j80, j82, j85, j87, j89, j92, j93, j94, j96, j98, j101, j104, j106, j107, j108, j110, j113, j115, -⟩ := P_Rd_scan_76 nl Ln xs
  unfold c_Rd_scan_76
  refine s_istore j76 rfl (n := 10) (L' := [some (am_ov (some this)), some (am_ov x1), some (.int x2), some (.int x3), some (.int x4), some (.int x5), some (.int x6), some (.int x7), some (.int y0), x9]) rfl (by decide) rfl ?_
  refine s_iload j78 rfl rfl ?_
  refine s_bipush j80 rfl kc_bi_97 ?_
  refine s_ic j82 rfl rfl am_cc_lt (fun hc1 => ?_) (fun hc1 => ?_)
  · replace h := h.1 hc1
    exact h
  · replace h := h.2 hc1
    refine s_iload j85 rfl rfl ?_
    refine s_bipush j87 rfl kc_bi_122 ?_
    refine s_ic j89 rfl rfl am_cc_gt (fun hc2 => ?_) (fun hc2 => ?_)
    · replace h := h.1 hc2
      exact h
    · replace h := h.2 hc2
      refine s_aload_n j92 rfl rfl ?_
      refine s_iload_n j93 rfl rfl ?_
      refine s_bipush j94 rfl kc_bi_97 ?_
      refine s_bipush j96 rfl kc_bi_122 ?_
      refine s_sipush j98 rfl kc_si_400 ?_
      refine s_stat j101 rfl rfl rfl rfl (by decide) (in_Rd_endOfRun _ _ _ _ _) (am_r8 rfl) (am_bI h (fun a4 σ3 h hx3 => ?_))
      replace h := h hx3
      refine s_istore j104 rfl (n := 10) (L' := [some (am_ov (some this)), some (am_ov x1), some (.int x2), some (.int x3), some (.int x4), some (.int x5), some (.int a4), some (.int x7), some (.int y0), x9]) rfl (by decide) rfl ?_
      refine s_aload_n j106 rfl rfl ?_
      refine s_iload_n j107 rfl rfl ?_
      refine s_iload j108 rfl rfl ?_
      refine s_stat j110 rfl rfl rfl rfl (by decide) (in_Rd_wordIn _ _ _) (am_r8 rfl) (am_bI h (fun a6 σ5 h hx5 => ?_))
      replace h := h hx5
      refine s_istore j113 rfl (n := 10) (L' := [some (am_ov (some this)), some (am_ov x1), some (.int x2), some (.int x3), some (.int x4), some (.int x5), some (.int a4), some (.int x7), some (.int a6), x9]) rfl (by decide) rfl ?_
      refine s_goto j115 rfl rfl ?_
      exact h
theorem P_Rd_scan_118 (nl : Bool) (Ln : Nat) (xs : Nat → Int32) : am_Jl (TT nl Ln xs) 84 [(118, .iload 5, 120, []), (120, .bipush 48, 122, []), (122, .if_icmp .lt 60, 125, []), (125, .iload 5, 127, []), (127, .bipush 57, 129, []), (129, .if_icmp .gt 53, 132, []), (132, .aload_n 1, 133, []), (133, .iload_n 3, 134, []), (134, .bipush 48, 136, []), (136, .bipush 57, 138, []), (138, .bipush 9, 140, []), (140, .invokestatic 83, 143, [12, 85, 7, 5]), (143, .istore 6, 145, []), (145, .bipush 26, 147, []), (147, .istore 8, 149, []), (149, .iload_n 3, 150, []), (150, .istore 9, 152, [])] := dk_ck (by decide +kernel)
set_option maxRecDepth 4096 in
theorem w_Rd_scan_118 {nl : Bool} {Ln : Nat} {xs : Nat → Int32} {d : Nat} {this : Nat} {x1 : Option Nat} {x2 : Int32} {x3 : Int32} {x4 : Int32} {x5 : Int32} {x6 : Int32} {x7 : Int32} {x8 : Int32} {x9 : Option Value} {σ : am_S} {F : am_S → Prop} (h : (x5 < (48 : Int32) → c_Rd_scan_182 nl Ln xs (d + 1) this x1 x2 x3 x4 x5 x6 x7 x8 x9 σ F) ∧ (¬ (x5 < (48 : Int32)) → ((57 : Int32) < x5 → c_Rd_scan_182 nl Ln xs (d + 1) this x1 x2 x3 x4 x5 x6 x7 x8 x9 σ F) ∧ (¬ ((57 : Int32) < x5) → k_Rd_endOfRun nl Ln xs d x1 x3 (48 : Int32) (57 : Int32) (9 : Int32) σ (fun a4 σ3 => am_ext σ σ3 → c_Rd_scan_152 nl Ln xs (d + 1) this x1 x2 x3 x4 x5 a4 x7 (26 : Int32) x3 σ3 F)))) : c_Rd_scan_118 nl Ln xs (d + 1) this x1 x2 x3 x4 x5 x6 x7 x8 x9 σ F := by
  obtain ⟨j118, j120, j122, j125, j127, j129, j132, j133, j134, j136, j138, j140, j143, j145, j147, j149, j150, -⟩ := P_Rd_scan_118 nl Ln xs
  unfold c_Rd_scan_118
  refine s_iload j118 rfl rfl ?_
  refine s_bipush j120 rfl kc_bi_48 ?_
  refine s_ic j122 rfl rfl am_cc_lt (fun hc1 => ?_) (fun hc1 => ?_)
  · replace h := h.1 hc1
    exact h
  · replace h := h.2 hc1
    refine s_iload j125 rfl rfl ?_
    refine s_bipush j127 rfl kc_bi_57 ?_
    refine s_ic j129 rfl rfl am_cc_gt (fun hc2 => ?_) (fun hc2 => ?_)
    · replace h := h.1 hc2
      exact h
    · replace h := h.2 hc2
      refine s_aload_n j132 rfl rfl ?_
      refine s_iload_n j133 rfl rfl ?_
      refine s_bipush j134 rfl kc_bi_48 ?_
      refine s_bipush j136 rfl kc_bi_57 ?_
      refine s_bipush j138 rfl kc_bi_9 ?_
      refine s_stat j140 rfl rfl rfl rfl (by decide) (in_Rd_endOfRun _ _ _ _ _) (am_r8 rfl) (am_bI h (fun a4 σ3 h hx3 => ?_))
      replace h := h hx3
      refine s_istore j143 rfl (n := 10) (L' := [some (am_ov (some this)), some (am_ov x1), some (.int x2), some (.int x3), some (.int x4), some (.int x5), some (.int a4), some (.int x7), some (.int x8), x9]) rfl (by decide) rfl ?_
      refine s_bipush j145 rfl kc_bi_26 ?_
      refine s_istore j147 rfl (n := 10) (L' := [some (am_ov (some this)), some (am_ov x1), some (.int x2), some (.int x3), some (.int x4), some (.int x5), some (.int a4), some (.int x7), some (.int (26 : Int32)), x9]) rfl (by decide) rfl ?_
      refine s_iload_n j149 rfl rfl ?_
      refine s_istore j150 rfl (n := 10) (L' := [some (am_ov (some this)), some (am_ov x1), some (.int x2), some (.int x3), some (.int x4), some (.int x5), some (.int a4), some (.int x7), some (.int (26 : Int32)), some (.int x3)]) rfl (by decide) rfl ?_
      exact h
theorem P_Rd_scan_152 (nl : Bool) (Ln : Nat) (xs : Nat → Int32) : am_Jl (TT nl Ln xs) 84 [(152, .iload 9, 154, []), (154, .iload 6, 156, []), (156, .if_icmp .ge 26, 159, []), (159, .bipush 10, 161, []), (161, .iload 7, 163, []), (163, .imul, 164, []), (164, .aload_n 1, 165, []), (165, .iload 9, 167, []), (167, .invokevirtual 79, 170, [10, 77, 2, 2, 2]), (170, .iadd, 171, []), (171, .bipush 48, 173, []), (173, .isub, 174, []), (174, .istore 7, 176, []), (176, .iinc 9 1, 179, []), (179, .goto (-27), 182, [])] := dk_ck (by decide +kernel)
set_option maxRecDepth 4096 in
theorem w_Rd_scan_152 {nl : Bool} {Ln : Nat} {xs : Nat → Int32} {d : Nat} {this : Nat} {x1 : Option Nat} {x2 : Int32} {x3 : Int32} {x4 : Int32} {x5 : Int32} {x6 : Int32} {x7 : Int32} {x8 : Int32} {x9 : Int32} {σ : am_S} {F : am_S → Prop} (h : (x9 < x6 → (am_is σ x1 1) ∧ k_By_byteAt nl Ln xs d (x1.getD 0) x9 σ (fun a4 σ3 => am_ext σ σ3 → ∀ v5 : Int32, v5 = ((((10 : Int32) * x7) + a4) - (48 : Int32)) → c_Rd_scan_152 nl Ln xs (d + 1) this x1 x2 x3 x4 x5 x6 v5 x8 (x9 + (1 : Int32)) σ3 F)) ∧ (¬ (x9 < x6) → c_Rd_scan_182 nl Ln xs (d + 1) this x1 x2 x3 x4 x5 x6 x7 x8 (some (.int x9)) σ F)) : c_Rd_scan_152 nl Ln xs (d + 1) this x1 x2 x3 x4 x5 x6 x7 x8 x9 σ F := by
  obtain ⟨j152, j154, j156, j159, j161, j163, j164, j165, j167, j170, j171, j173, j174, j176, j179, -⟩ := P_Rd_scan_152 nl Ln xs
  unfold c_Rd_scan_152
  refine s_iload j152 rfl rfl ?_
  refine s_iload j154 rfl rfl ?_
  refine s_icn j156 rfl rfl am_cc_ge (fun hc1 => ?_) (fun hc1 => ?_)
  · replace h := h.2 hc1
    exact h
  · replace h := h.1 hc1
    refine s_bipush j159 rfl kc_bi_10 ?_
    refine s_iload j161 rfl rfl ?_
    refine s_g j163 rfl rfl rfl rfl rfl rfl ?_
    refine s_aload_n j164 rfl rfl ?_
    refine s_iload j165 rfl rfl ?_
    obtain ⟨ho2, h⟩ := h
    refine s_virt j167 rfl rfl rfl rfl ho2 (by decide) (in_By_byteAt _ _) (am_r8 rfl) (am_bI h (fun a4 σ3 h hx3 => ?_))
    replace h := h hx3
    refine s_g j170 rfl rfl rfl rfl rfl rfl ?_
    refine s_bipush j171 rfl kc_bi_48 ?_
    refine s_g j173 rfl rfl rfl rfl rfl rfl ?_
    refine s_istoreV j174 rfl (n := 10) (L' := fun w => [some (am_ov (some this)), some (am_ov x1), some (.int x2), some (.int x3), some (.int x4), some (.int x5), some (.int x6), some (.int w), some (.int x8), some (.int x9)]) rfl (by decide) (fun _ => rfl) (fun v5 hv6 => ?_)
    replace h := h v5 hv6
    refine s_iinc (L' := [some (am_ov (some this)), some (am_ov x1), some (.int x2), some (.int x3), some (.int x4), some (.int x5), some (.int x6), some (.int v5), some (.int x8), some (.int (x9 + (1 : Int32)))]) j176 rfl rfl kc_ic_1 rfl ?_
    refine s_goto j179 rfl rfl ?_
    exact h
theorem P_Rd_scan_182 (nl : Bool) (Ln : Nat) (xs : Nat → Int32) : am_Jl (TT nl Ln xs) 84 [(182, .iload 5, 184, []), (184, .bipush 32, 186, []), (186, .if_icmp .eq 36, 189, []), (189, .iload 5, 191, []), (191, .bipush 10, 193, []), (193, .if_icmp .eq 29, 196, []), (196, .aload_n 0, 197, []), (197, .getfield 9, 200, [9, 4, 0, 2]), (200, .iload_n 2, 201, []), (201, .iload 8, 203, []), (203, .iastore, 204, []), (204, .aload_n 0, 205, []), (205, .getfield 15, 208, [9, 4, 1, 2]), (208, .iload_n 2, 209, []), (209, .iload 7, 211, []), (211, .iastore, 212, []), (212, .aload_n 0, 213, []), (213, .getfield 18, 216, [9, 4, 2, 2]), (216, .iload_n 2, 217, []), (217, .iload_n 3, 218, []), (218, .iastore, 219, []), (219, .iinc 2 1, 222, []), (222, .iload 6, 224, []), (224, .istore_n 3, 225, []), (225, .iinc 4 1, 228, []), (228, .goto (-221), 231, [])] := dk_ck (by decide +kernel)
set_option maxRecDepth 4096 in
theorem w_Rd_scan_182 {nl : Bool} {Ln : Nat} {xs : Nat → Int32} {d : Nat} {this : Nat} {x1 : Option Nat} {x2 : Int32} {x3 : Int32} {x4 : Int32} {x5 : Int32} {x6 : Int32} {x7 : Int32} {x8 : Int32} {x9 : Option Value} {σ : am_S} {F : am_S → Prop} (h : (x5 = (32 : Int32) → c_Rd_scan_7 nl Ln xs (d + 1) this x1 x2 x6 (x4 + (1 : Int32)) (some (.int x5)) (some (.int x6)) (some (.int x7)) (some (.int x8)) x9 σ F) ∧ (¬ (x5 = (32 : Int32)) → (x5 = (10 : Int32) → c_Rd_scan_7 nl Ln xs (d + 1) this x1 x2 x6 (x4 + (1 : Int32)) (some (.int x5)) (some (.int x6)) (some (.int x7)) (some (.int x8)) x9 σ F) ∧ (¬ (x5 = (10 : Int32)) → (am_is σ (some this) 4) ∧ (am_ar σ 1000 (am_fR σ 4000 this) x2) ∧ ∀ σ5, σ5 = am_saI σ ((am_fR σ 4000 this).getD 0) x2.toNatClampNeg x8 → (am_ar σ5 1000 (am_fR σ5 4001 this) x2) ∧ ∀ σ9, σ9 = am_saI σ5 ((am_fR σ5 4001 this).getD 0) x2.toNatClampNeg x7 → (am_ar σ9 1000 (am_fR σ9 4002 this) x2) ∧ ∀ σ13, σ13 = am_saI σ9 ((am_fR σ9 4002 this).getD 0) x2.toNatClampNeg x3 → c_Rd_scan_7 nl Ln xs (d + 1) this x1 (x2 + (1 : Int32)) x6 (x4 + (1 : Int32)) (some (.int x5)) (some (.int x6)) (some (.int x7)) (some (.int x8)) x9 σ13 F))) : c_Rd_scan_182 nl Ln xs (d + 1) this x1 x2 x3 x4 x5 x6 x7 x8 x9 σ F := by
  obtain ⟨j182, j184, j186, j189, j191, j193, j196, j197, j200, j201, j203, j204, j205, j208, j209, j211, j212, j213, j216, j217, j218, j219, j222, j224, j225, j228, -⟩ := P_Rd_scan_182 nl Ln xs
  unfold c_Rd_scan_182
  refine s_iload j182 rfl rfl ?_
  refine s_bipush j184 rfl kc_bi_32 ?_
  refine s_ic j186 rfl rfl am_cc_eq (fun hc1 => ?_) (fun hc1 => ?_)
  · replace h := h.1 hc1
    refine s_iload j222 rfl rfl ?_
    refine s_istore_n j224 rfl (n := 10) (L' := [some (am_ov (some this)), some (am_ov x1), some (.int x2), some (.int x6), some (.int x4), some (.int x5), some (.int x6), some (.int x7), some (.int x8), x9]) rfl (by decide) rfl ?_
    refine s_iinc (L' := [some (am_ov (some this)), some (am_ov x1), some (.int x2), some (.int x6), some (.int (x4 + (1 : Int32))), some (.int x5), some (.int x6), some (.int x7), some (.int x8), x9]) j225 rfl rfl kc_ic_1 rfl ?_
    refine s_goto j228 rfl rfl ?_
    exact h
  · replace h := h.2 hc1
    refine s_iload j189 rfl rfl ?_
    refine s_bipush j191 rfl kc_bi_10 ?_
    refine s_ic j193 rfl rfl am_cc_eq (fun hc2 => ?_) (fun hc2 => ?_)
    · replace h := h.1 hc2
      refine s_iload j222 rfl rfl ?_
      refine s_istore_n j224 rfl (n := 10) (L' := [some (am_ov (some this)), some (am_ov x1), some (.int x2), some (.int x6), some (.int x4), some (.int x5), some (.int x6), some (.int x7), some (.int x8), x9]) rfl (by decide) rfl ?_
      refine s_iinc (L' := [some (am_ov (some this)), some (am_ov x1), some (.int x2), some (.int x6), some (.int (x4 + (1 : Int32))), some (.int x5), some (.int x6), some (.int x7), some (.int x8), x9]) j225 rfl rfl kc_ic_1 rfl ?_
      refine s_goto j228 rfl rfl ?_
      exact h
    · replace h := h.2 hc2
      refine s_aload_n j196 rfl rfl ?_
      obtain ⟨ho3, h⟩ := h
      refine s_gfR j197 rfl ho3 ?_
      refine s_iload_n j200 rfl rfl ?_
      refine s_iload j201 rfl rfl ?_
      obtain ⟨ho4, h⟩ := h
      refine s_iastore j203 rfl ho4 (fun σ5 e6 => ?_)
      replace h := h σ5 e6
      have ek7 : am_kd σ5 = am_kd σ := by rw [e6]
      refine s_aload_n j204 rfl rfl ?_
      refine s_gfR j205 rfl (am_is_kd ek7 ho3) ?_
      refine s_iload_n j208 rfl rfl ?_
      refine s_iload j209 rfl rfl ?_
      obtain ⟨ho8, h⟩ := h
      refine s_iastore j211 rfl ho8 (fun σ9 e10 => ?_)
      replace h := h σ9 e10
      have ek11 : am_kd σ9 = am_kd σ5 := by rw [e10]
      refine s_aload_n j212 rfl rfl ?_
      refine s_gfR j213 rfl (am_is_kd ek11 (am_is_kd ek7 ho3)) ?_
      refine s_iload_n j216 rfl rfl ?_
      refine s_iload_n j217 rfl rfl ?_
      obtain ⟨ho12, h⟩ := h
      refine s_iastore j218 rfl ho12 (fun σ13 e14 => ?_)
      replace h := h σ13 e14
      have ek15 : am_kd σ13 = am_kd σ9 := by rw [e14]
      refine s_iinc (L' := [some (am_ov (some this)), some (am_ov x1), some (.int (x2 + (1 : Int32))), some (.int x3), some (.int x4), some (.int x5), some (.int x6), some (.int x7), some (.int x8), x9]) j219 rfl rfl kc_ic_1 (am_st1_R [_] _ _ _ _) ?_
      refine s_iload j222 rfl rfl ?_
      refine s_istore_n j224 rfl (n := 10) (L' := [some (am_ov (some this)), some (am_ov x1), some (.int (x2 + (1 : Int32))), some (.int x6), some (.int x4), some (.int x5), some (.int x6), some (.int x7), some (.int x8), x9]) rfl (by decide) rfl ?_
      refine s_iinc (L' := [some (am_ov (some this)), some (am_ov x1), some (.int (x2 + (1 : Int32))), some (.int x6), some (.int (x4 + (1 : Int32))), some (.int x5), some (.int x6), some (.int x7), some (.int x8), x9]) j225 rfl rfl kc_ic_1 rfl ?_
      refine s_goto j228 rfl rfl ?_
      exact h
theorem P_Rd_scan_231 (nl : Bool) (Ln : Nat) (xs : Nat → Int32) : am_Jl (TT nl Ln xs) 84 [(231, .aload_n 0, 232, []), (232, .getfield 9, 235, [9, 4, 0, 2]), (235, .iload_n 2, 236, []), (236, .bipush 30, 238, []), (238, .iastore, 239, []), (239, .aload_n 0, 240, []), (240, .getfield 15, 243, [9, 4, 1, 2]), (243, .iload_n 2, 244, []), (244, .iconst 0, 245, []), (245, .iastore, 246, []), (246, .aload_n 0, 247, []), (247, .getfield 18, 250, [9, 4, 2, 2]), (250, .iload_n 2, 251, []), (251, .aload_n 1, 252, []), (252, .getfield 74, 255, [9, 1, 1, 0]), (255, .iastore, 256, []), (256, .return_, 257, [0])] := dk_ck (by decide +kernel)
set_option maxRecDepth 4096 in
theorem w_Rd_scan_231 {nl : Bool} {Ln : Nat} {xs : Nat → Int32} {d : Nat} {this : Nat} {x1 : Option Nat} {x2 : Int32} {x3 : Int32} {x4 : Int32} {x5 : Option Value} {x6 : Option Value} {x7 : Option Value} {x8 : Option Value} {x9 : Option Value} {σ : am_S} {F : am_S → Prop} (h : (am_is σ (some this) 4) ∧ (am_ar σ 1000 (am_fR σ 4000 this) x2) ∧ ∀ σ3, σ3 = am_saI σ ((am_fR σ 4000 this).getD 0) x2.toNatClampNeg (30 : Int32) → (am_ar σ3 1000 (am_fR σ3 4001 this) x2) ∧ ∀ σ7, σ7 = am_saI σ3 ((am_fR σ3 4001 this).getD 0) x2.toNatClampNeg (0 : Int32) → (am_is σ7 x1 1) ∧ (am_ar σ7 1000 (am_fR σ7 4002 this) x2) ∧ ∀ σ12, σ12 = am_saI σ7 ((am_fR σ7 4002 this).getD 0) x2.toNatClampNeg (am_fI σ7 1001 (x1.getD 0)) → F σ12) : c_Rd_scan_231 nl Ln xs (d + 1) this x1 x2 x3 x4 x5 x6 x7 x8 x9 σ F := by
  obtain ⟨j231, j232, j235, j236, j238, j239, j240, j243, j244, j245, j246, j247, j250, j251, j252, j255, j256, -⟩ := P_Rd_scan_231 nl Ln xs
  unfold c_Rd_scan_231
  refine s_aload_n j231 rfl rfl ?_
  obtain ⟨ho1, h⟩ := h
  refine s_gfR j232 rfl ho1 ?_
  refine s_iload_n j235 rfl rfl ?_
  refine s_bipush j236 rfl kc_bi_30 ?_
  obtain ⟨ho2, h⟩ := h
  refine s_iastore j238 rfl ho2 (fun σ3 e4 => ?_)
  replace h := h σ3 e4
  have ek5 : am_kd σ3 = am_kd σ := by rw [e4]
  refine s_aload_n j239 rfl rfl ?_
  refine s_gfR j240 rfl (am_is_kd ek5 ho1) ?_
  refine s_iload_n j243 rfl rfl ?_
  refine s_iconst j244 rfl kc_ic_0 ?_
  obtain ⟨ho6, h⟩ := h
  refine s_iastore j245 rfl ho6 (fun σ7 e8 => ?_)
  replace h := h σ7 e8
  have ek9 : am_kd σ7 = am_kd σ3 := by rw [e8]
  refine s_aload_n j246 rfl rfl ?_
  refine s_gfR j247 rfl (am_is_kd ek9 (am_is_kd ek5 ho1)) ?_
  refine s_iload_n j250 rfl rfl ?_
  refine s_aload_n j251 rfl rfl ?_
  obtain ⟨ho10, h⟩ := h
  refine s_gfI j252 rfl ho10 ?_
  obtain ⟨ho11, h⟩ := h
  refine s_iastore j255 rfl ho11 (fun σ12 e13 => ?_)
  replace h := h σ12 e13
  have ek14 : am_kd σ12 = am_kd σ7 := by rw [e13]
  exact s_retV j256 rfl h
theorem P_Rd_endOfRun (nl : Bool) (Ln : Nat) (xs : Nat → Int32) : am_Jl (TT nl Ln xs) 85 [(0, .iload_n 1, 1, []), (1, .istore 5, 3, []), (3, .iconst 0, 4, []), (4, .istore 6, 6, [])] := dk_ck (by decide +kernel)
set_option maxRecDepth 4096 in
theorem w_Rd_endOfRun {nl : Bool} {Ln : Nat} {xs : Nat → Int32} {d : Nat} {p0 : Option Nat} {p1 : Int32} {p2 : Int32} {p3 : Int32} {p4 : Int32} {σ : am_S} {F : Int32 → am_S → Prop} (h : c_Rd_endOfRun_6 nl Ln xs (d + 1) p0 p1 p2 p3 p4 p1 (0 : Int32) σ F) : k_Rd_endOfRun nl Ln xs (d + 1) p0 p1 p2 p3 p4 σ F := by
  obtain ⟨j0, j1, j3, j4, -⟩ := P_Rd_endOfRun nl Ln xs
  have elo : am_lo 7 [am_ov p0, .int p1, .int p2, .int p3, .int p4] = [some (am_ov p0), some (.int p1), some (.int p2), some (.int p3), some (.int p4), none, none] := by simp only [am_lo, am_in_ov, am_in_int, am_in_long, am_in_nil]; rfl
  unfold k_Rd_endOfRun
  rw [elo]
  refine s_iload_n j0 rfl rfl ?_
  refine s_istore j1 rfl (n := 7) (L' := [some (am_ov p0), some (.int p1), some (.int p2), some (.int p3), some (.int p4), some (.int p1), none]) rfl (by decide) rfl ?_
  refine s_iconst j3 rfl kc_ic_0 ?_
  refine s_istore j4 rfl (n := 7) (L' := [some (am_ov p0), some (.int p1), some (.int p2), some (.int p3), some (.int p4), some (.int p1), some (.int (0 : Int32))]) rfl (by decide) rfl ?_
  exact h
theorem P_Rd_endOfRun_6 (nl : Bool) (Ln : Nat) (xs : Nat → Int32) : am_Jl (TT nl Ln xs) 85 [(6, .iload 6, 8, []), (8, .iload 4, 10, []), (10, .if_icmp .ge 32, 13, []), (13, .aload_n 0, 14, []), (14, .iload 5, 16, []), (16, .invokevirtual 79, 19, [10, 77, 2, 2, 2]), (19, .iload_n 2, 20, []), (20, .if_icmp .lt 22, 23, []), (23, .aload_n 0, 24, []), (24, .iload 5, 26, []), (26, .invokevirtual 79, 29, [10, 77, 2, 2, 2]), (29, .iload_n 3, 30, []), (30, .if_icmp .gt 12, 33, []), (33, .iinc 5 1, 36, []), (36, .iinc 6 1, 39, []), (39, .goto (-33), 42, []), (42, .iload 5, 44, []), (44, .ireturn, 45, [1])] := dk_ck (by decide +kernel)
set_option maxRecDepth 4096 in
theorem w_Rd_endOfRun_6 {nl : Bool} {Ln : Nat} {xs : Nat → Int32} {d : Nat} {x0 : Option Nat} {x1 : Int32} {x2 : Int32} {x3 : Int32} {x4 : Int32} {x5 : Int32} {x6 : Int32} {σ : am_S} {F : Int32 → am_S → Prop} (h : (x6 < x4 → (am_is σ x0 1) ∧ k_By_byteAt nl Ln xs d (x0.getD 0) x5 σ (fun a4 σ3 => am_ext σ σ3 → (a4 < x2 → F x5 σ3) ∧ (¬ (a4 < x2) → k_By_byteAt nl Ln xs d (x0.getD 0) x5 σ3 (fun a7 σ6 => am_ext σ3 σ6 → (x3 < a7 → F x5 σ6) ∧ (¬ (x3 < a7) → c_Rd_endOfRun_6 nl Ln xs (d + 1) x0 x1 x2 x3 x4 (x5 + (1 : Int32)) (x6 + (1 : Int32)) σ6 F))))) ∧ (¬ (x6 < x4) → F x5 σ)) : c_Rd_endOfRun_6 nl Ln xs (d + 1) x0 x1 x2 x3 x4 x5 x6 σ F := by
  obtain ⟨j6, j8, j10, j13, j14, j16, j19, j20, j23, j24, j26, j29, j30, j33, j36, j39, j42, j44, -⟩ := P_Rd_endOfRun_6 nl Ln xs
  unfold c_Rd_endOfRun_6
  refine s_iload j6 rfl rfl ?_
  refine s_iload j8 rfl rfl ?_
  refine s_icn j10 rfl rfl am_cc_ge (fun hc1 => ?_) (fun hc1 => ?_)
  · replace h := h.2 hc1
    refine s_iload j42 rfl rfl ?_
    exact s_retI j44 rfl h
  · replace h := h.1 hc1
    refine s_aload_n j13 rfl rfl ?_
    refine s_iload j14 rfl rfl ?_
    obtain ⟨ho2, h⟩ := h
    refine s_virt j16 rfl rfl rfl rfl ho2 (by decide) (in_By_byteAt _ _) (am_r8 rfl) (am_bI h (fun a4 σ3 h hx3 => ?_))
    replace h := h hx3
    refine s_iload_n j19 rfl rfl ?_
    refine s_ic j20 rfl rfl am_cc_lt (fun hc5 => ?_) (fun hc5 => ?_)
    · replace h := h.1 hc5
      refine s_iload j42 rfl rfl ?_
      exact s_retI j44 rfl h
    · replace h := h.2 hc5
      refine s_aload_n j23 rfl rfl ?_
      refine s_iload j24 rfl rfl ?_
      refine s_virt j26 rfl rfl rfl rfl (am_is_ext hx3 ho2) (by decide) (in_By_byteAt _ _) (am_r8 rfl) (am_bI h (fun a7 σ6 h hx6 => ?_))
      replace h := h hx6
      refine s_iload_n j29 rfl rfl ?_
      refine s_ic j30 rfl rfl am_cc_gt (fun hc8 => ?_) (fun hc8 => ?_)
      · replace h := h.1 hc8
        refine s_iload j42 rfl rfl ?_
        exact s_retI j44 rfl h
      · replace h := h.2 hc8
        refine s_iinc (L' := [some (am_ov x0), some (.int x1), some (.int x2), some (.int x3), some (.int x4), some (.int (x5 + (1 : Int32))), some (.int x6)]) j33 rfl rfl kc_ic_1 rfl ?_
        refine s_iinc (L' := [some (am_ov x0), some (.int x1), some (.int x2), some (.int x3), some (.int x4), some (.int (x5 + (1 : Int32))), some (.int (x6 + (1 : Int32)))]) j36 rfl rfl kc_ic_1 rfl ?_
        refine s_goto j39 rfl rfl ?_
        exact h
theorem P_Rd_wordIn (nl : Bool) (Ln : Nat) (xs : Nat → Int32) : am_Jl (TT nl Ln xs) 86 [(0, .iconst 0, 1, []), (1, .istore_n 3, 2, [])] := dk_ck (by decide +kernel)
set_option maxRecDepth 4096 in
theorem w_Rd_wordIn {nl : Bool} {Ln : Nat} {xs : Nat → Int32} {d : Nat} {p0 : Option Nat} {p1 : Int32} {p2 : Int32} {σ : am_S} {F : Int32 → am_S → Prop} (h : c_Rd_wordIn_2 nl Ln xs (d + 1) p0 p1 p2 (0 : Int32) none none none σ F) : k_Rd_wordIn nl Ln xs (d + 1) p0 p1 p2 σ F := by
  obtain ⟨j0, j1, -⟩ := P_Rd_wordIn nl Ln xs
  have elo : am_lo 7 [am_ov p0, .int p1, .int p2] = [some (am_ov p0), some (.int p1), some (.int p2), none, none, none, none] := by simp only [am_lo, am_in_ov, am_in_int, am_in_long, am_in_nil]; rfl
  unfold k_Rd_wordIn
  rw [elo]
  refine s_iconst j0 rfl kc_ic_0 ?_
  refine s_istore_n j1 rfl (n := 7) (L' := [some (am_ov p0), some (.int p1), some (.int p2), some (.int (0 : Int32)), none, none, none]) rfl (by decide) rfl ?_
  exact h
theorem P_Rd_wordIn_2 (nl : Bool) (Ln : Nat) (xs : Nat → Int32) : am_Jl (TT nl Ln xs) 86 [(2, .iload_n 3, 3, []), (3, .bipush 26, 5, []), (5, .if_icmp .ge 95, 8, []), (8, .iload_n 2, 9, []), (9, .iload_n 1, 10, []), (10, .isub, 11, []), (11, .bipush 8, 13, []), (13, .if_icmp .gt 87, 16, []), (16, .iconst 1, 17, []), (17, .istore 4, 19, []), (19, .iconst 0, 20, []), (20, .istore 5, 22, []), (100, .bipush 31, 102, []), (102, .ireturn, 103, [1])] := dk_ck (by decide +kernel)
set_option maxRecDepth 4096 in
theorem w_Rd_wordIn_2 {nl : Bool} {Ln : Nat} {xs : Nat → Int32} {d : Nat} {x0 : Option Nat} {x1 : Int32} {x2 : Int32} {x3 : Int32} {x4 : Option Value} {x5 : Option Value} {x6 : Option Value} {σ : am_S} {F : Int32 → am_S → Prop} (h : (x3 < (26 : Int32) → ((8 : Int32) < (x2 - x1) → F (31 : Int32) σ) ∧ (¬ ((8 : Int32) < (x2 - x1)) → c_Rd_wordIn_22 nl Ln xs (d + 1) x0 x1 x2 x3 (1 : Int32) (0 : Int32) x6 σ F)) ∧ (¬ (x3 < (26 : Int32)) → F (31 : Int32) σ)) : c_Rd_wordIn_2 nl Ln xs (d + 1) x0 x1 x2 x3 x4 x5 x6 σ F := by
  obtain ⟨j2, j3, j5, j8, j9, j10, j11, j13, j16, j17, j19, j20, j100, j102, -⟩ := P_Rd_wordIn_2 nl Ln xs
  unfold c_Rd_wordIn_2
  refine s_iload_n j2 rfl rfl ?_
  refine s_bipush j3 rfl kc_bi_26 ?_
  refine s_icn j5 rfl rfl am_cc_ge (fun hc1 => ?_) (fun hc1 => ?_)
  · replace h := h.2 hc1
    refine s_bipush j100 rfl kc_bi_31 ?_
    exact s_retI j102 rfl h
  · replace h := h.1 hc1
    refine s_iload_n j8 rfl rfl ?_
    refine s_iload_n j9 rfl rfl ?_
    refine s_g j10 rfl rfl rfl rfl rfl rfl ?_
    refine s_bipush j11 rfl kc_bi_8 ?_
    refine s_ic j13 rfl rfl am_cc_gt (fun hc2 => ?_) (fun hc2 => ?_)
    · replace h := h.1 hc2
      refine s_bipush j100 rfl kc_bi_31 ?_
      exact s_retI j102 rfl h
    · replace h := h.2 hc2
      refine s_iconst j16 rfl kc_ic_1 ?_
      refine s_istore j17 rfl (n := 7) (L' := [some (am_ov x0), some (.int x1), some (.int x2), some (.int x3), some (.int (1 : Int32)), x5, x6]) rfl (by decide) rfl ?_
      refine s_iconst j19 rfl kc_ic_0 ?_
      refine s_istore j20 rfl (n := 7) (L' := [some (am_ov x0), some (.int x1), some (.int x2), some (.int x3), some (.int (1 : Int32)), some (.int (0 : Int32)), x6]) rfl (by decide) rfl ?_
      exact h
theorem P_Rd_wordIn_22 (nl : Bool) (Ln : Nat) (xs : Nat → Int32) : am_Jl (TT nl Ln xs) 86 [(22, .iload 5, 24, []), (24, .bipush 8, 26, []), (26, .if_icmp .ge 61, 29, []), (29, .iload 4, 31, []), (31, .ifCond .eq 56, 34, []), (34, .iload_n 1, 35, []), (35, .iload 5, 37, []), (37, .iadd, 38, []), (38, .iload_n 2, 39, []), (39, .if_icmp .ge 14, 42, []), (42, .aload_n 0, 43, []), (43, .iload_n 1, 44, []), (44, .iload 5, 46, []), (46, .iadd, 47, []), (47, .invokevirtual 79, 50, [10, 77, 2, 2, 2]), (50, .goto 5, 53, []), (53, .bipush 32, 55, []), (87, .iload 4, 89, []), (89, .ifCond .eq 5, 92, []), (92, .iload_n 3, 93, []), (93, .ireturn, 94, [1]), (94, .iinc 3 1, 97, []), (97, .goto (-95), 100, [])] := dk_ck (by decide +kernel)
set_option maxRecDepth 4096 in
theorem w_Rd_wordIn_22 {nl : Bool} {Ln : Nat} {xs : Nat → Int32} {d : Nat} {x0 : Option Nat} {x1 : Int32} {x2 : Int32} {x3 : Int32} {x4 : Int32} {x5 : Int32} {x6 : Option Value} {σ : am_S} {F : Int32 → am_S → Prop} (h : (x5 < (8 : Int32) → (x4 = 0 → (x4 = 0 → c_Rd_wordIn_2 nl Ln xs (d + 1) x0 x1 x2 (x3 + (1 : Int32)) (some (.int x4)) (some (.int x5)) x6 σ F) ∧ (¬ (x4 = 0) → F x3 σ)) ∧ (¬ (x4 = 0) → ((x1 + x5) < x2 → (am_is σ x0 1) ∧ k_By_byteAt nl Ln xs d (x0.getD 0) (x1 + x5) σ (fun a7 σ6 => am_ext σ σ6 → c_Rd_wordIn_55 nl Ln xs (d + 1) x0 x1 x2 x3 x4 x5 x6 a7 σ6 F)) ∧ (¬ ((x1 + x5) < x2) → c_Rd_wordIn_55 nl Ln xs (d + 1) x0 x1 x2 x3 x4 x5 x6 (32 : Int32) σ F))) ∧ (¬ (x5 < (8 : Int32)) → (x4 = 0 → c_Rd_wordIn_2 nl Ln xs (d + 1) x0 x1 x2 (x3 + (1 : Int32)) (some (.int x4)) (some (.int x5)) x6 σ F) ∧ (¬ (x4 = 0) → F x3 σ))) : c_Rd_wordIn_22 nl Ln xs (d + 1) x0 x1 x2 x3 x4 x5 x6 σ F := by
  obtain ⟨j22, j24, j26, j29, j31, j34, j35, j37, j38, j39, j42, j43, j44, j46, j47, j50, j53, j87, j89, j92, j93, j94, j97, -⟩ := P_Rd_wordIn_22 nl Ln xs
  unfold c_Rd_wordIn_22
  refine s_iload j22 rfl rfl ?_
  refine s_bipush j24 rfl kc_bi_8 ?_
  refine s_icn j26 rfl rfl am_cc_ge (fun hc1 => ?_) (fun hc1 => ?_)
  · replace h := h.2 hc1
    refine s_iload j87 rfl rfl ?_
    refine s_if j89 rfl rfl am_cc_eq (fun hc8 => ?_) (fun hc8 => ?_)
    · replace h := h.1 hc8
      refine s_iinc (L' := [some (am_ov x0), some (.int x1), some (.int x2), some (.int (x3 + (1 : Int32))), some (.int x4), some (.int x5), x6]) j94 rfl rfl kc_ic_1 rfl ?_
      refine s_goto j97 rfl rfl ?_
      exact h
    · replace h := h.2 hc8
      refine s_iload_n j92 rfl rfl ?_
      exact s_retI j93 rfl h
  · replace h := h.1 hc1
    refine s_iload j29 rfl rfl ?_
    refine s_if j31 rfl rfl am_cc_eq (fun hc2 => ?_) (fun hc2 => ?_)
    · replace h := h.1 hc2
      refine s_iload j87 rfl rfl ?_
      refine s_if j89 rfl rfl am_cc_eq (fun hc3 => ?_) (fun hc3 => ?_)
      · replace h := h.1 hc3
        refine s_iinc (L' := [some (am_ov x0), some (.int x1), some (.int x2), some (.int (x3 + (1 : Int32))), some (.int x4), some (.int x5), x6]) j94 rfl rfl kc_ic_1 rfl ?_
        refine s_goto j97 rfl rfl ?_
        exact h
      · replace h := h.2 hc3
        refine s_iload_n j92 rfl rfl ?_
        exact s_retI j93 rfl h
    · replace h := h.2 hc2
      refine s_iload_n j34 rfl rfl ?_
      refine s_iload j35 rfl rfl ?_
      refine s_g j37 rfl rfl rfl rfl rfl rfl ?_
      refine s_iload_n j38 rfl rfl ?_
      refine s_icn j39 rfl rfl am_cc_ge (fun hc4 => ?_) (fun hc4 => ?_)
      · replace h := h.2 hc4
        refine s_bipush j53 rfl kc_bi_32 ?_
        exact h
      · replace h := h.1 hc4
        refine s_aload_n j42 rfl rfl ?_
        refine s_iload_n j43 rfl rfl ?_
        refine s_iload j44 rfl rfl ?_
        refine s_g j46 rfl rfl rfl rfl rfl rfl ?_
        obtain ⟨ho5, h⟩ := h
        refine s_virt j47 rfl rfl rfl rfl ho5 (by decide) (in_By_byteAt _ _) (am_r8 rfl) (am_bI h (fun a7 σ6 h hx6 => ?_))
        replace h := h hx6
        refine s_goto j50 rfl rfl ?_
        exact h
theorem P_Rd_wordIn_55 (nl : Bool) (Ln : Nat) (xs : Nat → Int32) : am_Jl (TT nl Ln xs) 86 [(55, .istore 6, 57, []), (57, .iload 6, 59, []), (59, .ldc 91, 61, [5, 0]), (61, .iload_n 3, 62, []), (62, .bipush 8, 64, []), (64, .imul, 65, []), (65, .iload 5, 67, []), (67, .iadd, 68, []), (68, .invokevirtual 93, 71, [10, 87, 0, 2, 2]), (71, .if_icmp .ne 7, 74, []), (74, .iconst 1, 75, []), (75, .goto 4, 78, []), (78, .iconst 0, 79, []), (79, .istore 4, 81, []), (81, .iinc 5 1, 84, []), (84, .goto (-62), 87, [])] := dk_ck (by decide +kernel)
set_option maxRecDepth 4096 in
theorem w_Rd_wordIn_55 {nl : Bool} {Ln : Nat} {xs : Nat → Int32} {d : Nat} {x0 : Option Nat} {x1 : Int32} {x2 : Int32} {x3 : Int32} {x4 : Int32} {x5 : Int32} {x6 : Option Value} {y0 : Int32} {σ : am_S} {F : Int32 → am_S → Prop} (h : (0 < 200 ∧ am_rk (am_tz (TT nl Ln xs)) 0 = 1) ∧ k_Str_charAt nl Ln xs d 0 ((x3 * (8 : Int32)) + x5) σ (fun a3 σ2 => am_ext σ σ2 → c_Rd_wordIn_22 nl Ln xs (d + 1) x0 x1 x2 x3 (if y0 = a3 then (1 : Int32) else 0) (x5 + (1 : Int32)) (some (.int y0)) σ2 F)) : c_Rd_wordIn_55 nl Ln xs (d + 1) x0 x1 x2 x3 x4 x5 x6 y0 σ F := by
  obtain ⟨j55, j57, j59, j61, j62, j64, j65, j67, j68, j71, j74, j75, j78, j79, j81, j84, -⟩ := P_Rd_wordIn_55 nl Ln xs
  unfold c_Rd_wordIn_55
  refine s_istore j55 rfl (n := 7) (L' := [some (am_ov x0), some (.int x1), some (.int x2), some (.int x3), some (.int x4), some (.int x5), some (.int y0)]) rfl (by decide) rfl ?_
  refine s_iload j57 rfl rfl ?_
  refine s_ldcS j59 rfl ?_
  refine s_iload_n j61 rfl rfl ?_
  refine s_bipush j62 rfl kc_bi_8 ?_
  refine s_g j64 rfl rfl rfl rfl rfl rfl ?_
  refine s_iload j65 rfl rfl ?_
  refine s_g j67 rfl rfl rfl rfl rfl rfl ?_
  obtain ⟨ho1, h⟩ := h
  refine s_virtS j68 rfl rfl rfl rfl ho1 (by decide) (in_Str_charAt _ _) (am_r8 rfl) (am_bI h (fun a3 σ2 h hx2 => ?_))
  replace h := h hx2
  have K5 : ∀ (w6 : Int32), w6 = (if y0 = a3 then (1 : Int32) else 0) → am_C (TT nl Ln xs) (d + 1) 86 79 [some (am_ov x0), some (.int x1), some (.int x2), some (.int x3), some (.int x4), some (.int x5), some (.int y0)] [.int w6] σ2 (am_qI F) := by
    intro w6 hw7
    subst hw7
    refine s_istore j79 rfl (n := 7) (L' := [some (am_ov x0), some (.int x1), some (.int x2), some (.int x3), some (.int (if y0 = a3 then (1 : Int32) else 0)), some (.int x5), some (.int y0)]) rfl (by decide) rfl ?_
    refine s_iinc (L' := [some (am_ov x0), some (.int x1), some (.int x2), some (.int x3), some (.int (if y0 = a3 then (1 : Int32) else 0)), some (.int (x5 + (1 : Int32))), some (.int y0)]) j81 rfl rfl kc_ic_1 rfl ?_
    refine s_goto j84 rfl rfl ?_
    exact h
  refine s_icn j71 rfl rfl am_cc_ne (fun hc4 => ?_) (fun hc4 => ?_)
  · refine s_iconst j78 rfl kc_ic_0 ?_
    exact K5 _ (am_e0 (Iff.trans Iff.rfl (am_p10 hc4)))
  · refine s_iconst j74 rfl kc_ic_1 ?_
    refine s_goto j75 rfl rfl ?_
    exact K5 _ (am_e1 (Iff.trans Iff.rfl (am_p9 hc4)))
theorem P_Rd_readClause (nl : Bool) (Ln : Nat) (xs : Nat → Int32) : am_Jl (TT nl Ln xs) 96 [(0, .aload_n 0, 1, []), (1, .getfield 9, 4, [9, 4, 0, 2]), (4, .aload_n 0, 5, []), (5, .getfield 25, 8, [9, 4, 3, 0]), (8, .iaload, 9, []), (9, .istore_n 1, 10, []), (10, .aload_n 0, 11, []), (11, .iload_n 1, 12, []), (12, .iconst 0, 13, []), (13, .aconst_null, 14, []), (14, .invokevirtual 99, 17, [10, 97, 5, 5, 4]), (17, .astore_n 2, 18, []), (18, .iconst 0, 19, []), (19, .istore_n 3, 20, []), (20, .iload_n 1, 21, []), (21, .tableswitch 267 0 9 #[55, 55, 122, 122, 122, 154, 122, 214, 122, 227], 76, []), (76, .aload_n 0, 77, []), (77, .dup, 78, []), (78, .getfield 25, 81, [9, 4, 3, 0]), (81, .iconst 1, 82, []), (82, .iadd, 83, []), (83, .putfield 25, 86, [9, 4, 3, 0]), (86, .aload_n 0, 87, []), (87, .getfield 9, 90, [9, 4, 0, 2]), (90, .aload_n 0, 91, []), (91, .getfield 25, 94, [9, 4, 3, 0]), (94, .iaload, 95, []), (95, .istore_n 3, 96, []), (96, .aload_n 0, 97, []), (97, .bipush 20, 99, []), (99, .bipush 25, 101, []), (101, .invokevirtual 103, 104, [10, 99, 5, 3, 3]), (104, .ifCond .eq 189, 107, []), (107, .aload_n 0, 108, []), (108, .getfield 9, 111, [9, 4, 0, 2]), (111, .aload_n 0, 112, []), (112, .getfield 25, 115, [9, 4, 3, 0]), (115, .iaload, 116, []), (116, .bipush 11, 118, []), (118, .if_icmp .ne 175, 121, []), (121, .aload_n 0, 122, []), (122, .dup, 123, []), (123, .getfield 25, 126, [9, 4, 3, 0]), (126, .iconst 1, 127, []), (127, .iadd, 128, []), (128, .putfield 25, 131, [9, 4, 3, 0]), (131, .aload_n 2, 132, []), (132, .aload_n 0, 133, []), (133, .iconst 0, 134, []), (134, .invokevirtual 107, 137, [10, 100, 5, 5, 2]), (137, .putfield 71, 140, [9, 8, 2, 2]), (140, .goto 153, 143, []), (143, .aload_n 0, 144, []), (144, .dup, 145, []), (145, .getfield 25, 148, [9, 4, 3, 0]), (148, .iconst 1, 149, []), (149, .iadd, 150, []), (150, .putfield 25, 153, [9, 4, 3, 0]), (153, .aload_n 0, 154, []), (154, .getfield 15, 157, [9, 4, 1, 2]), (157, .aload_n 0, 158, []), (158, .getfield 25, 161, [9, 4, 3, 0]), (161, .iaload, 162, []), (162, .istore_n 3, 163, []), (163, .aload_n 0, 164, []), (164, .bipush 26, 166, []), (166, .bipush 26, 168, []), (168, .invokevirtual 103, 171, [10, 99, 5, 3, 3]), (171, .pop, 172, []), (172, .goto 121, 175, []), (175, .aload_n 0, 176, []), (176, .dup, 177, []), (177, .getfield 25, 180, [9, 4, 3, 0]), (180, .iconst 1, 181, []), (181, .iadd, 182, []), (182, .putfield 25, 185, [9, 4, 3, 0]), (185, .aload_n 0, 186, []), (186, .getfield 9, 189, [9, 4, 0, 2]), (189, .aload_n 0, 190, []), (190, .getfield 25, 193, [9, 4, 3, 0]), (193, .iaload, 194, []), (194, .iconst 3, 195, []), (195, .if_icmp .ne 8, 198, []), (198, .bipush 32, 200, []), (200, .goto 5, 203, []), (203, .bipush 33, 205, []), (235, .aload_n 0, 236, []), (236, .dup, 237, []), (237, .getfield 25, 240, [9, 4, 3, 0]), (240, .iconst 1, 241, []), (241, .iadd, 242, []), (242, .putfield 25, 245, [9, 4, 3, 0]), (245, .goto 48, 248, []), (248, .aload_n 0, 249, []), (249, .dup, 250, []), (250, .getfield 25, 253, [9, 4, 3, 0]), (253, .iconst 1, 254, []), (254, .iadd, 255, []), (255, .putfield 25, 258, [9, 4, 3, 0]), (258, .aload_n 0, 259, []), (259, .getfield 9, 262, [9, 4, 0, 2]), (262, .aload_n 0, 263, []), (263, .getfield 25, 266, [9, 4, 3, 0]), (266, .iaload, 267, []), (267, .iconst 3, 268, []), (268, .if_icmp .ne 7, 271, []), (271, .iconst 3, 272, []), (272, .goto 5, 275, []), (275, .bipush 10, 277, []), (288, .aload_n 0, 289, []), (289, .invokevirtual 46, 292, [10, 103, 5, 1, 1]), (292, .areturn, 293, [3])] := dk_ck (by decide +kernel)
set_option maxRecDepth 4096 in
theorem w_Rd_readClause {nl : Bool} {Ln : Nat} {xs : Nat → Int32} {d : Nat} {this : Nat} {σ : am_S} {F : Option Nat → am_S → Prop} (h : (am_is σ (some this) 4) ∧ (am_ar σ 1000 (am_fR σ 4000 this) (am_fI σ 4003 this)) ∧ ∀ v3 : Int32, v3 = (am_aI σ ((am_fR σ 4000 this).getD 0) (am_fI σ 4003 this).toNatClampNeg) → k_Rd_makeNode nl Ln xs d this v3 (0 : Int32) none σ (fun a6 σ5 => am_ext σ σ5 → (v3 = (0 : Int32) ∨ v3 = (1 : Int32) → ∀ σ7, σ7 = am_sfI σ5 4003 this ((am_fI σ5 4003 this) + (1 : Int32)) → (am_ar σ7 1000 (am_fR σ7 4000 this) (am_fI σ7 4003 this)) ∧ ∀ v11 : Int32, v11 = (am_aI σ7 ((am_fR σ7 4000 this).getD 0) (am_fI σ7 4003 this).toNatClampNeg) → k_Rd_take nl Ln xs d this (20 : Int32) (25 : Int32) σ7 (fun a14 σ13 => am_ext σ7 σ13 → (a14 = true → (am_ar σ13 1000 (am_fR σ13 4000 this) (am_fI σ13 4003 this)) ∧ ((am_aI σ13 ((am_fR σ13 4000 this).getD 0) (am_fI σ13 4003 this).toNatClampNeg) = (11 : Int32) → ∀ σ18, σ18 = am_sfI σ13 4003 this ((am_fI σ13 4003 this) + (1 : Int32)) → k_Rd_readOr nl Ln xs d this (0 : Int32) σ18 (fun a22 σ21 => am_ext σ18 σ21 → (am_is σ21 a6 8) ∧ ∀ σ24, σ24 = am_sfR σ21 8002 (a6.getD 0) a22 → c_Rd_readClause_293 nl Ln xs (d + 1) this v3 a6 v11 σ24 F)) ∧ (¬ ((am_aI σ13 ((am_fR σ13 4000 this).getD 0) (am_fI σ13 4003 this).toNatClampNeg) = (11 : Int32)) → c_Rd_readClause_293 nl Ln xs (d + 1) this v3 a6 v11 σ13 F)) ∧ (¬ (a14 = true) → c_Rd_readClause_293 nl Ln xs (d + 1) this v3 a6 v11 σ13 F))) ∧ (v3 = (2 : Int32) ∨ v3 = (3 : Int32) ∨ v3 = (4 : Int32) ∨ v3 = (6 : Int32) ∨ v3 = (8 : Int32) → ∀ σ27, σ27 = am_sfI σ5 4003 this ((am_fI σ5 4003 this) + (1 : Int32)) → (am_ar σ27 1000 (am_fR σ27 4001 this) (am_fI σ27 4003 this)) ∧ ∀ v31 : Int32, v31 = (am_aI σ27 ((am_fR σ27 4001 this).getD 0) (am_fI σ27 4003 this).toNatClampNeg) → k_Rd_take nl Ln xs d this (26 : Int32) (26 : Int32) σ27 (fun a34 σ33 => am_ext σ27 σ33 → c_Rd_readClause_293 nl Ln xs (d + 1) this v3 a6 v31 σ33 F)) ∧ (v3 = (5 : Int32) → ∀ σ35, σ35 = am_sfI σ5 4003 this ((am_fI σ5 4003 this) + (1 : Int32)) → (am_ar σ35 1000 (am_fR σ35 4000 this) (am_fI σ35 4003 this)) ∧ ∀ w41 : Int32, w41 = (if (am_aI σ35 ((am_fR σ35 4000 this).getD 0) (am_fI σ35 4003 this).toNatClampNeg) = (3 : Int32) then (32 : Int32) else (33 : Int32)) → c_Rd_readClause_205 nl Ln xs (d + 1) this v3 a6 (0 : Int32) w41 σ35 F) ∧ (v3 = (7 : Int32) → ∀ σ43, σ43 = am_sfI σ5 4003 this ((am_fI σ5 4003 this) + (1 : Int32)) → c_Rd_readClause_293 nl Ln xs (d + 1) this v3 a6 (0 : Int32) σ43 F) ∧ (v3 = (9 : Int32) → ∀ σ46, σ46 = am_sfI σ5 4003 this ((am_fI σ5 4003 this) + (1 : Int32)) → (am_ar σ46 1000 (am_fR σ46 4000 this) (am_fI σ46 4003 this)) ∧ ∀ w52 : Int32, w52 = (if (am_aI σ46 ((am_fR σ46 4000 this).getD 0) (am_fI σ46 4003 this).toNatClampNeg) = (3 : Int32) then (3 : Int32) else (10 : Int32)) → c_Rd_readClause_277 nl Ln xs (d + 1) this v3 a6 (0 : Int32) w52 σ46 F) ∧ ((v3.toInt < 0 ∨ 9 < v3.toInt) → k_Rd_fail nl Ln xs d this σ5 (fun a55 σ54 => am_ext σ5 σ54 → F a55 σ54)))) : k_Rd_readClause nl Ln xs (d + 1) this σ F := by
  obtain ⟨j0, j1, j4, j5, j8, j9, j10, j11, j12, j13, j14, j17, j18, j19, j20, j21, j76, j77, j78, j81, j82, j83, j86, j87, j90, j91, j94, j95, j96, j97, j99, j101, j104, j107, j108, j111, j112, j115, j116, j118, j121, j122, j123, j126, j127, j128, j131, j132, j133, j134, j137, j140, j143, j144, j145, j148, j149, j150, j153, j154, j157, j158, j161, j162, j163, j164, j166, j168, j171, j172, j175, j176, j177, j180, j181, j182, j185, j186, j189, j190, j193, j194, j195, j198, j200, j203, j235, j236, j237, j240, j241, j242, j245, j248, j249, j250, j253, j254, j255, j258, j259, j262, j263, j266, j267, j268, j271, j272, j275, j288, j289, j292, -⟩ := P_Rd_readClause nl Ln xs
  have elo : am_lo 4 [am_ov (some this)] = [some (am_ov (some this)), none, none, none] := by simp only [am_lo, am_in_ov, am_in_int, am_in_long, am_in_nil]; rfl
  unfold k_Rd_readClause
  rw [elo]
  refine s_aload_n j0 rfl rfl ?_
  obtain ⟨ho1, h⟩ := h
  refine s_gfR j1 rfl ho1 ?_
  refine s_aload_n j4 rfl rfl ?_
  refine s_gfI j5 rfl ho1 ?_
  obtain ⟨ho2, h⟩ := h
  refine s_iaload j8 rfl ho2 ?_
  refine s_istore_nV j9 rfl (n := 4) (L' := fun w => [some (am_ov (some this)), some (.int w), none, none]) rfl (by decide) (fun _ => am_st1_R [] _ _ _ _) (fun v3 hv4 => ?_)
  replace h := h v3 hv4
  refine s_aload_n j10 rfl rfl ?_
  refine s_iload_n j11 rfl rfl ?_
  refine s_iconst j12 rfl kc_ic_0 ?_
  refine s_null j13 rfl ?_
  refine s_virt j14 rfl rfl rfl rfl ho1 (by decide) (in_Rd_makeNode _ _ _ _) (am_r8 rfl) (am_bR h (fun a6 σ5 h hx5 => ?_))
  replace h := h hx5
  refine s_astore_n j17 rfl (n := 4) (L' := [some (am_ov (some this)), some (.int v3), some (am_ov a6), none]) rfl (by decide) rfl ?_
  refine s_iconst j18 rfl kc_ic_0 ?_
  refine s_istore_n j19 rfl (n := 4) (L' := [some (am_ov (some this)), some (.int v3), some (am_ov a6), some (.int (0 : Int32))]) rfl (by decide) (am_st1_R [_, _] _ _ _ _) ?_
  refine s_iload_n j20 rfl rfl ?_
  by_cases hr56 : v3.toInt < 0 ∨ 9 < v3.toInt
  · refine s_tsw j21 (t := 288) ((am_sw_out hr56).trans rfl) ?_
    replace h := h.2.2.2.2.2 hr56
    refine s_aload_n j288 rfl rfl ?_
    refine s_virt j289 rfl rfl rfl rfl (am_is_ext hx5 ho1) (by decide) (in_Rd_fail _) (am_r8 rfl) (am_bR h (fun a55 σ54 h hx54 => ?_))
    replace h := h hx54
    exact s_retR j292 rfl h
  · obtain ⟨k57, hk58, hv59⟩ := am_sw_in hr56
    have hk582 : k57 < 10 := by omega
    clear hk58
    match k57, hk582, hv59 with
    | 0, _, hv59 =>
      have hs : v3 = (0 : Int32) := am_te hv59 (by decide)
      refine s_tsw j21 (t := 76) (by show am_sw 21 267 0 9 #[55, 55, 122, 122, 122, 154, 122, 214, 122, 227] v3.toInt = _; rw [hv59]; rfl) ?_
      replace h := h.1 (Or.inl hs)
      refine s_aload_n j76 rfl rfl ?_
      refine s_dup j77 rfl (am_cov _) ?_
      refine s_gfI j78 rfl (am_is_ext hx5 ho1) ?_
      refine s_iconst j81 rfl kc_ic_1 ?_
      refine s_g j82 rfl rfl rfl rfl rfl rfl ?_
      refine s_pfI j83 rfl (am_is_ext hx5 ho1) (fun σ7 e8 => ?_)
      replace h := h σ7 e8
      have ek9 : am_kd σ7 = am_kd σ5 := by rw [e8]
      refine s_aload_n j86 rfl rfl ?_
      refine s_gfR j87 rfl (am_is_kd ek9 (am_is_ext hx5 ho1)) ?_
      refine s_aload_n j90 rfl rfl ?_
      refine s_gfI j91 rfl (am_is_kd ek9 (am_is_ext hx5 ho1)) ?_
      obtain ⟨ho10, h⟩ := h
      refine s_iaload j94 rfl ho10 ?_
      refine s_istore_nV j95 rfl (n := 4) (L' := fun w => [some (am_ov (some this)), some (.int v3), some (am_ov a6), some (.int w)]) rfl (by decide) (fun _ => am_st1_R [_, _] _ _ _ _) (fun v11 hv12 => ?_)
      replace h := h v11 hv12
      refine s_aload_n j96 rfl rfl ?_
      refine s_bipush j97 rfl kc_bi_20 ?_
      refine s_bipush j99 rfl kc_bi_25 ?_
      refine s_virt j101 rfl rfl rfl rfl (am_is_kd ek9 (am_is_ext hx5 ho1)) (by decide) (in_Rd_take _ _ _) (am_r8 rfl) (am_bB h (fun a14 σ13 h hx13 => ?_))
      replace h := h hx13
      refine s_ifn j104 rfl rfl am_cb_eq (fun hc15 => ?_) (fun hc15 => ?_)
      · replace h := h.2 hc15
        exact h
      · replace h := h.1 hc15
        refine s_aload_n j107 rfl rfl ?_
        refine s_gfR j108 rfl (am_is_ext hx13 (am_is_kd ek9 (am_is_ext hx5 ho1))) ?_
        refine s_aload_n j111 rfl rfl ?_
        refine s_gfI j112 rfl (am_is_ext hx13 (am_is_kd ek9 (am_is_ext hx5 ho1))) ?_
        obtain ⟨ho16, h⟩ := h
        refine s_iaload j115 rfl ho16 ?_
        refine s_bipush j116 rfl kc_bi_11 ?_
        refine s_icn j118 rfl rfl am_cc_ne (fun hc17 => ?_) (fun hc17 => ?_)
        · replace h := h.2 hc17
          exact h
        · replace h := h.1 hc17
          refine s_aload_n j121 rfl rfl ?_
          refine s_dup j122 rfl (am_cov _) ?_
          refine s_gfI j123 rfl (am_is_ext hx13 (am_is_kd ek9 (am_is_ext hx5 ho1))) ?_
          refine s_iconst j126 rfl kc_ic_1 ?_
          refine s_g j127 rfl rfl rfl rfl rfl rfl ?_
          refine s_pfI j128 rfl (am_is_ext hx13 (am_is_kd ek9 (am_is_ext hx5 ho1))) (fun σ18 e19 => ?_)
          replace h := h σ18 e19
          have ek20 : am_kd σ18 = am_kd σ13 := by rw [e19]
          refine s_aload_n j131 rfl rfl ?_
          refine s_aload_n j132 rfl rfl ?_
          refine s_iconst j133 rfl kc_ic_0 ?_
          refine s_virt j134 rfl rfl rfl rfl (am_is_kd ek20 (am_is_ext hx13 (am_is_kd ek9 (am_is_ext hx5 ho1)))) (by decide) (in_Rd_readOr _ _) (am_r8 rfl) (am_bR h (fun a22 σ21 h hx21 => ?_))
          replace h := h hx21
          obtain ⟨ho23, h⟩ := h
          refine s_pfR j137 rfl ho23 (fun σ24 e25 => ?_)
          replace h := h σ24 e25
          have ek26 : am_kd σ24 = am_kd σ21 := by rw [e25]
          refine s_goto j140 rfl rfl ?_
          exact h
    | 1, _, hv59 =>
      have hs : v3 = (1 : Int32) := am_te hv59 (by decide)
      refine s_tsw j21 (t := 76) (by show am_sw 21 267 0 9 #[55, 55, 122, 122, 122, 154, 122, 214, 122, 227] v3.toInt = _; rw [hv59]; rfl) ?_
      replace h := h.1 (Or.inr hs)
      refine s_aload_n j76 rfl rfl ?_
      refine s_dup j77 rfl (am_cov _) ?_
      refine s_gfI j78 rfl (am_is_ext hx5 ho1) ?_
      refine s_iconst j81 rfl kc_ic_1 ?_
      refine s_g j82 rfl rfl rfl rfl rfl rfl ?_
      refine s_pfI j83 rfl (am_is_ext hx5 ho1) (fun σ7 e8 => ?_)
      replace h := h σ7 e8
      have ek9 : am_kd σ7 = am_kd σ5 := by rw [e8]
      refine s_aload_n j86 rfl rfl ?_
      refine s_gfR j87 rfl (am_is_kd ek9 (am_is_ext hx5 ho1)) ?_
      refine s_aload_n j90 rfl rfl ?_
      refine s_gfI j91 rfl (am_is_kd ek9 (am_is_ext hx5 ho1)) ?_
      obtain ⟨ho10, h⟩ := h
      refine s_iaload j94 rfl ho10 ?_
      refine s_istore_nV j95 rfl (n := 4) (L' := fun w => [some (am_ov (some this)), some (.int v3), some (am_ov a6), some (.int w)]) rfl (by decide) (fun _ => am_st1_R [_, _] _ _ _ _) (fun v11 hv12 => ?_)
      replace h := h v11 hv12
      refine s_aload_n j96 rfl rfl ?_
      refine s_bipush j97 rfl kc_bi_20 ?_
      refine s_bipush j99 rfl kc_bi_25 ?_
      refine s_virt j101 rfl rfl rfl rfl (am_is_kd ek9 (am_is_ext hx5 ho1)) (by decide) (in_Rd_take _ _ _) (am_r8 rfl) (am_bB h (fun a14 σ13 h hx13 => ?_))
      replace h := h hx13
      refine s_ifn j104 rfl rfl am_cb_eq (fun hc15 => ?_) (fun hc15 => ?_)
      · replace h := h.2 hc15
        exact h
      · replace h := h.1 hc15
        refine s_aload_n j107 rfl rfl ?_
        refine s_gfR j108 rfl (am_is_ext hx13 (am_is_kd ek9 (am_is_ext hx5 ho1))) ?_
        refine s_aload_n j111 rfl rfl ?_
        refine s_gfI j112 rfl (am_is_ext hx13 (am_is_kd ek9 (am_is_ext hx5 ho1))) ?_
        obtain ⟨ho16, h⟩ := h
        refine s_iaload j115 rfl ho16 ?_
        refine s_bipush j116 rfl kc_bi_11 ?_
        refine s_icn j118 rfl rfl am_cc_ne (fun hc17 => ?_) (fun hc17 => ?_)
        · replace h := h.2 hc17
          exact h
        · replace h := h.1 hc17
          refine s_aload_n j121 rfl rfl ?_
          refine s_dup j122 rfl (am_cov _) ?_
          refine s_gfI j123 rfl (am_is_ext hx13 (am_is_kd ek9 (am_is_ext hx5 ho1))) ?_
          refine s_iconst j126 rfl kc_ic_1 ?_
          refine s_g j127 rfl rfl rfl rfl rfl rfl ?_
          refine s_pfI j128 rfl (am_is_ext hx13 (am_is_kd ek9 (am_is_ext hx5 ho1))) (fun σ18 e19 => ?_)
          replace h := h σ18 e19
          have ek20 : am_kd σ18 = am_kd σ13 := by rw [e19]
          refine s_aload_n j131 rfl rfl ?_
          refine s_aload_n j132 rfl rfl ?_
          refine s_iconst j133 rfl kc_ic_0 ?_
          refine s_virt j134 rfl rfl rfl rfl (am_is_kd ek20 (am_is_ext hx13 (am_is_kd ek9 (am_is_ext hx5 ho1)))) (by decide) (in_Rd_readOr _ _) (am_r8 rfl) (am_bR h (fun a22 σ21 h hx21 => ?_))
          replace h := h hx21
          obtain ⟨ho23, h⟩ := h
          refine s_pfR j137 rfl ho23 (fun σ24 e25 => ?_)
          replace h := h σ24 e25
          have ek26 : am_kd σ24 = am_kd σ21 := by rw [e25]
          refine s_goto j140 rfl rfl ?_
          exact h
    | 2, _, hv59 =>
      have hs : v3 = (2 : Int32) := am_te hv59 (by decide)
      refine s_tsw j21 (t := 143) (by show am_sw 21 267 0 9 #[55, 55, 122, 122, 122, 154, 122, 214, 122, 227] v3.toInt = _; rw [hv59]; rfl) ?_
      replace h := h.2.1 (Or.inl hs)
      refine s_aload_n j143 rfl rfl ?_
      refine s_dup j144 rfl (am_cov _) ?_
      refine s_gfI j145 rfl (am_is_ext hx5 ho1) ?_
      refine s_iconst j148 rfl kc_ic_1 ?_
      refine s_g j149 rfl rfl rfl rfl rfl rfl ?_
      refine s_pfI j150 rfl (am_is_ext hx5 ho1) (fun σ27 e28 => ?_)
      replace h := h σ27 e28
      have ek29 : am_kd σ27 = am_kd σ5 := by rw [e28]
      refine s_aload_n j153 rfl rfl ?_
      refine s_gfR j154 rfl (am_is_kd ek29 (am_is_ext hx5 ho1)) ?_
      refine s_aload_n j157 rfl rfl ?_
      refine s_gfI j158 rfl (am_is_kd ek29 (am_is_ext hx5 ho1)) ?_
      obtain ⟨ho30, h⟩ := h
      refine s_iaload j161 rfl ho30 ?_
      refine s_istore_nV j162 rfl (n := 4) (L' := fun w => [some (am_ov (some this)), some (.int v3), some (am_ov a6), some (.int w)]) rfl (by decide) (fun _ => am_st1_R [_, _] _ _ _ _) (fun v31 hv32 => ?_)
      replace h := h v31 hv32
      refine s_aload_n j163 rfl rfl ?_
      refine s_bipush j164 rfl kc_bi_26 ?_
      refine s_bipush j166 rfl kc_bi_26 ?_
      refine s_virt j168 rfl rfl rfl rfl (am_is_kd ek29 (am_is_ext hx5 ho1)) (by decide) (in_Rd_take _ _ _) (am_r8 rfl) (am_bB h (fun a34 σ33 h hx33 => ?_))
      replace h := h hx33
      refine s_pop j171 rfl rfl ?_
      refine s_goto j172 rfl rfl ?_
      exact h
    | 3, _, hv59 =>
      have hs : v3 = (3 : Int32) := am_te hv59 (by decide)
      refine s_tsw j21 (t := 143) (by show am_sw 21 267 0 9 #[55, 55, 122, 122, 122, 154, 122, 214, 122, 227] v3.toInt = _; rw [hv59]; rfl) ?_
      replace h := h.2.1 (Or.inr (Or.inl hs))
      refine s_aload_n j143 rfl rfl ?_
      refine s_dup j144 rfl (am_cov _) ?_
      refine s_gfI j145 rfl (am_is_ext hx5 ho1) ?_
      refine s_iconst j148 rfl kc_ic_1 ?_
      refine s_g j149 rfl rfl rfl rfl rfl rfl ?_
      refine s_pfI j150 rfl (am_is_ext hx5 ho1) (fun σ27 e28 => ?_)
      replace h := h σ27 e28
      have ek29 : am_kd σ27 = am_kd σ5 := by rw [e28]
      refine s_aload_n j153 rfl rfl ?_
      refine s_gfR j154 rfl (am_is_kd ek29 (am_is_ext hx5 ho1)) ?_
      refine s_aload_n j157 rfl rfl ?_
      refine s_gfI j158 rfl (am_is_kd ek29 (am_is_ext hx5 ho1)) ?_
      obtain ⟨ho30, h⟩ := h
      refine s_iaload j161 rfl ho30 ?_
      refine s_istore_nV j162 rfl (n := 4) (L' := fun w => [some (am_ov (some this)), some (.int v3), some (am_ov a6), some (.int w)]) rfl (by decide) (fun _ => am_st1_R [_, _] _ _ _ _) (fun v31 hv32 => ?_)
      replace h := h v31 hv32
      refine s_aload_n j163 rfl rfl ?_
      refine s_bipush j164 rfl kc_bi_26 ?_
      refine s_bipush j166 rfl kc_bi_26 ?_
      refine s_virt j168 rfl rfl rfl rfl (am_is_kd ek29 (am_is_ext hx5 ho1)) (by decide) (in_Rd_take _ _ _) (am_r8 rfl) (am_bB h (fun a34 σ33 h hx33 => ?_))
      replace h := h hx33
      refine s_pop j171 rfl rfl ?_
      refine s_goto j172 rfl rfl ?_
      exact h
    | 4, _, hv59 =>
      have hs : v3 = (4 : Int32) := am_te hv59 (by decide)
      refine s_tsw j21 (t := 143) (by show am_sw 21 267 0 9 #[55, 55, 122, 122, 122, 154, 122, 214, 122, 227] v3.toInt = _; rw [hv59]; rfl) ?_
      replace h := h.2.1 (Or.inr (Or.inr (Or.inl hs)))
      refine s_aload_n j143 rfl rfl ?_
      refine s_dup j144 rfl (am_cov _) ?_
      refine s_gfI j145 rfl (am_is_ext hx5 ho1) ?_
      refine s_iconst j148 rfl kc_ic_1 ?_
      refine s_g j149 rfl rfl rfl rfl rfl rfl ?_
      refine s_pfI j150 rfl (am_is_ext hx5 ho1) (fun σ27 e28 => ?_)
      replace h := h σ27 e28
      have ek29 : am_kd σ27 = am_kd σ5 := by rw [e28]
      refine s_aload_n j153 rfl rfl ?_
      refine s_gfR j154 rfl (am_is_kd ek29 (am_is_ext hx5 ho1)) ?_
      refine s_aload_n j157 rfl rfl ?_
      refine s_gfI j158 rfl (am_is_kd ek29 (am_is_ext hx5 ho1)) ?_
      obtain ⟨ho30, h⟩ := h
      refine s_iaload j161 rfl ho30 ?_
      refine s_istore_nV j162 rfl (n := 4) (L' := fun w => [some (am_ov (some this)), some (.int v3), some (am_ov a6), some (.int w)]) rfl (by decide) (fun _ => am_st1_R [_, _] _ _ _ _) (fun v31 hv32 => ?_)
      replace h := h v31 hv32
      refine s_aload_n j163 rfl rfl ?_
      refine s_bipush j164 rfl kc_bi_26 ?_
      refine s_bipush j166 rfl kc_bi_26 ?_
      refine s_virt j168 rfl rfl rfl rfl (am_is_kd ek29 (am_is_ext hx5 ho1)) (by decide) (in_Rd_take _ _ _) (am_r8 rfl) (am_bB h (fun a34 σ33 h hx33 => ?_))
      replace h := h hx33
      refine s_pop j171 rfl rfl ?_
      refine s_goto j172 rfl rfl ?_
      exact h
    | 5, _, hv59 =>
      have hs : v3 = (5 : Int32) := am_te hv59 (by decide)
      refine s_tsw j21 (t := 175) (by show am_sw 21 267 0 9 #[55, 55, 122, 122, 122, 154, 122, 214, 122, 227] v3.toInt = _; rw [hv59]; rfl) ?_
      replace h := h.2.2.1 hs
      refine s_aload_n j175 rfl rfl ?_
      refine s_dup j176 rfl (am_cov _) ?_
      refine s_gfI j177 rfl (am_is_ext hx5 ho1) ?_
      refine s_iconst j180 rfl kc_ic_1 ?_
      refine s_g j181 rfl rfl rfl rfl rfl rfl ?_
      refine s_pfI j182 rfl (am_is_ext hx5 ho1) (fun σ35 e36 => ?_)
      replace h := h σ35 e36
      have ek37 : am_kd σ35 = am_kd σ5 := by rw [e36]
      refine s_aload_n j185 rfl rfl ?_
      refine s_gfR j186 rfl (am_is_kd ek37 (am_is_ext hx5 ho1)) ?_
      refine s_aload_n j189 rfl rfl ?_
      refine s_gfI j190 rfl (am_is_kd ek37 (am_is_ext hx5 ho1)) ?_
      obtain ⟨ho38, h⟩ := h
      refine s_iaload j193 rfl ho38 ?_
      refine s_iconst j194 rfl kc_ic_3 ?_
      have K40 : ∀ (w41 : Int32), w41 = (if (am_aI σ35 ((am_fR σ35 4000 this).getD 0) (am_fI σ35 4003 this).toNatClampNeg) = (3 : Int32) then (32 : Int32) else (33 : Int32)) → am_C (TT nl Ln xs) (d + 1) 96 205 [some (am_ov (some this)), some (.int v3), some (am_ov a6), some (.int (0 : Int32))] [.int w41] σ35 (am_qR F) := by
        intro w41 hw42
        replace h := h w41 hw42
        exact h
      refine s_icn j195 rfl rfl am_cc_ne (fun hc39 => ?_) (fun hc39 => ?_)
      · refine s_bipush j203 rfl kc_bi_33 ?_
        exact K40 _ (am_t2 hc39 rfl)
      · refine s_bipush j198 rfl kc_bi_32 ?_
        refine s_goto j200 rfl rfl ?_
        exact K40 _ (am_t1 hc39 rfl)
    | 6, _, hv59 =>
      have hs : v3 = (6 : Int32) := am_te hv59 (by decide)
      refine s_tsw j21 (t := 143) (by show am_sw 21 267 0 9 #[55, 55, 122, 122, 122, 154, 122, 214, 122, 227] v3.toInt = _; rw [hv59]; rfl) ?_
      replace h := h.2.1 (Or.inr (Or.inr (Or.inr (Or.inl hs))))
      refine s_aload_n j143 rfl rfl ?_
      refine s_dup j144 rfl (am_cov _) ?_
      refine s_gfI j145 rfl (am_is_ext hx5 ho1) ?_
      refine s_iconst j148 rfl kc_ic_1 ?_
      refine s_g j149 rfl rfl rfl rfl rfl rfl ?_
      refine s_pfI j150 rfl (am_is_ext hx5 ho1) (fun σ27 e28 => ?_)
      replace h := h σ27 e28
      have ek29 : am_kd σ27 = am_kd σ5 := by rw [e28]
      refine s_aload_n j153 rfl rfl ?_
      refine s_gfR j154 rfl (am_is_kd ek29 (am_is_ext hx5 ho1)) ?_
      refine s_aload_n j157 rfl rfl ?_
      refine s_gfI j158 rfl (am_is_kd ek29 (am_is_ext hx5 ho1)) ?_
      obtain ⟨ho30, h⟩ := h
      refine s_iaload j161 rfl ho30 ?_
      refine s_istore_nV j162 rfl (n := 4) (L' := fun w => [some (am_ov (some this)), some (.int v3), some (am_ov a6), some (.int w)]) rfl (by decide) (fun _ => am_st1_R [_, _] _ _ _ _) (fun v31 hv32 => ?_)
      replace h := h v31 hv32
      refine s_aload_n j163 rfl rfl ?_
      refine s_bipush j164 rfl kc_bi_26 ?_
      refine s_bipush j166 rfl kc_bi_26 ?_
      refine s_virt j168 rfl rfl rfl rfl (am_is_kd ek29 (am_is_ext hx5 ho1)) (by decide) (in_Rd_take _ _ _) (am_r8 rfl) (am_bB h (fun a34 σ33 h hx33 => ?_))
      replace h := h hx33
      refine s_pop j171 rfl rfl ?_
      refine s_goto j172 rfl rfl ?_
      exact h
    | 7, _, hv59 =>
      have hs : v3 = (7 : Int32) := am_te hv59 (by decide)
      refine s_tsw j21 (t := 235) (by show am_sw 21 267 0 9 #[55, 55, 122, 122, 122, 154, 122, 214, 122, 227] v3.toInt = _; rw [hv59]; rfl) ?_
      replace h := h.2.2.2.1 hs
      refine s_aload_n j235 rfl rfl ?_
      refine s_dup j236 rfl (am_cov _) ?_
      refine s_gfI j237 rfl (am_is_ext hx5 ho1) ?_
      refine s_iconst j240 rfl kc_ic_1 ?_
      refine s_g j241 rfl rfl rfl rfl rfl rfl ?_
      refine s_pfI j242 rfl (am_is_ext hx5 ho1) (fun σ43 e44 => ?_)
      replace h := h σ43 e44
      have ek45 : am_kd σ43 = am_kd σ5 := by rw [e44]
      refine s_goto j245 rfl rfl ?_
      exact h
    | 8, _, hv59 =>
      have hs : v3 = (8 : Int32) := am_te hv59 (by decide)
      refine s_tsw j21 (t := 143) (by show am_sw 21 267 0 9 #[55, 55, 122, 122, 122, 154, 122, 214, 122, 227] v3.toInt = _; rw [hv59]; rfl) ?_
      replace h := h.2.1 (Or.inr (Or.inr (Or.inr (Or.inr hs))))
      refine s_aload_n j143 rfl rfl ?_
      refine s_dup j144 rfl (am_cov _) ?_
      refine s_gfI j145 rfl (am_is_ext hx5 ho1) ?_
      refine s_iconst j148 rfl kc_ic_1 ?_
      refine s_g j149 rfl rfl rfl rfl rfl rfl ?_
      refine s_pfI j150 rfl (am_is_ext hx5 ho1) (fun σ27 e28 => ?_)
      replace h := h σ27 e28
      have ek29 : am_kd σ27 = am_kd σ5 := by rw [e28]
      refine s_aload_n j153 rfl rfl ?_
      refine s_gfR j154 rfl (am_is_kd ek29 (am_is_ext hx5 ho1)) ?_
      refine s_aload_n j157 rfl rfl ?_
      refine s_gfI j158 rfl (am_is_kd ek29 (am_is_ext hx5 ho1)) ?_
      obtain ⟨ho30, h⟩ := h
      refine s_iaload j161 rfl ho30 ?_
      refine s_istore_nV j162 rfl (n := 4) (L' := fun w => [some (am_ov (some this)), some (.int v3), some (am_ov a6), some (.int w)]) rfl (by decide) (fun _ => am_st1_R [_, _] _ _ _ _) (fun v31 hv32 => ?_)
      replace h := h v31 hv32
      refine s_aload_n j163 rfl rfl ?_
      refine s_bipush j164 rfl kc_bi_26 ?_
      refine s_bipush j166 rfl kc_bi_26 ?_
      refine s_virt j168 rfl rfl rfl rfl (am_is_kd ek29 (am_is_ext hx5 ho1)) (by decide) (in_Rd_take _ _ _) (am_r8 rfl) (am_bB h (fun a34 σ33 h hx33 => ?_))
      replace h := h hx33
      refine s_pop j171 rfl rfl ?_
      refine s_goto j172 rfl rfl ?_
      exact h
    | 9, _, hv59 =>
      have hs : v3 = (9 : Int32) := am_te hv59 (by decide)
      refine s_tsw j21 (t := 248) (by show am_sw 21 267 0 9 #[55, 55, 122, 122, 122, 154, 122, 214, 122, 227] v3.toInt = _; rw [hv59]; rfl) ?_
      replace h := h.2.2.2.2.1 hs
      refine s_aload_n j248 rfl rfl ?_
      refine s_dup j249 rfl (am_cov _) ?_
      refine s_gfI j250 rfl (am_is_ext hx5 ho1) ?_
      refine s_iconst j253 rfl kc_ic_1 ?_
      refine s_g j254 rfl rfl rfl rfl rfl rfl ?_
      refine s_pfI j255 rfl (am_is_ext hx5 ho1) (fun σ46 e47 => ?_)
      replace h := h σ46 e47
      have ek48 : am_kd σ46 = am_kd σ5 := by rw [e47]
      refine s_aload_n j258 rfl rfl ?_
      refine s_gfR j259 rfl (am_is_kd ek48 (am_is_ext hx5 ho1)) ?_
      refine s_aload_n j262 rfl rfl ?_
      refine s_gfI j263 rfl (am_is_kd ek48 (am_is_ext hx5 ho1)) ?_
      obtain ⟨ho49, h⟩ := h
      refine s_iaload j266 rfl ho49 ?_
      refine s_iconst j267 rfl kc_ic_3 ?_
      have K51 : ∀ (w52 : Int32), w52 = (if (am_aI σ46 ((am_fR σ46 4000 this).getD 0) (am_fI σ46 4003 this).toNatClampNeg) = (3 : Int32) then (3 : Int32) else (10 : Int32)) → am_C (TT nl Ln xs) (d + 1) 96 277 [some (am_ov (some this)), some (.int v3), some (am_ov a6), some (.int (0 : Int32))] [.int w52] σ46 (am_qR F) := by
        intro w52 hw53
        replace h := h w52 hw53
        exact h
      refine s_icn j268 rfl rfl am_cc_ne (fun hc50 => ?_) (fun hc50 => ?_)
      · refine s_bipush j275 rfl kc_bi_10 ?_
        exact K51 _ (am_t2 hc50 rfl)
      · refine s_iconst j271 rfl kc_ic_3 ?_
        refine s_goto j272 rfl rfl ?_
        exact K51 _ (am_t1 hc50 rfl)
    | n + 10, hk582, _ => exact absurd hk582 (by omega)
theorem P_Rd_readClause_205 (nl : Bool) (Ln : Nat) (xs : Nat → Int32) : am_Jl (TT nl Ln xs) 96 [(205, .istore_n 1, 206, []), (206, .aload_n 0, 207, []), (207, .iconst 3, 208, []), (208, .iconst 4, 209, []), (209, .invokevirtual 103, 212, [10, 99, 5, 3, 3]), (212, .pop, 213, []), (213, .aload_n 0, 214, []), (214, .getfield 15, 217, [9, 4, 1, 2]), (217, .aload_n 0, 218, []), (218, .getfield 25, 221, [9, 4, 3, 0]), (221, .iaload, 222, []), (222, .istore_n 3, 223, []), (223, .aload_n 0, 224, []), (224, .bipush 26, 226, []), (226, .bipush 26, 228, []), (228, .invokevirtual 103, 231, [10, 99, 5, 3, 3]), (231, .pop, 232, []), (232, .goto 61, 235, [])] := dk_ck (by decide +kernel)
set_option maxRecDepth 4096 in
theorem w_Rd_readClause_205 {nl : Bool} {Ln : Nat} {xs : Nat → Int32} {d : Nat} {this : Nat} {x1 : Int32} {x2 : Option Nat} {x3 : Int32} {y0 : Int32} {σ : am_S} {F : Option Nat → am_S → Prop} (h : (am_is σ (some this) 4) ∧ k_Rd_take nl Ln xs d this (3 : Int32) (4 : Int32) σ (fun a3 σ2 => am_ext σ σ2 → (am_ar σ2 1000 (am_fR σ2 4001 this) (am_fI σ2 4003 this)) ∧ ∀ v5 : Int32, v5 = (am_aI σ2 ((am_fR σ2 4001 this).getD 0) (am_fI σ2 4003 this).toNatClampNeg) → k_Rd_take nl Ln xs d this (26 : Int32) (26 : Int32) σ2 (fun a8 σ7 => am_ext σ2 σ7 → c_Rd_readClause_293 nl Ln xs (d + 1) this y0 x2 v5 σ7 F))) : c_Rd_readClause_205 nl Ln xs (d + 1) this x1 x2 x3 y0 σ F := by
  obtain ⟨j205, j206, j207, j208, j209, j212, j213, j214, j217, j218, j221, j222, j223, j224, j226, j228, j231, j232, -⟩ := P_Rd_readClause_205 nl Ln xs
  unfold c_Rd_readClause_205
  refine s_istore_n j205 rfl (n := 4) (L' := [some (am_ov (some this)), some (.int y0), some (am_ov x2), some (.int x3)]) rfl (by decide) (am_st1_R [] _ _ _ _) ?_
  refine s_aload_n j206 rfl rfl ?_
  refine s_iconst j207 rfl kc_ic_3 ?_
  refine s_iconst j208 rfl kc_ic_4 ?_
  obtain ⟨ho1, h⟩ := h
  refine s_virt j209 rfl rfl rfl rfl ho1 (by decide) (in_Rd_take _ _ _) (am_r8 rfl) (am_bB h (fun a3 σ2 h hx2 => ?_))
  replace h := h hx2
  refine s_pop j212 rfl rfl ?_
  refine s_aload_n j213 rfl rfl ?_
  refine s_gfR j214 rfl (am_is_ext hx2 ho1) ?_
  refine s_aload_n j217 rfl rfl ?_
  refine s_gfI j218 rfl (am_is_ext hx2 ho1) ?_
  obtain ⟨ho4, h⟩ := h
  refine s_iaload j221 rfl ho4 ?_
  refine s_istore_nV j222 rfl (n := 4) (L' := fun w => [some (am_ov (some this)), some (.int y0), some (am_ov x2), some (.int w)]) rfl (by decide) (fun _ => am_st1_R [_, _] _ _ _ _) (fun v5 hv6 => ?_)
  replace h := h v5 hv6
  refine s_aload_n j223 rfl rfl ?_
  refine s_bipush j224 rfl kc_bi_26 ?_
  refine s_bipush j226 rfl kc_bi_26 ?_
  refine s_virt j228 rfl rfl rfl rfl (am_is_ext hx2 ho1) (by decide) (in_Rd_take _ _ _) (am_r8 rfl) (am_bB h (fun a8 σ7 h hx7 => ?_))
  replace h := h hx7
  refine s_pop j231 rfl rfl ?_
  refine s_goto j232 rfl rfl ?_
  exact h
theorem P_Rd_readClause_277 (nl : Bool) (Ln : Nat) (xs : Nat → Int32) : am_Jl (TT nl Ln xs) 96 [(277, .istore_n 3, 278, []), (278, .aload_n 0, 279, []), (279, .iload_n 3, 280, []), (280, .iload_n 3, 281, []), (281, .invokevirtual 103, 284, [10, 99, 5, 3, 3]), (284, .pop, 285, []), (285, .goto 8, 288, [])] := dk_ck (by decide +kernel)
set_option maxRecDepth 4096 in
theorem w_Rd_readClause_277 {nl : Bool} {Ln : Nat} {xs : Nat → Int32} {d : Nat} {this : Nat} {x1 : Int32} {x2 : Option Nat} {x3 : Int32} {y0 : Int32} {σ : am_S} {F : Option Nat → am_S → Prop} (h : (am_is σ (some this) 4) ∧ k_Rd_take nl Ln xs d this y0 y0 σ (fun a3 σ2 => am_ext σ σ2 → c_Rd_readClause_293 nl Ln xs (d + 1) this x1 x2 y0 σ2 F)) : c_Rd_readClause_277 nl Ln xs (d + 1) this x1 x2 x3 y0 σ F := by
  obtain ⟨j277, j278, j279, j280, j281, j284, j285, -⟩ := P_Rd_readClause_277 nl Ln xs
  unfold c_Rd_readClause_277
  refine s_istore_n j277 rfl (n := 4) (L' := [some (am_ov (some this)), some (.int x1), some (am_ov x2), some (.int y0)]) rfl (by decide) (am_st1_R [_, _] _ _ _ _) ?_
  refine s_aload_n j278 rfl rfl ?_
  refine s_iload_n j279 rfl rfl ?_
  refine s_iload_n j280 rfl rfl ?_
  obtain ⟨ho1, h⟩ := h
  refine s_virt j281 rfl rfl rfl rfl ho1 (by decide) (in_Rd_take _ _ _) (am_r8 rfl) (am_bB h (fun a3 σ2 h hx2 => ?_))
  replace h := h hx2
  refine s_pop j284 rfl rfl ?_
  refine s_goto j285 rfl rfl ?_
  exact h
theorem P_Rd_readClause_293 (nl : Bool) (Ln : Nat) (xs : Nat → Int32) : am_Jl (TT nl Ln xs) 96 [(293, .aload_n 0, 294, []), (294, .bipush 29, 296, []), (296, .bipush 29, 298, []), (298, .invokevirtual 103, 301, [10, 99, 5, 3, 3]), (301, .pop, 302, []), (302, .aload_n 2, 303, []), (303, .iload_n 1, 304, []), (304, .putfield 65, 307, [9, 8, 0, 0]), (307, .aload_n 2, 308, []), (308, .iload_n 3, 309, []), (309, .putfield 68, 312, [9, 8, 1, 0]), (312, .aload_n 2, 313, []), (313, .areturn, 314, [3])] := dk_ck (by decide +kernel)
set_option maxRecDepth 4096 in
theorem w_Rd_readClause_293 {nl : Bool} {Ln : Nat} {xs : Nat → Int32} {d : Nat} {this : Nat} {x1 : Int32} {x2 : Option Nat} {x3 : Int32} {σ : am_S} {F : Option Nat → am_S → Prop} (h : (am_is σ (some this) 4) ∧ k_Rd_take nl Ln xs d this (29 : Int32) (29 : Int32) σ (fun a3 σ2 => am_ext σ σ2 → (am_is σ2 x2 8) ∧ ∀ σ5, σ5 = am_sfI σ2 8000 (x2.getD 0) x1 → ∀ σ8, σ8 = am_sfI σ5 8001 (x2.getD 0) x3 → F x2 σ8)) : c_Rd_readClause_293 nl Ln xs (d + 1) this x1 x2 x3 σ F := by
  obtain ⟨j293, j294, j296, j298, j301, j302, j303, j304, j307, j308, j309, j312, j313, -⟩ := P_Rd_readClause_293 nl Ln xs
  unfold c_Rd_readClause_293
  refine s_aload_n j293 rfl rfl ?_
  refine s_bipush j294 rfl kc_bi_29 ?_
  refine s_bipush j296 rfl kc_bi_29 ?_
  obtain ⟨ho1, h⟩ := h
  refine s_virt j298 rfl rfl rfl rfl ho1 (by decide) (in_Rd_take _ _ _) (am_r8 rfl) (am_bB h (fun a3 σ2 h hx2 => ?_))
  replace h := h hx2
  refine s_pop j301 rfl rfl ?_
  refine s_aload_n j302 rfl rfl ?_
  refine s_iload_n j303 rfl rfl ?_
  obtain ⟨ho4, h⟩ := h
  refine s_pfI j304 rfl ho4 (fun σ5 e6 => ?_)
  replace h := h σ5 e6
  have ek7 : am_kd σ5 = am_kd σ2 := by rw [e6]
  refine s_aload_n j307 rfl rfl ?_
  refine s_iload_n j308 rfl rfl ?_
  refine s_pfI j309 rfl (am_is_kd ek7 ho4) (fun σ8 e9 => ?_)
  replace h := h σ8 e9
  have ek10 : am_kd σ8 = am_kd σ5 := by rw [e9]
  refine s_aload_n j312 rfl rfl ?_
  exact s_retR j313 rfl h
theorem P_Rd_makeNode (nl : Bool) (Ln : Nat) (xs : Nat → Int32) : am_Jl (TT nl Ln xs) 97 [(0, .aload_n 0, 1, []), (1, .getfield 58, 4, [9, 4, 6, 2]), (4, .ifnonnull 13, 7, []), (7, .new 50, 10, [2, 8, 5]), (10, .dup, 11, []), (11, .invokespecial 61, 14, [11, 98, 9, 1, 1]), (14, .goto 7, 17, []), (17, .aload_n 0, 18, []), (18, .getfield 58, 21, [9, 4, 6, 2])] := dk_ck (by decide +kernel)
set_option maxRecDepth 4096 in
theorem w_Rd_makeNode {nl : Bool} {Ln : Nat} {xs : Nat → Int32} {d : Nat} {this : Nat} {p0 : Int32} {p1 : Int32} {p2 : Option Nat} {σ : am_S} {F : Option Nat → am_S → Prop} (h : (am_is σ (some this) 4) ∧ ((am_fR σ 4006 this) = none → ∀ σ3, σ3 = am_new σ 9 0 5 → am_ext σ σ3 → am_fz σ3 (am_nx σ) → k_Nd_init nl Ln xs d (am_nx σ) σ3 (fun σ5 => am_ext σ3 σ5 → c_Rd_makeNode_21 nl Ln xs (d + 1) this p0 p1 p2 (some (am_nx σ)) σ5 F)) ∧ (¬ ((am_fR σ 4006 this) = none) → c_Rd_makeNode_21 nl Ln xs (d + 1) this p0 p1 p2 (am_fR σ 4006 this) σ F)) : k_Rd_makeNode nl Ln xs (d + 1) this p0 p1 p2 σ F := by
  obtain ⟨j0, j1, j4, j7, j10, j11, j14, j17, j18, -⟩ := P_Rd_makeNode nl Ln xs
  have elo : am_lo 5 [am_ov (some this), .int p0, .int p1, am_ov p2] = [some (am_ov (some this)), some (.int p0), some (.int p1), some (am_ov p2), none] := by simp only [am_lo, am_in_ov, am_in_int, am_in_long, am_in_nil]; rfl
  unfold k_Rd_makeNode
  rw [elo]
  refine s_aload_n j0 rfl rfl ?_
  obtain ⟨ho1, h⟩ := h
  refine s_gfR j1 rfl ho1 ?_
  refine s_ifnonnull j4 rfl rfl (fun hc2 => ?_) (fun hc2 => ?_)
  · replace h := h.2 hc2
    refine s_aload_n j17 rfl rfl ?_
    refine s_gfR j18 rfl ho1 ?_
    exact h
  · replace h := h.1 hc2
    refine s_new j7 rfl (fun σ3 e4 e4x e4z => ?_)
    replace h := h σ3 e4 e4x e4z
    refine s_dup j10 rfl (am_cov _) ?_
    refine s_spec j11 rfl rfl rfl rfl (by decide) (in_Nd_init _) (am_r8 rfl) (am_bV h (fun σ5 h hx5 => ?_))
    replace h := h hx5
    refine s_goto j14 rfl rfl ?_
    exact h
theorem P_Rd_makeNode_21 (nl : Bool) (Ln : Nat) (xs : Nat → Int32) : am_Jl (TT nl Ln xs) 97 [(21, .astore 4, 23, []), (23, .aload_n 0, 24, []), (24, .aload 4, 26, []), (26, .getfield 62, 29, [9, 8, 4, 2]), (29, .putfield 58, 32, [9, 4, 6, 2]), (32, .aload 4, 34, []), (34, .aconst_null, 35, []), (35, .putfield 62, 38, [9, 8, 4, 2]), (38, .aload 4, 40, []), (40, .iload_n 1, 41, []), (41, .putfield 65, 44, [9, 8, 0, 0]), (44, .aload 4, 46, []), (46, .iload_n 2, 47, []), (47, .putfield 68, 50, [9, 8, 1, 0]), (50, .aload 4, 52, []), (52, .aload_n 3, 53, []), (53, .putfield 71, 56, [9, 8, 2, 2]), (56, .aload 4, 58, []), (58, .aconst_null, 59, []), (59, .putfield 49, 62, [9, 8, 3, 2]), (62, .aload_n 0, 63, []), (63, .getfield 39, 66, [9, 4, 8, 2]), (66, .ifnonnull 12, 69, []), (69, .aload_n 0, 70, []), (70, .aload 4, 72, []), (72, .putfield 35, 75, [9, 4, 7, 2]), (75, .goto 12, 78, []), (78, .aload_n 0, 79, []), (79, .getfield 39, 82, [9, 4, 8, 2]), (82, .aload 4, 84, []), (84, .putfield 62, 87, [9, 8, 4, 2]), (87, .aload_n 0, 88, []), (88, .aload 4, 90, []), (90, .putfield 39, 93, [9, 4, 8, 2]), (93, .aload 4, 95, []), (95, .areturn, 96, [3])] := dk_ck (by decide +kernel)
set_option maxRecDepth 4096 in
theorem w_Rd_makeNode_21 {nl : Bool} {Ln : Nat} {xs : Nat → Int32} {d : Nat} {this : Nat} {x1 : Int32} {x2 : Int32} {x3 : Option Nat} {y0 : Option Nat} {σ : am_S} {F : Option Nat → am_S → Prop} (h : (am_is σ y0 8) ∧ (am_is σ (some this) 4) ∧ ∀ σ3, σ3 = am_sfR σ 4006 this (am_fR σ 8004 (y0.getD 0)) → ∀ σ6, σ6 = am_sfR σ3 8004 (y0.getD 0) none → ∀ σ9, σ9 = am_sfI σ6 8000 (y0.getD 0) x1 → ∀ σ12, σ12 = am_sfI σ9 8001 (y0.getD 0) x2 → ∀ σ15, σ15 = am_sfR σ12 8002 (y0.getD 0) x3 → ∀ σ18, σ18 = am_sfR σ15 8003 (y0.getD 0) none → ((am_fR σ18 4008 this) = none → ∀ σ22, σ22 = am_sfR σ18 4007 this y0 → ∀ σ25, σ25 = am_sfR σ22 4008 this y0 → F y0 σ25) ∧ (¬ ((am_fR σ18 4008 this) = none) → (am_is σ18 (am_fR σ18 4008 this) 8) ∧ ∀ σ29, σ29 = am_sfR σ18 8004 ((am_fR σ18 4008 this).getD 0) y0 → ∀ σ32, σ32 = am_sfR σ29 4008 this y0 → F y0 σ32)) : c_Rd_makeNode_21 nl Ln xs (d + 1) this x1 x2 x3 y0 σ F := by
  obtain ⟨j21, j23, j24, j26, j29, j32, j34, j35, j38, j40, j41, j44, j46, j47, j50, j52, j53, j56, j58, j59, j62, j63, j66, j69, j70, j72, j75, j78, j79, j82, j84, j87, j88, j90, j93, j95, -⟩ := P_Rd_makeNode_21 nl Ln xs
  unfold c_Rd_makeNode_21
  refine s_astore j21 rfl (n := 5) (L' := [some (am_ov (some this)), some (.int x1), some (.int x2), some (am_ov x3), some (am_ov y0)]) rfl (by decide) (am_st1_R [_, _, _] _ _ _ _) ?_
  refine s_aload_n j23 rfl rfl ?_
  refine s_aload j24 rfl rfl ?_
  obtain ⟨ho1, h⟩ := h
  refine s_gfR j26 rfl ho1 ?_
  obtain ⟨ho2, h⟩ := h
  refine s_pfR j29 rfl ho2 (fun σ3 e4 => ?_)
  replace h := h σ3 e4
  have ek5 : am_kd σ3 = am_kd σ := by rw [e4]
  refine s_aload j32 rfl rfl ?_
  refine s_null j34 rfl ?_
  refine s_pfR j35 rfl (am_is_kd ek5 ho1) (fun σ6 e7 => ?_)
  replace h := h σ6 e7
  have ek8 : am_kd σ6 = am_kd σ3 := by rw [e7]
  refine s_aload j38 rfl rfl ?_
  refine s_iload_n j40 rfl rfl ?_
  refine s_pfI j41 rfl (am_is_kd ek8 (am_is_kd ek5 ho1)) (fun σ9 e10 => ?_)
  replace h := h σ9 e10
  have ek11 : am_kd σ9 = am_kd σ6 := by rw [e10]
  refine s_aload j44 rfl rfl ?_
  refine s_iload_n j46 rfl rfl ?_
  refine s_pfI j47 rfl (am_is_kd ek11 (am_is_kd ek8 (am_is_kd ek5 ho1))) (fun σ12 e13 => ?_)
  replace h := h σ12 e13
  have ek14 : am_kd σ12 = am_kd σ9 := by rw [e13]
  refine s_aload j50 rfl rfl ?_
  refine s_aload_n j52 rfl rfl ?_
  refine s_pfR j53 rfl (am_is_kd ek14 (am_is_kd ek11 (am_is_kd ek8 (am_is_kd ek5 ho1)))) (fun σ15 e16 => ?_)
  replace h := h σ15 e16
  have ek17 : am_kd σ15 = am_kd σ12 := by rw [e16]
  refine s_aload j56 rfl rfl ?_
  refine s_null j58 rfl ?_
  refine s_pfR j59 rfl (am_is_kd ek17 (am_is_kd ek14 (am_is_kd ek11 (am_is_kd ek8 (am_is_kd ek5 ho1))))) (fun σ18 e19 => ?_)
  replace h := h σ18 e19
  have ek20 : am_kd σ18 = am_kd σ15 := by rw [e19]
  refine s_aload_n j62 rfl rfl ?_
  refine s_gfR j63 rfl (am_is_kd ek20 (am_is_kd ek17 (am_is_kd ek14 (am_is_kd ek11 (am_is_kd ek8 (am_is_kd ek5 ho2)))))) ?_
  refine s_ifnonnull j66 rfl rfl (fun hc21 => ?_) (fun hc21 => ?_)
  · replace h := h.2 hc21
    refine s_aload_n j78 rfl rfl ?_
    refine s_gfR j79 rfl (am_is_kd ek20 (am_is_kd ek17 (am_is_kd ek14 (am_is_kd ek11 (am_is_kd ek8 (am_is_kd ek5 ho2)))))) ?_
    refine s_aload j82 rfl rfl ?_
    obtain ⟨ho28, h⟩ := h
    refine s_pfR j84 rfl ho28 (fun σ29 e30 => ?_)
    replace h := h σ29 e30
    have ek31 : am_kd σ29 = am_kd σ18 := by rw [e30]
    refine s_aload_n j87 rfl rfl ?_
    refine s_aload j88 rfl rfl ?_
    refine s_pfR j90 rfl (am_is_kd ek31 (am_is_kd ek20 (am_is_kd ek17 (am_is_kd ek14 (am_is_kd ek11 (am_is_kd ek8 (am_is_kd ek5 ho2))))))) (fun σ32 e33 => ?_)
    replace h := h σ32 e33
    have ek34 : am_kd σ32 = am_kd σ29 := by rw [e33]
    refine s_aload j93 rfl rfl ?_
    exact s_retR j95 rfl h
  · replace h := h.1 hc21
    refine s_aload_n j69 rfl rfl ?_
    refine s_aload j70 rfl rfl ?_
    refine s_pfR j72 rfl (am_is_kd ek20 (am_is_kd ek17 (am_is_kd ek14 (am_is_kd ek11 (am_is_kd ek8 (am_is_kd ek5 ho2)))))) (fun σ22 e23 => ?_)
    replace h := h σ22 e23
    have ek24 : am_kd σ22 = am_kd σ18 := by rw [e23]
    refine s_goto j75 rfl rfl ?_
    refine s_aload_n j87 rfl rfl ?_
    refine s_aload j88 rfl rfl ?_
    refine s_pfR j90 rfl (am_is_kd ek24 (am_is_kd ek20 (am_is_kd ek17 (am_is_kd ek14 (am_is_kd ek11 (am_is_kd ek8 (am_is_kd ek5 ho2))))))) (fun σ25 e26 => ?_)
    replace h := h σ25 e26
    have ek27 : am_kd σ25 = am_kd σ22 := by rw [e26]
    refine s_aload j93 rfl rfl ?_
    exact s_retR j95 rfl h
theorem P_Nd_init (nl : Bool) (Ln : Nat) (xs : Nat → Int32) : am_Jl (TT nl Ln xs) 98 [(0, .aload_n 0, 1, []), (1, .invokespecial 3, 4, [13]), (4, .return_, 5, [0])] := dk_ck (by decide +kernel)
set_option maxRecDepth 4096 in
theorem w_Nd_init {nl : Bool} {Ln : Nat} {xs : Nat → Int32} {d : Nat} {this : Nat} {σ : am_S} {F : am_S → Prop} (h : F σ) : k_Nd_init nl Ln xs (d + 1) this σ F := by
  obtain ⟨j0, j1, j4, -⟩ := P_Nd_init nl Ln xs
  have elo : am_lo 1 [am_ov (some this)] = [some (am_ov (some this))] := by simp only [am_lo, am_in_ov, am_in_int, am_in_long, am_in_nil]; rfl
  unfold k_Nd_init
  rw [elo]
  refine s_aload_n j0 rfl rfl ?_
  refine s_obj j1 rfl (am_r8 rfl) ?_
  exact s_retV j4 rfl h
theorem P_Rd_take (nl : Bool) (Ln : Nat) (xs : Nat → Int32) : am_Jl (TT nl Ln xs) 99 [(0, .aload_n 0, 1, []), (1, .getfield 32, 4, [9, 4, 5, 0]), (4, .iconst (-1), 5, []), (5, .if_icmp .eq 5, 8, []), (8, .iconst 0, 9, []), (9, .ireturn, 10, [4]), (10, .aload_n 0, 11, []), (11, .getfield 9, 14, [9, 4, 0, 2]), (14, .aload_n 0, 15, []), (15, .getfield 25, 18, [9, 4, 3, 0]), (18, .iaload, 19, []), (19, .iload_n 1, 20, []), (20, .if_icmp .lt 16, 23, []), (23, .aload_n 0, 24, []), (24, .getfield 9, 27, [9, 4, 0, 2]), (27, .aload_n 0, 28, []), (28, .getfield 25, 31, [9, 4, 3, 0]), (31, .iaload, 32, []), (32, .iload_n 2, 33, []), (33, .if_icmp .le 18, 36, []), (36, .aload_n 0, 37, []), (37, .aload_n 0, 38, []), (38, .getfield 18, 41, [9, 4, 2, 2]), (41, .aload_n 0, 42, []), (42, .getfield 25, 45, [9, 4, 3, 0]), (45, .iaload, 46, []), (46, .putfield 32, 49, [9, 4, 5, 0]), (49, .iconst 0, 50, []), (50, .ireturn, 51, [4]), (51, .aload_n 0, 52, []), (52, .dup, 53, []), (53, .getfield 25, 56, [9, 4, 3, 0]), (56, .iconst 1, 57, []), (57, .iadd, 58, []), (58, .putfield 25, 61, [9, 4, 3, 0]), (61, .iconst 1, 62, []), (62, .ireturn, 63, [4])] := dk_ck (by decide +kernel)
set_option maxRecDepth 4096 in
theorem w_Rd_take {nl : Bool} {Ln : Nat} {xs : Nat → Int32} {d : Nat} {this : Nat} {p0 : Int32} {p1 : Int32} {σ : am_S} {F : Bool → am_S → Prop} (h : (am_is σ (some this) 4) ∧ ((am_fI σ 4005 this) = (-1 : Int32) → (am_ar σ 1000 (am_fR σ 4000 this) (am_fI σ 4003 this)) ∧ ((am_aI σ ((am_fR σ 4000 this).getD 0) (am_fI σ 4003 this).toNatClampNeg) < p0 → (am_ar σ 1000 (am_fR σ 4002 this) (am_fI σ 4003 this)) ∧ ∀ σ6, σ6 = am_sfI σ 4005 this (am_aI σ ((am_fR σ 4002 this).getD 0) (am_fI σ 4003 this).toNatClampNeg) → F false σ6) ∧ (¬ ((am_aI σ ((am_fR σ 4000 this).getD 0) (am_fI σ 4003 this).toNatClampNeg) < p0) → (am_ar σ 1000 (am_fR σ 4000 this) (am_fI σ 4003 this)) ∧ (p1 < (am_aI σ ((am_fR σ 4000 this).getD 0) (am_fI σ 4003 this).toNatClampNeg) → (am_ar σ 1000 (am_fR σ 4002 this) (am_fI σ 4003 this)) ∧ ∀ σ12, σ12 = am_sfI σ 4005 this (am_aI σ ((am_fR σ 4002 this).getD 0) (am_fI σ 4003 this).toNatClampNeg) → F false σ12) ∧ (¬ (p1 < (am_aI σ ((am_fR σ 4000 this).getD 0) (am_fI σ 4003 this).toNatClampNeg)) → ∀ σ15, σ15 = am_sfI σ 4003 this ((am_fI σ 4003 this) + (1 : Int32)) → F true σ15))) ∧ (¬ ((am_fI σ 4005 this) = (-1 : Int32)) → F false σ)) : k_Rd_take nl Ln xs (d + 1) this p0 p1 σ F := by
  obtain ⟨j0, j1, j4, j5, j8, j9, j10, j11, j14, j15, j18, j19, j20, j23, j24, j27, j28, j31, j32, j33, j36, j37, j38, j41, j42, j45, j46, j49, j50, j51, j52, j53, j56, j57, j58, j61, j62, -⟩ := P_Rd_take nl Ln xs
  have elo : am_lo 3 [am_ov (some this), .int p0, .int p1] = [some (am_ov (some this)), some (.int p0), some (.int p1)] := by simp only [am_lo, am_in_ov, am_in_int, am_in_long, am_in_nil]; rfl
  unfold k_Rd_take
  rw [elo]
  refine s_aload_n j0 rfl rfl ?_
  obtain ⟨ho1, h⟩ := h
  refine s_gfI j1 rfl ho1 ?_
  refine s_iconst j4 rfl kc_ic_m1 ?_
  refine s_ic j5 rfl rfl am_cc_eq (fun hc2 => ?_) (fun hc2 => ?_)
  · replace h := h.1 hc2
    refine s_aload_n j10 rfl rfl ?_
    refine s_gfR j11 rfl ho1 ?_
    refine s_aload_n j14 rfl rfl ?_
    refine s_gfI j15 rfl ho1 ?_
    obtain ⟨ho3, h⟩ := h
    refine s_iaload j18 rfl ho3 ?_
    refine s_iload_n j19 rfl rfl ?_
    refine s_ic j20 rfl rfl am_cc_lt (fun hc4 => ?_) (fun hc4 => ?_)
    · replace h := h.1 hc4
      refine s_aload_n j36 rfl rfl ?_
      refine s_aload_n j37 rfl rfl ?_
      refine s_gfR j38 rfl ho1 ?_
      refine s_aload_n j41 rfl rfl ?_
      refine s_gfI j42 rfl ho1 ?_
      obtain ⟨ho5, h⟩ := h
      refine s_iaload j45 rfl ho5 ?_
      refine s_pfI j46 rfl ho1 (fun σ6 e7 => ?_)
      replace h := h σ6 e7
      have ek8 : am_kd σ6 = am_kd σ := by rw [e7]
      refine s_iconst j49 rfl kc_ic_0 ?_
      exact s_retZ0 j50 rfl h
    · replace h := h.2 hc4
      refine s_aload_n j23 rfl rfl ?_
      refine s_gfR j24 rfl ho1 ?_
      refine s_aload_n j27 rfl rfl ?_
      refine s_gfI j28 rfl ho1 ?_
      obtain ⟨ho9, h⟩ := h
      refine s_iaload j31 rfl ho9 ?_
      refine s_iload_n j32 rfl rfl ?_
      refine s_icn j33 rfl rfl am_cc_le (fun hc10 => ?_) (fun hc10 => ?_)
      · replace h := h.2 hc10
        refine s_aload_n j51 rfl rfl ?_
        refine s_dup j52 rfl (am_cov _) ?_
        refine s_gfI j53 rfl ho1 ?_
        refine s_iconst j56 rfl kc_ic_1 ?_
        refine s_g j57 rfl rfl rfl rfl rfl rfl ?_
        refine s_pfI j58 rfl ho1 (fun σ15 e16 => ?_)
        replace h := h σ15 e16
        have ek17 : am_kd σ15 = am_kd σ := by rw [e16]
        refine s_iconst j61 rfl kc_ic_1 ?_
        exact s_retZ1 j62 rfl h
      · replace h := h.1 hc10
        refine s_aload_n j36 rfl rfl ?_
        refine s_aload_n j37 rfl rfl ?_
        refine s_gfR j38 rfl ho1 ?_
        refine s_aload_n j41 rfl rfl ?_
        refine s_gfI j42 rfl ho1 ?_
        obtain ⟨ho11, h⟩ := h
        refine s_iaload j45 rfl ho11 ?_
        refine s_pfI j46 rfl ho1 (fun σ12 e13 => ?_)
        replace h := h σ12 e13
        have ek14 : am_kd σ12 = am_kd σ := by rw [e13]
        refine s_iconst j49 rfl kc_ic_0 ?_
        exact s_retZ0 j50 rfl h
  · replace h := h.2 hc2
    refine s_iconst j8 rfl kc_ic_0 ?_
    exact s_retZ0 j9 rfl h
