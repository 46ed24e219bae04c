/-! statements of methods, 16 (by wip/whole/gensteps.py) -/
theorem P_Rm_clauses (nl : Bool) (Ln : Nat) (xs : Nat → Int32) : am_Jl (TT nl Ln xs) 305 [(0, .aload_n 0, 1, []), (1, .getfield 88, 4, [9, 12, 16, 2]), (4, .getfield 145, 7, [9, 13, 62, 3]), (7, .ifCond .eq 6, 10, []), (10, .bipush (-3), 12, []), (12, .ireturn, 13, [1]), (13, .aload_n 0, 14, []), (14, .getfield 140, 17, [9, 12, 3, 0]), (17, .sipush 400, 20, []), (20, .if_icmp .le 6, 23, []), (23, .bipush (-2), 25, []), (25, .ireturn, 26, [1]), (26, .iconst 0, 27, []), (27, .istore_n 2, 28, [])] := dk_ck (by decide +kernel)
set_option maxRecDepth 4096 in
theorem w_Rm_clauses {nl : Bool} {Ln : Nat} {xs : Nat → Int32} {d : Nat} {this : Nat} {p0 : Int32} {σ : am_S} {F : Int32 → am_S → Prop} (h : (am_is σ (some this) 12) ∧ (am_is σ (am_fR σ 12016 this) 13) ∧ ((am_fI σ 13062 ((am_fR σ 12016 this).getD 0)) = 0 → ((400 : Int32) < (am_fI σ 12003 this) → F (-2 : Int32) σ) ∧ (¬ ((400 : Int32) < (am_fI σ 12003 this)) → c_Rm_clauses_28 nl Ln xs (d + 1) this p0 (0 : Int32) σ F)) ∧ (¬ ((am_fI σ 13062 ((am_fR σ 12016 this).getD 0)) = 0) → F (-3 : Int32) σ)) : k_Rm_clauses nl Ln xs (d + 1) this p0 σ F := by
  obtain ⟨j0, j1, j4, j7, j10, j12, j13, j14, j17, j20, j23, j25, j26, j27, -⟩ := P_Rm_clauses nl Ln xs
  have elo : am_lo 3 [am_ov (some this), .int p0] = [some (am_ov (some this)), some (.int p0), none] := by simp only [am_lo, am_in_ov, am_in_int, am_in_long, am_in_nil]; rfl
  unfold k_Rm_clauses
  rw [elo]
  refine s_aload_n j0 rfl rfl ?_
  obtain ⟨ho1, h⟩ := h
  refine s_gfR j1 rfl ho1 ?_
  obtain ⟨ho2, h⟩ := h
  refine s_gfZ j4 rfl ho2 ?_
  refine s_if j7 rfl rfl am_cc_eq (fun hc3 => ?_) (fun hc3 => ?_)
  · replace h := h.1 hc3
    refine s_aload_n j13 rfl rfl ?_
    refine s_gfI j14 rfl ho1 ?_
    refine s_sipush j17 rfl kc_si_400 ?_
    refine s_icn j20 rfl rfl am_cc_le (fun hc4 => ?_) (fun hc4 => ?_)
    · replace h := h.2 hc4
      refine s_iconst j26 rfl kc_ic_0 ?_
      refine s_istore_n j27 rfl (n := 3) (L' := [some (am_ov (some this)), some (.int p0), some (.int (0 : Int32))]) rfl (by decide) rfl ?_
      exact h
    · replace h := h.1 hc4
      refine s_bipush j23 rfl kc_bi_m2 ?_
      exact s_retI j25 rfl h
  · replace h := h.2 hc3
    refine s_bipush j10 rfl kc_bi_m3 ?_
    exact s_retI j12 rfl h
theorem P_Rm_clauses_28 (nl : Bool) (Ln : Nat) (xs : Nat → Int32) : am_Jl (TT nl Ln xs) 305 [(28, .iload_n 2, 29, []), (29, .aload_n 0, 30, []), (30, .getfield 140, 33, [9, 12, 3, 0]), (33, .if_icmp .ge 24, 36, []), (36, .aload_n 0, 37, []), (37, .getfield 88, 40, [9, 12, 16, 2]), (40, .getfield 148, 43, [9, 13, 90, 2]), (43, .iload_n 2, 44, []), (44, .aload_n 0, 45, []), (45, .getfield 9, 48, [9, 12, 2, 2]), (48, .iload_n 2, 49, []), (49, .iaload, 50, []), (50, .iastore, 51, []), (51, .iinc 2 1, 54, []), (54, .goto (-26), 57, []), (57, .aload_n 0, 58, []), (58, .bipush 6, 60, []), (60, .iload_n 1, 61, []), (61, .i2l, 62, []), (62, .aload_n 0, 63, []), (63, .getfield 140, 66, [9, 12, 3, 0]), (66, .i2l, 67, []), (67, .lconst 0, 68, []), (68, .lconst 0, 69, []), (69, .invokevirtual 137, 72, [10, 200, 13, 10, 6]), (72, .istore_n 2, 73, []), (73, .aload_n 0, 74, []), (74, .iload_n 2, 75, []), (75, .ifCond .lt 7, 78, []), (78, .iconst 0, 79, []), (79, .goto 7, 82, []), (82, .aload_n 0, 83, []), (83, .getfield 140, 86, [9, 12, 3, 0]), (86, .putfield 140, 89, [9, 12, 3, 0]), (89, .iload_n 2, 90, []), (90, .ireturn, 91, [1])] := dk_ck (by decide +kernel)
set_option maxRecDepth 4096 in
theorem w_Rm_clauses_28 {nl : Bool} {Ln : Nat} {xs : Nat → Int32} {d : Nat} {this : Nat} {x1 : Int32} {x2 : Int32} {σ : am_S} {F : Int32 → am_S → Prop} (h : (am_is σ (some this) 12) ∧ (x2 < (am_fI σ 12003 this) → (am_is σ (am_fR σ 12016 this) 13) ∧ (am_ar σ 1000 (am_fR σ 12002 this) x2) ∧ (am_ar σ 1000 (am_fR σ 13090 ((am_fR σ 12016 this).getD 0)) x2) ∧ ∀ σ6, σ6 = am_saI σ ((am_fR σ 13090 ((am_fR σ 12016 this).getD 0)).getD 0) x2.toNatClampNeg (am_aI σ ((am_fR σ 12002 this).getD 0) x2.toNatClampNeg) → c_Rm_clauses_28 nl Ln xs (d + 1) this x1 (x2 + (1 : Int32)) σ6 F) ∧ (¬ (x2 < (am_fI σ 12003 this)) → k_Rm_act nl Ln xs d this (6 : Int32) x1.toInt64 ((am_fI σ 12003 this).toInt64) (0 : Int64) (0 : Int64) σ (fun a10 σ9 => am_ext σ σ9 → ∀ w13 : Int32, w13 = (if a10 < 0 then (am_fI σ9 12003 this) else (0 : Int32)) → ∀ σ15, σ15 = am_sfI σ9 12003 this w13 → F a10 σ15))) : c_Rm_clauses_28 nl Ln xs (d + 1) this x1 x2 σ F := by
  obtain ⟨j28, j29, j30, j33, j36, j37, j40, j43, j44, j45, j48, j49, j50, j51, j54, j57, j58, j60, j61, j62, j63, j66, j67, j68, j69, j72, j73, j74, j75, j78, j79, j82, j83, j86, j89, j90, -⟩ := P_Rm_clauses_28 nl Ln xs
  unfold c_Rm_clauses_28
  refine s_iload_n j28 rfl rfl ?_
  refine s_aload_n j29 rfl rfl ?_
  obtain ⟨ho1, h⟩ := h
  refine s_gfI j30 rfl ho1 ?_
  refine s_icn j33 rfl rfl am_cc_ge (fun hc2 => ?_) (fun hc2 => ?_)
  · replace h := h.2 hc2
    refine s_aload_n j57 rfl rfl ?_
    refine s_bipush j58 rfl kc_bi_6 ?_
    refine s_iload_n j60 rfl rfl ?_
    refine s_g j61 rfl rfl rfl rfl rfl rfl ?_
    refine s_aload_n j62 rfl rfl ?_
    refine s_gfI j63 rfl ho1 ?_
    refine s_g j66 rfl rfl rfl rfl rfl rfl ?_
    refine s_lconst j67 rfl rfl ?_
    refine s_lconst j68 rfl rfl ?_
    refine s_virt j69 rfl rfl rfl rfl ho1 (by decide) (in_Rm_act _ _ _ _ _ _) (am_r8 rfl) (am_bI h (fun a10 σ9 h hx9 => ?_))
    replace h := h hx9
    refine s_istore_n j72 rfl (n := 3) (L' := [some (am_ov (some this)), some (.int x1), some (.int a10)]) rfl (by decide) rfl ?_
    refine s_aload_n j73 rfl rfl ?_
    refine s_iload_n j74 rfl rfl ?_
    have K12 : ∀ (w13 : Int32), w13 = (if a10 < 0 then (am_fI σ9 12003 this) else (0 : Int32)) → am_C (TT nl Ln xs) (d + 1) 305 86 [some (am_ov (some this)), some (.int x1), some (.int a10)] [.int w13, am_ov (some this)] σ9 (am_qI F) := by
      intro w13 hw14
      replace h := h w13 hw14
      refine s_pfI j86 rfl (am_is_ext hx9 ho1) (fun σ15 e16 => ?_)
      replace h := h σ15 e16
      have ek17 : am_kd σ15 = am_kd σ9 := by rw [e16]
      refine s_iload_n j89 rfl rfl ?_
      exact s_retI j90 rfl h
    refine s_if j75 rfl rfl am_cc_lt (fun hc11 => ?_) (fun hc11 => ?_)
    · refine s_aload_n j82 rfl rfl ?_
      refine s_gfI j83 rfl (am_is_ext hx9 ho1) ?_
      exact K12 _ (am_t1 hc11 rfl)
    · refine s_iconst j78 rfl kc_ic_0 ?_
      refine s_goto j79 rfl rfl ?_
      exact K12 _ (am_t2 hc11 rfl)
  · replace h := h.1 hc2
    refine s_aload_n j36 rfl rfl ?_
    refine s_gfR j37 rfl ho1 ?_
    obtain ⟨ho3, h⟩ := h
    refine s_gfR j40 rfl ho3 ?_
    refine s_iload_n j43 rfl rfl ?_
    refine s_aload_n j44 rfl rfl ?_
    refine s_gfR j45 rfl ho1 ?_
    refine s_iload_n j48 rfl rfl ?_
    obtain ⟨ho4, h⟩ := h
    refine s_iaload j49 rfl ho4 ?_
    obtain ⟨ho5, h⟩ := h
    refine s_iastore j50 rfl ho5 (fun σ6 e7 => ?_)
    replace h := h σ6 e7
    have ek8 : am_kd σ6 = am_kd σ := by rw [e7]
    refine s_iinc (L' := [some (am_ov (some this)), some (.int x1), some (.int (x2 + (1 : Int32)))]) j51 rfl rfl kc_ic_1 rfl ?_
    refine s_goto j54 rfl rfl ?_
    exact h
theorem P_Rm_shareRule (nl : Bool) (Ln : Nat) (xs : Nat → Int32) : am_Jl (TT nl Ln xs) 306 [(0, .aload_n 0, 1, []), (1, .bipush 7, 3, []), (3, .iload_n 1, 4, []), (4, .i2l, 5, []), (5, .iload_n 2, 6, []), (6, .i2l, 7, []), (7, .lconst 0, 8, []), (8, .lconst 0, 9, []), (9, .invokevirtual 137, 12, [10, 200, 13, 10, 6]), (12, .ireturn, 13, [1])] := dk_ck (by decide +kernel)
set_option maxRecDepth 4096 in
theorem w_Rm_shareRule {nl : Bool} {Ln : Nat} {xs : Nat → Int32} {d : Nat} {this : Nat} {p0 : Int32} {p1 : Int32} {σ : am_S} {F : Int32 → am_S → Prop} (h : (am_is σ (some this) 12) ∧ k_Rm_act nl Ln xs d this (7 : Int32) p0.toInt64 p1.toInt64 (0 : Int64) (0 : Int64) σ (fun a3 σ2 => am_ext σ σ2 → F a3 σ2)) : k_Rm_shareRule nl Ln xs (d + 1) this p0 p1 σ F := by
  obtain ⟨j0, j1, j3, j4, j5, j6, j7, j8, j9, j12, -⟩ := P_Rm_shareRule nl Ln xs
  have elo : am_lo 3 [am_ov (some this), .int p0, .int p1] = [some (am_ov (some this)), some (.int p0), some (.int p1)] := by simp only [am_lo, am_in_ov, am_in_int, am_in_long, am_in_nil]; rfl
  unfold k_Rm_shareRule
  rw [elo]
  refine s_aload_n j0 rfl rfl ?_
  refine s_bipush j1 rfl kc_bi_7 ?_
  refine s_iload_n j3 rfl rfl ?_
  refine s_g j4 rfl rfl rfl rfl rfl rfl ?_
  refine s_iload_n j5 rfl rfl ?_
  refine s_g j6 rfl rfl rfl rfl rfl rfl ?_
  refine s_lconst j7 rfl rfl ?_
  refine s_lconst j8 rfl rfl ?_
  obtain ⟨ho1, h⟩ := h
  refine s_virt j9 rfl rfl rfl rfl ho1 (by decide) (in_Rm_act _ _ _ _ _ _) (am_r8 rfl) (am_bI h (fun a3 σ2 h hx2 => ?_))
  replace h := h hx2
  exact s_retI j12 rfl h
theorem P_Rm_loss (nl : Bool) (Ln : Nat) (xs : Nat → Int32) : am_Jl (TT nl Ln xs) 307 [(0, .aload_n 0, 1, []), (1, .bipush 8, 3, []), (3, .iload_n 1, 4, []), (4, .i2l, 5, []), (5, .iload_n 2, 6, []), (6, .i2l, 7, []), (7, .lconst 0, 8, []), (8, .lconst 0, 9, []), (9, .invokevirtual 137, 12, [10, 200, 13, 10, 6]), (12, .ireturn, 13, [1])] := dk_ck (by decide +kernel)
set_option maxRecDepth 4096 in
theorem w_Rm_loss {nl : Bool} {Ln : Nat} {xs : Nat → Int32} {d : Nat} {this : Nat} {p0 : Int32} {p1 : Int32} {σ : am_S} {F : Int32 → am_S → Prop} (h : (am_is σ (some this) 12) ∧ k_Rm_act nl Ln xs d this (8 : Int32) p0.toInt64 p1.toInt64 (0 : Int64) (0 : Int64) σ (fun a3 σ2 => am_ext σ σ2 → F a3 σ2)) : k_Rm_loss nl Ln xs (d + 1) this p0 p1 σ F := by
  obtain ⟨j0, j1, j3, j4, j5, j6, j7, j8, j9, j12, -⟩ := P_Rm_loss nl Ln xs
  have elo : am_lo 3 [am_ov (some this), .int p0, .int p1] = [some (am_ov (some this)), some (.int p0), some (.int p1)] := by simp only [am_lo, am_in_ov, am_in_int, am_in_long, am_in_nil]; rfl
  unfold k_Rm_loss
  rw [elo]
  refine s_aload_n j0 rfl rfl ?_
  refine s_bipush j1 rfl kc_bi_8 ?_
  refine s_iload_n j3 rfl rfl ?_
  refine s_g j4 rfl rfl rfl rfl rfl rfl ?_
  refine s_iload_n j5 rfl rfl ?_
  refine s_g j6 rfl rfl rfl rfl rfl rfl ?_
  refine s_lconst j7 rfl rfl ?_
  refine s_lconst j8 rfl rfl ?_
  obtain ⟨ho1, h⟩ := h
  refine s_virt j9 rfl rfl rfl rfl ho1 (by decide) (in_Rm_act _ _ _ _ _ _) (am_r8 rfl) (am_bI h (fun a3 σ2 h hx2 => ?_))
  replace h := h hx2
  exact s_retI j12 rfl h
theorem P_Rm_part (nl : Bool) (Ln : Nat) (xs : Nat → Int32) : am_Jl (TT nl Ln xs) 308 [(0, .aload_n 0, 1, []), (1, .bipush 9, 3, []), (3, .iload_n 1, 4, []), (4, .i2l, 5, []), (5, .iload_n 2, 6, []), (6, .i2l, 7, []), (7, .lconst 0, 8, []), (8, .lconst 0, 9, []), (9, .invokevirtual 137, 12, [10, 200, 13, 10, 6]), (12, .ireturn, 13, [1])] := dk_ck (by decide +kernel)
set_option maxRecDepth 4096 in
theorem w_Rm_part {nl : Bool} {Ln : Nat} {xs : Nat → Int32} {d : Nat} {this : Nat} {p0 : Int32} {p1 : Int32} {σ : am_S} {F : Int32 → am_S → Prop} (h : (am_is σ (some this) 12) ∧ k_Rm_act nl Ln xs d this (9 : Int32) p0.toInt64 p1.toInt64 (0 : Int64) (0 : Int64) σ (fun a3 σ2 => am_ext σ σ2 → F a3 σ2)) : k_Rm_part nl Ln xs (d + 1) this p0 p1 σ F := by
  obtain ⟨j0, j1, j3, j4, j5, j6, j7, j8, j9, j12, -⟩ := P_Rm_part nl Ln xs
  have elo : am_lo 3 [am_ov (some this), .int p0, .int p1] = [some (am_ov (some this)), some (.int p0), some (.int p1)] := by simp only [am_lo, am_in_ov, am_in_int, am_in_long, am_in_nil]; rfl
  unfold k_Rm_part
  rw [elo]
  refine s_aload_n j0 rfl rfl ?_
  refine s_bipush j1 rfl kc_bi_9 ?_
  refine s_iload_n j3 rfl rfl ?_
  refine s_g j4 rfl rfl rfl rfl rfl rfl ?_
  refine s_iload_n j5 rfl rfl ?_
  refine s_g j6 rfl rfl rfl rfl rfl rfl ?_
  refine s_lconst j7 rfl rfl ?_
  refine s_lconst j8 rfl rfl ?_
  obtain ⟨ho1, h⟩ := h
  refine s_virt j9 rfl rfl rfl rfl ho1 (by decide) (in_Rm_act _ _ _ _ _ _) (am_r8 rfl) (am_bI h (fun a3 σ2 h hx2 => ?_))
  replace h := h hx2
  exact s_retI j12 rfl h
theorem P_Rm_item (nl : Bool) (Ln : Nat) (xs : Nat → Int32) : am_Jl (TT nl Ln xs) 309 [(0, .aload_n 0, 1, []), (1, .bipush 10, 3, []), (3, .iload_n 1, 4, []), (4, .i2l, 5, []), (5, .iload_n 2, 6, []), (6, .i2l, 7, []), (7, .lload_n 3, 8, []), (8, .lload 5, 10, []), (10, .invokevirtual 137, 13, [10, 200, 13, 10, 6]), (13, .ireturn, 14, [1])] := dk_ck (by decide +kernel)
set_option maxRecDepth 4096 in
theorem w_Rm_item {nl : Bool} {Ln : Nat} {xs : Nat → Int32} {d : Nat} {this : Nat} {p0 : Int32} {p1 : Int32} {p2 : Int64} {p3 : Int64} {σ : am_S} {F : Int32 → am_S → Prop} (h : (am_is σ (some this) 12) ∧ k_Rm_act nl Ln xs d this (10 : Int32) p0.toInt64 p1.toInt64 p2 p3 σ (fun a3 σ2 => am_ext σ σ2 → F a3 σ2)) : k_Rm_item nl Ln xs (d + 1) this p0 p1 p2 p3 σ F := by
  obtain ⟨j0, j1, j3, j4, j5, j6, j7, j8, j10, j13, -⟩ := P_Rm_item nl Ln xs
  have elo : am_lo 7 [am_ov (some this), .int p0, .int p1, .long p2, .long p3] = [some (am_ov (some this)), some (.int p0), some (.int p1), some (.long p2), none, some (.long p3), none] := by simp only [am_lo, am_in_ov, am_in_int, am_in_long, am_in_nil]; rfl
  unfold k_Rm_item
  rw [elo]
  refine s_aload_n j0 rfl rfl ?_
  refine s_bipush j1 rfl kc_bi_10 ?_
  refine s_iload_n j3 rfl rfl ?_
  refine s_g j4 rfl rfl rfl rfl rfl rfl ?_
  refine s_iload_n j5 rfl rfl ?_
  refine s_g j6 rfl rfl rfl rfl rfl rfl ?_
  refine s_lload_n j7 rfl rfl ?_
  refine s_lload j8 rfl rfl ?_
  obtain ⟨ho1, h⟩ := h
  refine s_virt j10 rfl rfl rfl rfl ho1 (by decide) (in_Rm_act _ _ _ _ _ _) (am_r8 rfl) (am_bI h (fun a3 σ2 h hx2 => ?_))
  replace h := h hx2
  exact s_retI j13 rfl h
theorem P_Rm_notify (nl : Bool) (Ln : Nat) (xs : Nat → Int32) : am_Jl (TT nl Ln xs) 310 [(0, .aload_n 0, 1, []), (1, .bipush 11, 3, []), (3, .iload_n 1, 4, []), (4, .i2l, 5, []), (5, .iload_n 2, 6, []), (6, .i2l, 7, []), (7, .iload_n 3, 8, []), (8, .i2l, 9, []), (9, .iload 4, 11, []), (11, .i2l, 12, []), (12, .invokevirtual 137, 15, [10, 200, 13, 10, 6]), (15, .ireturn, 16, [1])] := dk_ck (by decide +kernel)
set_option maxRecDepth 4096 in
theorem w_Rm_notify {nl : Bool} {Ln : Nat} {xs : Nat → Int32} {d : Nat} {this : Nat} {p0 : Int32} {p1 : Int32} {p2 : Int32} {p3 : Int32} {σ : am_S} {F : Int32 → am_S → Prop} (h : (am_is σ (some this) 12) ∧ k_Rm_act nl Ln xs d this (11 : Int32) p0.toInt64 p1.toInt64 p2.toInt64 p3.toInt64 σ (fun a3 σ2 => am_ext σ σ2 → F a3 σ2)) : k_Rm_notify nl Ln xs (d + 1) this p0 p1 p2 p3 σ F := by
  obtain ⟨j0, j1, j3, j4, j5, j6, j7, j8, j9, j11, j12, j15, -⟩ := P_Rm_notify nl Ln xs
  have elo : am_lo 5 [am_ov (some this), .int p0, .int p1, .int p2, .int p3] = [some (am_ov (some this)), some (.int p0), some (.int p1), some (.int p2), some (.int p3)] := by simp only [am_lo, am_in_ov, am_in_int, am_in_long, am_in_nil]; rfl
  unfold k_Rm_notify
  rw [elo]
  refine s_aload_n j0 rfl rfl ?_
  refine s_bipush j1 rfl kc_bi_11 ?_
  refine s_iload_n j3 rfl rfl ?_
  refine s_g j4 rfl rfl rfl rfl rfl rfl ?_
  refine s_iload_n j5 rfl rfl ?_
  refine s_g j6 rfl rfl rfl rfl rfl rfl ?_
  refine s_iload_n j7 rfl rfl ?_
  refine s_g j8 rfl rfl rfl rfl rfl rfl ?_
  refine s_iload j9 rfl rfl ?_
  refine s_g j11 rfl rfl rfl rfl rfl rfl ?_
  obtain ⟨ho1, h⟩ := h
  refine s_virt j12 rfl rfl rfl rfl ho1 (by decide) (in_Rm_act _ _ _ _ _ _) (am_r8 rfl) (am_bI h (fun a3 σ2 h hx2 => ?_))
  replace h := h hx2
  exact s_retI j15 rfl h
theorem P_Rm_reserve (nl : Bool) (Ln : Nat) (xs : Nat → Int32) : am_Jl (TT nl Ln xs) 311 [(0, .aload_n 0, 1, []), (1, .bipush 12, 3, []), (3, .iload_n 1, 4, []), (4, .i2l, 5, []), (5, .iload_n 2, 6, []), (6, .i2l, 7, []), (7, .iload_n 3, 8, []), (8, .i2l, 9, []), (9, .lload 4, 11, []), (11, .invokevirtual 137, 14, [10, 200, 13, 10, 6]), (14, .ireturn, 15, [1])] := dk_ck (by decide +kernel)
set_option maxRecDepth 4096 in
theorem w_Rm_reserve {nl : Bool} {Ln : Nat} {xs : Nat → Int32} {d : Nat} {this : Nat} {p0 : Int32} {p1 : Int32} {p2 : Int32} {p3 : Int64} {σ : am_S} {F : Int32 → am_S → Prop} (h : (am_is σ (some this) 12) ∧ k_Rm_act nl Ln xs d this (12 : Int32) p0.toInt64 p1.toInt64 p2.toInt64 p3 σ (fun a3 σ2 => am_ext σ σ2 → F a3 σ2)) : k_Rm_reserve nl Ln xs (d + 1) this p0 p1 p2 p3 σ F := by
  obtain ⟨j0, j1, j3, j4, j5, j6, j7, j8, j9, j11, j14, -⟩ := P_Rm_reserve nl Ln xs
  have elo : am_lo 6 [am_ov (some this), .int p0, .int p1, .int p2, .long p3] = [some (am_ov (some this)), some (.int p0), some (.int p1), some (.int p2), some (.long p3), none] := by simp only [am_lo, am_in_ov, am_in_int, am_in_long, am_in_nil]; rfl
  unfold k_Rm_reserve
  rw [elo]
  refine s_aload_n j0 rfl rfl ?_
  refine s_bipush j1 rfl kc_bi_12 ?_
  refine s_iload_n j3 rfl rfl ?_
  refine s_g j4 rfl rfl rfl rfl rfl rfl ?_
  refine s_iload_n j5 rfl rfl ?_
  refine s_g j6 rfl rfl rfl rfl rfl rfl ?_
  refine s_iload_n j7 rfl rfl ?_
  refine s_g j8 rfl rfl rfl rfl rfl rfl ?_
  refine s_lload j9 rfl rfl ?_
  obtain ⟨ho1, h⟩ := h
  refine s_virt j11 rfl rfl rfl rfl ho1 (by decide) (in_Rm_act _ _ _ _ _ _) (am_r8 rfl) (am_bI h (fun a3 σ2 h hx2 => ?_))
  replace h := h hx2
  exact s_retI j14 rfl h
theorem P_Rm_pay (nl : Bool) (Ln : Nat) (xs : Nat → Int32) : am_Jl (TT nl Ln xs) 312 [(0, .aload_n 0, 1, []), (1, .bipush 13, 3, []), (3, .iload_n 1, 4, []), (4, .i2l, 5, []), (5, .iload_n 2, 6, []), (6, .i2l, 7, []), (7, .lload_n 3, 8, []), (8, .lconst 0, 9, []), (9, .invokevirtual 137, 12, [10, 200, 13, 10, 6]), (12, .ireturn, 13, [1])] := dk_ck (by decide +kernel)
set_option maxRecDepth 4096 in
theorem w_Rm_pay {nl : Bool} {Ln : Nat} {xs : Nat → Int32} {d : Nat} {this : Nat} {p0 : Int32} {p1 : Int32} {p2 : Int64} {σ : am_S} {F : Int32 → am_S → Prop} (h : (am_is σ (some this) 12) ∧ k_Rm_act nl Ln xs d this (13 : Int32) p0.toInt64 p1.toInt64 p2 (0 : Int64) σ (fun a3 σ2 => am_ext σ σ2 → F a3 σ2)) : k_Rm_pay nl Ln xs (d + 1) this p0 p1 p2 σ F := by
  obtain ⟨j0, j1, j3, j4, j5, j6, j7, j8, j9, j12, -⟩ := P_Rm_pay nl Ln xs
  have elo : am_lo 5 [am_ov (some this), .int p0, .int p1, .long p2] = [some (am_ov (some this)), some (.int p0), some (.int p1), some (.long p2), none] := by simp only [am_lo, am_in_ov, am_in_int, am_in_long, am_in_nil]; rfl
  unfold k_Rm_pay
  rw [elo]
  refine s_aload_n j0 rfl rfl ?_
  refine s_bipush j1 rfl kc_bi_13 ?_
  refine s_iload_n j3 rfl rfl ?_
  refine s_g j4 rfl rfl rfl rfl rfl rfl ?_
  refine s_iload_n j5 rfl rfl ?_
  refine s_g j6 rfl rfl rfl rfl rfl rfl ?_
  refine s_lload_n j7 rfl rfl ?_
  refine s_lconst j8 rfl rfl ?_
  obtain ⟨ho1, h⟩ := h
  refine s_virt j9 rfl rfl rfl rfl ho1 (by decide) (in_Rm_act _ _ _ _ _ _) (am_r8 rfl) (am_bI h (fun a3 σ2 h hx2 => ?_))
  replace h := h hx2
  exact s_retI j12 rfl h
theorem P_Rm_close (nl : Bool) (Ln : Nat) (xs : Nat → Int32) : am_Jl (TT nl Ln xs) 313 [(0, .aload_n 0, 1, []), (1, .bipush 14, 3, []), (3, .iload_n 1, 4, []), (4, .i2l, 5, []), (5, .iload_n 2, 6, []), (6, .i2l, 7, []), (7, .lconst 0, 8, []), (8, .lconst 0, 9, []), (9, .invokevirtual 137, 12, [10, 200, 13, 10, 6]), (12, .ireturn, 13, [1])] := dk_ck (by decide +kernel)
set_option maxRecDepth 4096 in
theorem w_Rm_close {nl : Bool} {Ln : Nat} {xs : Nat → Int32} {d : Nat} {this : Nat} {p0 : Int32} {p1 : Int32} {σ : am_S} {F : Int32 → am_S → Prop} (h : (am_is σ (some this) 12) ∧ k_Rm_act nl Ln xs d this (14 : Int32) p0.toInt64 p1.toInt64 (0 : Int64) (0 : Int64) σ (fun a3 σ2 => am_ext σ σ2 → F a3 σ2)) : k_Rm_close nl Ln xs (d + 1) this p0 p1 σ F := by
  obtain ⟨j0, j1, j3, j4, j5, j6, j7, j8, j9, j12, -⟩ := P_Rm_close nl Ln xs
  have elo : am_lo 3 [am_ov (some this), .int p0, .int p1] = [some (am_ov (some this)), some (.int p0), some (.int p1)] := by simp only [am_lo, am_in_ov, am_in_int, am_in_long, am_in_nil]; rfl
  unfold k_Rm_close
  rw [elo]
  refine s_aload_n j0 rfl rfl ?_
  refine s_bipush j1 rfl kc_bi_14 ?_
  refine s_iload_n j3 rfl rfl ?_
  refine s_g j4 rfl rfl rfl rfl rfl rfl ?_
  refine s_iload_n j5 rfl rfl ?_
  refine s_g j6 rfl rfl rfl rfl rfl rfl ?_
  refine s_lconst j7 rfl rfl ?_
  refine s_lconst j8 rfl rfl ?_
  obtain ⟨ho1, h⟩ := h
  refine s_virt j9 rfl rfl rfl rfl ho1 (by decide) (in_Rm_act _ _ _ _ _ _) (am_r8 rfl) (am_bI h (fun a3 σ2 h hx2 => ?_))
  replace h := h hx2
  exact s_retI j12 rfl h
theorem P_Rm_reopen (nl : Bool) (Ln : Nat) (xs : Nat → Int32) : am_Jl (TT nl Ln xs) 314 [(0, .aload_n 0, 1, []), (1, .bipush 15, 3, []), (3, .iload_n 1, 4, []), (4, .i2l, 5, []), (5, .iload_n 2, 6, []), (6, .i2l, 7, []), (7, .iload_n 3, 8, []), (8, .i2l, 9, []), (9, .lconst 0, 10, []), (10, .invokevirtual 137, 13, [10, 200, 13, 10, 6]), (13, .ireturn, 14, [1])] := dk_ck (by decide +kernel)
set_option maxRecDepth 4096 in
theorem w_Rm_reopen {nl : Bool} {Ln : Nat} {xs : Nat → Int32} {d : Nat} {this : Nat} {p0 : Int32} {p1 : Int32} {p2 : Int32} {σ : am_S} {F : Int32 → am_S → Prop} (h : (am_is σ (some this) 12) ∧ k_Rm_act nl Ln xs d this (15 : Int32) p0.toInt64 p1.toInt64 p2.toInt64 (0 : Int64) σ (fun a3 σ2 => am_ext σ σ2 → F a3 σ2)) : k_Rm_reopen nl Ln xs (d + 1) this p0 p1 p2 σ F := by
  obtain ⟨j0, j1, j3, j4, j5, j6, j7, j8, j9, j10, j13, -⟩ := P_Rm_reopen nl Ln xs
  have elo : am_lo 4 [am_ov (some this), .int p0, .int p1, .int p2] = [some (am_ov (some this)), some (.int p0), some (.int p1), some (.int p2)] := by simp only [am_lo, am_in_ov, am_in_int, am_in_long, am_in_nil]; rfl
  unfold k_Rm_reopen
  rw [elo]
  refine s_aload_n j0 rfl rfl ?_
  refine s_bipush j1 rfl kc_bi_15 ?_
  refine s_iload_n j3 rfl rfl ?_
  refine s_g j4 rfl rfl rfl rfl rfl rfl ?_
  refine s_iload_n j5 rfl rfl ?_
  refine s_g j6 rfl rfl rfl rfl rfl rfl ?_
  refine s_iload_n j7 rfl rfl ?_
  refine s_g j8 rfl rfl rfl rfl rfl rfl ?_
  refine s_lconst j9 rfl rfl ?_
  obtain ⟨ho1, h⟩ := h
  refine s_virt j10 rfl rfl rfl rfl ho1 (by decide) (in_Rm_act _ _ _ _ _ _) (am_r8 rfl) (am_bI h (fun a3 σ2 h hx2 => ?_))
  replace h := h hx2
  exact s_retI j13 rfl h
theorem P_Rm_correct (nl : Bool) (Ln : Nat) (xs : Nat → Int32) : am_Jl (TT nl Ln xs) 315 [(0, .aload_n 0, 1, []), (1, .getfield 33, 4, [9, 12, 18, 2]), (4, .iconst 0, 5, []), (5, .iload_n 1, 6, []), (6, .i2l, 7, []), (7, .lastore, 8, []), (8, .aload_n 0, 9, []), (9, .getfield 33, 12, [9, 12, 18, 2]), (12, .iconst 1, 13, []), (13, .iload_n 2, 14, []), (14, .i2l, 15, []), (15, .lastore, 16, []), (16, .aload_n 0, 17, []), (17, .getfield 33, 20, [9, 12, 18, 2]), (20, .iconst 2, 21, []), (21, .iload_n 3, 22, []), (22, .i2l, 23, []), (23, .lastore, 24, []), (24, .aload_n 0, 25, []), (25, .getfield 33, 28, [9, 12, 18, 2]), (28, .iconst 3, 29, []), (29, .iload 4, 31, []), (31, .i2l, 32, []), (32, .lastore, 33, []), (33, .aload_n 0, 34, []), (34, .getfield 33, 37, [9, 12, 18, 2]), (37, .iconst 4, 38, []), (38, .lload 5, 40, []), (40, .lastore, 41, []), (41, .aload_n 0, 42, []), (42, .getfield 33, 45, [9, 12, 18, 2]), (45, .iconst 5, 46, []), (46, .iload 7, 48, []), (48, .i2l, 49, []), (49, .lastore, 50, []), (50, .aload_n 0, 51, []), (51, .getfield 88, 54, [9, 12, 16, 2]), (54, .bipush 16, 56, []), (56, .aload_n 0, 57, []), (57, .getfield 33, 60, [9, 12, 18, 2]), (60, .invokevirtual 133, 63, [10, 201, 14, 4, 3]), (63, .ireturn, 64, [1])] := dk_ck (by decide +kernel)
set_option maxRecDepth 4096 in
theorem w_Rm_correct {nl : Bool} {Ln : Nat} {xs : Nat → Int32} {d : Nat} {this : Nat} {p0 : Int32} {p1 : Int32} {p2 : Int32} {p3 : Int32} {p4 : Int64} {p5 : Int32} {σ : am_S} {F : Int32 → am_S → Prop} (h : (am_is σ (some this) 12) ∧ (am_ar σ 1001 (am_fR σ 12018 this) (0 : Int32)) ∧ ∀ σ3, σ3 = am_saL σ ((am_fR σ 12018 this).getD 0) (0 : Int32).toNatClampNeg p0.toInt64 → (am_ar σ3 1001 (am_fR σ3 12018 this) (1 : Int32)) ∧ ∀ σ7, σ7 = am_saL σ3 ((am_fR σ3 12018 this).getD 0) (1 : Int32).toNatClampNeg p1.toInt64 → (am_ar σ7 1001 (am_fR σ7 12018 this) (2 : Int32)) ∧ ∀ σ11, σ11 = am_saL σ7 ((am_fR σ7 12018 this).getD 0) (2 : Int32).toNatClampNeg p2.toInt64 → (am_ar σ11 1001 (am_fR σ11 12018 this) (3 : Int32)) ∧ ∀ σ15, σ15 = am_saL σ11 ((am_fR σ11 12018 this).getD 0) (3 : Int32).toNatClampNeg p3.toInt64 → (am_ar σ15 1001 (am_fR σ15 12018 this) (4 : Int32)) ∧ ∀ σ19, σ19 = am_saL σ15 ((am_fR σ15 12018 this).getD 0) (4 : Int32).toNatClampNeg p4 → (am_ar σ19 1001 (am_fR σ19 12018 this) (5 : Int32)) ∧ ∀ σ23, σ23 = am_saL σ19 ((am_fR σ19 12018 this).getD 0) (5 : Int32).toNatClampNeg p5.toInt64 → (am_is σ23 (am_fR σ23 12016 this) 13) ∧ k_Ro_act nl Ln xs d ((am_fR σ23 12016 this).getD 0) (16 : Int32) (am_fR σ23 12018 this) σ23 (fun a28 σ27 => am_ext σ23 σ27 → F a28 σ27)) : k_Rm_correct nl Ln xs (d + 1) this p0 p1 p2 p3 p4 p5 σ F := by
  obtain ⟨j0, j1, j4, j5, j6, j7, j8, j9, j12, j13, j14, j15, j16, j17, j20, j21, j22, j23, j24, j25, j28, j29, j31, j32, j33, j34, j37, j38, j40, j41, j42, j45, j46, j48, j49, j50, j51, j54, j56, j57, j60, j63, -⟩ := P_Rm_correct nl Ln xs
  have elo : am_lo 8 [am_ov (some this), .int p0, .int p1, .int p2, .int p3, .long p4, .int p5] = [some (am_ov (some this)), some (.int p0), some (.int p1), some (.int p2), some (.int p3), some (.long p4), none, some (.int p5)] := by simp only [am_lo, am_in_ov, am_in_int, am_in_long, am_in_nil]; rfl
  unfold k_Rm_correct
  rw [elo]
  refine s_aload_n j0 rfl rfl ?_
  obtain ⟨ho1, h⟩ := h
  refine s_gfR j1 rfl ho1 ?_
  refine s_iconst j4 rfl kc_ic_0 ?_
  refine s_iload_n j5 rfl rfl ?_
  refine s_g j6 rfl rfl rfl rfl rfl rfl ?_
  obtain ⟨ho2, h⟩ := h
  refine s_lastore j7 rfl ho2 (fun σ3 e4 => ?_)
  replace h := h σ3 e4
  have ek5 : am_kd σ3 = am_kd σ := by rw [e4]
  refine s_aload_n j8 rfl rfl ?_
  refine s_gfR j9 rfl (am_is_kd ek5 ho1) ?_
  refine s_iconst j12 rfl kc_ic_1 ?_
  refine s_iload_n j13 rfl rfl ?_
  refine s_g j14 rfl rfl rfl rfl rfl rfl ?_
  obtain ⟨ho6, h⟩ := h
  refine s_lastore j15 rfl ho6 (fun σ7 e8 => ?_)
  replace h := h σ7 e8
  have ek9 : am_kd σ7 = am_kd σ3 := by rw [e8]
  refine s_aload_n j16 rfl rfl ?_
  refine s_gfR j17 rfl (am_is_kd ek9 (am_is_kd ek5 ho1)) ?_
  refine s_iconst j20 rfl kc_ic_2 ?_
  refine s_iload_n j21 rfl rfl ?_
  refine s_g j22 rfl rfl rfl rfl rfl rfl ?_
  obtain ⟨ho10, h⟩ := h
  refine s_lastore j23 rfl ho10 (fun σ11 e12 => ?_)
  replace h := h σ11 e12
  have ek13 : am_kd σ11 = am_kd σ7 := by rw [e12]
  refine s_aload_n j24 rfl rfl ?_
  refine s_gfR j25 rfl (am_is_kd ek13 (am_is_kd ek9 (am_is_kd ek5 ho1))) ?_
  refine s_iconst j28 rfl kc_ic_3 ?_
  refine s_iload j29 rfl rfl ?_
  refine s_g j31 rfl rfl rfl rfl rfl rfl ?_
  obtain ⟨ho14, h⟩ := h
  refine s_lastore j32 rfl ho14 (fun σ15 e16 => ?_)
  replace h := h σ15 e16
  have ek17 : am_kd σ15 = am_kd σ11 := by rw [e16]
  refine s_aload_n j33 rfl rfl ?_
  refine s_gfR j34 rfl (am_is_kd ek17 (am_is_kd ek13 (am_is_kd ek9 (am_is_kd ek5 ho1)))) ?_
  refine s_iconst j37 rfl kc_ic_4 ?_
  refine s_lload j38 rfl rfl ?_
  obtain ⟨ho18, h⟩ := h
  refine s_lastore j40 rfl ho18 (fun σ19 e20 => ?_)
  replace h := h σ19 e20
  have ek21 : am_kd σ19 = am_kd σ15 := by rw [e20]
  refine s_aload_n j41 rfl rfl ?_
  refine s_gfR j42 rfl (am_is_kd ek21 (am_is_kd ek17 (am_is_kd ek13 (am_is_kd ek9 (am_is_kd ek5 ho1))))) ?_
  refine s_iconst j45 rfl kc_ic_5 ?_
  refine s_iload j46 rfl rfl ?_
  refine s_g j48 rfl rfl rfl rfl rfl rfl ?_
  obtain ⟨ho22, h⟩ := h
  refine s_lastore j49 rfl ho22 (fun σ23 e24 => ?_)
  replace h := h σ23 e24
  have ek25 : am_kd σ23 = am_kd σ19 := by rw [e24]
  refine s_aload_n j50 rfl rfl ?_
  refine s_gfR j51 rfl (am_is_kd ek25 (am_is_kd ek21 (am_is_kd ek17 (am_is_kd ek13 (am_is_kd ek9 (am_is_kd ek5 ho1)))))) ?_
  refine s_bipush j54 rfl kc_bi_16 ?_
  refine s_aload_n j56 rfl rfl ?_
  refine s_gfR j57 rfl (am_is_kd ek25 (am_is_kd ek21 (am_is_kd ek17 (am_is_kd ek13 (am_is_kd ek9 (am_is_kd ek5 ho1)))))) ?_
  obtain ⟨ho26, h⟩ := h
  refine s_virt j60 rfl rfl rfl rfl ho26 (by decide) (in_Ro_act _ _ _) (am_r8 rfl) (am_bI h (fun a28 σ27 h hx27 => ?_))
  replace h := h hx27
  exact s_retI j63 rfl h
theorem P_Rm_share (nl : Bool) (Ln : Nat) (xs : Nat → Int32) : am_Jl (TT nl Ln xs) 316 [(0, .aload_n 0, 1, []), (1, .bipush 17, 3, []), (3, .iload_n 1, 4, []), (4, .i2l, 5, []), (5, .iload_n 2, 6, []), (6, .i2l, 7, []), (7, .iload_n 3, 8, []), (8, .i2l, 9, []), (9, .lload 4, 11, []), (11, .invokevirtual 137, 14, [10, 200, 13, 10, 6]), (14, .ireturn, 15, [1])] := dk_ck (by decide +kernel)
set_option maxRecDepth 4096 in
theorem w_Rm_share {nl : Bool} {Ln : Nat} {xs : Nat → Int32} {d : Nat} {this : Nat} {p0 : Int32} {p1 : Int32} {p2 : Int32} {p3 : Int64} {σ : am_S} {F : Int32 → am_S → Prop} (h : (am_is σ (some this) 12) ∧ k_Rm_act nl Ln xs d this (17 : Int32) p0.toInt64 p1.toInt64 p2.toInt64 p3 σ (fun a3 σ2 => am_ext σ σ2 → F a3 σ2)) : k_Rm_share nl Ln xs (d + 1) this p0 p1 p2 p3 σ F := by
  obtain ⟨j0, j1, j3, j4, j5, j6, j7, j8, j9, j11, j14, -⟩ := P_Rm_share nl Ln xs
  have elo : am_lo 6 [am_ov (some this), .int p0, .int p1, .int p2, .long p3] = [some (am_ov (some this)), some (.int p0), some (.int p1), some (.int p2), some (.long p3), none] := by simp only [am_lo, am_in_ov, am_in_int, am_in_long, am_in_nil]; rfl
  unfold k_Rm_share
  rw [elo]
  refine s_aload_n j0 rfl rfl ?_
  refine s_bipush j1 rfl kc_bi_17 ?_
  refine s_iload_n j3 rfl rfl ?_
  refine s_g j4 rfl rfl rfl rfl rfl rfl ?_
  refine s_iload_n j5 rfl rfl ?_
  refine s_g j6 rfl rfl rfl rfl rfl rfl ?_
  refine s_iload_n j7 rfl rfl ?_
  refine s_g j8 rfl rfl rfl rfl rfl rfl ?_
  refine s_lload j9 rfl rfl ?_
  obtain ⟨ho1, h⟩ := h
  refine s_virt j11 rfl rfl rfl rfl ho1 (by decide) (in_Rm_act _ _ _ _ _ _) (am_r8 rfl) (am_bI h (fun a3 σ2 h hx2 => ?_))
  replace h := h hx2
  exact s_retI j14 rfl h
theorem P_Rm_salvage (nl : Bool) (Ln : Nat) (xs : Nat → Int32) : am_Jl (TT nl Ln xs) 317 [(0, .aload_n 0, 1, []), (1, .bipush 18, 3, []), (3, .iload_n 1, 4, []), (4, .i2l, 5, []), (5, .iload_n 2, 6, []), (6, .i2l, 7, []), (7, .lload_n 3, 8, []), (8, .lconst 0, 9, []), (9, .invokevirtual 137, 12, [10, 200, 13, 10, 6]), (12, .ireturn, 13, [1])] := dk_ck (by decide +kernel)
set_option maxRecDepth 4096 in
theorem w_Rm_salvage {nl : Bool} {Ln : Nat} {xs : Nat → Int32} {d : Nat} {this : Nat} {p0 : Int32} {p1 : Int32} {p2 : Int64} {σ : am_S} {F : Int32 → am_S → Prop} (h : (am_is σ (some this) 12) ∧ k_Rm_act nl Ln xs d this (18 : Int32) p0.toInt64 p1.toInt64 p2 (0 : Int64) σ (fun a3 σ2 => am_ext σ σ2 → F a3 σ2)) : k_Rm_salvage nl Ln xs (d + 1) this p0 p1 p2 σ F := by
  obtain ⟨j0, j1, j3, j4, j5, j6, j7, j8, j9, j12, -⟩ := P_Rm_salvage nl Ln xs
  have elo : am_lo 5 [am_ov (some this), .int p0, .int p1, .long p2] = [some (am_ov (some this)), some (.int p0), some (.int p1), some (.long p2), none] := by simp only [am_lo, am_in_ov, am_in_int, am_in_long, am_in_nil]; rfl
  unfold k_Rm_salvage
  rw [elo]
  refine s_aload_n j0 rfl rfl ?_
  refine s_bipush j1 rfl kc_bi_18 ?_
  refine s_iload_n j3 rfl rfl ?_
  refine s_g j4 rfl rfl rfl rfl rfl rfl ?_
  refine s_iload_n j5 rfl rfl ?_
  refine s_g j6 rfl rfl rfl rfl rfl rfl ?_
  refine s_lload_n j7 rfl rfl ?_
  refine s_lconst j8 rfl rfl ?_
  obtain ⟨ho1, h⟩ := h
  refine s_virt j9 rfl rfl rfl rfl ho1 (by decide) (in_Rm_act _ _ _ _ _ _) (am_r8 rfl) (am_bI h (fun a3 σ2 h hx2 => ?_))
  replace h := h hx2
  exact s_retI j12 rfl h
theorem P_Rm_recourse (nl : Bool) (Ln : Nat) (xs : Nat → Int32) : am_Jl (TT nl Ln xs) 318 [(0, .aload_n 0, 1, []), (1, .bipush 19, 3, []), (3, .iload_n 1, 4, []), (4, .i2l, 5, []), (5, .iload_n 2, 6, []), (6, .i2l, 7, []), (7, .lload_n 3, 8, []), (8, .lconst 0, 9, []), (9, .invokevirtual 137, 12, [10, 200, 13, 10, 6]), (12, .ireturn, 13, [1])] := dk_ck (by decide +kernel)
set_option maxRecDepth 4096 in
theorem w_Rm_recourse {nl : Bool} {Ln : Nat} {xs : Nat → Int32} {d : Nat} {this : Nat} {p0 : Int32} {p1 : Int32} {p2 : Int64} {σ : am_S} {F : Int32 → am_S → Prop} (h : (am_is σ (some this) 12) ∧ k_Rm_act nl Ln xs d this (19 : Int32) p0.toInt64 p1.toInt64 p2 (0 : Int64) σ (fun a3 σ2 => am_ext σ σ2 → F a3 σ2)) : k_Rm_recourse nl Ln xs (d + 1) this p0 p1 p2 σ F := by
  obtain ⟨j0, j1, j3, j4, j5, j6, j7, j8, j9, j12, -⟩ := P_Rm_recourse nl Ln xs
  have elo : am_lo 5 [am_ov (some this), .int p0, .int p1, .long p2] = [some (am_ov (some this)), some (.int p0), some (.int p1), some (.long p2), none] := by simp only [am_lo, am_in_ov, am_in_int, am_in_long, am_in_nil]; rfl
  unfold k_Rm_recourse
  rw [elo]
  refine s_aload_n j0 rfl rfl ?_
  refine s_bipush j1 rfl kc_bi_19 ?_
  refine s_iload_n j3 rfl rfl ?_
  refine s_g j4 rfl rfl rfl rfl rfl rfl ?_
  refine s_iload_n j5 rfl rfl ?_
  refine s_g j6 rfl rfl rfl rfl rfl rfl ?_
  refine s_lload_n j7 rfl rfl ?_
  refine s_lconst j8 rfl rfl ?_
  obtain ⟨ho1, h⟩ := h
  refine s_virt j9 rfl rfl rfl rfl ho1 (by decide) (in_Rm_act _ _ _ _ _ _) (am_r8 rfl) (am_bI h (fun a3 σ2 h hx2 => ?_))
  replace h := h hx2
  exact s_retI j12 rfl h
theorem P_Rm_batch (nl : Bool) (Ln : Nat) (xs : Nat → Int32) : am_Jl (TT nl Ln xs) 319 [(0, .aload_n 0, 1, []), (1, .bipush 20, 3, []), (3, .lconst 0, 4, []), (4, .lconst 0, 5, []), (5, .lconst 0, 6, []), (6, .lconst 0, 7, []), (7, .invokevirtual 137, 10, [10, 200, 13, 10, 6]), (10, .ireturn, 11, [1])] := dk_ck (by decide +kernel)
set_option maxRecDepth 4096 in
theorem w_Rm_batch {nl : Bool} {Ln : Nat} {xs : Nat → Int32} {d : Nat} {this : Nat} {σ : am_S} {F : Int32 → am_S → Prop} (h : (am_is σ (some this) 12) ∧ k_Rm_act nl Ln xs d this (20 : Int32) (0 : Int64) (0 : Int64) (0 : Int64) (0 : Int64) σ (fun a3 σ2 => am_ext σ σ2 → F a3 σ2)) : k_Rm_batch nl Ln xs (d + 1) this σ F := by
  obtain ⟨j0, j1, j3, j4, j5, j6, j7, j10, -⟩ := P_Rm_batch nl Ln xs
  have elo : am_lo 1 [am_ov (some this)] = [some (am_ov (some this))] := by simp only [am_lo, am_in_ov, am_in_int, am_in_long, am_in_nil]; rfl
  unfold k_Rm_batch
  rw [elo]
  refine s_aload_n j0 rfl rfl ?_
  refine s_bipush j1 rfl kc_bi_20 ?_
  refine s_lconst j3 rfl rfl ?_
  refine s_lconst j4 rfl rfl ?_
  refine s_lconst j5 rfl rfl ?_
  refine s_lconst j6 rfl rfl ?_
  obtain ⟨ho1, h⟩ := h
  refine s_virt j7 rfl rfl rfl rfl ho1 (by decide) (in_Rm_act _ _ _ _ _ _) (am_r8 rfl) (am_bI h (fun a3 σ2 h hx2 => ?_))
  replace h := h hx2
  exact s_retI j10 rfl h
theorem P_Rm_end (nl : Bool) (Ln : Nat) (xs : Nat → Int32) : am_Jl (TT nl Ln xs) 320 [(0, .aload_n 0, 1, []), (1, .bipush 21, 3, []), (3, .lconst 0, 4, []), (4, .lconst 0, 5, []), (5, .lconst 0, 6, []), (6, .lconst 0, 7, []), (7, .invokevirtual 137, 10, [10, 200, 13, 10, 6]), (10, .ireturn, 11, [1])] := dk_ck (by decide +kernel)
set_option maxRecDepth 4096 in
theorem w_Rm_end {nl : Bool} {Ln : Nat} {xs : Nat → Int32} {d : Nat} {this : Nat} {σ : am_S} {F : Int32 → am_S → Prop} (h : (am_is σ (some this) 12) ∧ k_Rm_act nl Ln xs d this (21 : Int32) (0 : Int64) (0 : Int64) (0 : Int64) (0 : Int64) σ (fun a3 σ2 => am_ext σ σ2 → F a3 σ2)) : k_Rm_end nl Ln xs (d + 1) this σ F := by
  obtain ⟨j0, j1, j3, j4, j5, j6, j7, j10, -⟩ := P_Rm_end nl Ln xs
  have elo : am_lo 1 [am_ov (some this)] = [some (am_ov (some this))] := by simp only [am_lo, am_in_ov, am_in_int, am_in_long, am_in_nil]; rfl
  unfold k_Rm_end
  rw [elo]
  refine s_aload_n j0 rfl rfl ?_
  refine s_bipush j1 rfl kc_bi_21 ?_
  refine s_lconst j3 rfl rfl ?_
  refine s_lconst j4 rfl rfl ?_
  refine s_lconst j5 rfl rfl ?_
  refine s_lconst j6 rfl rfl ?_
  obtain ⟨ho1, h⟩ := h
  refine s_virt j7 rfl rfl rfl rfl ho1 (by decide) (in_Rm_act _ _ _ _ _ _) (am_r8 rfl) (am_bI h (fun a3 σ2 h hx2 => ?_))
  replace h := h hx2
  exact s_retI j10 rfl h
theorem P_Rm_undo (nl : Bool) (Ln : Nat) (xs : Nat → Int32) : am_Jl (TT nl Ln xs) 321 [(0, .aload_n 0, 1, []), (1, .bipush 22, 3, []), (3, .lconst 0, 4, []), (4, .lconst 0, 5, []), (5, .lconst 0, 6, []), (6, .lconst 0, 7, []), (7, .invokevirtual 137, 10, [10, 200, 13, 10, 6]), (10, .ireturn, 11, [1])] := dk_ck (by decide +kernel)
set_option maxRecDepth 4096 in
theorem w_Rm_undo {nl : Bool} {Ln : Nat} {xs : Nat → Int32} {d : Nat} {this : Nat} {σ : am_S} {F : Int32 → am_S → Prop} (h : (am_is σ (some this) 12) ∧ k_Rm_act nl Ln xs d this (22 : Int32) (0 : Int64) (0 : Int64) (0 : Int64) (0 : Int64) σ (fun a3 σ2 => am_ext σ σ2 → F a3 σ2)) : k_Rm_undo nl Ln xs (d + 1) this σ F := by
  obtain ⟨j0, j1, j3, j4, j5, j6, j7, j10, -⟩ := P_Rm_undo nl Ln xs
  have elo : am_lo 1 [am_ov (some this)] = [some (am_ov (some this))] := by simp only [am_lo, am_in_ov, am_in_int, am_in_long, am_in_nil]; rfl
  unfold k_Rm_undo
  rw [elo]
  refine s_aload_n j0 rfl rfl ?_
  refine s_bipush j1 rfl kc_bi_22 ?_
  refine s_lconst j3 rfl rfl ?_
  refine s_lconst j4 rfl rfl ?_
  refine s_lconst j5 rfl rfl ?_
  refine s_lconst j6 rfl rfl ?_
  obtain ⟨ho1, h⟩ := h
  refine s_virt j7 rfl rfl rfl rfl ho1 (by decide) (in_Rm_act _ _ _ _ _ _) (am_r8 rfl) (am_bI h (fun a3 σ2 h hx2 => ?_))
  replace h := h hx2
  exact s_retI j10 rfl h
theorem P_Rm_owed (nl : Bool) (Ln : Nat) (xs : Nat → Int32) : am_Jl (TT nl Ln xs) 322 [(0, .aload_n 0, 1, []), (1, .getfield 88, 4, [9, 12, 16, 2]), (4, .iload_n 1, 5, []), (5, .i2l, 6, []), (6, .invokevirtual 158, 9, [10, 208, 14, 3, 2]), (9, .ifCond .eq 60, 12, []), (12, .iload_n 2, 13, []), (13, .i2l, 14, []), (14, .aload_n 0, 15, []), (15, .getfield 88, 18, [9, 12, 16, 2]), (18, .getfield 162, 21, [9, 13, 49, 2]), (21, .iload_n 1, 22, []), (22, .iaload, 23, []), (23, .i2l, 24, []), (24, .ldc2_w 165, 27, [6, 10949]), (27, .invokestatic 154, 30, [12, 209, 6, 3]), (30, .ifCond .eq 39, 33, []), (33, .iload_n 3, 34, []), (34, .i2l, 35, []), (35, .aload_n 0, 36, []), (36, .getfield 88, 39, [9, 12, 16, 2]), (39, .getfield 167, 42, [9, 13, 50, 2]), (42, .iload_n 1, 43, []), (43, .iaload, 44, []), (44, .i2l, 45, []), (45, .aload_n 0, 46, []), (46, .getfield 88, 49, [9, 12, 16, 2]), (49, .getfield 151, 52, [9, 13, 0, 0]), (52, .i2l, 53, []), (53, .invokestatic 154, 56, [12, 209, 6, 3]), (56, .ifCond .eq 13, 59, []), (59, .aload_n 0, 60, []), (60, .getfield 170, 63, [9, 12, 6, 0]), (63, .sipush 2500, 66, []), (66, .if_icmp .lt 7, 69, []), (69, .ldc2_w 173, 72, [6, 9223372036854775808]), (72, .lreturn, 73, [2]), (73, .aload_n 0, 74, []), (74, .iconst 0, 75, []), (75, .putfield 175, 78, [9, 12, 12, 0]), (78, .aload_n 0, 79, []), (79, .iconst 0, 80, []), (80, .putfield 101, 83, [9, 12, 14, 0]), (83, .aload_n 0, 84, []), (84, .getfield 88, 87, [9, 12, 16, 2]), (87, .iload_n 1, 88, []), (88, .iload_n 2, 89, []), (89, .iload_n 3, 90, []), (90, .iconst 1, 91, []), (91, .invokevirtual 178, 94, [10, 216, 14, 9, 5]), (94, .aload_n 0, 95, []), (95, .aload_n 0, 96, []), (96, .getfield 88, 99, [9, 12, 16, 2]), (99, .getfield 182, 102, [9, 13, 74, 0]), (102, .putfield 185, 105, [9, 12, 8, 0]), (105, .aload_n 0, 106, []), (106, .getfield 185, 109, [9, 12, 8, 0]), (109, .ifCond .eq 9, 112, []), (112, .ldc2_w 173, 115, [6, 9223372036854775808]), (115, .goto 10, 118, []), (118, .aload_n 0, 119, []), (119, .getfield 88, 122, [9, 12, 16, 2]), (122, .getfield 188, 125, [9, 13, 78, 1]), (125, .lreturn, 126, [2])] := dk_ck (by decide +kernel)
set_option maxRecDepth 4096 in
theorem w_Rm_owed {nl : Bool} {Ln : Nat} {xs : Nat → Int32} {d : Nat} {this : Nat} {p0 : Int32} {p1 : Int32} {p2 : Int32} {σ : am_S} {F : Int64 → am_S → Prop} (h : (am_is σ (some this) 12) ∧ (am_is σ (am_fR σ 12016 this) 13) ∧ k_Ro_isCase nl Ln xs d ((am_fR σ 12016 this).getD 0) p0.toInt64 σ (fun a4 σ3 => am_ext σ σ3 → (a4 = true → (am_is σ3 (am_fR σ3 12016 this) 13) ∧ (am_ar σ3 1000 (am_fR σ3 13049 ((am_fR σ3 12016 this).getD 0)) p0) ∧ k_Rm_in nl Ln xs d p1.toInt64 ((am_aI σ3 ((am_fR σ3 13049 ((am_fR σ3 12016 this).getD 0)).getD 0) p0.toNatClampNeg).toInt64) (10949 : Int64) σ3 (fun a9 σ8 => am_ext σ3 σ8 → (a9 = true → (am_is σ8 (am_fR σ8 12016 this) 13) ∧ (am_ar σ8 1000 (am_fR σ8 13050 ((am_fR σ8 12016 this).getD 0)) p0) ∧ k_Rm_in nl Ln xs d p2.toInt64 ((am_aI σ8 ((am_fR σ8 13050 ((am_fR σ8 12016 this).getD 0)).getD 0) p0.toNatClampNeg).toInt64) ((am_fI σ8 13000 ((am_fR σ8 12016 this).getD 0)).toInt64) σ8 (fun a14 σ13 => am_ext σ8 σ13 → (a14 = true → ((am_fI σ13 12006 this) < (2500 : Int32) → ∀ σ17, σ17 = am_sfI σ13 12012 this (0 : Int32) → ∀ σ20, σ20 = am_sfI σ17 12014 this (0 : Int32) → (am_is σ20 (am_fR σ20 12016 this) 13) ∧ k_Ro_work nl Ln xs d ((am_fR σ20 12016 this).getD 0) p0 p1 p2 (1 : Int32) σ20 (fun σ24 => am_ext σ20 σ24 → (am_is σ24 (am_fR σ24 12016 this) 13) ∧ ∀ σ27, σ27 = am_sfI σ24 12008 this (am_fI σ24 13074 ((am_fR σ24 12016 this).getD 0)) → (((am_fI σ27 12008 this) = 0) → am_is σ27 (am_fR σ27 12016 this) 13) ∧ ∀ w33 : Int64, w33 = (if (am_fI σ27 12008 this) = 0 then (am_fL σ27 13078 ((am_fR σ27 12016 this).getD 0)) else (-9223372036854775808 : Int64)) → F w33 σ27)) ∧ (¬ ((am_fI σ13 12006 this) < (2500 : Int32)) → F (-9223372036854775808 : Int64) σ13)) ∧ (¬ (a14 = true) → F (-9223372036854775808 : Int64) σ13))) ∧ (¬ (a9 = true) → F (-9223372036854775808 : Int64) σ8))) ∧ (¬ (a4 = true) → F (-9223372036854775808 : Int64) σ3))) : k_Rm_owed nl Ln xs (d + 1) this p0 p1 p2 σ F := by
  obtain ⟨j0, j1, j4, j5, j6, j9, j12, j13, j14, j15, j18, j21, j22, j23, j24, j27, j30, j33, j34, j35, j36, j39, j42, j43, j44, j45, j46, j49, j52, j53, j56, j59, j60, j63, j66, j69, j72, j73, j74, j75, j78, j79, j80, j83, j84, j87, j88, j89, j90, j91, j94, j95, j96, j99, j102, j105, j106, j109, j112, j115, j118, j119, j122, j125, -⟩ := P_Rm_owed nl Ln xs
  have elo : am_lo 4 [am_ov (some this), .int p0, .int p1, .int p2] = [some (am_ov (some this)), some (.int p0), some (.int p1), some (.int p2)] := by simp only [am_lo, am_in_ov, am_in_int, am_in_long, am_in_nil]; rfl
  unfold k_Rm_owed
  rw [elo]
  refine s_aload_n j0 rfl rfl ?_
  obtain ⟨ho1, h⟩ := h
  refine s_gfR j1 rfl ho1 ?_
  refine s_iload_n j4 rfl rfl ?_
  refine s_g j5 rfl rfl rfl rfl rfl rfl ?_
  obtain ⟨ho2, h⟩ := h
  refine s_virt j6 rfl rfl rfl rfl ho2 (by decide) (in_Ro_isCase _ _) (am_r8 rfl) (am_bB h (fun a4 σ3 h hx3 => ?_))
  replace h := h hx3
  refine s_ifn j9 rfl rfl am_cb_eq (fun hc5 => ?_) (fun hc5 => ?_)
  · replace h := h.2 hc5
    refine s_ldc2 j69 rfl kc_ll_m9223372036854775808 ?_
    exact s_retL j72 rfl h
  · replace h := h.1 hc5
    refine s_iload_n j12 rfl rfl ?_
    refine s_g j13 rfl rfl rfl rfl rfl rfl ?_
    refine s_aload_n j14 rfl rfl ?_
    refine s_gfR j15 rfl (am_is_ext hx3 ho1) ?_
    obtain ⟨ho6, h⟩ := h
    refine s_gfR j18 rfl ho6 ?_
    refine s_iload_n j21 rfl rfl ?_
    obtain ⟨ho7, h⟩ := h
    refine s_iaload j22 rfl ho7 ?_
    refine s_g j23 rfl rfl rfl rfl rfl rfl ?_
    refine s_ldc2 j24 rfl kc_ll_10949 ?_
    refine s_stat j27 rfl rfl rfl rfl (by decide) (in_Rm_in _ _ _) (am_r8 rfl) (am_bB h (fun a9 σ8 h hx8 => ?_))
    replace h := h hx8
    refine s_ifn j30 rfl rfl am_cb_eq (fun hc10 => ?_) (fun hc10 => ?_)
    · replace h := h.2 hc10
      refine s_ldc2 j69 rfl kc_ll_m9223372036854775808 ?_
      exact s_retL j72 rfl h
    · replace h := h.1 hc10
      refine s_iload_n j33 rfl rfl ?_
      refine s_g j34 rfl rfl rfl rfl rfl rfl ?_
      refine s_aload_n j35 rfl rfl ?_
      refine s_gfR j36 rfl (am_is_ext hx8 (am_is_ext hx3 ho1)) ?_
      obtain ⟨ho11, h⟩ := h
      refine s_gfR j39 rfl ho11 ?_
      refine s_iload_n j42 rfl rfl ?_
      obtain ⟨ho12, h⟩ := h
      refine s_iaload j43 rfl ho12 ?_
      refine s_g j44 rfl rfl rfl rfl rfl rfl ?_
      refine s_aload_n j45 rfl rfl ?_
      refine s_gfR j46 rfl (am_is_ext hx8 (am_is_ext hx3 ho1)) ?_
      refine s_gfI j49 rfl ho11 ?_
      refine s_g j52 rfl rfl rfl rfl rfl rfl ?_
      refine s_stat j53 rfl rfl rfl rfl (by decide) (in_Rm_in _ _ _) (am_r8 rfl) (am_bB h (fun a14 σ13 h hx13 => ?_))
      replace h := h hx13
      refine s_ifn j56 rfl rfl am_cb_eq (fun hc15 => ?_) (fun hc15 => ?_)
      · replace h := h.2 hc15
        refine s_ldc2 j69 rfl kc_ll_m9223372036854775808 ?_
        exact s_retL j72 rfl h
      · replace h := h.1 hc15
        refine s_aload_n j59 rfl rfl ?_
        refine s_gfI j60 rfl (am_is_ext hx13 (am_is_ext hx8 (am_is_ext hx3 ho1))) ?_
        refine s_sipush j63 rfl kc_si_2500 ?_
        refine s_ic j66 rfl rfl am_cc_lt (fun hc16 => ?_) (fun hc16 => ?_)
        · replace h := h.1 hc16
          refine s_aload_n j73 rfl rfl ?_
          refine s_iconst j74 rfl kc_ic_0 ?_
          refine s_pfI j75 rfl (am_is_ext hx13 (am_is_ext hx8 (am_is_ext hx3 ho1))) (fun σ17 e18 => ?_)
          replace h := h σ17 e18
          have ek19 : am_kd σ17 = am_kd σ13 := by rw [e18]
          refine s_aload_n j78 rfl rfl ?_
          refine s_iconst j79 rfl kc_ic_0 ?_
          refine s_pfI j80 rfl (am_is_kd ek19 (am_is_ext hx13 (am_is_ext hx8 (am_is_ext hx3 ho1)))) (fun σ20 e21 => ?_)
          replace h := h σ20 e21
          have ek22 : am_kd σ20 = am_kd σ17 := by rw [e21]
          refine s_aload_n j83 rfl rfl ?_
          refine s_gfR j84 rfl (am_is_kd ek22 (am_is_kd ek19 (am_is_ext hx13 (am_is_ext hx8 (am_is_ext hx3 ho1))))) ?_
          refine s_iload_n j87 rfl rfl ?_
          refine s_iload_n j88 rfl rfl ?_
          refine s_iload_n j89 rfl rfl ?_
          refine s_iconst j90 rfl kc_ic_1 ?_
          obtain ⟨ho23, h⟩ := h
          refine s_virt j91 rfl rfl rfl rfl ho23 (by decide) (in_Ro_work _ _ _ _ _) (am_r8 rfl) (am_bV h (fun σ24 h hx24 => ?_))
          replace h := h hx24
          refine s_aload_n j94 rfl rfl ?_
          refine s_aload_n j95 rfl rfl ?_
          refine s_gfR j96 rfl (am_is_ext hx24 (am_is_kd ek22 (am_is_kd ek19 (am_is_ext hx13 (am_is_ext hx8 (am_is_ext hx3 ho1)))))) ?_
          obtain ⟨ho26, h⟩ := h
          refine s_gfI j99 rfl ho26 ?_
          refine s_pfI j102 rfl (am_is_ext hx24 (am_is_kd ek22 (am_is_kd ek19 (am_is_ext hx13 (am_is_ext hx8 (am_is_ext hx3 ho1)))))) (fun σ27 e28 => ?_)
          replace h := h σ27 e28
          have ek29 : am_kd σ27 = am_kd σ24 := by rw [e28]
          refine s_aload_n j105 rfl rfl ?_
          refine s_gfI j106 rfl (am_is_kd ek29 (am_is_ext hx24 (am_is_kd ek22 (am_is_kd ek19 (am_is_ext hx13 (am_is_ext hx8 (am_is_ext hx3 ho1))))))) ?_
          obtain ⟨ho31, h⟩ := h
          have K32 : ∀ (w33 : Int64), w33 = (if (am_fI σ27 12008 this) = 0 then (am_fL σ27 13078 ((am_fR σ27 12016 this).getD 0)) else (-9223372036854775808 : Int64)) → am_C (TT nl Ln xs) (d + 1) 322 125 [some (am_ov (some this)), some (.int p0), some (.int p1), some (.int p2)] [.long w33] σ27 (am_qL F) := by
            intro w33 hw34
            replace h := h w33 hw34
            exact s_retL j125 rfl h
          refine s_if j109 rfl rfl am_cc_eq (fun hc30 => ?_) (fun hc30 => ?_)
          · refine s_aload_n j118 rfl rfl ?_
            refine s_gfR j119 rfl (am_is_kd ek29 (am_is_ext hx24 (am_is_kd ek22 (am_is_kd ek19 (am_is_ext hx13 (am_is_ext hx8 (am_is_ext hx3 ho1))))))) ?_
            refine s_gfL j122 rfl (ho31 hc30) ?_
            exact K32 _ (am_t1 hc30 rfl)
          · refine s_ldc2 j112 rfl kc_ll_m9223372036854775808 ?_
            refine s_goto j115 rfl rfl ?_
            exact K32 _ (am_t2 hc30 rfl)
        · replace h := h.2 hc16
          refine s_ldc2 j69 rfl kc_ll_m9223372036854775808 ?_
          exact s_retL j72 rfl h
theorem P_Rm_finding (nl : Bool) (Ln : Nat) (xs : Nat → Int32) : am_Jl (TT nl Ln xs) 323 [(0, .aload_n 0, 1, []), (1, .getfield 185, 4, [9, 12, 8, 0]), (4, .ireturn, 5, [1])] := dk_ck (by decide +kernel)
set_option maxRecDepth 4096 in
theorem w_Rm_finding {nl : Bool} {Ln : Nat} {xs : Nat → Int32} {d : Nat} {this : Nat} {σ : am_S} {F : Int32 → am_S → Prop} (h : (am_is σ (some this) 12) ∧ F (am_fI σ 12008 this) σ) : k_Rm_finding nl Ln xs (d + 1) this σ F := by
  obtain ⟨j0, j1, j4, -⟩ := P_Rm_finding nl Ln xs
  have elo : am_lo 1 [am_ov (some this)] = [some (am_ov (some this))] := by simp only [am_lo, am_in_ov, am_in_int, am_in_long, am_in_nil]; rfl
  unfold k_Rm_finding
  rw [elo]
  refine s_aload_n j0 rfl rfl ?_
  obtain ⟨ho1, h⟩ := h
  refine s_gfI j1 rfl ho1 ?_
  exact s_retI j4 rfl h
theorem P_Rm_row (nl : Bool) (Ln : Nat) (xs : Nat → Int32) : am_Jl (TT nl Ln xs) 324 [(0, .iload_n 2, 1, []), (1, .ifCond .lt 8, 4, []), (4, .iload_n 2, 5, []), (5, .iconst 1, 6, []), (6, .if_icmp .le 6, 9, []), (9, .bipush (-2), 11, []), (11, .ireturn, 12, [1]), (12, .iload_n 1, 13, []), (13, .i2l, 14, []), (14, .lconst 0, 15, []), (15, .aload_n 0, 16, []), (16, .getfield 175, 19, [9, 12, 12, 0]), (19, .iconst 1, 20, []), (20, .isub, 21, []), (21, .i2l, 22, []), (22, .invokestatic 154, 25, [12, 209, 6, 3]), (25, .ifCond .ne 7, 28, []), (28, .iconst (-1), 29, []), (29, .goto 22, 32, []), (32, .iload_n 2, 33, []), (33, .ifCond .ne 12, 36, []), (36, .aload_n 0, 37, []), (37, .getfield 20, 40, [9, 12, 9, 2]), (40, .iload_n 1, 41, []), (41, .iaload, 42, []), (42, .goto 9, 45, []), (45, .aload_n 0, 46, []), (46, .getfield 23, 49, [9, 12, 10, 2]), (49, .iload_n 1, 50, []), (50, .iaload, 51, []), (51, .ireturn, 52, [1])] := dk_ck (by decide +kernel)
set_option maxRecDepth 4096 in
theorem w_Rm_row {nl : Bool} {Ln : Nat} {xs : Nat → Int32} {d : Nat} {this : Nat} {p0 : Int32} {p1 : Int32} {σ : am_S} {F : Int32 → am_S → Prop} (h : (p1 < 0 → F (-2 : Int32) σ) ∧ (¬ (p1 < 0) → ((1 : Int32) < p1 → F (-2 : Int32) σ) ∧ (¬ ((1 : Int32) < p1) → (am_is σ (some this) 12) ∧ k_Rm_in nl Ln xs d p0.toInt64 (0 : Int64) (((am_fI σ 12012 this) - (1 : Int32)).toInt64) σ (fun a5 σ4 => am_ext σ σ4 → ((a5 = true) → (p1 = 0) → am_ar σ4 1000 (am_fR σ4 12009 this) p0) ∧ ((a5 = true) → ¬ (p1 = 0) → am_ar σ4 1000 (am_fR σ4 12010 this) p0) ∧ ∀ w11 : Int32, w11 = (if a5 = true then (if p1 = 0 then (am_aI σ4 ((am_fR σ4 12009 this).getD 0) p0.toNatClampNeg) else (am_aI σ4 ((am_fR σ4 12010 this).getD 0) p0.toNatClampNeg)) else (-1 : Int32)) → F w11 σ4)))) : k_Rm_row nl Ln xs (d + 1) this p0 p1 σ F := by
  obtain ⟨j0, j1, j4, j5, j6, j9, j11, j12, j13, j14, j15, j16, j19, j20, j21, j22, j25, j28, j29, j32, j33, j36, j37, j40, j41, j42, j45, j46, j49, j50, j51, -⟩ := P_Rm_row nl Ln xs
  have elo : am_lo 3 [am_ov (some this), .int p0, .int p1] = [some (am_ov (some this)), some (.int p0), some (.int p1)] := by simp only [am_lo, am_in_ov, am_in_int, am_in_long, am_in_nil]; rfl
  unfold k_Rm_row
  rw [elo]
  refine s_iload_n j0 rfl rfl ?_
  refine s_if j1 rfl rfl am_cc_lt (fun hc1 => ?_) (fun hc1 => ?_)
  · replace h := h.1 hc1
    refine s_bipush j9 rfl kc_bi_m2 ?_
    exact s_retI j11 rfl h
  · replace h := h.2 hc1
    refine s_iload_n j4 rfl rfl ?_
    refine s_iconst j5 rfl kc_ic_1 ?_
    refine s_icn j6 rfl rfl am_cc_le (fun hc2 => ?_) (fun hc2 => ?_)
    · replace h := h.2 hc2
      refine s_iload_n j12 rfl rfl ?_
      refine s_g j13 rfl rfl rfl rfl rfl rfl ?_
      refine s_lconst j14 rfl rfl ?_
      refine s_aload_n j15 rfl rfl ?_
      obtain ⟨ho3, h⟩ := h
      refine s_gfI j16 rfl ho3 ?_
      refine s_iconst j19 rfl kc_ic_1 ?_
      refine s_g j20 rfl rfl rfl rfl rfl rfl ?_
      refine s_g j21 rfl rfl rfl rfl rfl rfl ?_
      refine s_stat j22 rfl rfl rfl rfl (by decide) (in_Rm_in _ _ _) (am_r8 rfl) (am_bB h (fun a5 σ4 h hx4 => ?_))
      replace h := h hx4
      obtain ⟨ho8, h⟩ := h
      obtain ⟨ho9, h⟩ := h
      have K10 : ∀ (w11 : Int32), w11 = (if a5 = true then (if p1 = 0 then (am_aI σ4 ((am_fR σ4 12009 this).getD 0) p0.toNatClampNeg) else (am_aI σ4 ((am_fR σ4 12010 this).getD 0) p0.toNatClampNeg)) else (-1 : Int32)) → am_C (TT nl Ln xs) (d + 1) 324 51 [some (am_ov (some this)), some (.int p0), some (.int p1)] [.int w11] σ4 (am_qI F) := by
        intro w11 hw12
        replace h := h w11 hw12
        exact s_retI j51 rfl h
      refine s_if j25 rfl rfl am_cb_ne (fun hc6 => ?_) (fun hc6 => ?_)
      · refine s_iload_n j32 rfl rfl ?_
        refine s_ifn j33 rfl rfl am_cc_ne (fun hc7 => ?_) (fun hc7 => ?_)
        · refine s_aload_n j45 rfl rfl ?_
          refine s_gfR j46 rfl (am_is_ext hx4 ho3) ?_
          refine s_iload_n j49 rfl rfl ?_
          refine s_iaload j50 rfl (ho9 hc6 hc7) ?_
          exact K10 _ (am_t1 hc6 (am_t2 hc7 rfl))
        · refine s_aload_n j36 rfl rfl ?_
          refine s_gfR j37 rfl (am_is_ext hx4 ho3) ?_
          refine s_iload_n j40 rfl rfl ?_
          refine s_iaload j41 rfl (ho8 hc6 hc7) ?_
          refine s_goto j42 rfl rfl ?_
          exact K10 _ (am_t1 hc6 (am_t1 hc7 rfl))
      · refine s_iconst j28 rfl kc_ic_m1 ?_
        refine s_goto j29 rfl rfl ?_
        exact K10 _ (am_t2 hc6 rfl)
    · replace h := h.1 hc2
      refine s_bipush j9 rfl kc_bi_m2 ?_
      exact s_retI j11 rfl h
theorem P_Rm_cents (nl : Bool) (Ln : Nat) (xs : Nat → Int32) : am_Jl (TT nl Ln xs) 325 [(0, .iload_n 1, 1, []), (1, .i2l, 2, []), (2, .lconst 0, 3, []), (3, .aload_n 0, 4, []), (4, .getfield 175, 7, [9, 12, 12, 0]), (7, .iconst 1, 8, []), (8, .isub, 9, []), (9, .i2l, 10, []), (10, .invokestatic 154, 13, [12, 209, 6, 3]), (13, .ifCond .eq 12, 16, []), (16, .aload_n 0, 17, []), (17, .getfield 26, 20, [9, 12, 11, 2]), (20, .iload_n 1, 21, []), (21, .laload, 22, []), (22, .goto 4, 25, []), (25, .lconst 0, 26, []), (26, .lreturn, 27, [2])] := dk_ck (by decide +kernel)
set_option maxRecDepth 4096 in
theorem w_Rm_cents {nl : Bool} {Ln : Nat} {xs : Nat → Int32} {d : Nat} {this : Nat} {p0 : Int32} {σ : am_S} {F : Int64 → am_S → Prop} (h : (am_is σ (some this) 12) ∧ k_Rm_in nl Ln xs d p0.toInt64 (0 : Int64) (((am_fI σ 12012 this) - (1 : Int32)).toInt64) σ (fun a3 σ2 => am_ext σ σ2 → ((a3 = true) → am_ar σ2 1001 (am_fR σ2 12011 this) p0) ∧ ∀ w7 : Int64, w7 = (if a3 = true then (am_aL σ2 ((am_fR σ2 12011 this).getD 0) p0.toNatClampNeg) else (0 : Int64)) → F w7 σ2)) : k_Rm_cents nl Ln xs (d + 1) this p0 σ F := by
  obtain ⟨j0, j1, j2, j3, j4, j7, j8, j9, j10, j13, j16, j17, j20, j21, j22, j25, j26, -⟩ := P_Rm_cents nl Ln xs
  have elo : am_lo 2 [am_ov (some this), .int p0] = [some (am_ov (some this)), some (.int p0)] := by simp only [am_lo, am_in_ov, am_in_int, am_in_long, am_in_nil]; rfl
  unfold k_Rm_cents
  rw [elo]
  refine s_iload_n j0 rfl rfl ?_
  refine s_g j1 rfl rfl rfl rfl rfl rfl ?_
  refine s_lconst j2 rfl rfl ?_
  refine s_aload_n j3 rfl rfl ?_
  obtain ⟨ho1, h⟩ := h
  refine s_gfI j4 rfl ho1 ?_
  refine s_iconst j7 rfl kc_ic_1 ?_
  refine s_g j8 rfl rfl rfl rfl rfl rfl ?_
  refine s_g j9 rfl rfl rfl rfl rfl rfl ?_
  refine s_stat j10 rfl rfl rfl rfl (by decide) (in_Rm_in _ _ _) (am_r8 rfl) (am_bB h (fun a3 σ2 h hx2 => ?_))
  replace h := h hx2
  obtain ⟨ho5, h⟩ := h
  have K6 : ∀ (w7 : Int64), w7 = (if a3 = true then (am_aL σ2 ((am_fR σ2 12011 this).getD 0) p0.toNatClampNeg) else (0 : Int64)) → am_C (TT nl Ln xs) (d + 1) 325 26 [some (am_ov (some this)), some (.int p0)] [.long w7] σ2 (am_qL F) := by
    intro w7 hw8
    replace h := h w7 hw8
    exact s_retL j26 rfl h
  refine s_ifn j13 rfl rfl am_cb_eq (fun hc4 => ?_) (fun hc4 => ?_)
  · refine s_lconst j25 rfl rfl ?_
    exact K6 _ (am_t2 hc4 rfl)
  · refine s_aload_n j16 rfl rfl ?_
    refine s_gfR j17 rfl (am_is_ext hx2 ho1) ?_
    refine s_iload_n j20 rfl rfl ?_
    refine s_laload j21 rfl (ho5 hc4) ?_
    refine s_goto j22 rfl rfl ?_
    exact K6 _ (am_t1 hc4 rfl)
theorem P_Rm_trace (nl : Bool) (Ln : Nat) (xs : Nat → Int32) : am_Jl (TT nl Ln xs) 326 [(0, .iload_n 1, 1, []), (1, .i2l, 2, []), (2, .lconst 0, 3, []), (3, .aload_n 0, 4, []), (4, .getfield 101, 7, [9, 12, 14, 0]), (7, .iconst 1, 8, []), (8, .isub, 9, []), (9, .i2l, 10, []), (10, .invokestatic 154, 13, [12, 209, 6, 3]), (13, .ifCond .eq 12, 16, []), (16, .aload_n 0, 17, []), (17, .getfield 30, 20, [9, 12, 13, 2]), (20, .iload_n 1, 21, []), (21, .iaload, 22, []), (22, .goto 4, 25, []), (25, .iconst (-1), 26, []), (26, .ireturn, 27, [1])] := dk_ck (by decide +kernel)
set_option maxRecDepth 4096 in
theorem w_Rm_trace {nl : Bool} {Ln : Nat} {xs : Nat → Int32} {d : Nat} {this : Nat} {p0 : Int32} {σ : am_S} {F : Int32 → am_S → Prop} (h : (am_is σ (some this) 12) ∧ k_Rm_in nl Ln xs d p0.toInt64 (0 : Int64) (((am_fI σ 12014 this) - (1 : Int32)).toInt64) σ (fun a3 σ2 => am_ext σ σ2 → ((a3 = true) → am_ar σ2 1000 (am_fR σ2 12013 this) p0) ∧ ∀ w7 : Int32, w7 = (if a3 = true then (am_aI σ2 ((am_fR σ2 12013 this).getD 0) p0.toNatClampNeg) else (-1 : Int32)) → F w7 σ2)) : k_Rm_trace nl Ln xs (d + 1) this p0 σ F := by
  obtain ⟨j0, j1, j2, j3, j4, j7, j8, j9, j10, j13, j16, j17, j20, j21, j22, j25, j26, -⟩ := P_Rm_trace nl Ln xs
  have elo : am_lo 2 [am_ov (some this), .int p0] = [some (am_ov (some this)), some (.int p0)] := by simp only [am_lo, am_in_ov, am_in_int, am_in_long, am_in_nil]; rfl
  unfold k_Rm_trace
  rw [elo]
  refine s_iload_n j0 rfl rfl ?_
  refine s_g j1 rfl rfl rfl rfl rfl rfl ?_
  refine s_lconst j2 rfl rfl ?_
  refine s_aload_n j3 rfl rfl ?_
  obtain ⟨ho1, h⟩ := h
  refine s_gfI j4 rfl ho1 ?_
  refine s_iconst j7 rfl kc_ic_1 ?_
  refine s_g j8 rfl rfl rfl rfl rfl rfl ?_
  refine s_g j9 rfl rfl rfl rfl rfl rfl ?_
  refine s_stat j10 rfl rfl rfl rfl (by decide) (in_Rm_in _ _ _) (am_r8 rfl) (am_bB h (fun a3 σ2 h hx2 => ?_))
  replace h := h hx2
  obtain ⟨ho5, h⟩ := h
  have K6 : ∀ (w7 : Int32), w7 = (if a3 = true then (am_aI σ2 ((am_fR σ2 12013 this).getD 0) p0.toNatClampNeg) else (-1 : Int32)) → am_C (TT nl Ln xs) (d + 1) 326 26 [some (am_ov (some this)), some (.int p0)] [.int w7] σ2 (am_qI F) := by
    intro w7 hw8
    replace h := h w7 hw8
    exact s_retI j26 rfl h
  refine s_ifn j13 rfl rfl am_cb_eq (fun hc4 => ?_) (fun hc4 => ?_)
  · refine s_iconst j25 rfl kc_ic_m1 ?_
    exact K6 _ (am_t2 hc4 rfl)
  · refine s_aload_n j16 rfl rfl ?_
    refine s_gfR j17 rfl (am_is_ext hx2 ho1) ?_
    refine s_iload_n j20 rfl rfl ?_
    refine s_iaload j21 rfl (ho5 hc4) ?_
    refine s_goto j22 rfl rfl ?_
    exact K6 _ (am_t1 hc4 rfl)
theorem P_Rm_say (nl : Bool) (Ln : Nat) (xs : Nat → Int32) : am_Jl (TT nl Ln xs) 327 [(0, .aload_n 0, 1, []), (1, .iconst 0, 2, []), (2, .putfield 105, 5, [9, 12, 5, 0]), (5, .iconst 0, 6, []), (6, .istore_n 1, 7, [])] := dk_ck (by decide +kernel)
set_option maxRecDepth 4096 in
theorem w_Rm_say {nl : Bool} {Ln : Nat} {xs : Nat → Int32} {d : Nat} {this : Nat} {σ : am_S} {F : Int32 → am_S → Prop} (h : (am_is σ (some this) 12) ∧ ∀ σ2, σ2 = am_sfI σ 12005 this (0 : Int32) → c_Rm_say_7 nl Ln xs (d + 1) this (0 : Int32) σ2 F) : k_Rm_say nl Ln xs (d + 1) this σ F := by
  obtain ⟨j0, j1, j2, j5, j6, -⟩ := P_Rm_say nl Ln xs
  have elo : am_lo 2 [am_ov (some this)] = [some (am_ov (some this)), none] := by simp only [am_lo, am_in_ov, am_in_int, am_in_long, am_in_nil]; rfl
  unfold k_Rm_say
  rw [elo]
  refine s_aload_n j0 rfl rfl ?_
  refine s_iconst j1 rfl kc_ic_0 ?_
  obtain ⟨ho1, h⟩ := h
  refine s_pfI j2 rfl ho1 (fun σ2 e3 => ?_)
  replace h := h σ2 e3
  have ek4 : am_kd σ2 = am_kd σ := by rw [e3]
  refine s_iconst j5 rfl kc_ic_0 ?_
  refine s_istore_n j6 rfl (n := 2) (L' := [some (am_ov (some this)), some (.int (0 : Int32))]) rfl (by decide) (am_st1_R [] _ _ _ _) ?_
  exact h
theorem P_Rm_say_7 (nl : Bool) (Ln : Nat) (xs : Nat → Int32) : am_Jl (TT nl Ln xs) 327 [(7, .iload_n 1, 8, []), (8, .aload_n 0, 9, []), (9, .getfield 175, 12, [9, 12, 12, 0]), (12, .if_icmp .ge 46, 15, []), (15, .aload_n 0, 16, []), (16, .aload_n 0, 17, []), (17, .getfield 80, 20, [9, 12, 1, 2]), (20, .aload_n 0, 21, []), (21, .getfield 20, 24, [9, 12, 9, 2]), (24, .iload_n 1, 25, []), (25, .iaload, 26, []), (26, .aaload, 27, []), (27, .invokevirtual 126, 30, [10, 328, 13, 3, 2]), (30, .aload_n 0, 31, []), (31, .bipush 32, 33, []), (33, .invokevirtual 116, 36, [10, 329, 13, 2, 2]), (36, .aload_n 0, 37, []), (37, .aload_n 0, 38, []), (38, .getfield 26, 41, [9, 12, 11, 2]), (41, .iload_n 1, 42, []), (42, .laload, 43, []), (43, .invokevirtual 129, 46, [10, 330, 13, 7, 2]), (46, .aload_n 0, 47, []), (47, .bipush 10, 49, []), (49, .invokevirtual 116, 52, [10, 329, 13, 2, 2]), (52, .iinc 1 1, 55, []), (55, .goto (-48), 58, []), (58, .aload_n 0, 59, []), (59, .getfield 105, 62, [9, 12, 5, 0]), (62, .ireturn, 63, [1])] := dk_ck (by decide +kernel)
set_option maxRecDepth 4096 in
theorem w_Rm_say_7 {nl : Bool} {Ln : Nat} {xs : Nat → Int32} {d : Nat} {this : Nat} {x1 : Int32} {σ : am_S} {F : Int32 → am_S → Prop} (h : (am_is σ (some this) 12) ∧ (x1 < (am_fI σ 12012 this) → (am_ar σ 1000 (am_fR σ 12009 this) x1) ∧ (am_ar σ 2500 (am_fR σ 12001 this) (am_aI σ ((am_fR σ 12009 this).getD 0) x1.toNatClampNeg)) ∧ k_Rm_put nl Ln xs d this (am_aR σ ((am_fR σ 12001 this).getD 0) (am_aI σ ((am_fR σ 12009 this).getD 0) x1.toNatClampNeg).toNatClampNeg) σ (fun σ5 => am_ext σ σ5 → k_Rm_put2 nl Ln xs d this (32 : Int32) σ5 (fun σ7 => am_ext σ5 σ7 → (am_ar σ7 1001 (am_fR σ7 12011 this) x1) ∧ k_Rm_putNumber nl Ln xs d this (am_aL σ7 ((am_fR σ7 12011 this).getD 0) x1.toNatClampNeg) σ7 (fun σ10 => am_ext σ7 σ10 → k_Rm_put2 nl Ln xs d this (10 : Int32) σ10 (fun σ12 => am_ext σ10 σ12 → c_Rm_say_7 nl Ln xs (d + 1) this (x1 + (1 : Int32)) σ12 F))))) ∧ (¬ (x1 < (am_fI σ 12012 this)) → F (am_fI σ 12005 this) σ)) : c_Rm_say_7 nl Ln xs (d + 1) this x1 σ F := by
  obtain ⟨j7, j8, j9, j12, j15, j16, j17, j20, j21, j24, j25, j26, j27, j30, j31, j33, j36, j37, j38, j41, j42, j43, j46, j47, j49, j52, j55, j58, j59, j62, -⟩ := P_Rm_say_7 nl Ln xs
  unfold c_Rm_say_7
  refine s_iload_n j7 rfl rfl ?_
  refine s_aload_n j8 rfl rfl ?_
  obtain ⟨ho1, h⟩ := h
  refine s_gfI j9 rfl ho1 ?_
  refine s_icn j12 rfl rfl am_cc_ge (fun hc2 => ?_) (fun hc2 => ?_)
  · replace h := h.2 hc2
    refine s_aload_n j58 rfl rfl ?_
    refine s_gfI j59 rfl ho1 ?_
    exact s_retI j62 rfl h
  · replace h := h.1 hc2
    refine s_aload_n j15 rfl rfl ?_
    refine s_aload_n j16 rfl rfl ?_
    refine s_gfR j17 rfl ho1 ?_
    refine s_aload_n j20 rfl rfl ?_
    refine s_gfR j21 rfl ho1 ?_
    refine s_iload_n j24 rfl rfl ?_
    obtain ⟨ho3, h⟩ := h
    refine s_iaload j25 rfl ho3 ?_
    obtain ⟨ho4, h⟩ := h
    refine s_aaload (k := 2500) (by decide) kq_2500 j26 rfl ho4 ?_
    refine s_virt j27 rfl rfl rfl rfl ho1 (by decide) (in_Rm_put _ _) (am_r8 rfl) (am_bV h (fun σ5 h hx5 => ?_))
    replace h := h hx5
    refine s_aload_n j30 rfl rfl ?_
    refine s_bipush j31 rfl kc_bi_32 ?_
    refine s_virt j33 rfl rfl rfl rfl (am_is_ext hx5 ho1) (by decide) (in_Rm_put2 _ _) (am_r8 rfl) (am_bV h (fun σ7 h hx7 => ?_))
    replace h := h hx7
    refine s_aload_n j36 rfl rfl ?_
    refine s_aload_n j37 rfl rfl ?_
    refine s_gfR j38 rfl (am_is_ext hx7 (am_is_ext hx5 ho1)) ?_
    refine s_iload_n j41 rfl rfl ?_
    obtain ⟨ho9, h⟩ := h
    refine s_laload j42 rfl ho9 ?_
    refine s_virt j43 rfl rfl rfl rfl (am_is_ext hx7 (am_is_ext hx5 ho1)) (by decide) (in_Rm_putNumber _ _) (am_r8 rfl) (am_bV h (fun σ10 h hx10 => ?_))
    replace h := h hx10
    refine s_aload_n j46 rfl rfl ?_
    refine s_bipush j47 rfl kc_bi_10 ?_
    refine s_virt j49 rfl rfl rfl rfl (am_is_ext hx10 (am_is_ext hx7 (am_is_ext hx5 ho1))) (by decide) (in_Rm_put2 _ _) (am_r8 rfl) (am_bV h (fun σ12 h hx12 => ?_))
    replace h := h hx12
    refine s_iinc (L' := [some (am_ov (some this)), some (.int (x1 + (1 : Int32)))]) j52 rfl rfl kc_ic_1 (am_st1_R [] _ _ _ _) ?_
    refine s_goto j55 rfl rfl ?_
    exact h
theorem P_Rm_put (nl : Bool) (Ln : Nat) (xs : Nat → Int32) : am_Jl (TT nl Ln xs) 328 [(0, .iconst 0, 1, []), (1, .istore_n 2, 2, [])] := dk_ck (by decide +kernel)
set_option maxRecDepth 4096 in
theorem w_Rm_put {nl : Bool} {Ln : Nat} {xs : Nat → Int32} {d : Nat} {this : Nat} {p0 : Option Nat} {σ : am_S} {F : am_S → Prop} (h : c_Rm_put_2 nl Ln xs (d + 1) this p0 (0 : Int32) σ F) : k_Rm_put nl Ln xs (d + 1) this p0 σ F := by
  obtain ⟨j0, j1, -⟩ := P_Rm_put nl Ln xs
  have elo : am_lo 3 [am_ov (some this), am_ov p0] = [some (am_ov (some this)), some (am_ov p0), none] := by simp only [am_lo, am_in_ov, am_in_int, am_in_long, am_in_nil]; rfl
  unfold k_Rm_put
  rw [elo]
  refine s_iconst j0 rfl kc_ic_0 ?_
  refine s_istore_n j1 rfl (n := 3) (L' := [some (am_ov (some this)), some (am_ov p0), some (.int (0 : Int32))]) rfl (by decide) (am_st1_R [_] _ _ _ _) ?_
  exact h
theorem P_Rm_put_2 (nl : Bool) (Ln : Nat) (xs : Nat → Int32) : am_Jl (TT nl Ln xs) 328 [(2, .iload_n 2, 3, []), (3, .aload_n 1, 4, []), (4, .invokevirtual 108, 7, [10, 157, 0, 1, 1]), (7, .if_icmp .ge 18, 10, []), (10, .aload_n 0, 11, []), (11, .aload_n 1, 12, []), (12, .iload_n 2, 13, []), (13, .invokevirtual 112, 16, [10, 87, 0, 2, 2]), (16, .invokevirtual 116, 19, [10, 329, 13, 2, 2]), (19, .iinc 2 1, 22, []), (22, .goto (-20), 25, []), (25, .return_, 26, [0])] := dk_ck (by decide +kernel)
set_option maxRecDepth 4096 in
theorem w_Rm_put_2 {nl : Bool} {Ln : Nat} {xs : Nat → Int32} {d : Nat} {this : Nat} {x1 : Option Nat} {x2 : Int32} {σ : am_S} {F : am_S → Prop} (h : (∃ n, x1 = some n) ∧ ((x1.getD 0) < 200 ∧ am_rk (am_tz (TT nl Ln xs)) (x1.getD 0) = 1) ∧ k_Str_length nl Ln xs d (x1.getD 0) σ (fun a4 σ3 => am_ext σ σ3 → (x2 < a4 → (∃ n, x1 = some n) ∧ ((x1.getD 0) < 200 ∧ am_rk (am_tz (TT nl Ln xs)) (x1.getD 0) = 1) ∧ k_Str_charAt nl Ln xs d (x1.getD 0) x2 σ3 (fun a9 σ8 => am_ext σ3 σ8 → (am_is σ8 (some this) 12) ∧ k_Rm_put2 nl Ln xs d this a9 σ8 (fun σ11 => am_ext σ8 σ11 → c_Rm_put_2 nl Ln xs (d + 1) this x1 (x2 + (1 : Int32)) σ11 F))) ∧ (¬ (x2 < a4) → F σ3))) : c_Rm_put_2 nl Ln xs (d + 1) this x1 x2 σ F := by
  obtain ⟨j2, j3, j4, j7, j10, j11, j12, j13, j16, j19, j22, j25, -⟩ := P_Rm_put_2 nl Ln xs
  unfold c_Rm_put_2
  refine s_iload_n j2 rfl rfl ?_
  refine s_aload_n j3 rfl rfl ?_
  obtain ⟨ho2, h⟩ := h
  obtain ⟨ho1, h⟩ := h
  refine s_virtS2 j4 rfl rfl rfl rfl ho2 ho1 (by decide) (in_Str_length _) (am_r8 rfl) (am_bI h (fun a4 σ3 h hx3 => ?_))
  replace h := h hx3
  refine s_icn j7 rfl rfl am_cc_ge (fun hc5 => ?_) (fun hc5 => ?_)
  · replace h := h.2 hc5
    exact s_retV j25 rfl h
  · replace h := h.1 hc5
    refine s_aload_n j10 rfl rfl ?_
    refine s_aload_n j11 rfl rfl ?_
    refine s_iload_n j12 rfl rfl ?_
    obtain ⟨ho7, h⟩ := h
    obtain ⟨ho6, h⟩ := h
    refine s_virtS2 j13 rfl rfl rfl rfl ho7 ho6 (by decide) (in_Str_charAt _ _) (am_r8 rfl) (am_bI h (fun a9 σ8 h hx8 => ?_))
    replace h := h hx8
    obtain ⟨ho10, h⟩ := h
    refine s_virt j16 rfl rfl rfl rfl ho10 (by decide) (in_Rm_put2 _ _) (am_r8 rfl) (am_bV h (fun σ11 h hx11 => ?_))
    replace h := h hx11
    refine s_iinc (L' := [some (am_ov (some this)), some (am_ov x1), some (.int (x2 + (1 : Int32)))]) j19 rfl rfl kc_ic_1 (am_st1_R [_] _ _ _ _) ?_
    refine s_goto j22 rfl rfl ?_
    exact h
theorem P_Rm_put2 (nl : Bool) (Ln : Nat) (xs : Nat → Int32) : am_Jl (TT nl Ln xs) 329 [(0, .aload_n 0, 1, []), (1, .getfield 16, 4, [9, 12, 4, 2]), (4, .aload_n 0, 5, []), (5, .getfield 105, 8, [9, 12, 5, 0]), (8, .iload_n 1, 9, []), (9, .i2b, 10, []), (10, .bastore, 11, []), (11, .aload_n 0, 12, []), (12, .dup, 13, []), (13, .getfield 105, 16, [9, 12, 5, 0]), (16, .iconst 1, 17, []), (17, .iadd, 18, []), (18, .putfield 105, 21, [9, 12, 5, 0]), (21, .return_, 22, [0])] := dk_ck (by decide +kernel)
set_option maxRecDepth 4096 in
theorem w_Rm_put2 {nl : Bool} {Ln : Nat} {xs : Nat → Int32} {d : Nat} {this : Nat} {p0 : Int32} {σ : am_S} {F : am_S → Prop} (h : (am_is σ (some this) 12) ∧ (am_ar σ 1002 (am_fR σ 12004 this) (am_fI σ 12005 this)) ∧ ∀ σ3, σ3 = am_saI σ ((am_fR σ 12004 this).getD 0) (am_fI σ 12005 this).toNatClampNeg (vp_nar .byte p0.toInt8.toInt32) → ∀ σ6, σ6 = am_sfI σ3 12005 this ((am_fI σ3 12005 this) + (1 : Int32)) → F σ6) : k_Rm_put2 nl Ln xs (d + 1) this p0 σ F := by
  obtain ⟨j0, j1, j4, j5, j8, j9, j10, j11, j12, j13, j16, j17, j18, j21, -⟩ := P_Rm_put2 nl Ln xs
  have elo : am_lo 2 [am_ov (some this), .int p0] = [some (am_ov (some this)), some (.int p0)] := by simp only [am_lo, am_in_ov, am_in_int, am_in_long, am_in_nil]; rfl
  unfold k_Rm_put2
  rw [elo]
  refine s_aload_n j0 rfl rfl ?_
  obtain ⟨ho1, h⟩ := h
  refine s_gfR j1 rfl ho1 ?_
  refine s_aload_n j4 rfl rfl ?_
  refine s_gfI j5 rfl ho1 ?_
  refine s_iload_n j8 rfl rfl ?_
  refine s_g j9 rfl rfl rfl rfl rfl rfl ?_
  obtain ⟨ho2, h⟩ := h
  refine s_bastore j10 rfl ho2 (fun σ3 e4 => ?_)
  replace h := h σ3 e4
  have ek5 : am_kd σ3 = am_kd σ := by rw [e4]
  refine s_aload_n j11 rfl rfl ?_
  refine s_dup j12 rfl (am_cov _) ?_
  refine s_gfI j13 rfl (am_is_kd ek5 ho1) ?_
  refine s_iconst j16 rfl kc_ic_1 ?_
  refine s_g j17 rfl rfl rfl rfl rfl rfl ?_
  refine s_pfI j18 rfl (am_is_kd ek5 ho1) (fun σ6 e7 => ?_)
  replace h := h σ6 e7
  have ek8 : am_kd σ6 = am_kd σ3 := by rw [e7]
  exact s_retV j21 rfl h
theorem P_Rm_putNumber (nl : Bool) (Ln : Nat) (xs : Nat → Int32) : am_Jl (TT nl Ln xs) 330 [(0, .lload_n 1, 1, []), (1, .lconst 0, 2, []), (2, .lcmp, 3, []), (3, .ifCond .ge 9, 6, []), (6, .aload_n 0, 7, []), (7, .bipush 45, 9, []), (9, .invokevirtual 116, 12, [10, 329, 13, 2, 2]), (12, .lload_n 1, 13, []), (13, .lconst 0, 14, []), (14, .lcmp, 15, []), (15, .ifCond .ge 8, 18, []), (18, .lload_n 1, 19, []), (19, .lneg, 20, []), (20, .goto 4, 23, []), (23, .lload_n 1, 24, []), (24, .lstore_n 3, 25, []), (25, .lconst 1, 26, []), (26, .lstore 5, 28, [])] := dk_ck (by decide +kernel)
set_option maxRecDepth 4096 in
theorem w_Rm_putNumber {nl : Bool} {Ln : Nat} {xs : Nat → Int32} {d : Nat} {this : Nat} {p0 : Int64} {σ : am_S} {F : am_S → Prop} (h : (p0 < (0 : Int64) → (am_is σ (some this) 12) ∧ k_Rm_put2 nl Ln xs d this (45 : Int32) σ (fun σ3 => am_ext σ σ3 → ∀ w7 : Int64, w7 = (if p0 < (0 : Int64) then (-p0) else p0) → c_Rm_putNumber_28 nl Ln xs (d + 1) this p0 w7 (1 : Int64) σ3 F)) ∧ (¬ (p0 < (0 : Int64)) → ∀ w11 : Int64, w11 = (if p0 < (0 : Int64) then (-p0) else p0) → c_Rm_putNumber_28 nl Ln xs (d + 1) this p0 w11 (1 : Int64) σ F)) : k_Rm_putNumber nl Ln xs (d + 1) this p0 σ F := by
  obtain ⟨j0, j1, j2, j3, j6, j7, j9, j12, j13, j14, j15, j18, j19, j20, j23, j24, j25, j26, -⟩ := P_Rm_putNumber nl Ln xs
  have elo : am_lo 7 [am_ov (some this), .long p0] = [some (am_ov (some this)), some (.long p0), none, none, none, none, none] := by simp only [am_lo, am_in_ov, am_in_int, am_in_long, am_in_nil]; rfl
  unfold k_Rm_putNumber
  rw [elo]
  refine s_lload_n j0 rfl rfl ?_
  refine s_lconst j1 rfl rfl ?_
  refine s_g j2 rfl rfl rfl rfl rfl rfl ?_
  refine s_ifn j3 rfl rfl am_cl_ge (fun hc1 => ?_) (fun hc1 => ?_)
  · replace h := h.2 hc1
    refine s_lload_n j12 rfl rfl ?_
    refine s_lconst j13 rfl rfl ?_
    refine s_g j14 rfl rfl rfl rfl rfl rfl ?_
    have K10 : ∀ (w11 : Int64), w11 = (if p0 < (0 : Int64) then (-p0) else p0) → am_C (TT nl Ln xs) (d + 1) 330 24 [some (am_ov (some this)), some (.long p0), none, none, none, none, none] [.long w11] σ (am_qV F) := by
      intro w11 hw12
      replace h := h w11 hw12
      refine s_lstore_n j24 rfl (n := 7) (L' := [some (am_ov (some this)), some (.long p0), none, some (.long w11), none, none, none]) rfl (by decide) rfl ?_
      refine s_lconst j25 rfl rfl ?_
      refine s_lstore j26 rfl (n := 7) (L' := [some (am_ov (some this)), some (.long p0), none, some (.long w11), none, some (.long (1 : Int64)), none]) rfl (by decide) rfl ?_
      exact h
    refine s_ifn j15 rfl rfl am_cl_ge (fun hc9 => ?_) (fun hc9 => ?_)
    · refine s_lload_n j23 rfl rfl ?_
      exact K10 _ (am_t2 hc9 rfl)
    · refine s_lload_n j18 rfl rfl ?_
      refine s_g j19 rfl rfl rfl rfl rfl rfl ?_
      refine s_goto j20 rfl rfl ?_
      exact K10 _ (am_t1 hc9 rfl)
  · replace h := h.1 hc1
    refine s_aload_n j6 rfl rfl ?_
    refine s_bipush j7 rfl kc_bi_45 ?_
    obtain ⟨ho2, h⟩ := h
    refine s_virt j9 rfl rfl rfl rfl ho2 (by decide) (in_Rm_put2 _ _) (am_r8 rfl) (am_bV h (fun σ3 h hx3 => ?_))
    replace h := h hx3
    refine s_lload_n j12 rfl rfl ?_
    refine s_lconst j13 rfl rfl ?_
    refine s_g j14 rfl rfl rfl rfl rfl rfl ?_
    have K6 : ∀ (w7 : Int64), w7 = (if p0 < (0 : Int64) then (-p0) else p0) → am_C (TT nl Ln xs) (d + 1) 330 24 [some (am_ov (some this)), some (.long p0), none, none, none, none, none] [.long w7] σ3 (am_qV F) := by
      intro w7 hw8
      replace h := h w7 hw8
      refine s_lstore_n j24 rfl (n := 7) (L' := [some (am_ov (some this)), some (.long p0), none, some (.long w7), none, none, none]) rfl (by decide) rfl ?_
      refine s_lconst j25 rfl rfl ?_
      refine s_lstore j26 rfl (n := 7) (L' := [some (am_ov (some this)), some (.long p0), none, some (.long w7), none, some (.long (1 : Int64)), none]) rfl (by decide) rfl ?_
      exact h
    refine s_ifn j15 rfl rfl am_cl_ge (fun hc5 => ?_) (fun hc5 => ?_)
    · refine s_lload_n j23 rfl rfl ?_
      exact K6 _ (am_t2 hc5 rfl)
    · refine s_lload_n j18 rfl rfl ?_
      refine s_g j19 rfl rfl rfl rfl rfl rfl ?_
      refine s_goto j20 rfl rfl ?_
      exact K6 _ (am_t1 hc5 rfl)
theorem P_Rm_putNumber_28 (nl : Bool) (Ln : Nat) (xs : Nat → Int32) : am_Jl (TT nl Ln xs) 330 [(28, .lload_n 3, 29, []), (29, .lload 5, 31, []), (31, .ldiv, 32, []), (32, .ldc2_w 120, 35, [6, 9]), (35, .lcmp, 36, []), (36, .ifCond .le 14, 39, []), (39, .lload 5, 41, []), (41, .ldc2_w 122, 44, [6, 10]), (44, .lmul, 45, []), (45, .lstore 5, 47, []), (47, .goto (-19), 50, [])] := dk_ck (by decide +kernel)
set_option maxRecDepth 4096 in
theorem w_Rm_putNumber_28 {nl : Bool} {Ln : Nat} {xs : Nat → Int32} {d : Nat} {this : Nat} {x1 : Int64} {x3 : Int64} {x5 : Int64} {σ : am_S} {F : am_S → Prop} (h : (x5 ≠ 0) ∧ ((9 : Int64) < (x3 / x5) → ∀ v3 : Int64, v3 = (x5 * (10 : Int64)) → c_Rm_putNumber_28 nl Ln xs (d + 1) this x1 x3 v3 σ F) ∧ (¬ ((9 : Int64) < (x3 / x5)) → c_Rm_putNumber_50 nl Ln xs (d + 1) this x1 x3 x5 σ F)) : c_Rm_putNumber_28 nl Ln xs (d + 1) this x1 x3 x5 σ F := by
  obtain ⟨j28, j29, j31, j32, j35, j36, j39, j41, j44, j45, j47, -⟩ := P_Rm_putNumber_28 nl Ln xs
  unfold c_Rm_putNumber_28
  refine s_lload_n j28 rfl rfl ?_
  refine s_lload j29 rfl rfl ?_
  obtain ⟨ho1, h⟩ := h
  refine s_ldiv j31 rfl ho1 ?_
  refine s_ldc2 j32 rfl kc_ll_9 ?_
  refine s_g j35 rfl rfl rfl rfl rfl rfl ?_
  refine s_ifn j36 rfl rfl am_cl_le (fun hc2 => ?_) (fun hc2 => ?_)
  · replace h := h.2 hc2
    exact h
  · replace h := h.1 hc2
    refine s_lload j39 rfl rfl ?_
    refine s_ldc2 j41 rfl kc_ll_10 ?_
    refine s_g j44 rfl rfl rfl rfl rfl rfl ?_
    refine s_lstoreV j45 rfl (n := 7) (L' := fun w => [some (am_ov (some this)), some (.long x1), none, some (.long x3), none, some (.long w), none]) rfl (by decide) (fun _ => rfl) (fun v3 hv4 => ?_)
    replace h := h v3 hv4
    refine s_goto j47 rfl rfl ?_
    exact h
theorem P_Rm_putNumber_50 (nl : Bool) (Ln : Nat) (xs : Nat → Int32) : am_Jl (TT nl Ln xs) 330 [(50, .lload 5, 52, []), (52, .lconst 0, 53, []), (53, .lcmp, 54, []), (54, .ifCond .le 31, 57, []), (57, .aload_n 0, 58, []), (58, .ldc2_w 124, 61, [6, 48]), (61, .lload_n 3, 62, []), (62, .lload 5, 64, []), (64, .ldiv, 65, []), (65, .ldc2_w 122, 68, [6, 10]), (68, .lrem, 69, []), (69, .ladd, 70, []), (70, .l2i, 71, []), (71, .invokevirtual 116, 74, [10, 329, 13, 2, 2]), (74, .lload 5, 76, []), (76, .ldc2_w 122, 79, [6, 10]), (79, .ldiv, 80, []), (80, .lstore 5, 82, []), (82, .goto (-32), 85, []), (85, .return_, 86, [0])] := dk_ck (by decide +kernel)
set_option maxRecDepth 4096 in
theorem w_Rm_putNumber_50 {nl : Bool} {Ln : Nat} {xs : Nat → Int32} {d : Nat} {this : Nat} {x1 : Int64} {x3 : Int64} {x5 : Int64} {σ : am_S} {F : am_S → Prop} (h : ((0 : Int64) < x5 → (x5 ≠ 0) ∧ (am_is σ (some this) 12) ∧ k_Rm_put2 nl Ln xs d this (((48 : Int64) + ((x3 / x5) - (x3 / x5) / (10 : Int64) * (10 : Int64))).toInt32) σ (fun σ4 => am_ext σ σ4 → ∀ v6 : Int64, v6 = (x5 / (10 : Int64)) → c_Rm_putNumber_50 nl Ln xs (d + 1) this x1 x3 v6 σ4 F)) ∧ (¬ ((0 : Int64) < x5) → F σ)) : c_Rm_putNumber_50 nl Ln xs (d + 1) this x1 x3 x5 σ F := by
  obtain ⟨j50, j52, j53, j54, j57, j58, j61, j62, j64, j65, j68, j69, j70, j71, j74, j76, j79, j80, j82, j85, -⟩ := P_Rm_putNumber_50 nl Ln xs
  unfold c_Rm_putNumber_50
  refine s_lload j50 rfl rfl ?_
  refine s_lconst j52 rfl rfl ?_
  refine s_g j53 rfl rfl rfl rfl rfl rfl ?_
  refine s_ifn j54 rfl rfl am_cl_le (fun hc1 => ?_) (fun hc1 => ?_)
  · replace h := h.2 hc1
    exact s_retV j85 rfl h
  · replace h := h.1 hc1
    refine s_aload_n j57 rfl rfl ?_
    refine s_ldc2 j58 rfl kc_ll_48 ?_
    refine s_lload_n j61 rfl rfl ?_
    refine s_lload j62 rfl rfl ?_
    obtain ⟨ho2, h⟩ := h
    refine s_ldiv j64 rfl ho2 ?_
    refine s_ldc2 j65 rfl kc_ll_10 ?_
    refine s_lrem j68 rfl (by decide) ?_
    refine s_g j69 rfl rfl rfl rfl rfl rfl ?_
    refine s_g j70 rfl rfl rfl rfl rfl rfl ?_
    obtain ⟨ho3, h⟩ := h
    refine s_virt j71 rfl rfl rfl rfl ho3 (by decide) (in_Rm_put2 _ _) (am_r8 rfl) (am_bV h (fun σ4 h hx4 => ?_))
    replace h := h hx4
    refine s_lload j74 rfl rfl ?_
    refine s_ldc2 j76 rfl kc_ll_10 ?_
    refine s_ldiv j79 rfl (by decide) ?_
    refine s_lstoreV j80 rfl (n := 7) (L' := fun w => [some (am_ov (some this)), some (.long x1), none, some (.long x3), none, some (.long w), none]) rfl (by decide) (fun _ => rfl) (fun v6 hv7 => ?_)
    replace h := h v6 hv7
    refine s_goto j82 rfl rfl ?_
    exact h
theorem P_Rm_tell (nl : Bool) (Ln : Nat) (xs : Nat → Int32) : am_Jl (TT nl Ln xs) 331 [(0, .aload_n 0, 1, []), (1, .getfield 88, 4, [9, 12, 16, 2]), (4, .iload_n 1, 5, []), (5, .i2l, 6, []), (6, .invokevirtual 253, 9, [10, 271, 14, 3, 2]), (9, .ifCond .eq 11, 12, []), (12, .aload_n 0, 13, []), (13, .iload_n 2, 14, []), (14, .invokevirtual 256, 17, [10, 332, 13, 2, 2]), (17, .ifCond .ne 6, 20, []), (20, .bipush (-2), 22, []), (22, .ireturn, 23, [1]), (23, .aload_n 0, 24, []), (24, .iconst 0, 25, []), (25, .putfield 105, 28, [9, 12, 5, 0]), (28, .aload_n 0, 29, []), (29, .getfield 88, 32, [9, 12, 16, 2]), (32, .iload_n 1, 33, []), (33, .iload_n 2, 34, []), (34, .invokevirtual 260, 37, [10, 222, 14, 5, 3]), (37, .istore_n 3, 38, []), (38, .iload_n 3, 39, []), (39, .iconst (-1), 40, []), (40, .if_icmp .ne 7, 43, []), (43, .iconst 0, 44, []), (44, .goto 12, 47, []), (47, .aload_n 0, 48, []), (48, .getfield 88, 51, [9, 12, 16, 2]), (51, .getfield 264, 54, [9, 13, 27, 2]), (54, .iload_n 3, 55, []), (55, .iaload, 56, []), (56, .istore 4, 58, [])] := dk_ck (by decide +kernel)
set_option maxRecDepth 4096 in
theorem w_Rm_tell {nl : Bool} {Ln : Nat} {xs : Nat → Int32} {d : Nat} {this : Nat} {p0 : Int32} {p1 : Int32} {σ : am_S} {F : Int32 → am_S → Prop} (h : (am_is σ (some this) 12) ∧ (am_is σ (am_fR σ 12016 this) 13) ∧ k_Ro_isCover nl Ln xs d ((am_fR σ 12016 this).getD 0) p0.toInt64 σ (fun a4 σ3 => am_ext σ σ3 → (a4 = true → k_Rm_isMoment nl Ln xs d this p1 σ3 (fun a7 σ6 => am_ext σ3 σ6 → (a7 = true → ∀ σ9, σ9 = am_sfI σ6 12005 this (0 : Int32) → (am_is σ9 (am_fR σ9 12016 this) 13) ∧ k_Ro_setOf nl Ln xs d ((am_fR σ9 12016 this).getD 0) p0 p1 σ9 (fun a14 σ13 => am_ext σ9 σ13 → (¬ (a14 = (-1 : Int32)) → am_is σ13 (am_fR σ13 12016 this) 13) ∧ (¬ (a14 = (-1 : Int32)) → am_ar σ13 1000 (am_fR σ13 13027 ((am_fR σ13 12016 this).getD 0)) a14) ∧ ∀ w19 : Int32, w19 = (if a14 = (-1 : Int32) then (0 : Int32) else (am_aI σ13 ((am_fR σ13 13027 ((am_fR σ13 12016 this).getD 0)).getD 0) a14.toNatClampNeg)) → c_Rm_tell_58 nl Ln xs (d + 1) this p0 p1 a14 w19 σ13 F)) ∧ (¬ (a7 = true) → F (-2 : Int32) σ6))) ∧ (¬ (a4 = true) → F (-2 : Int32) σ3))) : k_Rm_tell nl Ln xs (d + 1) this p0 p1 σ F := by
  obtain ⟨j0, j1, j4, j5, j6, j9, j12, j13, j14, j17, j20, j22, j23, j24, j25, j28, j29, j32, j33, j34, j37, j38, j39, j40, j43, j44, j47, j48, j51, j54, j55, j56, -⟩ := P_Rm_tell nl Ln xs
  have elo : am_lo 5 [am_ov (some this), .int p0, .int p1] = [some (am_ov (some this)), some (.int p0), some (.int p1), none, none] := by simp only [am_lo, am_in_ov, am_in_int, am_in_long, am_in_nil]; rfl
  unfold k_Rm_tell
  rw [elo]
  refine s_aload_n j0 rfl rfl ?_
  obtain ⟨ho1, h⟩ := h
  refine s_gfR j1 rfl ho1 ?_
  refine s_iload_n j4 rfl rfl ?_
  refine s_g j5 rfl rfl rfl rfl rfl rfl ?_
  obtain ⟨ho2, h⟩ := h
  refine s_virt j6 rfl rfl rfl rfl ho2 (by decide) (in_Ro_isCover _ _) (am_r8 rfl) (am_bB h (fun a4 σ3 h hx3 => ?_))
  replace h := h hx3
  refine s_ifn j9 rfl rfl am_cb_eq (fun hc5 => ?_) (fun hc5 => ?_)
  · replace h := h.2 hc5
    refine s_bipush j20 rfl kc_bi_m2 ?_
    exact s_retI j22 rfl h
  · replace h := h.1 hc5
    refine s_aload_n j12 rfl rfl ?_
    refine s_iload_n j13 rfl rfl ?_
    refine s_virt j14 rfl rfl rfl rfl (am_is_ext hx3 ho1) (by decide) (in_Rm_isMoment _ _) (am_r8 rfl) (am_bB h (fun a7 σ6 h hx6 => ?_))
    replace h := h hx6
    refine s_if j17 rfl rfl am_cb_ne (fun hc8 => ?_) (fun hc8 => ?_)
    · replace h := h.1 hc8
      refine s_aload_n j23 rfl rfl ?_
      refine s_iconst j24 rfl kc_ic_0 ?_
      refine s_pfI j25 rfl (am_is_ext hx6 (am_is_ext hx3 ho1)) (fun σ9 e10 => ?_)
      replace h := h σ9 e10
      have ek11 : am_kd σ9 = am_kd σ6 := by rw [e10]
      refine s_aload_n j28 rfl rfl ?_
      refine s_gfR j29 rfl (am_is_kd ek11 (am_is_ext hx6 (am_is_ext hx3 ho1))) ?_
      refine s_iload_n j32 rfl rfl ?_
      refine s_iload_n j33 rfl rfl ?_
      obtain ⟨ho12, h⟩ := h
      refine s_virt j34 rfl rfl rfl rfl ho12 (by decide) (in_Ro_setOf _ _ _) (am_r8 rfl) (am_bI h (fun a14 σ13 h hx13 => ?_))
      replace h := h hx13
      refine s_istore_n j37 rfl (n := 5) (L' := [some (am_ov (some this)), some (.int p0), some (.int p1), some (.int a14), none]) rfl (by decide) rfl ?_
      refine s_iload_n j38 rfl rfl ?_
      refine s_iconst j39 rfl kc_ic_m1 ?_
      obtain ⟨ho16, h⟩ := h
      obtain ⟨ho17, h⟩ := h
      have K18 : ∀ (w19 : Int32), w19 = (if a14 = (-1 : Int32) then (0 : Int32) else (am_aI σ13 ((am_fR σ13 13027 ((am_fR σ13 12016 this).getD 0)).getD 0) a14.toNatClampNeg)) → am_C (TT nl Ln xs) (d + 1) 331 56 [some (am_ov (some this)), some (.int p0), some (.int p1), some (.int a14), none] [.int w19] σ13 (am_qI F) := by
        intro w19 hw20
        replace h := h w19 hw20
        refine s_istore j56 rfl (n := 5) (L' := [some (am_ov (some this)), some (.int p0), some (.int p1), some (.int a14), some (.int w19)]) rfl (by decide) rfl ?_
        exact h
      refine s_icn j40 rfl rfl am_cc_ne (fun hc15 => ?_) (fun hc15 => ?_)
      · refine s_aload_n j47 rfl rfl ?_
        refine s_gfR j48 rfl (am_is_ext hx13 (am_is_kd ek11 (am_is_ext hx6 (am_is_ext hx3 ho1)))) ?_
        refine s_gfR j51 rfl (ho16 hc15) ?_
        refine s_iload_n j54 rfl rfl ?_
        refine s_iaload j55 rfl (ho17 hc15) ?_
        exact K18 _ (am_t2 hc15 rfl)
      · refine s_iconst j43 rfl kc_ic_0 ?_
        refine s_goto j44 rfl rfl ?_
        exact K18 _ (am_t1 hc15 rfl)
    · replace h := h.2 hc8
      refine s_bipush j20 rfl kc_bi_m2 ?_
      exact s_retI j22 rfl h
theorem P_Rm_tell_58 (nl : Bool) (Ln : Nat) (xs : Nat → Int32) : am_Jl (TT nl Ln xs) 331 [(58, .iload_n 3, 59, []), (59, .iconst (-1), 60, []), (60, .if_icmp .eq 31, 63, []), (63, .iload 4, 65, []), (65, .aload_n 0, 66, []), (66, .getfield 88, 69, [9, 12, 16, 2]), (69, .getfield 264, 72, [9, 13, 27, 2]), (72, .iload_n 3, 73, []), (73, .iconst 1, 74, []), (74, .iadd, 75, []), (75, .iaload, 76, []), (76, .if_icmp .ge 15, 79, []), (79, .aload_n 0, 80, []), (80, .iload 4, 82, []), (82, .invokevirtual 267, 85, [10, 333, 13, 3, 2]), (85, .iinc 4 1, 88, []), (88, .goto (-30), 91, []), (91, .aload_n 0, 92, []), (92, .getfield 105, 95, [9, 12, 5, 0]), (95, .ireturn, 96, [1])] := dk_ck (by decide +kernel)
set_option maxRecDepth 4096 in
theorem w_Rm_tell_58 {nl : Bool} {Ln : Nat} {xs : Nat → Int32} {d : Nat} {this : Nat} {x1 : Int32} {x2 : Int32} {x3 : Int32} {x4 : Int32} {σ : am_S} {F : Int32 → am_S → Prop} (h : (x3 = (-1 : Int32) → (am_is σ (some this) 12) ∧ F (am_fI σ 12005 this) σ) ∧ (¬ (x3 = (-1 : Int32)) → (am_is σ (some this) 12) ∧ (am_is σ (am_fR σ 12016 this) 13) ∧ (am_ar σ 1000 (am_fR σ 13027 ((am_fR σ 12016 this).getD 0)) (x3 + (1 : Int32))) ∧ (x4 < (am_aI σ ((am_fR σ 13027 ((am_fR σ 12016 this).getD 0)).getD 0) (x3 + (1 : Int32)).toNatClampNeg) → k_Rm_putClause nl Ln xs d this x4 σ (fun σ7 => am_ext σ σ7 → c_Rm_tell_58 nl Ln xs (d + 1) this x1 x2 x3 (x4 + (1 : Int32)) σ7 F)) ∧ (¬ (x4 < (am_aI σ ((am_fR σ 13027 ((am_fR σ 12016 this).getD 0)).getD 0) (x3 + (1 : Int32)).toNatClampNeg)) → F (am_fI σ 12005 this) σ))) : c_Rm_tell_58 nl Ln xs (d + 1) this x1 x2 x3 x4 σ F := by
  obtain ⟨j58, j59, j60, j63, j65, j66, j69, j72, j73, j74, j75, j76, j79, j80, j82, j85, j88, j91, j92, j95, -⟩ := P_Rm_tell_58 nl Ln xs
  unfold c_Rm_tell_58
  refine s_iload_n j58 rfl rfl ?_
  refine s_iconst j59 rfl kc_ic_m1 ?_
  refine s_ic j60 rfl rfl am_cc_eq (fun hc1 => ?_) (fun hc1 => ?_)
  · replace h := h.1 hc1
    refine s_aload_n j91 rfl rfl ?_
    obtain ⟨ho2, h⟩ := h
    refine s_gfI j92 rfl ho2 ?_
    exact s_retI j95 rfl h
  · replace h := h.2 hc1
    refine s_iload j63 rfl rfl ?_
    refine s_aload_n j65 rfl rfl ?_
    obtain ⟨ho3, h⟩ := h
    refine s_gfR j66 rfl ho3 ?_
    obtain ⟨ho4, h⟩ := h
    refine s_gfR j69 rfl ho4 ?_
    refine s_iload_n j72 rfl rfl ?_
    refine s_iconst j73 rfl kc_ic_1 ?_
    refine s_g j74 rfl rfl rfl rfl rfl rfl ?_
    obtain ⟨ho5, h⟩ := h
    refine s_iaload j75 rfl ho5 ?_
    refine s_icn j76 rfl rfl am_cc_ge (fun hc6 => ?_) (fun hc6 => ?_)
    · replace h := h.2 hc6
      refine s_aload_n j91 rfl rfl ?_
      refine s_gfI j92 rfl ho3 ?_
      exact s_retI j95 rfl h
    · replace h := h.1 hc6
      refine s_aload_n j79 rfl rfl ?_
      refine s_iload j80 rfl rfl ?_
      refine s_virt j82 rfl rfl rfl rfl ho3 (by decide) (in_Rm_putClause _ _) (am_r8 rfl) (am_bV h (fun σ7 h hx7 => ?_))
      replace h := h hx7
      refine s_iinc (L' := [some (am_ov (some this)), some (.int x1), some (.int x2), some (.int x3), some (.int (x4 + (1 : Int32)))]) j85 rfl rfl kc_ic_1 rfl ?_
      refine s_goto j88 rfl rfl ?_
      exact h
theorem P_Rm_isMoment (nl : Bool) (Ln : Nat) (xs : Nat → Int32) : am_Jl (TT nl Ln xs) 332 [(0, .iload_n 1, 1, []), (1, .i2l, 2, []), (2, .lconst 0, 3, []), (3, .aload_n 0, 4, []), (4, .getfield 88, 7, [9, 12, 16, 2]), (7, .getfield 151, 10, [9, 13, 0, 0]), (10, .i2l, 11, []), (11, .invokestatic 154, 14, [12, 209, 6, 3]), (14, .ireturn, 15, [4])] := dk_ck (by decide +kernel)
set_option maxRecDepth 4096 in
theorem w_Rm_isMoment {nl : Bool} {Ln : Nat} {xs : Nat → Int32} {d : Nat} {this : Nat} {p0 : Int32} {σ : am_S} {F : Bool → am_S → Prop} (h : (am_is σ (some this) 12) ∧ (am_is σ (am_fR σ 12016 this) 13) ∧ k_Rm_in nl Ln xs d p0.toInt64 (0 : Int64) ((am_fI σ 13000 ((am_fR σ 12016 this).getD 0)).toInt64) σ (fun a4 σ3 => am_ext σ σ3 → F (decide (a4 = true)) σ3)) : k_Rm_isMoment nl Ln xs (d + 1) this p0 σ F := by
  obtain ⟨j0, j1, j2, j3, j4, j7, j10, j11, j14, -⟩ := P_Rm_isMoment nl Ln xs
  have elo : am_lo 2 [am_ov (some this), .int p0] = [some (am_ov (some this)), some (.int p0)] := by simp only [am_lo, am_in_ov, am_in_int, am_in_long, am_in_nil]; rfl
  unfold k_Rm_isMoment
  rw [elo]
  refine s_iload_n j0 rfl rfl ?_
  refine s_g j1 rfl rfl rfl rfl rfl rfl ?_
  refine s_lconst j2 rfl rfl ?_
  refine s_aload_n j3 rfl rfl ?_
  obtain ⟨ho1, h⟩ := h
  refine s_gfR j4 rfl ho1 ?_
  obtain ⟨ho2, h⟩ := h
  refine s_gfI j7 rfl ho2 ?_
  refine s_g j10 rfl rfl rfl rfl rfl rfl ?_
  refine s_stat j11 rfl rfl rfl rfl (by decide) (in_Rm_in _ _ _) (am_r8 rfl) (am_bB h (fun a4 σ3 h hx3 => ?_))
  replace h := h hx3
  exact s_retZ j14 rfl h
theorem P_Rm_putClause (nl : Bool) (Ln : Nat) (xs : Nat → Int32) : am_Jl (TT nl Ln xs) 333 [(0, .aload_n 0, 1, []), (1, .getfield 88, 4, [9, 12, 16, 2]), (4, .getfield 231, 7, [9, 13, 28, 2]), (7, .iload_n 1, 8, []), (8, .iaload, 9, []), (9, .istore_n 2, 10, []), (10, .iload_n 2, 11, []), (11, .iconst 1, 12, []), (12, .if_icmp .gt 72, 15, []), (15, .aload_n 0, 16, []), (16, .iload_n 2, 17, []), (17, .ifCond .ne 8, 20, []), (20, .ldc 234, 22, [5, 21]), (22, .goto 5, 25, []), (25, .ldc 56, 27, [5, 9]), (84, .iload_n 2, 85, []), (85, .bipush 8, 87, []), (87, .if_icmp .ne 12, 90, []), (90, .aload_n 0, 91, []), (91, .ldc 60, 93, [5, 11]), (93, .invokevirtual 200, 96, [10, 334, 13, 4, 2]), (96, .goto 130, 99, []), (99, .iload_n 2, 100, []), (100, .bipush 10, 102, []), (102, .if_icmp .eq 9, 105, []), (105, .iload_n 2, 106, []), (106, .bipush 11, 108, []), (108, .if_icmp .ne 29, 111, []), (137, .iload_n 2, 138, []), (138, .iconst 5, 139, []), (139, .if_icmp .eq 9, 142, []), (142, .iload_n 2, 143, []), (143, .bipush 6, 145, []), (145, .if_icmp .ne 9, 148, [])] := dk_ck (by decide +kernel)
set_option maxRecDepth 4096 in
theorem w_Rm_putClause {nl : Bool} {Ln : Nat} {xs : Nat → Int32} {d : Nat} {this : Nat} {p0 : Int32} {σ : am_S} {F : am_S → Prop} (h : (am_is σ (some this) 12) ∧ (am_is σ (am_fR σ 12016 this) 13) ∧ (am_ar σ 1000 (am_fR σ 13028 ((am_fR σ 12016 this).getD 0)) p0) ∧ ∀ v4 : Int32, v4 = (am_aI σ ((am_fR σ 13028 ((am_fR σ 12016 this).getD 0)).getD 0) p0.toNatClampNeg) → ((1 : Int32) < v4 → (v4 = (8 : Int32) → k_Rm_putToken nl Ln xs d this (some 11) σ (fun σ8 => am_ext σ σ8 → c_Rm_putClause_226 nl Ln xs (d + 1) this p0 v4 σ8 F)) ∧ (¬ (v4 = (8 : Int32)) → (v4 = (10 : Int32) → c_Rm_putClause_111 nl Ln xs (d + 1) this p0 v4 σ F) ∧ (¬ (v4 = (10 : Int32)) → (v4 = (11 : Int32) → c_Rm_putClause_111 nl Ln xs (d + 1) this p0 v4 σ F) ∧ (¬ (v4 = (11 : Int32)) → (v4 = (5 : Int32) → c_Rm_putClause_148 nl Ln xs (d + 1) this p0 v4 σ F) ∧ (¬ (v4 = (5 : Int32)) → (v4 = (6 : Int32) → c_Rm_putClause_148 nl Ln xs (d + 1) this p0 v4 σ F) ∧ (¬ (v4 = (6 : Int32)) → c_Rm_putClause_154 nl Ln xs (d + 1) this p0 v4 σ F)))))) ∧ (¬ ((1 : Int32) < v4) → ∀ w16 : Option Nat, w16 = (if v4 = 0 then some 21 else some 9) → c_Rm_putClause_27 nl Ln xs (d + 1) this p0 v4 (some this) w16 σ F)) : k_Rm_putClause nl Ln xs (d + 1) this p0 σ F := by
  obtain ⟨j0, j1, j4, j7, j8, j9, j10, j11, j12, j15, j16, j17, j20, j22, j25, j84, j85, j87, j90, j91, j93, j96, j99, j100, j102, j105, j106, j108, j137, j138, j139, j142, j143, j145, -⟩ := P_Rm_putClause nl Ln xs
  have elo : am_lo 3 [am_ov (some this), .int p0] = [some (am_ov (some this)), some (.int p0), none] := by simp only [am_lo, am_in_ov, am_in_int, am_in_long, am_in_nil]; rfl
  unfold k_Rm_putClause
  rw [elo]
  refine s_aload_n j0 rfl rfl ?_
  obtain ⟨ho1, h⟩ := h
  refine s_gfR j1 rfl ho1 ?_
  obtain ⟨ho2, h⟩ := h
  refine s_gfR j4 rfl ho2 ?_
  refine s_iload_n j7 rfl rfl ?_
  obtain ⟨ho3, h⟩ := h
  refine s_iaload j8 rfl ho3 ?_
  refine s_istore_nV j9 rfl (n := 3) (L' := fun w => [some (am_ov (some this)), some (.int p0), some (.int w)]) rfl (by decide) (fun _ => rfl) (fun v4 hv5 => ?_)
  replace h := h v4 hv5
  refine s_iload_n j10 rfl rfl ?_
  refine s_iconst j11 rfl kc_ic_1 ?_
  refine s_ic j12 rfl rfl am_cc_gt (fun hc6 => ?_) (fun hc6 => ?_)
  · replace h := h.1 hc6
    refine s_iload_n j84 rfl rfl ?_
    refine s_bipush j85 rfl kc_bi_8 ?_
    refine s_icn j87 rfl rfl am_cc_ne (fun hc7 => ?_) (fun hc7 => ?_)
    · replace h := h.2 hc7
      refine s_iload_n j99 rfl rfl ?_
      refine s_bipush j100 rfl kc_bi_10 ?_
      refine s_ic j102 rfl rfl am_cc_eq (fun hc10 => ?_) (fun hc10 => ?_)
      · replace h := h.1 hc10
        exact h
      · replace h := h.2 hc10
        refine s_iload_n j105 rfl rfl ?_
        refine s_bipush j106 rfl kc_bi_11 ?_
        refine s_icn j108 rfl rfl am_cc_ne (fun hc11 => ?_) (fun hc11 => ?_)
        · replace h := h.2 hc11
          refine s_iload_n j137 rfl rfl ?_
          refine s_iconst j138 rfl kc_ic_5 ?_
          refine s_ic j139 rfl rfl am_cc_eq (fun hc12 => ?_) (fun hc12 => ?_)
          · replace h := h.1 hc12
            exact h
          · replace h := h.2 hc12
            refine s_iload_n j142 rfl rfl ?_
            refine s_bipush j143 rfl kc_bi_6 ?_
            refine s_icn j145 rfl rfl am_cc_ne (fun hc13 => ?_) (fun hc13 => ?_)
            · replace h := h.2 hc13
              exact h
            · replace h := h.1 hc13
              exact h
        · replace h := h.1 hc11
          exact h
    · replace h := h.1 hc7
      refine s_aload_n j90 rfl rfl ?_
      refine s_ldcS j91 rfl ?_
      refine s_virt j93 rfl rfl rfl rfl ho1 (by decide) (in_Rm_putToken _ _) (am_r8 rfl) (am_bV h (fun σ8 h hx8 => ?_))
      replace h := h hx8
      refine s_goto j96 rfl rfl ?_
      exact h
  · replace h := h.2 hc6
    refine s_aload_n j15 rfl rfl ?_
    refine s_iload_n j16 rfl rfl ?_
    have K15 : ∀ (w16 : Option Nat), w16 = (if v4 = 0 then some 21 else some 9) → am_C (TT nl Ln xs) (d + 1) 333 27 [some (am_ov (some this)), some (.int p0), some (.int v4)] [am_ov w16, am_ov (some this)] σ (am_qV F) := by
      intro w16 hw17
      replace h := h w16 hw17
      exact h
    refine s_ifn j17 rfl rfl am_cc_ne (fun hc14 => ?_) (fun hc14 => ?_)
    · refine s_ldcS j25 rfl ?_
      exact K15 _ (am_t2 hc14 rfl)
    · refine s_ldcS j20 rfl ?_
      refine s_goto j22 rfl rfl ?_
      exact K15 _ (am_t1 hc14 rfl)
theorem P_Rm_putClause_27 (nl : Bool) (Ln : Nat) (xs : Nat → Int32) : am_Jl (TT nl Ln xs) 333 [(27, .invokevirtual 200, 30, [10, 334, 13, 4, 2]), (30, .aload_n 0, 31, []), (31, .aload_n 0, 32, []), (32, .getfield 50, 35, [9, 12, 0, 2]), (35, .aload_n 0, 36, []), (36, .getfield 88, 39, [9, 12, 16, 2]), (39, .getfield 235, 42, [9, 13, 29, 2]), (42, .iload_n 1, 43, []), (43, .iaload, 44, []), (44, .aaload, 45, []), (45, .invokevirtual 200, 48, [10, 334, 13, 4, 2]), (48, .aload_n 0, 49, []), (49, .getfield 88, 52, [9, 12, 16, 2]), (52, .getfield 238, 55, [9, 13, 30, 2]), (55, .iload_n 1, 56, []), (56, .iaload, 57, []), (57, .iconst (-1), 58, []), (58, .if_icmp .eq 168, 61, []), (61, .aload_n 0, 62, []), (62, .ldc 241, 64, [5, 22]), (64, .invokevirtual 200, 67, [10, 334, 13, 4, 2]), (67, .aload_n 0, 68, []), (68, .aload_n 0, 69, []), (69, .getfield 88, 72, [9, 12, 16, 2]), (72, .getfield 238, 75, [9, 13, 30, 2]), (75, .iload_n 1, 76, []), (76, .iaload, 77, []), (77, .iconst 0, 78, []), (78, .invokevirtual 203, 81, [10, 335, 13, 6, 3]), (81, .goto 145, 84, [])] := dk_ck (by decide +kernel)
set_option maxRecDepth 4096 in
theorem w_Rm_putClause_27 {nl : Bool} {Ln : Nat} {xs : Nat → Int32} {d : Nat} {this : Nat} {x1 : Int32} {x2 : Int32} {y0 : Option Nat} {y1 : Option Nat} {σ : am_S} {F : am_S → Prop} (h : (am_is σ y0 12) ∧ k_Rm_putToken nl Ln xs d (y0.getD 0) y1 σ (fun σ2 => am_ext σ σ2 → (am_is σ2 (some this) 12) ∧ (am_is σ2 (am_fR σ2 12016 this) 13) ∧ (am_ar σ2 1000 (am_fR σ2 13029 ((am_fR σ2 12016 this).getD 0)) x1) ∧ (am_ar σ2 2500 (am_fR σ2 12000 this) (am_aI σ2 ((am_fR σ2 13029 ((am_fR σ2 12016 this).getD 0)).getD 0) x1.toNatClampNeg)) ∧ k_Rm_putToken nl Ln xs d this (am_aR σ2 ((am_fR σ2 12000 this).getD 0) (am_aI σ2 ((am_fR σ2 13029 ((am_fR σ2 12016 this).getD 0)).getD 0) x1.toNatClampNeg).toNatClampNeg) σ2 (fun σ8 => am_ext σ2 σ8 → (am_is σ8 (am_fR σ8 12016 this) 13) ∧ (am_ar σ8 1000 (am_fR σ8 13030 ((am_fR σ8 12016 this).getD 0)) x1) ∧ ((am_aI σ8 ((am_fR σ8 13030 ((am_fR σ8 12016 this).getD 0)).getD 0) x1.toNatClampNeg) = (-1 : Int32) → c_Rm_putClause_226 nl Ln xs (d + 1) this x1 x2 σ8 F) ∧ (¬ ((am_aI σ8 ((am_fR σ8 13030 ((am_fR σ8 12016 this).getD 0)).getD 0) x1.toNatClampNeg) = (-1 : Int32)) → k_Rm_putToken nl Ln xs d this (some 22) σ8 (fun σ13 => am_ext σ8 σ13 → (am_is σ13 (am_fR σ13 12016 this) 13) ∧ (am_ar σ13 1000 (am_fR σ13 13030 ((am_fR σ13 12016 this).getD 0)) x1) ∧ k_Rm_putCond nl Ln xs d this (am_aI σ13 ((am_fR σ13 13030 ((am_fR σ13 12016 this).getD 0)).getD 0) x1.toNatClampNeg) (0 : Int32) σ13 (fun σ17 => am_ext σ13 σ17 → c_Rm_putClause_226 nl Ln xs (d + 1) this x1 x2 σ17 F)))))) : c_Rm_putClause_27 nl Ln xs (d + 1) this x1 x2 y0 y1 σ F := by
  obtain ⟨j27, j30, j31, j32, j35, j36, j39, j42, j43, j44, j45, j48, j49, j52, j55, j56, j57, j58, j61, j62, j64, j67, j68, j69, j72, j75, j76, j77, j78, j81, -⟩ := P_Rm_putClause_27 nl Ln xs
  unfold c_Rm_putClause_27
  obtain ⟨ho1, h⟩ := h
  refine s_virt j27 rfl rfl rfl rfl ho1 (by decide) (in_Rm_putToken _ _) (am_r8 rfl) (am_bV h (fun σ2 h hx2 => ?_))
  replace h := h hx2
  refine s_aload_n j30 rfl rfl ?_
  refine s_aload_n j31 rfl rfl ?_
  obtain ⟨ho4, h⟩ := h
  refine s_gfR j32 rfl ho4 ?_
  refine s_aload_n j35 rfl rfl ?_
  refine s_gfR j36 rfl ho4 ?_
  obtain ⟨ho5, h⟩ := h
  refine s_gfR j39 rfl ho5 ?_
  refine s_iload_n j42 rfl rfl ?_
  obtain ⟨ho6, h⟩ := h
  refine s_iaload j43 rfl ho6 ?_
  obtain ⟨ho7, h⟩ := h
  refine s_aaload (k := 2500) (by decide) kq_2500 j44 rfl ho7 ?_
  refine s_virt j45 rfl rfl rfl rfl ho4 (by decide) (in_Rm_putToken _ _) (am_r8 rfl) (am_bV h (fun σ8 h hx8 => ?_))
  replace h := h hx8
  refine s_aload_n j48 rfl rfl ?_
  refine s_gfR j49 rfl (am_is_ext hx8 ho4) ?_
  obtain ⟨ho10, h⟩ := h
  refine s_gfR j52 rfl ho10 ?_
  refine s_iload_n j55 rfl rfl ?_
  obtain ⟨ho11, h⟩ := h
  refine s_iaload j56 rfl ho11 ?_
  refine s_iconst j57 rfl kc_ic_m1 ?_
  refine s_ic j58 rfl rfl am_cc_eq (fun hc12 => ?_) (fun hc12 => ?_)
  · replace h := h.1 hc12
    exact h
  · replace h := h.2 hc12
    refine s_aload_n j61 rfl rfl ?_
    refine s_ldcS j62 rfl ?_
    refine s_virt j64 rfl rfl rfl rfl (am_is_ext hx8 ho4) (by decide) (in_Rm_putToken _ _) (am_r8 rfl) (am_bV h (fun σ13 h hx13 => ?_))
    replace h := h hx13
    refine s_aload_n j67 rfl rfl ?_
    refine s_aload_n j68 rfl rfl ?_
    refine s_gfR j69 rfl (am_is_ext hx13 (am_is_ext hx8 ho4)) ?_
    obtain ⟨ho15, h⟩ := h
    refine s_gfR j72 rfl ho15 ?_
    refine s_iload_n j75 rfl rfl ?_
    obtain ⟨ho16, h⟩ := h
    refine s_iaload j76 rfl ho16 ?_
    refine s_iconst j77 rfl kc_ic_0 ?_
    refine s_virt j78 rfl rfl rfl rfl (am_is_ext hx13 (am_is_ext hx8 ho4)) (by decide) (in_Rm_putCond _ _ _) (am_r8 rfl) (am_bV h (fun σ17 h hx17 => ?_))
    replace h := h hx17
    refine s_goto j81 rfl rfl ?_
    exact h
theorem P_Rm_putClause_111 (nl : Bool) (Ln : Nat) (xs : Nat → Int32) : am_Jl (TT nl Ln xs) 333 [(111, .aload_n 0, 112, []), (112, .ldc 243, 114, [5, 31]), (114, .invokevirtual 200, 117, [10, 334, 13, 4, 2]), (117, .aload_n 0, 118, []), (118, .iload_n 2, 119, []), (119, .bipush 10, 121, []), (121, .if_icmp .ne 8, 124, []), (124, .ldc 245, 126, [5, 32]), (126, .goto 5, 129, []), (129, .ldc 247, 131, [5, 33])] := dk_ck (by decide +kernel)
set_option maxRecDepth 4096 in
theorem w_Rm_putClause_111 {nl : Bool} {Ln : Nat} {xs : Nat → Int32} {d : Nat} {this : Nat} {x1 : Int32} {x2 : Int32} {σ : am_S} {F : am_S → Prop} (h : (am_is σ (some this) 12) ∧ k_Rm_putToken nl Ln xs d this (some 31) σ (fun σ2 => am_ext σ σ2 → ∀ w6 : Option Nat, w6 = (if x2 = (10 : Int32) then some 32 else some 33) → c_Rm_putClause_131 nl Ln xs (d + 1) this x1 x2 (some this) w6 σ2 F)) : c_Rm_putClause_111 nl Ln xs (d + 1) this x1 x2 σ F := by
  obtain ⟨j111, j112, j114, j117, j118, j119, j121, j124, j126, j129, -⟩ := P_Rm_putClause_111 nl Ln xs
  unfold c_Rm_putClause_111
  refine s_aload_n j111 rfl rfl ?_
  refine s_ldcS j112 rfl ?_
  obtain ⟨ho1, h⟩ := h
  refine s_virt j114 rfl rfl rfl rfl ho1 (by decide) (in_Rm_putToken _ _) (am_r8 rfl) (am_bV h (fun σ2 h hx2 => ?_))
  replace h := h hx2
  refine s_aload_n j117 rfl rfl ?_
  refine s_iload_n j118 rfl rfl ?_
  refine s_bipush j119 rfl kc_bi_10 ?_
  have K5 : ∀ (w6 : Option Nat), w6 = (if x2 = (10 : Int32) then some 32 else some 33) → am_C (TT nl Ln xs) (d + 1) 333 131 [some (am_ov (some this)), some (.int x1), some (.int x2)] [am_ov w6, am_ov (some this)] σ2 (am_qV F) := by
    intro w6 hw7
    replace h := h w6 hw7
    exact h
  refine s_icn j121 rfl rfl am_cc_ne (fun hc4 => ?_) (fun hc4 => ?_)
  · refine s_ldcS j129 rfl ?_
    exact K5 _ (am_t2 hc4 rfl)
  · refine s_ldcS j124 rfl ?_
    refine s_goto j126 rfl rfl ?_
    exact K5 _ (am_t1 hc4 rfl)
theorem P_Rm_putClause_131 (nl : Bool) (Ln : Nat) (xs : Nat → Int32) : am_Jl (TT nl Ln xs) 333 [(131, .invokevirtual 200, 134, [10, 334, 13, 4, 2]), (134, .goto 92, 137, [])] := dk_ck (by decide +kernel)
set_option maxRecDepth 4096 in
theorem w_Rm_putClause_131 {nl : Bool} {Ln : Nat} {xs : Nat → Int32} {d : Nat} {this : Nat} {x1 : Int32} {x2 : Int32} {y0 : Option Nat} {y1 : Option Nat} {σ : am_S} {F : am_S → Prop} (h : (am_is σ y0 12) ∧ k_Rm_putToken nl Ln xs d (y0.getD 0) y1 σ (fun σ2 => am_ext σ σ2 → c_Rm_putClause_226 nl Ln xs (d + 1) this x1 x2 σ2 F)) : c_Rm_putClause_131 nl Ln xs (d + 1) this x1 x2 y0 y1 σ F := by
  obtain ⟨j131, j134, -⟩ := P_Rm_putClause_131 nl Ln xs
  unfold c_Rm_putClause_131
  obtain ⟨ho1, h⟩ := h
  refine s_virt j131 rfl rfl rfl rfl ho1 (by decide) (in_Rm_putToken _ _) (am_r8 rfl) (am_bV h (fun σ2 h hx2 => ?_))
  replace h := h hx2
  refine s_goto j134 rfl rfl ?_
  exact h
theorem P_Rm_putClause_148 (nl : Bool) (Ln : Nat) (xs : Nat → Int32) : am_Jl (TT nl Ln xs) 333 [(148, .aload_n 0, 149, []), (149, .ldc 64, 151, [5, 13]), (151, .invokevirtual 200, 154, [10, 334, 13, 4, 2])] := dk_ck (by decide +kernel)
set_option maxRecDepth 4096 in
theorem w_Rm_putClause_148 {nl : Bool} {Ln : Nat} {xs : Nat → Int32} {d : Nat} {this : Nat} {x1 : Int32} {x2 : Int32} {σ : am_S} {F : am_S → Prop} (h : (am_is σ (some this) 12) ∧ k_Rm_putToken nl Ln xs d this (some 13) σ (fun σ2 => am_ext σ σ2 → c_Rm_putClause_154 nl Ln xs (d + 1) this x1 x2 σ2 F)) : c_Rm_putClause_148 nl Ln xs (d + 1) this x1 x2 σ F := by
  obtain ⟨j148, j149, j151, -⟩ := P_Rm_putClause_148 nl Ln xs
  unfold c_Rm_putClause_148
  refine s_aload_n j148 rfl rfl ?_
  refine s_ldcS j149 rfl ?_
  obtain ⟨ho1, h⟩ := h
  refine s_virt j151 rfl rfl rfl rfl ho1 (by decide) (in_Rm_putToken _ _) (am_r8 rfl) (am_bV h (fun σ2 h hx2 => ?_))
  replace h := h hx2
  exact h
theorem P_Rm_putClause_154 (nl : Bool) (Ln : Nat) (xs : Nat → Int32) : am_Jl (TT nl Ln xs) 333 [(154, .aload_n 0, 155, []), (155, .iload_n 2, 156, []), (156, .iconst 2, 157, []), (157, .if_icmp .ne 8, 160, []), (160, .ldc 249, 162, [5, 34]), (162, .goto 47, 165, []), (165, .iload_n 2, 166, []), (166, .iconst 3, 167, []), (167, .if_icmp .eq 8, 170, []), (170, .iload_n 2, 171, []), (171, .iconst 5, 172, []), (172, .if_icmp .ne 8, 175, []), (175, .ldc 247, 177, [5, 33]), (177, .goto 32, 180, []), (180, .iload_n 2, 181, []), (181, .iconst 4, 182, []), (182, .if_icmp .eq 9, 185, []), (185, .iload_n 2, 186, []), (186, .bipush 6, 188, []), (188, .if_icmp .ne 8, 191, []), (191, .ldc 72, 193, [5, 17]), (193, .goto 16, 196, []), (196, .iload_n 2, 197, []), (197, .bipush 7, 199, []), (199, .if_icmp .ne 8, 202, []), (202, .ldc 58, 204, [5, 10]), (204, .goto 5, 207, []), (207, .ldc 76, 209, [5, 19])] := dk_ck (by decide +kernel)
set_option maxRecDepth 4096 in
theorem w_Rm_putClause_154 {nl : Bool} {Ln : Nat} {xs : Nat → Int32} {d : Nat} {this : Nat} {x1 : Int32} {x2 : Int32} {σ : am_S} {F : am_S → Prop} (h : ∀ w8 : Option Nat, w8 = (if x2 = (2 : Int32) then some 34 else (if x2 = (3 : Int32) then some 33 else (if x2 = (5 : Int32) then some 33 else (if x2 = (4 : Int32) then some 17 else (if x2 = (6 : Int32) then some 17 else (if x2 = (7 : Int32) then some 10 else some 19)))))) → c_Rm_putClause_209 nl Ln xs (d + 1) this x1 x2 (some this) w8 σ F) : c_Rm_putClause_154 nl Ln xs (d + 1) this x1 x2 σ F := by
  obtain ⟨j154, j155, j156, j157, j160, j162, j165, j166, j167, j170, j171, j172, j175, j177, j180, j181, j182, j185, j186, j188, j191, j193, j196, j197, j199, j202, j204, j207, -⟩ := P_Rm_putClause_154 nl Ln xs
  unfold c_Rm_putClause_154
  refine s_aload_n j154 rfl rfl ?_
  refine s_iload_n j155 rfl rfl ?_
  refine s_iconst j156 rfl kc_ic_2 ?_
  have K7 : ∀ (w8 : Option Nat), w8 = (if x2 = (2 : Int32) then some 34 else (if x2 = (3 : Int32) then some 33 else (if x2 = (5 : Int32) then some 33 else (if x2 = (4 : Int32) then some 17 else (if x2 = (6 : Int32) then some 17 else (if x2 = (7 : Int32) then some 10 else some 19)))))) → am_C (TT nl Ln xs) (d + 1) 333 209 [some (am_ov (some this)), some (.int x1), some (.int x2)] [am_ov w8, am_ov (some this)] σ (am_qV F) := by
    intro w8 hw9
    replace h := h w8 hw9
    exact h
  refine s_icn j157 rfl rfl am_cc_ne (fun hc1 => ?_) (fun hc1 => ?_)
  · refine s_iload_n j165 rfl rfl ?_
    refine s_iconst j166 rfl kc_ic_3 ?_
    refine s_ic j167 rfl rfl am_cc_eq (fun hc2 => ?_) (fun hc2 => ?_)
    · refine s_ldcS j175 rfl ?_
      refine s_goto j177 rfl rfl ?_
      exact K7 _ (am_t2 hc1 (am_t1 hc2 rfl))
    · refine s_iload_n j170 rfl rfl ?_
      refine s_iconst j171 rfl kc_ic_5 ?_
      refine s_icn j172 rfl rfl am_cc_ne (fun hc3 => ?_) (fun hc3 => ?_)
      · refine s_iload_n j180 rfl rfl ?_
        refine s_iconst j181 rfl kc_ic_4 ?_
        refine s_ic j182 rfl rfl am_cc_eq (fun hc4 => ?_) (fun hc4 => ?_)
        · refine s_ldcS j191 rfl ?_
          refine s_goto j193 rfl rfl ?_
          exact K7 _ (am_t2 hc1 (am_t2 hc2 (am_t2 hc3 (am_t1 hc4 rfl))))
        · refine s_iload_n j185 rfl rfl ?_
          refine s_bipush j186 rfl kc_bi_6 ?_
          refine s_icn j188 rfl rfl am_cc_ne (fun hc5 => ?_) (fun hc5 => ?_)
          · refine s_iload_n j196 rfl rfl ?_
            refine s_bipush j197 rfl kc_bi_7 ?_
            refine s_icn j199 rfl rfl am_cc_ne (fun hc6 => ?_) (fun hc6 => ?_)
            · refine s_ldcS j207 rfl ?_
              exact K7 _ (am_t2 hc1 (am_t2 hc2 (am_t2 hc3 (am_t2 hc4 (am_t2 hc5 (am_t2 hc6 rfl))))))
            · refine s_ldcS j202 rfl ?_
              refine s_goto j204 rfl rfl ?_
              exact K7 _ (am_t2 hc1 (am_t2 hc2 (am_t2 hc3 (am_t2 hc4 (am_t2 hc5 (am_t1 hc6 rfl))))))
          · refine s_ldcS j191 rfl ?_
            refine s_goto j193 rfl rfl ?_
            exact K7 _ (am_t2 hc1 (am_t2 hc2 (am_t2 hc3 (am_t2 hc4 (am_t1 hc5 rfl)))))
      · refine s_ldcS j175 rfl ?_
        refine s_goto j177 rfl rfl ?_
        exact K7 _ (am_t2 hc1 (am_t2 hc2 (am_t1 hc3 rfl)))
  · refine s_ldcS j160 rfl ?_
    refine s_goto j162 rfl rfl ?_
    exact K7 _ (am_t1 hc1 rfl)
theorem P_Rm_putClause_209 (nl : Bool) (Ln : Nat) (xs : Nat → Int32) : am_Jl (TT nl Ln xs) 333 [(209, .invokevirtual 200, 212, [10, 334, 13, 4, 2]), (212, .aload_n 0, 213, []), (213, .aload_n 0, 214, []), (214, .getfield 88, 217, [9, 12, 16, 2]), (217, .getfield 235, 220, [9, 13, 29, 2]), (220, .iload_n 1, 221, []), (221, .iaload, 222, []), (222, .i2l, 223, []), (223, .invokevirtual 226, 226, [10, 336, 13, 3, 2])] := dk_ck (by decide +kernel)
set_option maxRecDepth 4096 in
theorem w_Rm_putClause_209 {nl : Bool} {Ln : Nat} {xs : Nat → Int32} {d : Nat} {this : Nat} {x1 : Int32} {x2 : Int32} {y0 : Option Nat} {y1 : Option Nat} {σ : am_S} {F : am_S → Prop} (h : (am_is σ y0 12) ∧ k_Rm_putToken nl Ln xs d (y0.getD 0) y1 σ (fun σ2 => am_ext σ σ2 → (am_is σ2 (some this) 12) ∧ (am_is σ2 (am_fR σ2 12016 this) 13) ∧ (am_ar σ2 1000 (am_fR σ2 13029 ((am_fR σ2 12016 this).getD 0)) x1) ∧ k_Rm_putTokenNumber nl Ln xs d this ((am_aI σ2 ((am_fR σ2 13029 ((am_fR σ2 12016 this).getD 0)).getD 0) x1.toNatClampNeg).toInt64) σ2 (fun σ7 => am_ext σ2 σ7 → c_Rm_putClause_226 nl Ln xs (d + 1) this x1 x2 σ7 F))) : c_Rm_putClause_209 nl Ln xs (d + 1) this x1 x2 y0 y1 σ F := by
  obtain ⟨j209, j212, j213, j214, j217, j220, j221, j222, j223, -⟩ := P_Rm_putClause_209 nl Ln xs
  unfold c_Rm_putClause_209
  obtain ⟨ho1, h⟩ := h
  refine s_virt j209 rfl rfl rfl rfl ho1 (by decide) (in_Rm_putToken _ _) (am_r8 rfl) (am_bV h (fun σ2 h hx2 => ?_))
  replace h := h hx2
  refine s_aload_n j212 rfl rfl ?_
  refine s_aload_n j213 rfl rfl ?_
  obtain ⟨ho4, h⟩ := h
  refine s_gfR j214 rfl ho4 ?_
  obtain ⟨ho5, h⟩ := h
  refine s_gfR j217 rfl ho5 ?_
  refine s_iload_n j220 rfl rfl ?_
  obtain ⟨ho6, h⟩ := h
  refine s_iaload j221 rfl ho6 ?_
  refine s_g j222 rfl rfl rfl rfl rfl rfl ?_
  refine s_virt j223 rfl rfl rfl rfl ho4 (by decide) (in_Rm_putTokenNumber _ _) (am_r8 rfl) (am_bV h (fun σ7 h hx7 => ?_))
  replace h := h hx7
  exact h
theorem P_Rm_putClause_226 (nl : Bool) (Ln : Nat) (xs : Nat → Int32) : am_Jl (TT nl Ln xs) 333 [(226, .aload_n 0, 227, []), (227, .ldc 251, 229, [5, 37]), (229, .invokevirtual 200, 232, [10, 334, 13, 4, 2]), (232, .aload_n 0, 233, []), (233, .bipush 10, 235, []), (235, .invokevirtual 116, 238, [10, 329, 13, 2, 2]), (238, .return_, 239, [0])] := dk_ck (by decide +kernel)
set_option maxRecDepth 4096 in
theorem w_Rm_putClause_226 {nl : Bool} {Ln : Nat} {xs : Nat → Int32} {d : Nat} {this : Nat} {x1 : Int32} {x2 : Int32} {σ : am_S} {F : am_S → Prop} (h : (am_is σ (some this) 12) ∧ k_Rm_putToken nl Ln xs d this (some 37) σ (fun σ2 => am_ext σ σ2 → k_Rm_put2 nl Ln xs d this (10 : Int32) σ2 (fun σ4 => am_ext σ2 σ4 → F σ4))) : c_Rm_putClause_226 nl Ln xs (d + 1) this x1 x2 σ F := by
  obtain ⟨j226, j227, j229, j232, j233, j235, j238, -⟩ := P_Rm_putClause_226 nl Ln xs
  unfold c_Rm_putClause_226
  refine s_aload_n j226 rfl rfl ?_
  refine s_ldcS j227 rfl ?_
  obtain ⟨ho1, h⟩ := h
  refine s_virt j229 rfl rfl rfl rfl ho1 (by decide) (in_Rm_putToken _ _) (am_r8 rfl) (am_bV h (fun σ2 h hx2 => ?_))
  replace h := h hx2
  refine s_aload_n j232 rfl rfl ?_
  refine s_bipush j233 rfl kc_bi_10 ?_
  refine s_virt j235 rfl rfl rfl rfl (am_is_ext hx2 ho1) (by decide) (in_Rm_put2 _ _) (am_r8 rfl) (am_bV h (fun σ4 h hx4 => ?_))
  replace h := h hx4
  exact s_retV j238 rfl h
theorem P_Rm_putToken (nl : Bool) (Ln : Nat) (xs : Nat → Int32) : am_Jl (TT nl Ln xs) 334 [(0, .aload_n 0, 1, []), (1, .getfield 105, 4, [9, 12, 5, 0]), (4, .ifCond .ne 8, 7, []), (7, .bipush 10, 9, []), (9, .goto 14, 12, []), (12, .aload_n 0, 13, []), (13, .getfield 16, 16, [9, 12, 4, 2]), (16, .aload_n 0, 17, []), (17, .getfield 105, 20, [9, 12, 5, 0]), (20, .iconst 1, 21, []), (21, .isub, 22, []), (22, .baload, 23, [])] := dk_ck (by decide +kernel)
set_option maxRecDepth 4096 in
theorem w_Rm_putToken {nl : Bool} {Ln : Nat} {xs : Nat → Int32} {d : Nat} {this : Nat} {p0 : Option Nat} {σ : am_S} {F : am_S → Prop} (h : (am_is σ (some this) 12) ∧ (¬ ((am_fI σ 12005 this) = 0) → am_ar σ 1002 (am_fR σ 12004 this) ((am_fI σ 12005 this) - (1 : Int32))) ∧ ∀ w5 : Int32, w5 = (if (am_fI σ 12005 this) = 0 then (10 : Int32) else (am_aI σ ((am_fR σ 12004 this).getD 0) ((am_fI σ 12005 this) - (1 : Int32)).toNatClampNeg)) → c_Rm_putToken_23 nl Ln xs (d + 1) this p0 w5 σ F) : k_Rm_putToken nl Ln xs (d + 1) this p0 σ F := by
  obtain ⟨j0, j1, j4, j7, j9, j12, j13, j16, j17, j20, j21, j22, -⟩ := P_Rm_putToken nl Ln xs
  have elo : am_lo 4 [am_ov (some this), am_ov p0] = [some (am_ov (some this)), some (am_ov p0), none, none] := by simp only [am_lo, am_in_ov, am_in_int, am_in_long, am_in_nil]; rfl
  unfold k_Rm_putToken
  rw [elo]
  refine s_aload_n j0 rfl rfl ?_
  obtain ⟨ho1, h⟩ := h
  refine s_gfI j1 rfl ho1 ?_
  obtain ⟨ho3, h⟩ := h
  have K4 : ∀ (w5 : Int32), w5 = (if (am_fI σ 12005 this) = 0 then (10 : Int32) else (am_aI σ ((am_fR σ 12004 this).getD 0) ((am_fI σ 12005 this) - (1 : Int32)).toNatClampNeg)) → am_C (TT nl Ln xs) (d + 1) 334 23 [some (am_ov (some this)), some (am_ov p0), none, none] [.int w5] σ (am_qV F) := by
    intro w5 hw6
    replace h := h w5 hw6
    exact h
  refine s_ifn j4 rfl rfl am_cc_ne (fun hc2 => ?_) (fun hc2 => ?_)
  · refine s_aload_n j12 rfl rfl ?_
    refine s_gfR j13 rfl ho1 ?_
    refine s_aload_n j16 rfl rfl ?_
    refine s_gfI j17 rfl ho1 ?_
    refine s_iconst j20 rfl kc_ic_1 ?_
    refine s_g j21 rfl rfl rfl rfl rfl rfl ?_
    refine s_baload (k := 1002) (by decide) j22 rfl (ho3 hc2) ?_
    exact K4 _ (am_t2 hc2 rfl)
  · refine s_bipush j7 rfl kc_bi_10 ?_
    refine s_goto j9 rfl rfl ?_
    exact K4 _ (am_t1 hc2 rfl)
theorem P_Rm_putToken_23 (nl : Bool) (Ln : Nat) (xs : Nat → Int32) : am_Jl (TT nl Ln xs) 334 [(23, .istore_n 2, 24, []), (24, .aload_n 1, 25, []), (25, .iconst 0, 26, []), (26, .invokevirtual 112, 29, [10, 87, 0, 2, 2]), (29, .bipush 59, 31, []), (31, .if_icmp .eq 23, 34, []), (34, .aload_n 1, 35, []), (35, .iconst 0, 36, []), (36, .invokevirtual 112, 39, [10, 87, 0, 2, 2]), (39, .bipush 41, 41, []), (41, .if_icmp .eq 13, 44, []), (44, .aload_n 1, 45, []), (45, .iconst 0, 46, []), (46, .invokevirtual 112, 49, [10, 87, 0, 2, 2]), (49, .bipush 10, 51, []), (51, .if_icmp .ne 7, 54, []), (54, .iconst 1, 55, []), (55, .goto 4, 58, []), (58, .iconst 0, 59, [])] := dk_ck (by decide +kernel)
set_option maxRecDepth 4096 in
theorem w_Rm_putToken_23 {nl : Bool} {Ln : Nat} {xs : Nat → Int32} {d : Nat} {this : Nat} {x1 : Option Nat} {y0 : Int32} {σ : am_S} {F : am_S → Prop} (h : (∃ n, x1 = some n) ∧ ((x1.getD 0) < 200 ∧ am_rk (am_tz (TT nl Ln xs)) (x1.getD 0) = 1) ∧ k_Str_charAt nl Ln xs d (x1.getD 0) (0 : Int32) σ (fun a4 σ3 => am_ext σ σ3 → (a4 = (59 : Int32) → c_Rm_putToken_54 nl Ln xs (d + 1) this x1 y0 σ3 F) ∧ (¬ (a4 = (59 : Int32)) → (∃ n, x1 = some n) ∧ ((x1.getD 0) < 200 ∧ am_rk (am_tz (TT nl Ln xs)) (x1.getD 0) = 1) ∧ k_Str_charAt nl Ln xs d (x1.getD 0) (0 : Int32) σ3 (fun a9 σ8 => am_ext σ3 σ8 → (a9 = (41 : Int32) → c_Rm_putToken_54 nl Ln xs (d + 1) this x1 y0 σ8 F) ∧ (¬ (a9 = (41 : Int32)) → (∃ n, x1 = some n) ∧ ((x1.getD 0) < 200 ∧ am_rk (am_tz (TT nl Ln xs)) (x1.getD 0) = 1) ∧ k_Str_charAt nl Ln xs d (x1.getD 0) (0 : Int32) σ8 (fun a14 σ13 => am_ext σ8 σ13 → c_Rm_putToken_59 nl Ln xs (d + 1) this x1 y0 (if a14 = (10 : Int32) then (1 : Int32) else 0) σ13 F)))))) : c_Rm_putToken_23 nl Ln xs (d + 1) this x1 y0 σ F := by
  obtain ⟨j23, j24, j25, j26, j29, j31, j34, j35, j36, j39, j41, j44, j45, j46, j49, j51, j54, j55, j58, -⟩ := P_Rm_putToken_23 nl Ln xs
  unfold c_Rm_putToken_23
  refine s_istore_n j23 rfl (n := 4) (L' := [some (am_ov (some this)), some (am_ov x1), some (.int y0), none]) rfl (by decide) (am_st1_R [_] _ _ _ _) ?_
  refine s_aload_n j24 rfl rfl ?_
  refine s_iconst j25 rfl kc_ic_0 ?_
  obtain ⟨ho2, h⟩ := h
  obtain ⟨ho1, h⟩ := h
  refine s_virtS2 j26 rfl rfl rfl rfl ho2 ho1 (by decide) (in_Str_charAt _ _) (am_r8 rfl) (am_bI h (fun a4 σ3 h hx3 => ?_))
  replace h := h hx3
  refine s_bipush j29 rfl kc_bi_59 ?_
  refine s_ic j31 rfl rfl am_cc_eq (fun hc5 => ?_) (fun hc5 => ?_)
  · replace h := h.1 hc5
    exact h
  · replace h := h.2 hc5
    refine s_aload_n j34 rfl rfl ?_
    refine s_iconst j35 rfl kc_ic_0 ?_
    obtain ⟨ho7, h⟩ := h
    obtain ⟨ho6, h⟩ := h
    refine s_virtS2 j36 rfl rfl rfl rfl ho7 ho6 (by decide) (in_Str_charAt _ _) (am_r8 rfl) (am_bI h (fun a9 σ8 h hx8 => ?_))
    replace h := h hx8
    refine s_bipush j39 rfl kc_bi_41 ?_
    refine s_ic j41 rfl rfl am_cc_eq (fun hc10 => ?_) (fun hc10 => ?_)
    · replace h := h.1 hc10
      exact h
    · replace h := h.2 hc10
      refine s_aload_n j44 rfl rfl ?_
      refine s_iconst j45 rfl kc_ic_0 ?_
      obtain ⟨ho12, h⟩ := h
      obtain ⟨ho11, h⟩ := h
      refine s_virtS2 j46 rfl rfl rfl rfl ho12 ho11 (by decide) (in_Str_charAt _ _) (am_r8 rfl) (am_bI h (fun a14 σ13 h hx13 => ?_))
      replace h := h hx13
      refine s_bipush j49 rfl kc_bi_10 ?_
      have K16 : ∀ (w17 : Int32), w17 = (if a14 = (10 : Int32) then (1 : Int32) else 0) → am_C (TT nl Ln xs) (d + 1) 334 59 [some (am_ov (some this)), some (am_ov x1), some (.int y0), none] [.int w17] σ13 (am_qV F) := by
        intro w17 hw18
        subst hw18
        exact h
      refine s_icn j51 rfl rfl am_cc_ne (fun hc15 => ?_) (fun hc15 => ?_)
      · refine s_iconst j58 rfl kc_ic_0 ?_
        exact K16 _ (am_e0 (Iff.trans Iff.rfl (am_p10 hc15)))
      · refine s_iconst j54 rfl kc_ic_1 ?_
        refine s_goto j55 rfl rfl ?_
        exact K16 _ (am_e1 (Iff.trans Iff.rfl (am_p9 hc15)))
theorem P_Rm_putToken_54 (nl : Bool) (Ln : Nat) (xs : Nat → Int32) : am_Jl (TT nl Ln xs) 334 [(54, .iconst 1, 55, []), (55, .goto 4, 58, [])] := dk_ck (by decide +kernel)
set_option maxRecDepth 4096 in
theorem w_Rm_putToken_54 {nl : Bool} {Ln : Nat} {xs : Nat → Int32} {d : Nat} {this : Nat} {x1 : Option Nat} {x2 : Int32} {σ : am_S} {F : am_S → Prop} (h : c_Rm_putToken_59 nl Ln xs (d + 1) this x1 x2 (1 : Int32) σ F) : c_Rm_putToken_54 nl Ln xs (d + 1) this x1 x2 σ F := by
  obtain ⟨j54, j55, -⟩ := P_Rm_putToken_54 nl Ln xs
  unfold c_Rm_putToken_54
  refine s_iconst j54 rfl kc_ic_1 ?_
  refine s_goto j55 rfl rfl ?_
  exact h
theorem P_Rm_putToken_59 (nl : Bool) (Ln : Nat) (xs : Nat → Int32) : am_Jl (TT nl Ln xs) 334 [(59, .istore_n 3, 60, []), (60, .iload_n 2, 61, []), (61, .bipush 10, 63, []), (63, .if_icmp .eq 19, 66, []), (66, .iload_n 2, 67, []), (67, .bipush 40, 69, []), (69, .if_icmp .eq 13, 72, []), (72, .iload_n 3, 73, []), (73, .ifCond .ne 9, 76, []), (76, .aload_n 0, 77, []), (77, .bipush 32, 79, []), (79, .invokevirtual 116, 82, [10, 329, 13, 2, 2]), (82, .aload_n 0, 83, []), (83, .aload_n 1, 84, []), (84, .invokevirtual 126, 87, [10, 328, 13, 3, 2]), (87, .return_, 88, [0])] := dk_ck (by decide +kernel)
set_option maxRecDepth 4096 in
theorem w_Rm_putToken_59 {nl : Bool} {Ln : Nat} {xs : Nat → Int32} {d : Nat} {this : Nat} {x1 : Option Nat} {x2 : Int32} {y0 : Int32} {σ : am_S} {F : am_S → Prop} (h : (x2 = (10 : Int32) → (am_is σ (some this) 12) ∧ k_Rm_put nl Ln xs d this x1 σ (fun σ3 => am_ext σ σ3 → F σ3)) ∧ (¬ (x2 = (10 : Int32)) → (x2 = (40 : Int32) → (am_is σ (some this) 12) ∧ k_Rm_put nl Ln xs d this x1 σ (fun σ7 => am_ext σ σ7 → F σ7)) ∧ (¬ (x2 = (40 : Int32)) → (y0 = 0 → (am_is σ (some this) 12) ∧ k_Rm_put2 nl Ln xs d this (32 : Int32) σ (fun σ11 => am_ext σ σ11 → k_Rm_put nl Ln xs d this x1 σ11 (fun σ13 => am_ext σ11 σ13 → F σ13))) ∧ (¬ (y0 = 0) → (am_is σ (some this) 12) ∧ k_Rm_put nl Ln xs d this x1 σ (fun σ16 => am_ext σ σ16 → F σ16))))) : c_Rm_putToken_59 nl Ln xs (d + 1) this x1 x2 y0 σ F := by
  obtain ⟨j59, j60, j61, j63, j66, j67, j69, j72, j73, j76, j77, j79, j82, j83, j84, j87, -⟩ := P_Rm_putToken_59 nl Ln xs
  unfold c_Rm_putToken_59
  refine s_istore_n j59 rfl (n := 4) (L' := [some (am_ov (some this)), some (am_ov x1), some (.int x2), some (.int y0)]) rfl (by decide) rfl ?_
  refine s_iload_n j60 rfl rfl ?_
  refine s_bipush j61 rfl kc_bi_10 ?_
  refine s_ic j63 rfl rfl am_cc_eq (fun hc1 => ?_) (fun hc1 => ?_)
  · replace h := h.1 hc1
    refine s_aload_n j82 rfl rfl ?_
    refine s_aload_n j83 rfl rfl ?_
    obtain ⟨ho2, h⟩ := h
    refine s_virt j84 rfl rfl rfl rfl ho2 (by decide) (in_Rm_put _ _) (am_r8 rfl) (am_bV h (fun σ3 h hx3 => ?_))
    replace h := h hx3
    exact s_retV j87 rfl h
  · replace h := h.2 hc1
    refine s_iload_n j66 rfl rfl ?_
    refine s_bipush j67 rfl kc_bi_40 ?_
    refine s_ic j69 rfl rfl am_cc_eq (fun hc5 => ?_) (fun hc5 => ?_)
    · replace h := h.1 hc5
      refine s_aload_n j82 rfl rfl ?_
      refine s_aload_n j83 rfl rfl ?_
      obtain ⟨ho6, h⟩ := h
      refine s_virt j84 rfl rfl rfl rfl ho6 (by decide) (in_Rm_put _ _) (am_r8 rfl) (am_bV h (fun σ7 h hx7 => ?_))
      replace h := h hx7
      exact s_retV j87 rfl h
    · replace h := h.2 hc5
      refine s_iload_n j72 rfl rfl ?_
      refine s_ifn j73 rfl rfl am_cc_ne (fun hc9 => ?_) (fun hc9 => ?_)
      · replace h := h.2 hc9
        refine s_aload_n j82 rfl rfl ?_
        refine s_aload_n j83 rfl rfl ?_
        obtain ⟨ho15, h⟩ := h
        refine s_virt j84 rfl rfl rfl rfl ho15 (by decide) (in_Rm_put _ _) (am_r8 rfl) (am_bV h (fun σ16 h hx16 => ?_))
        replace h := h hx16
        exact s_retV j87 rfl h
      · replace h := h.1 hc9
        refine s_aload_n j76 rfl rfl ?_
        refine s_bipush j77 rfl kc_bi_32 ?_
        obtain ⟨ho10, h⟩ := h
        refine s_virt j79 rfl rfl rfl rfl ho10 (by decide) (in_Rm_put2 _ _) (am_r8 rfl) (am_bV h (fun σ11 h hx11 => ?_))
        replace h := h hx11
        refine s_aload_n j82 rfl rfl ?_
        refine s_aload_n j83 rfl rfl ?_
        refine s_virt j84 rfl rfl rfl rfl (am_is_ext hx11 ho10) (by decide) (in_Rm_put _ _) (am_r8 rfl) (am_bV h (fun σ13 h hx13 => ?_))
        replace h := h hx13
        exact s_retV j87 rfl h
theorem P_Rm_putCond (nl : Bool) (Ln : Nat) (xs : Nat → Int32) : am_Jl (TT nl Ln xs) 335 [(0, .aload_n 0, 1, []), (1, .getfield 88, 4, [9, 12, 16, 2]), (4, .getfield 192, 7, [9, 13, 32, 2]), (7, .iload_n 1, 8, []), (8, .iaload, 9, []), (9, .istore_n 3, 10, []), (10, .aload_n 0, 11, []), (11, .getfield 88, 14, [9, 12, 16, 2]), (14, .getfield 195, 17, [9, 13, 33, 2]), (17, .iload_n 1, 18, []), (18, .iaload, 19, []), (19, .istore 4, 21, []), (21, .iload_n 3, 22, []), (22, .ifCond .ne 7, 25, []), (25, .iload_n 2, 26, []), (26, .ifCond .ne 13, 29, []), (29, .iload_n 3, 30, []), (30, .iconst 1, 31, []), (31, .if_icmp .ne 12, 34, []), (34, .iload_n 2, 35, []), (35, .iconst 2, 36, []), (36, .if_icmp .ne 7, 39, []), (39, .iconst 1, 40, []), (40, .goto 4, 43, []), (43, .iconst 0, 44, [])] := dk_ck (by decide +kernel)
set_option maxRecDepth 4096 in
theorem w_Rm_putCond {nl : Bool} {Ln : Nat} {xs : Nat → Int32} {d : Nat} {this : Nat} {p0 : Int32} {p1 : Int32} {σ : am_S} {F : am_S → Prop} (h : (am_is σ (some this) 12) ∧ (am_is σ (am_fR σ 12016 this) 13) ∧ (am_ar σ 1000 (am_fR σ 13032 ((am_fR σ 12016 this).getD 0)) p0) ∧ ∀ v4 : Int32, v4 = (am_aI σ ((am_fR σ 13032 ((am_fR σ 12016 this).getD 0)).getD 0) p0.toNatClampNeg) → (am_ar σ 1000 (am_fR σ 13033 ((am_fR σ 12016 this).getD 0)) p0) ∧ ∀ v7 : Int32, v7 = (am_aI σ ((am_fR σ 13033 ((am_fR σ 12016 this).getD 0)).getD 0) p0.toNatClampNeg) → c_Rm_putCond_44 nl Ln xs (d + 1) this p0 p1 v4 v7 (if ((v4 = 0) ∧ (¬ (p1 = 0) ∨ ((v4 = (1 : Int32)) ∧ (p1 = (2 : Int32))))) ∨ (¬ (v4 = 0) ∧ ((v4 = (1 : Int32)) ∧ (p1 = (2 : Int32)))) then (1 : Int32) else 0) σ F) : k_Rm_putCond nl Ln xs (d + 1) this p0 p1 σ F := by
  obtain ⟨j0, j1, j4, j7, j8, j9, j10, j11, j14, j17, j18, j19, j21, j22, j25, j26, j29, j30, j31, j34, j35, j36, j39, j40, j43, -⟩ := P_Rm_putCond nl Ln xs
  have elo : am_lo 6 [am_ov (some this), .int p0, .int p1] = [some (am_ov (some this)), some (.int p0), some (.int p1), none, none, none] := by simp only [am_lo, am_in_ov, am_in_int, am_in_long, am_in_nil]; rfl
  unfold k_Rm_putCond
  rw [elo]
  refine s_aload_n j0 rfl rfl ?_
  obtain ⟨ho1, h⟩ := h
  refine s_gfR j1 rfl ho1 ?_
  obtain ⟨ho2, h⟩ := h
  refine s_gfR j4 rfl ho2 ?_
  refine s_iload_n j7 rfl rfl ?_
  obtain ⟨ho3, h⟩ := h
  refine s_iaload j8 rfl ho3 ?_
  refine s_istore_nV j9 rfl (n := 6) (L' := fun w => [some (am_ov (some this)), some (.int p0), some (.int p1), some (.int w), none, none]) rfl (by decide) (fun _ => rfl) (fun v4 hv5 => ?_)
  replace h := h v4 hv5
  refine s_aload_n j10 rfl rfl ?_
  refine s_gfR j11 rfl ho1 ?_
  refine s_gfR j14 rfl ho2 ?_
  refine s_iload_n j17 rfl rfl ?_
  obtain ⟨ho6, h⟩ := h
  refine s_iaload j18 rfl ho6 ?_
  refine s_istoreV j19 rfl (n := 6) (L' := fun w => [some (am_ov (some this)), some (.int p0), some (.int p1), some (.int v4), some (.int w), none]) rfl (by decide) (fun _ => rfl) (fun v7 hv8 => ?_)
  replace h := h v7 hv8
  refine s_iload_n j21 rfl rfl ?_
  have K15 : ∀ (w16 : Int32), w16 = (if ((v4 = 0) ∧ (¬ (p1 = 0) ∨ ((v4 = (1 : Int32)) ∧ (p1 = (2 : Int32))))) ∨ (¬ (v4 = 0) ∧ ((v4 = (1 : Int32)) ∧ (p1 = (2 : Int32)))) then (1 : Int32) else 0) → am_C (TT nl Ln xs) (d + 1) 335 44 [some (am_ov (some this)), some (.int p0), some (.int p1), some (.int v4), some (.int v7), none] [.int w16] σ (am_qV F) := by
    intro w16 hw17
    subst hw17
    exact h
  refine s_ifn j22 rfl rfl am_cc_ne (fun hc9 => ?_) (fun hc9 => ?_)
  · refine s_iload_n j29 rfl rfl ?_
    refine s_iconst j30 rfl kc_ic_1 ?_
    refine s_icn j31 rfl rfl am_cc_ne (fun hc13 => ?_) (fun hc13 => ?_)
    · refine s_iconst j43 rfl kc_ic_0 ?_
      exact K15 _ (am_e0 (am_p14 hc9 (Iff.trans Iff.rfl (am_p2 hc13))))
    · refine s_iload_n j34 rfl rfl ?_
      refine s_iconst j35 rfl kc_ic_2 ?_
      refine s_icn j36 rfl rfl am_cc_ne (fun hc14 => ?_) (fun hc14 => ?_)
      · refine s_iconst j43 rfl kc_ic_0 ?_
        exact K15 _ (am_e0 (am_p14 hc9 (am_p1 hc13 (Iff.trans Iff.rfl (am_p10 hc14)))))
      · refine s_iconst j39 rfl kc_ic_1 ?_
        refine s_goto j40 rfl rfl ?_
        exact K15 _ (am_e1 (am_p14 hc9 (am_p1 hc13 (Iff.trans Iff.rfl (am_p9 hc14)))))
  · refine s_iload_n j25 rfl rfl ?_
    refine s_ifn j26 rfl rfl am_cc_ne (fun hc10 => ?_) (fun hc10 => ?_)
    · refine s_iconst j39 rfl kc_ic_1 ?_
      refine s_goto j40 rfl rfl ?_
      exact K15 _ (am_e1 (am_p13 hc9 (Iff.trans Iff.rfl (am_p7 hc10))))
    · refine s_iload_n j29 rfl rfl ?_
      refine s_iconst j30 rfl kc_ic_1 ?_
      refine s_icn j31 rfl rfl am_cc_ne (fun hc11 => ?_) (fun hc11 => ?_)
      · refine s_iconst j43 rfl kc_ic_0 ?_
        exact K15 _ (am_e0 (am_p13 hc9 (am_p8 hc10 (Iff.trans Iff.rfl (am_p2 hc11)))))
      · refine s_iload_n j34 rfl rfl ?_
        refine s_iconst j35 rfl kc_ic_2 ?_
        refine s_icn j36 rfl rfl am_cc_ne (fun hc12 => ?_) (fun hc12 => ?_)
        · refine s_iconst j43 rfl kc_ic_0 ?_
          exact K15 _ (am_e0 (am_p13 hc9 (am_p8 hc10 (am_p1 hc11 (Iff.trans Iff.rfl (am_p10 hc12))))))
        · refine s_iconst j39 rfl kc_ic_1 ?_
          refine s_goto j40 rfl rfl ?_
          exact K15 _ (am_e1 (am_p13 hc9 (am_p8 hc10 (am_p1 hc11 (Iff.trans Iff.rfl (am_p9 hc12))))))
theorem P_Rm_putCond_44 (nl : Bool) (Ln : Nat) (xs : Nat → Int32) : am_Jl (TT nl Ln xs) 335 [(44, .istore 5, 46, []), (46, .iload 5, 48, []), (48, .ifCond .eq 9, 51, []), (51, .aload_n 0, 52, []), (52, .ldc 198, 54, [5, 35]), (54, .invokevirtual 200, 57, [10, 334, 13, 4, 2])] := dk_ck (by decide +kernel)
set_option maxRecDepth 4096 in
theorem w_Rm_putCond_44 {nl : Bool} {Ln : Nat} {xs : Nat → Int32} {d : Nat} {this : Nat} {x1 : Int32} {x2 : Int32} {x3 : Int32} {x4 : Int32} {y0 : Int32} {σ : am_S} {F : am_S → Prop} (h : (y0 = 0 → c_Rm_putCond_57 nl Ln xs (d + 1) this x1 x2 x3 x4 y0 σ F) ∧ (¬ (y0 = 0) → (am_is σ (some this) 12) ∧ k_Rm_putToken nl Ln xs d this (some 35) σ (fun σ3 => am_ext σ σ3 → c_Rm_putCond_57 nl Ln xs (d + 1) this x1 x2 x3 x4 y0 σ3 F))) : c_Rm_putCond_44 nl Ln xs (d + 1) this x1 x2 x3 x4 y0 σ F := by
  obtain ⟨j44, j46, j48, j51, j52, j54, -⟩ := P_Rm_putCond_44 nl Ln xs
  unfold c_Rm_putCond_44
  refine s_istore j44 rfl (n := 6) (L' := [some (am_ov (some this)), some (.int x1), some (.int x2), some (.int x3), some (.int x4), some (.int y0)]) rfl (by decide) rfl ?_
  refine s_iload j46 rfl rfl ?_
  refine s_if j48 rfl rfl am_cc_eq (fun hc1 => ?_) (fun hc1 => ?_)
  · replace h := h.1 hc1
    exact h
  · replace h := h.2 hc1
    refine s_aload_n j51 rfl rfl ?_
    refine s_ldcS j52 rfl ?_
    obtain ⟨ho2, h⟩ := h
    refine s_virt j54 rfl rfl rfl rfl ho2 (by decide) (in_Rm_putToken _ _) (am_r8 rfl) (am_bV h (fun σ3 h hx3 => ?_))
    replace h := h hx3
    exact h
theorem P_Rm_putCond_57 (nl : Bool) (Ln : Nat) (xs : Nat → Int32) : am_Jl (TT nl Ln xs) 335 [(57, .iload_n 3, 58, []), (58, .ifCond .eq 8, 61, []), (61, .iload_n 3, 62, []), (62, .iconst 1, 63, []), (63, .if_icmp .ne 42, 66, []), (105, .iload_n 3, 106, []), (106, .iconst 2, 107, []), (107, .if_icmp .ne 19, 110, []), (110, .aload_n 0, 111, []), (111, .ldc 214, 113, [5, 23]), (113, .invokevirtual 200, 116, [10, 334, 13, 4, 2]), (116, .aload_n 0, 117, []), (117, .iload 4, 119, []), (119, .iconst 2, 120, []), (120, .invokevirtual 203, 123, [10, 335, 13, 6, 3]), (123, .goto 72, 126, []), (126, .iload_n 3, 127, []), (127, .bipush 7, 129, []), (129, .if_icmp .ne 23, 132, []), (132, .aload_n 0, 133, []), (133, .ldc 216, 135, [5, 28]), (135, .invokevirtual 200, 138, [10, 334, 13, 4, 2]), (138, .aload_n 0, 139, []), (139, .aload_n 0, 140, []), (140, .getfield 50, 143, [9, 12, 0, 2]), (143, .iload 4, 145, []), (145, .aaload, 146, []), (146, .invokevirtual 200, 149, [10, 334, 13, 4, 2]), (149, .goto 46, 152, []), (152, .aload_n 0, 153, []), (153, .iload_n 3, 154, []), (154, .iconst 3, 155, []), (155, .if_icmp .ne 8, 158, []), (158, .ldc 218, 160, [5, 24]), (160, .goto 25, 163, []), (163, .iload_n 3, 164, []), (164, .iconst 4, 165, []), (165, .if_icmp .ne 8, 168, []), (168, .ldc 220, 170, [5, 25]), (170, .goto 15, 173, []), (173, .iload_n 3, 174, []), (174, .iconst 5, 175, []), (175, .if_icmp .ne 8, 178, []), (178, .ldc 222, 180, [5, 26]), (180, .goto 5, 183, []), (183, .ldc 224, 185, [5, 27])] := dk_ck (by decide +kernel)
set_option maxRecDepth 4096 in
theorem w_Rm_putCond_57 {nl : Bool} {Ln : Nat} {xs : Nat → Int32} {d : Nat} {this : Nat} {x1 : Int32} {x2 : Int32} {x3 : Int32} {x4 : Int32} {x5 : Int32} {σ : am_S} {F : am_S → Prop} (h : (x3 = 0 → c_Rm_putCond_66 nl Ln xs (d + 1) this x1 x2 x3 x4 x5 σ F) ∧ (¬ (x3 = 0) → (x3 = (1 : Int32) → c_Rm_putCond_66 nl Ln xs (d + 1) this x1 x2 x3 x4 x5 σ F) ∧ (¬ (x3 = (1 : Int32)) → (x3 = (2 : Int32) → (am_is σ (some this) 12) ∧ k_Rm_putToken nl Ln xs d this (some 23) σ (fun σ5 => am_ext σ σ5 → k_Rm_putCond nl Ln xs d this x4 (2 : Int32) σ5 (fun σ7 => am_ext σ5 σ7 → c_Rm_putCond_195 nl Ln xs (d + 1) this x1 x2 x3 x4 x5 σ7 F))) ∧ (¬ (x3 = (2 : Int32)) → (x3 = (7 : Int32) → (am_is σ (some this) 12) ∧ k_Rm_putToken nl Ln xs d this (some 28) σ (fun σ11 => am_ext σ σ11 → (am_ar σ11 2500 (am_fR σ11 12000 this) x4) ∧ k_Rm_putToken nl Ln xs d this (am_aR σ11 ((am_fR σ11 12000 this).getD 0) x4.toNatClampNeg) σ11 (fun σ14 => am_ext σ11 σ14 → c_Rm_putCond_195 nl Ln xs (d + 1) this x1 x2 x3 x4 x5 σ14 F))) ∧ (¬ (x3 = (7 : Int32)) → ∀ w20 : Option Nat, w20 = (if x3 = (3 : Int32) then some 24 else (if x3 = (4 : Int32) then some 25 else (if x3 = (5 : Int32) then some 26 else some 27))) → c_Rm_putCond_185 nl Ln xs (d + 1) this x1 x2 x3 x4 x5 (some this) w20 σ F))))) : c_Rm_putCond_57 nl Ln xs (d + 1) this x1 x2 x3 x4 x5 σ F := by
  obtain ⟨j57, j58, j61, j62, j63, j105, j106, j107, j110, j111, j113, j116, j117, j119, j120, j123, j126, j127, j129, j132, j133, j135, j138, j139, j140, j143, j145, j146, j149, j152, j153, j154, j155, j158, j160, j163, j164, j165, j168, j170, j173, j174, j175, j178, j180, j183, -⟩ := P_Rm_putCond_57 nl Ln xs
  unfold c_Rm_putCond_57
  refine s_iload_n j57 rfl rfl ?_
  refine s_if j58 rfl rfl am_cc_eq (fun hc1 => ?_) (fun hc1 => ?_)
  · replace h := h.1 hc1
    exact h
  · replace h := h.2 hc1
    refine s_iload_n j61 rfl rfl ?_
    refine s_iconst j62 rfl kc_ic_1 ?_
    refine s_icn j63 rfl rfl am_cc_ne (fun hc2 => ?_) (fun hc2 => ?_)
    · replace h := h.2 hc2
      refine s_iload_n j105 rfl rfl ?_
      refine s_iconst j106 rfl kc_ic_2 ?_
      refine s_icn j107 rfl rfl am_cc_ne (fun hc3 => ?_) (fun hc3 => ?_)
      · replace h := h.2 hc3
        refine s_iload_n j126 rfl rfl ?_
        refine s_bipush j127 rfl kc_bi_7 ?_
        refine s_icn j129 rfl rfl am_cc_ne (fun hc9 => ?_) (fun hc9 => ?_)
        · replace h := h.2 hc9
          refine s_aload_n j152 rfl rfl ?_
          refine s_iload_n j153 rfl rfl ?_
          refine s_iconst j154 rfl kc_ic_3 ?_
          have K19 : ∀ (w20 : Option Nat), w20 = (if x3 = (3 : Int32) then some 24 else (if x3 = (4 : Int32) then some 25 else (if x3 = (5 : Int32) then some 26 else some 27))) → am_C (TT nl Ln xs) (d + 1) 335 185 [some (am_ov (some this)), some (.int x1), some (.int x2), some (.int x3), some (.int x4), some (.int x5)] [am_ov w20, am_ov (some this)] σ (am_qV F) := by
            intro w20 hw21
            replace h := h w20 hw21
            exact h
          refine s_icn j155 rfl rfl am_cc_ne (fun hc16 => ?_) (fun hc16 => ?_)
          · refine s_iload_n j163 rfl rfl ?_
            refine s_iconst j164 rfl kc_ic_4 ?_
            refine s_icn j165 rfl rfl am_cc_ne (fun hc17 => ?_) (fun hc17 => ?_)
            · refine s_iload_n j173 rfl rfl ?_
              refine s_iconst j174 rfl kc_ic_5 ?_
              refine s_icn j175 rfl rfl am_cc_ne (fun hc18 => ?_) (fun hc18 => ?_)
              · refine s_ldcS j183 rfl ?_
                exact K19 _ (am_t2 hc16 (am_t2 hc17 (am_t2 hc18 rfl)))
              · refine s_ldcS j178 rfl ?_
                refine s_goto j180 rfl rfl ?_
                exact K19 _ (am_t2 hc16 (am_t2 hc17 (am_t1 hc18 rfl)))
            · refine s_ldcS j168 rfl ?_
              refine s_goto j170 rfl rfl ?_
              exact K19 _ (am_t2 hc16 (am_t1 hc17 rfl))
          · refine s_ldcS j158 rfl ?_
            refine s_goto j160 rfl rfl ?_
            exact K19 _ (am_t1 hc16 rfl)
        · replace h := h.1 hc9
          refine s_aload_n j132 rfl rfl ?_
          refine s_ldcS j133 rfl ?_
          obtain ⟨ho10, h⟩ := h
          refine s_virt j135 rfl rfl rfl rfl ho10 (by decide) (in_Rm_putToken _ _) (am_r8 rfl) (am_bV h (fun σ11 h hx11 => ?_))
          replace h := h hx11
          refine s_aload_n j138 rfl rfl ?_
          refine s_aload_n j139 rfl rfl ?_
          refine s_gfR j140 rfl (am_is_ext hx11 ho10) ?_
          refine s_iload j143 rfl rfl ?_
          obtain ⟨ho13, h⟩ := h
          refine s_aaload (k := 2500) (by decide) kq_2500 j145 rfl ho13 ?_
          refine s_virt j146 rfl rfl rfl rfl (am_is_ext hx11 ho10) (by decide) (in_Rm_putToken _ _) (am_r8 rfl) (am_bV h (fun σ14 h hx14 => ?_))
          replace h := h hx14
          refine s_goto j149 rfl rfl ?_
          exact h
      · replace h := h.1 hc3
        refine s_aload_n j110 rfl rfl ?_
        refine s_ldcS j111 rfl ?_
        obtain ⟨ho4, h⟩ := h
        refine s_virt j113 rfl rfl rfl rfl ho4 (by decide) (in_Rm_putToken _ _) (am_r8 rfl) (am_bV h (fun σ5 h hx5 => ?_))
        replace h := h hx5
        refine s_aload_n j116 rfl rfl ?_
        refine s_iload j117 rfl rfl ?_
        refine s_iconst j119 rfl kc_ic_2 ?_
        refine s_virt j120 rfl rfl rfl rfl (am_is_ext hx5 ho4) (by decide) (in_Rm_putCond _ _ _) (am_r8 rfl) (am_bV h (fun σ7 h hx7 => ?_))
        replace h := h hx7
        refine s_goto j123 rfl rfl ?_
        exact h
    · replace h := h.1 hc2
      exact h
theorem P_Rm_putCond_66 (nl : Bool) (Ln : Nat) (xs : Nat → Int32) : am_Jl (TT nl Ln xs) 335 [(66, .aload_n 0, 67, []), (67, .iload 4, 69, []), (69, .iload_n 3, 70, []), (70, .invokevirtual 203, 73, [10, 335, 13, 6, 3]), (73, .aload_n 0, 74, []), (74, .iload_n 3, 75, []), (75, .ifCond .ne 8, 78, []), (78, .ldc 207, 80, [5, 30]), (80, .goto 5, 83, []), (83, .ldc 209, 85, [5, 29])] := dk_ck (by decide +kernel)
set_option maxRecDepth 4096 in
theorem w_Rm_putCond_66 {nl : Bool} {Ln : Nat} {xs : Nat → Int32} {d : Nat} {this : Nat} {x1 : Int32} {x2 : Int32} {x3 : Int32} {x4 : Int32} {x5 : Int32} {σ : am_S} {F : am_S → Prop} (h : (am_is σ (some this) 12) ∧ k_Rm_putCond nl Ln xs d this x4 x3 σ (fun σ2 => am_ext σ σ2 → ∀ w6 : Option Nat, w6 = (if x3 = 0 then some 30 else some 29) → c_Rm_putCond_85 nl Ln xs (d + 1) this x1 x2 x3 x4 x5 (some this) w6 σ2 F)) : c_Rm_putCond_66 nl Ln xs (d + 1) this x1 x2 x3 x4 x5 σ F := by
  obtain ⟨j66, j67, j69, j70, j73, j74, j75, j78, j80, j83, -⟩ := P_Rm_putCond_66 nl Ln xs
  unfold c_Rm_putCond_66
  refine s_aload_n j66 rfl rfl ?_
  refine s_iload j67 rfl rfl ?_
  refine s_iload_n j69 rfl rfl ?_
  obtain ⟨ho1, h⟩ := h
  refine s_virt j70 rfl rfl rfl rfl ho1 (by decide) (in_Rm_putCond _ _ _) (am_r8 rfl) (am_bV h (fun σ2 h hx2 => ?_))
  replace h := h hx2
  refine s_aload_n j73 rfl rfl ?_
  refine s_iload_n j74 rfl rfl ?_
  have K5 : ∀ (w6 : Option Nat), w6 = (if x3 = 0 then some 30 else some 29) → am_C (TT nl Ln xs) (d + 1) 335 85 [some (am_ov (some this)), some (.int x1), some (.int x2), some (.int x3), some (.int x4), some (.int x5)] [am_ov w6, am_ov (some this)] σ2 (am_qV F) := by
    intro w6 hw7
    replace h := h w6 hw7
    exact h
  refine s_ifn j75 rfl rfl am_cc_ne (fun hc4 => ?_) (fun hc4 => ?_)
  · refine s_ldcS j83 rfl ?_
    exact K5 _ (am_t2 hc4 rfl)
  · refine s_ldcS j78 rfl ?_
    refine s_goto j80 rfl rfl ?_
    exact K5 _ (am_t1 hc4 rfl)
theorem P_Rm_putCond_85 (nl : Bool) (Ln : Nat) (xs : Nat → Int32) : am_Jl (TT nl Ln xs) 335 [(85, .invokevirtual 200, 88, [10, 334, 13, 4, 2]), (88, .aload_n 0, 89, []), (89, .aload_n 0, 90, []), (90, .getfield 88, 93, [9, 12, 16, 2]), (93, .getfield 211, 96, [9, 13, 34, 2]), (96, .iload_n 1, 97, []), (97, .iaload, 98, []), (98, .iload_n 3, 99, []), (99, .invokevirtual 203, 102, [10, 335, 13, 6, 3]), (102, .goto 93, 105, [])] := dk_ck (by decide +kernel)
set_option maxRecDepth 4096 in
theorem w_Rm_putCond_85 {nl : Bool} {Ln : Nat} {xs : Nat → Int32} {d : Nat} {this : Nat} {x1 : Int32} {x2 : Int32} {x3 : Int32} {x4 : Int32} {x5 : Int32} {y0 : Option Nat} {y1 : Option Nat} {σ : am_S} {F : am_S → Prop} (h : (am_is σ y0 12) ∧ k_Rm_putToken nl Ln xs d (y0.getD 0) y1 σ (fun σ2 => am_ext σ σ2 → (am_is σ2 (some this) 12) ∧ (am_is σ2 (am_fR σ2 12016 this) 13) ∧ (am_ar σ2 1000 (am_fR σ2 13034 ((am_fR σ2 12016 this).getD 0)) x1) ∧ k_Rm_putCond nl Ln xs d this (am_aI σ2 ((am_fR σ2 13034 ((am_fR σ2 12016 this).getD 0)).getD 0) x1.toNatClampNeg) x3 σ2 (fun σ7 => am_ext σ2 σ7 → c_Rm_putCond_195 nl Ln xs (d + 1) this x1 x2 x3 x4 x5 σ7 F))) : c_Rm_putCond_85 nl Ln xs (d + 1) this x1 x2 x3 x4 x5 y0 y1 σ F := by
  obtain ⟨j85, j88, j89, j90, j93, j96, j97, j98, j99, j102, -⟩ := P_Rm_putCond_85 nl Ln xs
  unfold c_Rm_putCond_85
  obtain ⟨ho1, h⟩ := h
  refine s_virt j85 rfl rfl rfl rfl ho1 (by decide) (in_Rm_putToken _ _) (am_r8 rfl) (am_bV h (fun σ2 h hx2 => ?_))
  replace h := h hx2
  refine s_aload_n j88 rfl rfl ?_
  refine s_aload_n j89 rfl rfl ?_
  obtain ⟨ho4, h⟩ := h
  refine s_gfR j90 rfl ho4 ?_
  obtain ⟨ho5, h⟩ := h
  refine s_gfR j93 rfl ho5 ?_
  refine s_iload_n j96 rfl rfl ?_
  obtain ⟨ho6, h⟩ := h
  refine s_iaload j97 rfl ho6 ?_
  refine s_iload_n j98 rfl rfl ?_
  refine s_virt j99 rfl rfl rfl rfl ho4 (by decide) (in_Rm_putCond _ _ _) (am_r8 rfl) (am_bV h (fun σ7 h hx7 => ?_))
  replace h := h hx7
  refine s_goto j102 rfl rfl ?_
  exact h
theorem P_Rm_putCond_185 (nl : Bool) (Ln : Nat) (xs : Nat → Int32) : am_Jl (TT nl Ln xs) 335 [(185, .invokevirtual 200, 188, [10, 334, 13, 4, 2]), (188, .aload_n 0, 189, []), (189, .iload 4, 191, []), (191, .i2l, 192, []), (192, .invokevirtual 226, 195, [10, 336, 13, 3, 2])] := dk_ck (by decide +kernel)
set_option maxRecDepth 4096 in
theorem w_Rm_putCond_185 {nl : Bool} {Ln : Nat} {xs : Nat → Int32} {d : Nat} {this : Nat} {x1 : Int32} {x2 : Int32} {x3 : Int32} {x4 : Int32} {x5 : Int32} {y0 : Option Nat} {y1 : Option Nat} {σ : am_S} {F : am_S → Prop} (h : (am_is σ y0 12) ∧ k_Rm_putToken nl Ln xs d (y0.getD 0) y1 σ (fun σ2 => am_ext σ σ2 → (am_is σ2 (some this) 12) ∧ k_Rm_putTokenNumber nl Ln xs d this x4.toInt64 σ2 (fun σ5 => am_ext σ2 σ5 → c_Rm_putCond_195 nl Ln xs (d + 1) this x1 x2 x3 x4 x5 σ5 F))) : c_Rm_putCond_185 nl Ln xs (d + 1) this x1 x2 x3 x4 x5 y0 y1 σ F := by
  obtain ⟨j185, j188, j189, j191, j192, -⟩ := P_Rm_putCond_185 nl Ln xs
  unfold c_Rm_putCond_185
  obtain ⟨ho1, h⟩ := h
  refine s_virt j185 rfl rfl rfl rfl ho1 (by decide) (in_Rm_putToken _ _) (am_r8 rfl) (am_bV h (fun σ2 h hx2 => ?_))
  replace h := h hx2
  refine s_aload_n j188 rfl rfl ?_
  refine s_iload j189 rfl rfl ?_
  refine s_g j191 rfl rfl rfl rfl rfl rfl ?_
  obtain ⟨ho4, h⟩ := h
  refine s_virt j192 rfl rfl rfl rfl ho4 (by decide) (in_Rm_putTokenNumber _ _) (am_r8 rfl) (am_bV h (fun σ5 h hx5 => ?_))
  replace h := h hx5
  exact h
theorem P_Rm_putCond_195 (nl : Bool) (Ln : Nat) (xs : Nat → Int32) : am_Jl (TT nl Ln xs) 335 [(195, .iload 5, 197, []), (197, .ifCond .eq 9, 200, []), (200, .aload_n 0, 201, []), (201, .ldc 229, 203, [5, 36]), (203, .invokevirtual 200, 206, [10, 334, 13, 4, 2]), (206, .return_, 207, [0])] := dk_ck (by decide +kernel)
set_option maxRecDepth 4096 in
theorem w_Rm_putCond_195 {nl : Bool} {Ln : Nat} {xs : Nat → Int32} {d : Nat} {this : Nat} {x1 : Int32} {x2 : Int32} {x3 : Int32} {x4 : Int32} {x5 : Int32} {σ : am_S} {F : am_S → Prop} (h : (x5 = 0 → F σ) ∧ (¬ (x5 = 0) → (am_is σ (some this) 12) ∧ k_Rm_putToken nl Ln xs d this (some 36) σ (fun σ3 => am_ext σ σ3 → F σ3))) : c_Rm_putCond_195 nl Ln xs (d + 1) this x1 x2 x3 x4 x5 σ F := by
  obtain ⟨j195, j197, j200, j201, j203, j206, -⟩ := P_Rm_putCond_195 nl Ln xs
  unfold c_Rm_putCond_195
  refine s_iload j195 rfl rfl ?_
  refine s_if j197 rfl rfl am_cc_eq (fun hc1 => ?_) (fun hc1 => ?_)
  · replace h := h.1 hc1
    exact s_retV j206 rfl h
  · replace h := h.2 hc1
    refine s_aload_n j200 rfl rfl ?_
    refine s_ldcS j201 rfl ?_
    obtain ⟨ho2, h⟩ := h
    refine s_virt j203 rfl rfl rfl rfl ho2 (by decide) (in_Rm_putToken _ _) (am_r8 rfl) (am_bV h (fun σ3 h hx3 => ?_))
    replace h := h hx3
    exact s_retV j206 rfl h
