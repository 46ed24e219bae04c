/-! statements of methods, 10 (by wip/whole/gensteps.py) -/
theorem P_Ro_isCase (nl : Bool) (Ln : Nat) (xs : Nat → Int32) : am_Jl (TT nl Ln xs) 208 [(0, .lload_n 1, 1, []), (1, .lconst 0, 2, []), (2, .aload_n 0, 3, []), (3, .getfield 237, 6, [9, 13, 45, 0]), (6, .iconst 1, 7, []), (7, .isub, 8, []), (8, .i2l, 9, []), (9, .invokestatic 364, 12, [12, 209, 6, 3]), (12, .ireturn, 13, [4])] := dk_ck (by decide +kernel)
set_option maxRecDepth 4096 in
theorem w_Ro_isCase {nl : Bool} {Ln : Nat} {xs : Nat → Int32} {d : Nat} {this : Nat} {p0 : Int64} {σ : am_S} {F : Bool → am_S → Prop} (h : (am_is σ (some this) 13) ∧ k_Rm_in nl Ln xs d p0 (0 : Int64) (((am_fI σ 13045 this) - (1 : Int32)).toInt64) σ (fun a3 σ2 => am_ext σ σ2 → F (decide (a3 = true)) σ2)) : k_Ro_isCase nl Ln xs (d + 1) this p0 σ F := by
  obtain ⟨j0, j1, j2, j3, j6, j7, j8, j9, j12, -⟩ := P_Ro_isCase nl Ln xs
  have elo : am_lo 3 [am_ov (some this), .long p0] = [some (am_ov (some this)), some (.long p0), none] := by simp only [am_lo, am_in_ov, am_in_int, am_in_long, am_in_nil]; rfl
  unfold k_Ro_isCase
  rw [elo]
  refine s_lload_n j0 rfl rfl ?_
  refine s_lconst j1 rfl rfl ?_
  refine s_aload_n j2 rfl rfl ?_
  obtain ⟨ho1, h⟩ := h
  refine s_gfI j3 rfl ho1 ?_
  refine s_iconst j6 rfl kc_ic_1 ?_
  refine s_g j7 rfl rfl rfl rfl rfl rfl ?_
  refine s_g j8 rfl rfl rfl rfl rfl rfl ?_
  refine s_stat j9 rfl rfl rfl rfl (by decide) (in_Rm_in _ _ _) (am_r8 rfl) (am_bB h (fun a3 σ2 h hx2 => ?_))
  replace h := h hx2
  exact s_retZ j12 rfl h
theorem P_Rm_in (nl : Bool) (Ln : Nat) (xs : Nat → Int32) : am_Jl (TT nl Ln xs) 209 [(0, .lload_n 0, 1, []), (1, .lload_n 2, 2, []), (2, .lcmp, 3, []), (3, .ifCond .lt 14, 6, []), (6, .lload_n 0, 7, []), (7, .lload 4, 9, []), (9, .lcmp, 10, []), (10, .ifCond .gt 7, 13, []), (13, .iconst 1, 14, []), (14, .goto 4, 17, []), (17, .iconst 0, 18, []), (18, .ireturn, 19, [4])] := dk_ck (by decide +kernel)
set_option maxRecDepth 4096 in
theorem w_Rm_in {nl : Bool} {Ln : Nat} {xs : Nat → Int32} {d : Nat} {p0 : Int64} {p1 : Int64} {p2 : Int64} {σ : am_S} {F : Bool → am_S → Prop} (h : F (decide (¬ (p0 < p1) ∧ (¬ (p2 < p0)))) σ) : k_Rm_in nl Ln xs (d + 1) p0 p1 p2 σ F := by
  obtain ⟨j0, j1, j2, j3, j6, j7, j9, j10, j13, j14, j17, j18, -⟩ := P_Rm_in nl Ln xs
  have elo : am_lo 6 [.long p0, .long p1, .long p2] = [some (.long p0), none, some (.long p1), none, some (.long p2), none] := by simp only [am_lo, am_in_ov, am_in_int, am_in_long, am_in_nil]; rfl
  unfold k_Rm_in
  rw [elo]
  refine s_lload_n j0 rfl rfl ?_
  refine s_lload_n j1 rfl rfl ?_
  refine s_g j2 rfl rfl rfl rfl rfl rfl ?_
  have K3 : ∀ (w4 : Int32), w4 = (if ¬ (p0 < p1) ∧ (¬ (p2 < p0)) then (1 : Int32) else 0) → am_C (TT nl Ln xs) (d + 1) 209 18 [some (.long p0), none, some (.long p1), none, some (.long p2), none] [.int w4] σ (am_qB F) := by
    intro w4 hw5
    subst hw5
    exact s_retZ j18 rfl h
  refine s_if j3 rfl rfl am_cl_lt (fun hc1 => ?_) (fun hc1 => ?_)
  · refine s_iconst j17 rfl kc_ic_0 ?_
    exact K3 _ (am_e0 (Iff.trans Iff.rfl (am_p6 hc1)))
  · refine s_lload_n j6 rfl rfl ?_
    refine s_lload j7 rfl rfl ?_
    refine s_g j9 rfl rfl rfl rfl rfl rfl ?_
    refine s_if j10 rfl rfl am_cl_gt (fun hc2 => ?_) (fun hc2 => ?_)
    · refine s_iconst j17 rfl kc_ic_0 ?_
      exact K3 _ (am_e0 (am_p5 hc1 (Iff.trans Iff.rfl (am_p11 hc2))))
    · refine s_iconst j13 rfl kc_ic_1 ?_
      refine s_goto j14 rfl rfl ?_
      exact K3 _ (am_e1 (am_p5 hc1 (Iff.trans Iff.rfl (am_p12 hc2))))
theorem P_Ro_root (nl : Bool) (Ln : Nat) (xs : Nat → Int32) : am_Jl (TT nl Ln xs) 210 [(0, .iload_n 1, 1, []), (1, .istore_n 2, 2, [])] := dk_ck (by decide +kernel)
set_option maxRecDepth 4096 in
theorem w_Ro_root {nl : Bool} {Ln : Nat} {xs : Nat → Int32} {d : Nat} {this : Nat} {p0 : Int32} {σ : am_S} {F : Int32 → am_S → Prop} (h : c_Ro_root_2 nl Ln xs (d + 1) this p0 p0 σ F) : k_Ro_root nl Ln xs (d + 1) this p0 σ F := by
  obtain ⟨j0, j1, -⟩ := P_Ro_root nl Ln xs
  have elo : am_lo 3 [am_ov (some this), .int p0] = [some (am_ov (some this)), some (.int p0), none] := by simp only [am_lo, am_in_ov, am_in_int, am_in_long, am_in_nil]; rfl
  unfold k_Ro_root
  rw [elo]
  refine s_iload_n j0 rfl rfl ?_
  refine s_istore_n j1 rfl (n := 3) (L' := [some (am_ov (some this)), some (.int p0), some (.int p0)]) rfl (by decide) rfl ?_
  exact h
theorem P_Ro_root_2 (nl : Bool) (Ln : Nat) (xs : Nat → Int32) : am_Jl (TT nl Ln xs) 210 [(2, .aload_n 0, 3, []), (3, .getfield 95, 6, [9, 13, 36, 2]), (6, .iload_n 2, 7, []), (7, .iaload, 8, []), (8, .iconst 5, 9, []), (9, .if_icmp .ne 13, 12, []), (12, .aload_n 0, 13, []), (13, .getfield 101, 16, [9, 13, 38, 2]), (16, .iload_n 2, 17, []), (17, .iaload, 18, []), (18, .istore_n 2, 19, []), (19, .goto (-17), 22, []), (22, .iload_n 2, 23, []), (23, .ireturn, 24, [1])] := dk_ck (by decide +kernel)
set_option maxRecDepth 4096 in
theorem w_Ro_root_2 {nl : Bool} {Ln : Nat} {xs : Nat → Int32} {d : Nat} {this : Nat} {x1 : Int32} {x2 : Int32} {σ : am_S} {F : Int32 → am_S → Prop} (h : (am_is σ (some this) 13) ∧ (am_ar σ 1000 (am_fR σ 13036 this) x2) ∧ ((am_aI σ ((am_fR σ 13036 this).getD 0) x2.toNatClampNeg) = (5 : Int32) → (am_ar σ 1000 (am_fR σ 13038 this) x2) ∧ ∀ v5 : Int32, v5 = (am_aI σ ((am_fR σ 13038 this).getD 0) x2.toNatClampNeg) → c_Ro_root_2 nl Ln xs (d + 1) this x1 v5 σ F) ∧ (¬ ((am_aI σ ((am_fR σ 13036 this).getD 0) x2.toNatClampNeg) = (5 : Int32)) → F x2 σ)) : c_Ro_root_2 nl Ln xs (d + 1) this x1 x2 σ F := by
  obtain ⟨j2, j3, j6, j7, j8, j9, j12, j13, j16, j17, j18, j19, j22, j23, -⟩ := P_Ro_root_2 nl Ln xs
  unfold c_Ro_root_2
  refine s_aload_n j2 rfl rfl ?_
  obtain ⟨ho1, h⟩ := h
  refine s_gfR j3 rfl ho1 ?_
  refine s_iload_n j6 rfl rfl ?_
  obtain ⟨ho2, h⟩ := h
  refine s_iaload j7 rfl ho2 ?_
  refine s_iconst j8 rfl kc_ic_5 ?_
  refine s_icn j9 rfl rfl am_cc_ne (fun hc3 => ?_) (fun hc3 => ?_)
  · replace h := h.2 hc3
    refine s_iload_n j22 rfl rfl ?_
    exact s_retI j23 rfl h
  · replace h := h.1 hc3
    refine s_aload_n j12 rfl rfl ?_
    refine s_gfR j13 rfl ho1 ?_
    refine s_iload_n j16 rfl rfl ?_
    obtain ⟨ho4, h⟩ := h
    refine s_iaload j17 rfl ho4 ?_
    refine s_istore_nV j18 rfl (n := 3) (L' := fun w => [some (am_ov (some this)), some (.int x1), some (.int w)]) rfl (by decide) (fun _ => rfl) (fun v5 hv6 => ?_)
    replace h := h v5 hv6
    refine s_goto j19 rfl rfl ?_
    exact h
theorem P_Ro_isOpen (nl : Bool) (Ln : Nat) (xs : Nat → Int32) : am_Jl (TT nl Ln xs) 211 [(0, .iconst 1, 1, []), (1, .istore 4, 3, []), (3, .bipush 40, 5, []), (5, .iload_n 1, 6, []), (6, .imul, 7, []), (7, .istore 5, 9, [])] := dk_ck (by decide +kernel)
set_option maxRecDepth 4096 in
theorem w_Ro_isOpen {nl : Bool} {Ln : Nat} {xs : Nat → Int32} {d : Nat} {this : Nat} {p0 : Int32} {p1 : Int32} {p2 : Int32} {σ : am_S} {F : Bool → am_S → Prop} (h : ∀ v1 : Int32, v1 = ((40 : Int32) * p0) → c_Ro_isOpen_9 nl Ln xs (d + 1) this p0 p1 p2 (1 : Int32) v1 σ F) : k_Ro_isOpen nl Ln xs (d + 1) this p0 p1 p2 σ F := by
  obtain ⟨j0, j1, j3, j5, j6, j7, -⟩ := P_Ro_isOpen nl Ln xs
  have elo : am_lo 6 [am_ov (some this), .int p0, .int p1, .int p2] = [some (am_ov (some this)), some (.int p0), some (.int p1), some (.int p2), none, none] := by simp only [am_lo, am_in_ov, am_in_int, am_in_long, am_in_nil]; rfl
  unfold k_Ro_isOpen
  rw [elo]
  refine s_iconst j0 rfl kc_ic_1 ?_
  refine s_istore j1 rfl (n := 6) (L' := [some (am_ov (some this)), some (.int p0), some (.int p1), some (.int p2), some (.int (1 : Int32)), none]) rfl (by decide) rfl ?_
  refine s_bipush j3 rfl kc_bi_40 ?_
  refine s_iload_n j5 rfl rfl ?_
  refine s_g j6 rfl rfl rfl rfl rfl rfl ?_
  refine s_istoreV j7 rfl (n := 6) (L' := fun w => [some (am_ov (some this)), some (.int p0), some (.int p1), some (.int p2), some (.int (1 : Int32)), some (.int w)]) rfl (by decide) (fun _ => rfl) (fun v1 hv2 => ?_)
  replace h := h v1 hv2
  exact h
theorem P_Ro_isOpen_9 (nl : Bool) (Ln : Nat) (xs : Nat → Int32) : am_Jl (TT nl Ln xs) 211 [(9, .iload 5, 11, []), (11, .bipush 40, 13, []), (13, .iload_n 1, 14, []), (14, .imul, 15, []), (15, .aload_n 0, 16, []), (16, .getfield 138, 19, [9, 13, 51, 2]), (19, .iload_n 1, 20, []), (20, .iaload, 21, []), (21, .iadd, 22, []), (22, .if_icmp .ge 56, 25, []), (25, .aload_n 0, 26, []), (26, .iload 5, 28, []), (28, .iload_n 2, 29, []), (29, .iload_n 3, 30, []), (30, .invokevirtual 262, 33, [10, 212, 14, 4, 4]), (33, .ifCond .eq 39, 36, []), (36, .aload_n 0, 37, []), (37, .getfield 141, 40, [9, 13, 52, 2]), (40, .iload 5, 42, []), (42, .iaload, 43, []), (43, .bipush 14, 45, []), (45, .if_icmp .ne 7, 48, []), (48, .iconst 0, 49, []), (49, .goto 21, 52, []), (52, .aload_n 0, 53, []), (53, .getfield 141, 56, [9, 13, 52, 2]), (56, .iload 5, 58, []), (58, .iaload, 59, []), (59, .bipush 15, 61, []), (61, .if_icmp .ne 7, 64, []), (64, .iconst 1, 65, []), (65, .goto 5, 68, []), (68, .iload 4, 70, []), (70, .istore 4, 72, []), (72, .iinc 5 1, 75, []), (75, .goto (-66), 78, []), (78, .iload 4, 80, []), (80, .ireturn, 81, [4])] := dk_ck (by decide +kernel)
set_option maxRecDepth 4096 in
theorem w_Ro_isOpen_9 {nl : Bool} {Ln : Nat} {xs : Nat → Int32} {d : Nat} {this : Nat} {x1 : Int32} {x2 : Int32} {x3 : Int32} {x4 : Int32} {x5 : Int32} {σ : am_S} {F : Bool → am_S → Prop} (h : (am_is σ (some this) 13) ∧ (am_ar σ 1000 (am_fR σ 13051 this) x1) ∧ (x5 < (((40 : Int32) * x1) + (am_aI σ ((am_fR σ 13051 this).getD 0) x1.toNatClampNeg)) → k_Ro_counts nl Ln xs d this x5 x2 x3 σ (fun a5 σ4 => am_ext σ σ4 → ((a5 = true) → am_ar σ4 1000 (am_fR σ4 13052 this) x5) ∧ ((a5 = true) → ¬ ((am_aI σ4 ((am_fR σ4 13052 this).getD 0) x5.toNatClampNeg) = (14 : Int32)) → am_ar σ4 1000 (am_fR σ4 13052 this) x5) ∧ ∀ w12 : Int32, w12 = (if a5 = true then (if (am_aI σ4 ((am_fR σ4 13052 this).getD 0) x5.toNatClampNeg) = (14 : Int32) then (0 : Int32) else (if (am_aI σ4 ((am_fR σ4 13052 this).getD 0) x5.toNatClampNeg) = (15 : Int32) then (1 : Int32) else x4)) else x4) → c_Ro_isOpen_9 nl Ln xs (d + 1) this x1 x2 x3 w12 (x5 + (1 : Int32)) σ4 F)) ∧ (¬ (x5 < (((40 : Int32) * x1) + (am_aI σ ((am_fR σ 13051 this).getD 0) x1.toNatClampNeg))) → (x4 = 0 ∨ x4 = 1) ∧ F (decide (x4 = 1)) σ)) : c_Ro_isOpen_9 nl Ln xs (d + 1) this x1 x2 x3 x4 x5 σ F := by
  obtain ⟨j9, j11, j13, j14, j15, j16, j19, j20, j21, j22, j25, j26, j28, j29, j30, j33, j36, j37, j40, j42, j43, j45, j48, j49, j52, j53, j56, j58, j59, j61, j64, j65, j68, j70, j72, j75, j78, j80, -⟩ := P_Ro_isOpen_9 nl Ln xs
  unfold c_Ro_isOpen_9
  refine s_iload j9 rfl rfl ?_
  refine s_bipush j11 rfl kc_bi_40 ?_
  refine s_iload_n j13 rfl rfl ?_
  refine s_g j14 rfl rfl rfl rfl rfl rfl ?_
  refine s_aload_n j15 rfl rfl ?_
  obtain ⟨ho1, h⟩ := h
  refine s_gfR j16 rfl ho1 ?_
  refine s_iload_n j19 rfl rfl ?_
  obtain ⟨ho2, h⟩ := h
  refine s_iaload j20 rfl ho2 ?_
  refine s_g j21 rfl rfl rfl rfl rfl rfl ?_
  refine s_icn j22 rfl rfl am_cc_ge (fun hc3 => ?_) (fun hc3 => ?_)
  · replace h := h.2 hc3
    refine s_iload j78 rfl rfl ?_
    obtain ⟨ho14, h⟩ := h
    exact s_retZf j80 rfl ho14 h
  · replace h := h.1 hc3
    refine s_aload_n j25 rfl rfl ?_
    refine s_iload j26 rfl rfl ?_
    refine s_iload_n j28 rfl rfl ?_
    refine s_iload_n j29 rfl rfl ?_
    refine s_virt j30 rfl rfl rfl rfl ho1 (by decide) (in_Ro_counts _ _ _ _) (am_r8 rfl) (am_bB h (fun a5 σ4 h hx4 => ?_))
    replace h := h hx4
    obtain ⟨ho7, h⟩ := h
    obtain ⟨ho9, h⟩ := h
    have K11 : ∀ (w12 : Int32), w12 = (if a5 = true then (if (am_aI σ4 ((am_fR σ4 13052 this).getD 0) x5.toNatClampNeg) = (14 : Int32) then (0 : Int32) else (if (am_aI σ4 ((am_fR σ4 13052 this).getD 0) x5.toNatClampNeg) = (15 : Int32) then (1 : Int32) else x4)) else x4) → am_C (TT nl Ln xs) (d + 1) 211 72 [some (am_ov (some this)), some (.int x1), some (.int x2), some (.int x3), some (.int w12), some (.int x5)] [] σ4 (am_qB F) := by
      intro w12 hw13
      replace h := h w12 hw13
      refine s_iinc (L' := [some (am_ov (some this)), some (.int x1), some (.int x2), some (.int x3), some (.int w12), some (.int (x5 + (1 : Int32)))]) j72 rfl rfl kc_ic_1 rfl ?_
      refine s_goto j75 rfl rfl ?_
      exact h
    refine s_ifn j33 rfl rfl am_cb_eq (fun hc6 => ?_) (fun hc6 => ?_)
    · exact K11 _ (am_t2 hc6 rfl)
    · refine s_aload_n j36 rfl rfl ?_
      refine s_gfR j37 rfl (am_is_ext hx4 ho1) ?_
      refine s_iload j40 rfl rfl ?_
      refine s_iaload j42 rfl (ho7 hc6) ?_
      refine s_bipush j43 rfl kc_bi_14 ?_
      refine s_icn j45 rfl rfl am_cc_ne (fun hc8 => ?_) (fun hc8 => ?_)
      · refine s_aload_n j52 rfl rfl ?_
        refine s_gfR j53 rfl (am_is_ext hx4 ho1) ?_
        refine s_iload j56 rfl rfl ?_
        refine s_iaload j58 rfl (ho9 hc6 hc8) ?_
        refine s_bipush j59 rfl kc_bi_15 ?_
        refine s_icn j61 rfl rfl am_cc_ne (fun hc10 => ?_) (fun hc10 => ?_)
        · refine s_iload j68 rfl rfl ?_
          refine s_istore j70 rfl (n := 6) (L' := [some (am_ov (some this)), some (.int x1), some (.int x2), some (.int x3), some (.int x4), some (.int x5)]) rfl (by decide) rfl ?_
          exact K11 _ (am_t1 hc6 (am_t2 hc8 (am_t2 hc10 rfl)))
        · refine s_iconst j64 rfl kc_ic_1 ?_
          refine s_goto j65 rfl rfl ?_
          refine s_istore j70 rfl (n := 6) (L' := [some (am_ov (some this)), some (.int x1), some (.int x2), some (.int x3), some (.int (1 : Int32)), some (.int x5)]) rfl (by decide) rfl ?_
          exact K11 _ (am_t1 hc6 (am_t2 hc8 (am_t1 hc10 rfl)))
      · refine s_iconst j48 rfl kc_ic_0 ?_
        refine s_goto j49 rfl rfl ?_
        refine s_istore j70 rfl (n := 6) (L' := [some (am_ov (some this)), some (.int x1), some (.int x2), some (.int x3), some (.int (0 : Int32)), some (.int x5)]) rfl (by decide) rfl ?_
        exact K11 _ (am_t1 hc6 (am_t1 hc8 rfl))
theorem P_Ro_counts (nl : Bool) (Ln : Nat) (xs : Nat → Int32) : am_Jl (TT nl Ln xs) 212 [(0, .aload_n 0, 1, []), (1, .getfield 147, 4, [9, 13, 54, 2]), (4, .iload_n 1, 5, []), (5, .iaload, 6, []), (6, .iload_n 3, 7, []), (7, .if_icmp .gt 17, 10, []), (10, .aload_n 0, 11, []), (11, .getfield 144, 14, [9, 13, 53, 2]), (14, .iload_n 1, 15, []), (15, .iaload, 16, []), (16, .iload_n 2, 17, []), (17, .if_icmp .gt 7, 20, []), (20, .iconst 1, 21, []), (21, .goto 4, 24, []), (24, .iconst 0, 25, []), (25, .ireturn, 26, [4])] := dk_ck (by decide +kernel)
set_option maxRecDepth 4096 in
theorem w_Ro_counts {nl : Bool} {Ln : Nat} {xs : Nat → Int32} {d : Nat} {this : Nat} {p0 : Int32} {p1 : Int32} {p2 : Int32} {σ : am_S} {F : Bool → am_S → Prop} (h : (am_is σ (some this) 13) ∧ (am_ar σ 1000 (am_fR σ 13054 this) p0) ∧ (¬ (p2 < (am_aI σ ((am_fR σ 13054 this).getD 0) p0.toNatClampNeg)) → am_ar σ 1000 (am_fR σ 13053 this) p0) ∧ F (decide (¬ (p2 < (am_aI σ ((am_fR σ 13054 this).getD 0) p0.toNatClampNeg)) ∧ (¬ (p1 < (am_aI σ ((am_fR σ 13053 this).getD 0) p0.toNatClampNeg))))) σ) : k_Ro_counts nl Ln xs (d + 1) this p0 p1 p2 σ F := by
  obtain ⟨j0, j1, j4, j5, j6, j7, j10, j11, j14, j15, j16, j17, j20, j21, j24, j25, -⟩ := P_Ro_counts nl Ln xs
  have elo : am_lo 4 [am_ov (some this), .int p0, .int p1, .int p2] = [some (am_ov (some this)), some (.int p0), some (.int p1), some (.int p2)] := by simp only [am_lo, am_in_ov, am_in_int, am_in_long, am_in_nil]; rfl
  unfold k_Ro_counts
  rw [elo]
  refine s_aload_n j0 rfl rfl ?_
  obtain ⟨ho1, h⟩ := h
  refine s_gfR j1 rfl ho1 ?_
  refine s_iload_n j4 rfl rfl ?_
  obtain ⟨ho2, h⟩ := h
  refine s_iaload j5 rfl ho2 ?_
  refine s_iload_n j6 rfl rfl ?_
  obtain ⟨ho4, h⟩ := h
  have K6 : ∀ (w7 : Int32), w7 = (if ¬ (p2 < (am_aI σ ((am_fR σ 13054 this).getD 0) p0.toNatClampNeg)) ∧ (¬ (p1 < (am_aI σ ((am_fR σ 13053 this).getD 0) p0.toNatClampNeg))) then (1 : Int32) else 0) → am_C (TT nl Ln xs) (d + 1) 212 25 [some (am_ov (some this)), some (.int p0), some (.int p1), some (.int p2)] [.int w7] σ (am_qB F) := by
    intro w7 hw8
    subst hw8
    exact s_retZ j25 rfl h
  refine s_ic j7 rfl rfl am_cc_gt (fun hc3 => ?_) (fun hc3 => ?_)
  · refine s_iconst j24 rfl kc_ic_0 ?_
    exact K6 _ (am_e0 (Iff.trans Iff.rfl (am_p6 hc3)))
  · refine s_aload_n j10 rfl rfl ?_
    refine s_gfR j11 rfl ho1 ?_
    refine s_iload_n j14 rfl rfl ?_
    refine s_iaload j15 rfl (ho4 hc3) ?_
    refine s_iload_n j16 rfl rfl ?_
    refine s_ic j17 rfl rfl am_cc_gt (fun hc5 => ?_) (fun hc5 => ?_)
    · refine s_iconst j24 rfl kc_ic_0 ?_
      exact K6 _ (am_e0 (am_p5 hc3 (Iff.trans Iff.rfl (am_p11 hc5))))
    · refine s_iconst j20 rfl kc_ic_1 ?_
      refine s_goto j21 rfl rfl ?_
      exact K6 _ (am_e1 (am_p5 hc3 (Iff.trans Iff.rfl (am_p12 hc5))))
theorem P_Ro_lastDay (nl : Bool) (Ln : Nat) (xs : Nat → Int32) : am_Jl (TT nl Ln xs) 213 [(0, .aload_n 0, 1, []), (1, .getfield 138, 4, [9, 13, 51, 2]), (4, .iload_n 1, 5, []), (5, .iaload, 6, []), (6, .ifCond .ne 12, 9, []), (9, .aload_n 0, 10, []), (10, .getfield 132, 13, [9, 13, 49, 2]), (13, .iload_n 1, 14, []), (14, .iaload, 15, []), (15, .goto 21, 18, []), (18, .aload_n 0, 19, []), (19, .getfield 144, 22, [9, 13, 53, 2]), (22, .bipush 40, 24, []), (24, .iload_n 1, 25, []), (25, .imul, 26, []), (26, .aload_n 0, 27, []), (27, .getfield 138, 30, [9, 13, 51, 2]), (30, .iload_n 1, 31, []), (31, .iaload, 32, []), (32, .iadd, 33, []), (33, .iconst 1, 34, []), (34, .isub, 35, []), (35, .iaload, 36, []), (36, .ireturn, 37, [1])] := dk_ck (by decide +kernel)
set_option maxRecDepth 4096 in
theorem w_Ro_lastDay {nl : Bool} {Ln : Nat} {xs : Nat → Int32} {d : Nat} {this : Nat} {p0 : Int32} {σ : am_S} {F : Int32 → am_S → Prop} (h : (am_is σ (some this) 13) ∧ (am_ar σ 1000 (am_fR σ 13051 this) p0) ∧ (((am_aI σ ((am_fR σ 13051 this).getD 0) p0.toNatClampNeg) = 0) → am_ar σ 1000 (am_fR σ 13049 this) p0) ∧ (¬ ((am_aI σ ((am_fR σ 13051 this).getD 0) p0.toNatClampNeg) = 0) → am_ar σ 1000 (am_fR σ 13051 this) p0) ∧ (¬ ((am_aI σ ((am_fR σ 13051 this).getD 0) p0.toNatClampNeg) = 0) → am_ar σ 1000 (am_fR σ 13053 this) ((((40 : Int32) * p0) + (am_aI σ ((am_fR σ 13051 this).getD 0) p0.toNatClampNeg)) - (1 : Int32))) ∧ ∀ w8 : Int32, w8 = (if (am_aI σ ((am_fR σ 13051 this).getD 0) p0.toNatClampNeg) = 0 then (am_aI σ ((am_fR σ 13049 this).getD 0) p0.toNatClampNeg) else (am_aI σ ((am_fR σ 13053 this).getD 0) ((((40 : Int32) * p0) + (am_aI σ ((am_fR σ 13051 this).getD 0) p0.toNatClampNeg)) - (1 : Int32)).toNatClampNeg)) → F w8 σ) : k_Ro_lastDay nl Ln xs (d + 1) this p0 σ F := by
  obtain ⟨j0, j1, j4, j5, j6, j9, j10, j13, j14, j15, j18, j19, j22, j24, j25, j26, j27, j30, j31, j32, j33, j34, j35, j36, -⟩ := P_Ro_lastDay nl Ln xs
  have elo : am_lo 2 [am_ov (some this), .int p0] = [some (am_ov (some this)), some (.int p0)] := by simp only [am_lo, am_in_ov, am_in_int, am_in_long, am_in_nil]; rfl
  unfold k_Ro_lastDay
  rw [elo]
  refine s_aload_n j0 rfl rfl ?_
  obtain ⟨ho1, h⟩ := h
  refine s_gfR j1 rfl ho1 ?_
  refine s_iload_n j4 rfl rfl ?_
  obtain ⟨ho2, h⟩ := h
  refine s_iaload j5 rfl ho2 ?_
  obtain ⟨ho4, h⟩ := h
  obtain ⟨ho5, h⟩ := h
  obtain ⟨ho6, h⟩ := h
  have K7 : ∀ (w8 : Int32), w8 = (if (am_aI σ ((am_fR σ 13051 this).getD 0) p0.toNatClampNeg) = 0 then (am_aI σ ((am_fR σ 13049 this).getD 0) p0.toNatClampNeg) else (am_aI σ ((am_fR σ 13053 this).getD 0) ((((40 : Int32) * p0) + (am_aI σ ((am_fR σ 13051 this).getD 0) p0.toNatClampNeg)) - (1 : Int32)).toNatClampNeg)) → am_C (TT nl Ln xs) (d + 1) 213 36 [some (am_ov (some this)), some (.int p0)] [.int w8] σ (am_qI F) := by
    intro w8 hw9
    replace h := h w8 hw9
    exact s_retI j36 rfl h
  refine s_ifn j6 rfl rfl am_cc_ne (fun hc3 => ?_) (fun hc3 => ?_)
  · refine s_aload_n j18 rfl rfl ?_
    refine s_gfR j19 rfl ho1 ?_
    refine s_bipush j22 rfl kc_bi_40 ?_
    refine s_iload_n j24 rfl rfl ?_
    refine s_g j25 rfl rfl rfl rfl rfl rfl ?_
    refine s_aload_n j26 rfl rfl ?_
    refine s_gfR j27 rfl ho1 ?_
    refine s_iload_n j30 rfl rfl ?_
    refine s_iaload j31 rfl (ho5 hc3) ?_
    refine s_g j32 rfl rfl rfl rfl rfl rfl ?_
    refine s_iconst j33 rfl kc_ic_1 ?_
    refine s_g j34 rfl rfl rfl rfl rfl rfl ?_
    refine s_iaload j35 rfl (ho6 hc3) ?_
    exact K7 _ (am_t2 hc3 rfl)
  · refine s_aload_n j9 rfl rfl ?_
    refine s_gfR j10 rfl ho1 ?_
    refine s_iload_n j13 rfl rfl ?_
    refine s_iaload j14 rfl (ho4 hc3) ?_
    refine s_goto j15 rfl rfl ?_
    exact K7 _ (am_t1 hc3 rfl)
theorem P_Ro_isLate (nl : Bool) (Ln : Nat) (xs : Nat → Int32) : am_Jl (TT nl Ln xs) 214 [(0, .iconst 0, 1, []), (1, .istore 4, 3, []), (3, .bipush 40, 5, []), (5, .iload_n 1, 6, []), (6, .imul, 7, []), (7, .istore 5, 9, [])] := dk_ck (by decide +kernel)
set_option maxRecDepth 4096 in
theorem w_Ro_isLate {nl : Bool} {Ln : Nat} {xs : Nat → Int32} {d : Nat} {this : Nat} {p0 : Int32} {p1 : Int32} {p2 : Int32} {σ : am_S} {F : Bool → am_S → Prop} (h : ∀ v1 : Int32, v1 = ((40 : Int32) * p0) → c_Ro_isLate_9 nl Ln xs (d + 1) this p0 p1 p2 (0 : Int32) v1 σ F) : k_Ro_isLate nl Ln xs (d + 1) this p0 p1 p2 σ F := by
  obtain ⟨j0, j1, j3, j5, j6, j7, -⟩ := P_Ro_isLate nl Ln xs
  have elo : am_lo 6 [am_ov (some this), .int p0, .int p1, .int p2] = [some (am_ov (some this)), some (.int p0), some (.int p1), some (.int p2), none, none] := by simp only [am_lo, am_in_ov, am_in_int, am_in_long, am_in_nil]; rfl
  unfold k_Ro_isLate
  rw [elo]
  refine s_iconst j0 rfl kc_ic_0 ?_
  refine s_istore j1 rfl (n := 6) (L' := [some (am_ov (some this)), some (.int p0), some (.int p1), some (.int p2), some (.int (0 : Int32)), none]) rfl (by decide) rfl ?_
  refine s_bipush j3 rfl kc_bi_40 ?_
  refine s_iload_n j5 rfl rfl ?_
  refine s_g j6 rfl rfl rfl rfl rfl rfl ?_
  refine s_istoreV j7 rfl (n := 6) (L' := fun w => [some (am_ov (some this)), some (.int p0), some (.int p1), some (.int p2), some (.int (0 : Int32)), some (.int w)]) rfl (by decide) (fun _ => rfl) (fun v1 hv2 => ?_)
  replace h := h v1 hv2
  exact h
theorem P_Ro_isLate_9 (nl : Bool) (Ln : Nat) (xs : Nat → Int32) : am_Jl (TT nl Ln xs) 214 [(9, .iload 5, 11, []), (11, .bipush 40, 13, []), (13, .iload_n 1, 14, []), (14, .imul, 15, []), (15, .aload_n 0, 16, []), (16, .getfield 138, 19, [9, 13, 51, 2]), (19, .iload_n 1, 20, []), (20, .iaload, 21, []), (21, .iadd, 22, []), (22, .if_icmp .ge 35, 25, []), (25, .aload_n 0, 26, []), (26, .getfield 141, 29, [9, 13, 52, 2]), (29, .iload 5, 31, []), (31, .iaload, 32, []), (32, .bipush 14, 34, []), (34, .if_icmp .ne 13, 37, []), (37, .aload_n 0, 38, []), (38, .getfield 144, 41, [9, 13, 53, 2]), (41, .iload 5, 43, []), (43, .iaload, 44, []), (44, .goto 5, 47, []), (47, .iload 4, 49, []), (49, .istore 4, 51, []), (51, .iinc 5 1, 54, []), (54, .goto (-45), 57, []), (57, .iload_n 3, 58, []), (58, .ifCond .ne 20, 61, []), (61, .iload_n 2, 62, []), (62, .iload 4, 64, []), (64, .isub, 65, []), (65, .bipush 30, 67, []), (67, .if_icmp .le 7, 70, []), (70, .iconst 1, 71, []), (71, .goto 27, 74, []), (74, .iconst 0, 75, []), (75, .goto 23, 78, []), (78, .iload_n 3, 79, []), (79, .iconst 1, 80, []), (80, .if_icmp .ne 17, 83, []), (83, .iload_n 2, 84, []), (84, .iload 4, 86, []), (86, .isub, 87, []), (87, .sipush 365, 90, []), (90, .if_icmp .le 7, 93, []), (93, .iconst 1, 94, []), (94, .goto 4, 97, []), (97, .iconst 0, 98, []), (98, .ireturn, 99, [4])] := dk_ck (by decide +kernel)
set_option maxRecDepth 4096 in
theorem w_Ro_isLate_9 {nl : Bool} {Ln : Nat} {xs : Nat → Int32} {d : Nat} {this : Nat} {x1 : Int32} {x2 : Int32} {x3 : Int32} {x4 : Int32} {x5 : Int32} {σ : am_S} {F : Bool → am_S → Prop} (h : (am_is σ (some this) 13) ∧ (am_ar σ 1000 (am_fR σ 13051 this) x1) ∧ (x5 < (((40 : Int32) * x1) + (am_aI σ ((am_fR σ 13051 this).getD 0) x1.toNatClampNeg)) → (am_ar σ 1000 (am_fR σ 13052 this) x5) ∧ (((am_aI σ ((am_fR σ 13052 this).getD 0) x5.toNatClampNeg) = (14 : Int32)) → am_ar σ 1000 (am_fR σ 13053 this) x5) ∧ ∀ w8 : Int32, w8 = (if (am_aI σ ((am_fR σ 13052 this).getD 0) x5.toNatClampNeg) = (14 : Int32) then (am_aI σ ((am_fR σ 13053 this).getD 0) x5.toNatClampNeg) else x4) → c_Ro_isLate_9 nl Ln xs (d + 1) this x1 x2 x3 w8 (x5 + (1 : Int32)) σ F) ∧ (¬ (x5 < (((40 : Int32) * x1) + (am_aI σ ((am_fR σ 13051 this).getD 0) x1.toNatClampNeg))) → F (decide (((x3 = 0) ∧ ((30 : Int32) < (x2 - x4))) ∨ (¬ (x3 = 0) ∧ ((x3 = (1 : Int32)) ∧ ((365 : Int32) < (x2 - x4)))))) σ)) : c_Ro_isLate_9 nl Ln xs (d + 1) this x1 x2 x3 x4 x5 σ F := by
  obtain ⟨j9, j11, j13, j14, j15, j16, j19, j20, j21, j22, j25, j26, j29, j31, j32, j34, j37, j38, j41, j43, j44, j47, j49, j51, j54, j57, j58, j61, j62, j64, j65, j67, j70, j71, j74, j75, j78, j79, j80, j83, j84, j86, j87, j90, j93, j94, j97, j98, -⟩ := P_Ro_isLate_9 nl Ln xs
  unfold c_Ro_isLate_9
  refine s_iload j9 rfl rfl ?_
  refine s_bipush j11 rfl kc_bi_40 ?_
  refine s_iload_n j13 rfl rfl ?_
  refine s_g j14 rfl rfl rfl rfl rfl rfl ?_
  refine s_aload_n j15 rfl rfl ?_
  obtain ⟨ho1, h⟩ := h
  refine s_gfR j16 rfl ho1 ?_
  refine s_iload_n j19 rfl rfl ?_
  obtain ⟨ho2, h⟩ := h
  refine s_iaload j20 rfl ho2 ?_
  refine s_g j21 rfl rfl rfl rfl rfl rfl ?_
  refine s_icn j22 rfl rfl am_cc_ge (fun hc3 => ?_) (fun hc3 => ?_)
  · replace h := h.2 hc3
    refine s_iload_n j57 rfl rfl ?_
    have K14 : ∀ (w15 : Int32), w15 = (if ((x3 = 0) ∧ ((30 : Int32) < (x2 - x4))) ∨ (¬ (x3 = 0) ∧ ((x3 = (1 : Int32)) ∧ ((365 : Int32) < (x2 - x4)))) then (1 : Int32) else 0) → am_C (TT nl Ln xs) (d + 1) 214 98 [some (am_ov (some this)), some (.int x1), some (.int x2), some (.int x3), some (.int x4), some (.int x5)] [.int w15] σ (am_qB F) := by
      intro w15 hw16
      subst hw16
      exact s_retZ j98 rfl h
    refine s_ifn j58 rfl rfl am_cc_ne (fun hc10 => ?_) (fun hc10 => ?_)
    · refine s_iload_n j78 rfl rfl ?_
      refine s_iconst j79 rfl kc_ic_1 ?_
      refine s_icn j80 rfl rfl am_cc_ne (fun hc12 => ?_) (fun hc12 => ?_)
      · refine s_iconst j97 rfl kc_ic_0 ?_
        exact K14 _ (am_e0 (am_p14 hc10 (Iff.trans Iff.rfl (am_p2 hc12))))
      · refine s_iload_n j83 rfl rfl ?_
        refine s_iload j84 rfl rfl ?_
        refine s_g j86 rfl rfl rfl rfl rfl rfl ?_
        refine s_sipush j87 rfl kc_si_365 ?_
        refine s_icn j90 rfl rfl am_cc_le (fun hc13 => ?_) (fun hc13 => ?_)
        · refine s_iconst j97 rfl kc_ic_0 ?_
          exact K14 _ (am_e0 (am_p14 hc10 (am_p1 hc12 (Iff.trans Iff.rfl (am_p10 hc13)))))
        · refine s_iconst j93 rfl kc_ic_1 ?_
          refine s_goto j94 rfl rfl ?_
          exact K14 _ (am_e1 (am_p14 hc10 (am_p1 hc12 (Iff.trans Iff.rfl (am_p9 hc13)))))
    · refine s_iload_n j61 rfl rfl ?_
      refine s_iload j62 rfl rfl ?_
      refine s_g j64 rfl rfl rfl rfl rfl rfl ?_
      refine s_bipush j65 rfl kc_bi_30 ?_
      refine s_icn j67 rfl rfl am_cc_le (fun hc11 => ?_) (fun hc11 => ?_)
      · refine s_iconst j74 rfl kc_ic_0 ?_
        refine s_goto j75 rfl rfl ?_
        exact K14 _ (am_e0 (am_p13 hc10 (Iff.trans Iff.rfl (am_p10 hc11))))
      · refine s_iconst j70 rfl kc_ic_1 ?_
        refine s_goto j71 rfl rfl ?_
        exact K14 _ (am_e1 (am_p13 hc10 (Iff.trans Iff.rfl (am_p9 hc11))))
  · replace h := h.1 hc3
    refine s_aload_n j25 rfl rfl ?_
    refine s_gfR j26 rfl ho1 ?_
    refine s_iload j29 rfl rfl ?_
    obtain ⟨ho4, h⟩ := h
    refine s_iaload j31 rfl ho4 ?_
    refine s_bipush j32 rfl kc_bi_14 ?_
    obtain ⟨ho6, h⟩ := h
    have K7 : ∀ (w8 : Int32), w8 = (if (am_aI σ ((am_fR σ 13052 this).getD 0) x5.toNatClampNeg) = (14 : Int32) then (am_aI σ ((am_fR σ 13053 this).getD 0) x5.toNatClampNeg) else x4) → am_C (TT nl Ln xs) (d + 1) 214 49 [some (am_ov (some this)), some (.int x1), some (.int x2), some (.int x3), some (.int x4), some (.int x5)] [.int w8] σ (am_qB F) := by
      intro w8 hw9
      replace h := h w8 hw9
      refine s_istore j49 rfl (n := 6) (L' := [some (am_ov (some this)), some (.int x1), some (.int x2), some (.int x3), some (.int w8), some (.int x5)]) rfl (by decide) rfl ?_
      refine s_iinc (L' := [some (am_ov (some this)), some (.int x1), some (.int x2), some (.int x3), some (.int w8), some (.int (x5 + (1 : Int32)))]) j51 rfl rfl kc_ic_1 rfl ?_
      refine s_goto j54 rfl rfl ?_
      exact h
    refine s_icn j34 rfl rfl am_cc_ne (fun hc5 => ?_) (fun hc5 => ?_)
    · refine s_iload j47 rfl rfl ?_
      exact K7 _ (am_t2 hc5 rfl)
    · refine s_aload_n j37 rfl rfl ?_
      refine s_gfR j38 rfl ho1 ?_
      refine s_iload j41 rfl rfl ?_
      refine s_iaload j43 rfl (ho6 hc5) ?_
      refine s_goto j44 rfl rfl ?_
      exact K7 _ (am_t1 hc5 rfl)
theorem P_Ro_paying (nl : Bool) (Ln : Nat) (xs : Nat → Int32) : am_Jl (TT nl Ln xs) 215 [(0, .aload_n 0, 1, []), (1, .iload_n 1, 2, []), (2, .iload_n 2, 3, []), (3, .aload_n 0, 4, []), (4, .getfield 206, 7, [9, 13, 0, 0]), (7, .iconst 0, 8, []), (8, .invokevirtual 553, 11, [10, 216, 14, 9, 5]), (11, .aload_n 0, 12, []), (12, .getfield 266, 15, [9, 13, 74, 0]), (15, .ifCond .ne 12, 18, []), (18, .lload_n 3, 19, []), (19, .aload_n 0, 20, []), (20, .getfield 272, 23, [9, 13, 78, 1]), (23, .lcmp, 24, []), (24, .ifCond .le 7, 27, []), (27, .ldc2_w 256, 30, [6, 18446744073709551615]), (30, .lreturn, 31, [2]), (31, .lconst 0, 32, []), (32, .lstore 5, 34, []), (34, .bipush 40, 36, []), (36, .iload_n 1, 37, []), (37, .imul, 38, []), (38, .istore 7, 40, [])] := dk_ck (by decide +kernel)
set_option maxRecDepth 4096 in
theorem w_Ro_paying {nl : Bool} {Ln : Nat} {xs : Nat → Int32} {d : Nat} {this : Nat} {p0 : Int32} {p1 : Int32} {p2 : Int64} {σ : am_S} {F : Int64 → am_S → Prop} (h : (am_is σ (some this) 13) ∧ k_Ro_work nl Ln xs d this p0 p1 (am_fI σ 13000 this) (0 : Int32) σ (fun σ2 => am_ext σ σ2 → ((am_fI σ2 13074 this) = 0 → ((am_fL σ2 13078 this) < p2 → F (-1 : Int64) σ2) ∧ (¬ ((am_fL σ2 13078 this) < p2) → ∀ v6 : Int32, v6 = ((40 : Int32) * p0) → c_Ro_paying_40 nl Ln xs (d + 1) this p0 p1 p2 (0 : Int64) v6 σ2 F)) ∧ (¬ ((am_fI σ2 13074 this) = 0) → F (-1 : Int64) σ2))) : k_Ro_paying nl Ln xs (d + 1) this p0 p1 p2 σ F := by
  obtain ⟨j0, j1, j2, j3, j4, j7, j8, j11, j12, j15, j18, j19, j20, j23, j24, j27, j30, j31, j32, j34, j36, j37, j38, -⟩ := P_Ro_paying nl Ln xs
  have elo : am_lo 13 [am_ov (some this), .int p0, .int p1, .long p2] = [some (am_ov (some this)), some (.int p0), some (.int p1), some (.long p2), none, none, none, none, none, none, none, none, none] := by simp only [am_lo, am_in_ov, am_in_int, am_in_long, am_in_nil]; rfl
  unfold k_Ro_paying
  rw [elo]
  refine s_aload_n j0 rfl rfl ?_
  refine s_iload_n j1 rfl rfl ?_
  refine s_iload_n j2 rfl rfl ?_
  refine s_aload_n j3 rfl rfl ?_
  obtain ⟨ho1, h⟩ := h
  refine s_gfI j4 rfl ho1 ?_
  refine s_iconst j7 rfl kc_ic_0 ?_
  refine s_virt j8 rfl rfl rfl rfl ho1 (by decide) (in_Ro_work _ _ _ _ _) (am_r8 rfl) (am_bV h (fun σ2 h hx2 => ?_))
  replace h := h hx2
  refine s_aload_n j11 rfl rfl ?_
  refine s_gfI j12 rfl (am_is_ext hx2 ho1) ?_
  refine s_ifn j15 rfl rfl am_cc_ne (fun hc4 => ?_) (fun hc4 => ?_)
  · replace h := h.2 hc4
    refine s_ldc2 j27 rfl kc_ll_m1 ?_
    exact s_retL j30 rfl h
  · replace h := h.1 hc4
    refine s_lload_n j18 rfl rfl ?_
    refine s_aload_n j19 rfl rfl ?_
    refine s_gfL j20 rfl (am_is_ext hx2 ho1) ?_
    refine s_g j23 rfl rfl rfl rfl rfl rfl ?_
    refine s_ifn j24 rfl rfl am_cl_le (fun hc5 => ?_) (fun hc5 => ?_)
    · replace h := h.2 hc5
      refine s_lconst j31 rfl rfl ?_
      refine s_lstore j32 rfl (n := 13) (L' := [some (am_ov (some this)), some (.int p0), some (.int p1), some (.long p2), none, some (.long (0 : Int64)), none, none, none, none, none, none, none]) rfl (by decide) rfl ?_
      refine s_bipush j34 rfl kc_bi_40 ?_
      refine s_iload_n j36 rfl rfl ?_
      refine s_g j37 rfl rfl rfl rfl rfl rfl ?_
      refine s_istoreV j38 rfl (n := 13) (L' := fun w => [some (am_ov (some this)), some (.int p0), some (.int p1), some (.long p2), none, some (.long (0 : Int64)), none, some (.int w), none, none, none, none, none]) rfl (by decide) (fun _ => rfl) (fun v6 hv7 => ?_)
      replace h := h v6 hv7
      exact h
    · replace h := h.1 hc5
      refine s_ldc2 j27 rfl kc_ll_m1 ?_
      exact s_retL j30 rfl h
theorem P_Ro_paying_40 (nl : Bool) (Ln : Nat) (xs : Nat → Int32) : am_Jl (TT nl Ln xs) 215 [(40, .iload 7, 42, []), (42, .bipush 40, 44, []), (44, .iload_n 1, 45, []), (45, .imul, 46, []), (46, .aload_n 0, 47, []), (47, .getfield 138, 50, [9, 13, 51, 2]), (50, .iload_n 1, 51, []), (51, .iaload, 52, []), (52, .iadd, 53, []), (53, .if_icmp .ge 37, 56, []), (56, .lload 5, 58, []), (58, .aload_n 0, 59, []), (59, .getfield 141, 62, [9, 13, 52, 2]), (62, .iload 7, 64, []), (64, .iaload, 65, []), (65, .bipush 13, 67, []), (67, .if_icmp .ne 13, 70, []), (70, .aload_n 0, 71, []), (71, .getfield 162, 74, [9, 13, 59, 2]), (74, .iload 7, 76, []), (76, .laload, 77, []), (77, .goto 4, 80, []), (80, .lconst 0, 81, []), (81, .ladd, 82, []), (82, .lstore 5, 84, []), (84, .iinc 7 1, 87, []), (87, .goto (-47), 90, []), (90, .aload_n 0, 91, []), (91, .getfield 455, 94, [9, 13, 79, 1]), (94, .lload 5, 96, []), (96, .lcmp, 97, []), (97, .ifCond .le 13, 100, []), (100, .aload_n 0, 101, []), (101, .getfield 455, 104, [9, 13, 79, 1]), (104, .lload 5, 106, []), (106, .lsub, 107, []), (107, .goto 4, 110, []), (110, .lconst 0, 111, [])] := dk_ck (by decide +kernel)
set_option maxRecDepth 4096 in
theorem w_Ro_paying_40 {nl : Bool} {Ln : Nat} {xs : Nat → Int32} {d : Nat} {this : Nat} {x1 : Int32} {x2 : Int32} {x3 : Int64} {x5 : Int64} {x7 : Int32} {σ : am_S} {F : Int64 → am_S → Prop} (h : (am_is σ (some this) 13) ∧ (am_ar σ 1000 (am_fR σ 13051 this) x1) ∧ (x7 < (((40 : Int32) * x1) + (am_aI σ ((am_fR σ 13051 this).getD 0) x1.toNatClampNeg)) → (am_ar σ 1000 (am_fR σ 13052 this) x7) ∧ (((am_aI σ ((am_fR σ 13052 this).getD 0) x7.toNatClampNeg) = (13 : Int32)) → am_ar σ 1001 (am_fR σ 13059 this) x7) ∧ ∀ w8 : Int64, w8 = (if (am_aI σ ((am_fR σ 13052 this).getD 0) x7.toNatClampNeg) = (13 : Int32) then (am_aL σ ((am_fR σ 13059 this).getD 0) x7.toNatClampNeg) else (0 : Int64)) → ∀ v10 : Int64, v10 = (x5 + w8) → c_Ro_paying_40 nl Ln xs (d + 1) this x1 x2 x3 v10 (x7 + (1 : Int32)) σ F) ∧ (¬ (x7 < (((40 : Int32) * x1) + (am_aI σ ((am_fR σ 13051 this).getD 0) x1.toNatClampNeg))) → ∀ w14 : Int64, w14 = (if x5 < (am_fL σ 13079 this) then ((am_fL σ 13079 this) - x5) else (0 : Int64)) → c_Ro_paying_111 nl Ln xs (d + 1) this x1 x2 x3 x5 x7 w14 σ F)) : c_Ro_paying_40 nl Ln xs (d + 1) this x1 x2 x3 x5 x7 σ F := by
  obtain ⟨j40, j42, j44, j45, j46, j47, j50, j51, j52, j53, j56, j58, j59, j62, j64, j65, j67, j70, j71, j74, j76, j77, j80, j81, j82, j84, j87, j90, j91, j94, j96, j97, j100, j101, j104, j106, j107, j110, -⟩ := P_Ro_paying_40 nl Ln xs
  unfold c_Ro_paying_40
  refine s_iload j40 rfl rfl ?_
  refine s_bipush j42 rfl kc_bi_40 ?_
  refine s_iload_n j44 rfl rfl ?_
  refine s_g j45 rfl rfl rfl rfl rfl rfl ?_
  refine s_aload_n j46 rfl rfl ?_
  obtain ⟨ho1, h⟩ := h
  refine s_gfR j47 rfl ho1 ?_
  refine s_iload_n j50 rfl rfl ?_
  obtain ⟨ho2, h⟩ := h
  refine s_iaload j51 rfl ho2 ?_
  refine s_g j52 rfl rfl rfl rfl rfl rfl ?_
  refine s_icn j53 rfl rfl am_cc_ge (fun hc3 => ?_) (fun hc3 => ?_)
  · replace h := h.2 hc3
    refine s_aload_n j90 rfl rfl ?_
    refine s_gfL j91 rfl ho1 ?_
    refine s_lload j94 rfl rfl ?_
    refine s_g j96 rfl rfl rfl rfl rfl rfl ?_
    have K13 : ∀ (w14 : Int64), w14 = (if x5 < (am_fL σ 13079 this) then ((am_fL σ 13079 this) - x5) else (0 : Int64)) → am_C (TT nl Ln xs) (d + 1) 215 111 [some (am_ov (some this)), some (.int x1), some (.int x2), some (.long x3), none, some (.long x5), none, some (.int x7), none, none, none, none, none] [.long w14] σ (am_qL F) := by
      intro w14 hw15
      replace h := h w14 hw15
      exact h
    refine s_ifn j97 rfl rfl am_cl_le (fun hc12 => ?_) (fun hc12 => ?_)
    · refine s_lconst j110 rfl rfl ?_
      exact K13 _ (am_t2 hc12 rfl)
    · refine s_aload_n j100 rfl rfl ?_
      refine s_gfL j101 rfl ho1 ?_
      refine s_lload j104 rfl rfl ?_
      refine s_g j106 rfl rfl rfl rfl rfl rfl ?_
      refine s_goto j107 rfl rfl ?_
      exact K13 _ (am_t1 hc12 rfl)
  · replace h := h.1 hc3
    refine s_lload j56 rfl rfl ?_
    refine s_aload_n j58 rfl rfl ?_
    refine s_gfR j59 rfl ho1 ?_
    refine s_iload j62 rfl rfl ?_
    obtain ⟨ho4, h⟩ := h
    refine s_iaload j64 rfl ho4 ?_
    refine s_bipush j65 rfl kc_bi_13 ?_
    obtain ⟨ho6, h⟩ := h
    have K7 : ∀ (w8 : Int64), w8 = (if (am_aI σ ((am_fR σ 13052 this).getD 0) x7.toNatClampNeg) = (13 : Int32) then (am_aL σ ((am_fR σ 13059 this).getD 0) x7.toNatClampNeg) else (0 : Int64)) → am_C (TT nl Ln xs) (d + 1) 215 81 [some (am_ov (some this)), some (.int x1), some (.int x2), some (.long x3), none, some (.long x5), none, some (.int x7), none, none, none, none, none] [.long w8, .long x5] σ (am_qL F) := by
      intro w8 hw9
      replace h := h w8 hw9
      refine s_g j81 rfl rfl rfl rfl rfl rfl ?_
      refine s_lstoreV j82 rfl (n := 13) (L' := fun w => [some (am_ov (some this)), some (.int x1), some (.int x2), some (.long x3), none, some (.long w), none, some (.int x7), none, none, none, none, none]) rfl (by decide) (fun _ => rfl) (fun v10 hv11 => ?_)
      replace h := h v10 hv11
      refine s_iinc (L' := [some (am_ov (some this)), some (.int x1), some (.int x2), some (.long x3), none, some (.long v10), none, some (.int (x7 + (1 : Int32))), none, none, none, none, none]) j84 rfl rfl kc_ic_1 rfl ?_
      refine s_goto j87 rfl rfl ?_
      exact h
    refine s_icn j67 rfl rfl am_cc_ne (fun hc5 => ?_) (fun hc5 => ?_)
    · refine s_lconst j80 rfl rfl ?_
      exact K7 _ (am_t2 hc5 rfl)
    · refine s_aload_n j70 rfl rfl ?_
      refine s_gfR j71 rfl ho1 ?_
      refine s_iload j74 rfl rfl ?_
      refine s_laload j76 rfl (ho6 hc5) ?_
      refine s_goto j77 rfl rfl ?_
      exact K7 _ (am_t1 hc5 rfl)
theorem P_Ro_paying_111 (nl : Bool) (Ln : Nat) (xs : Nat → Int32) : am_Jl (TT nl Ln xs) 215 [(111, .lstore 7, 113, []), (113, .lload_n 3, 114, []), (114, .lload 7, 116, []), (116, .lcmp, 117, []), (117, .ifCond .ge 7, 120, []), (120, .lload_n 3, 121, []), (121, .goto 5, 124, []), (124, .lload 7, 126, [])] := dk_ck (by decide +kernel)
set_option maxRecDepth 4096 in
theorem w_Ro_paying_111 {nl : Bool} {Ln : Nat} {xs : Nat → Int32} {d : Nat} {this : Nat} {x1 : Int32} {x2 : Int32} {x3 : Int64} {x5 : Int64} {x7 : Int32} {y0 : Int64} {σ : am_S} {F : Int64 → am_S → Prop} (h : ∀ w3 : Int64, w3 = (if x3 < y0 then x3 else y0) → c_Ro_paying_126 nl Ln xs (d + 1) this x1 x2 x3 x5 y0 w3 σ F) : c_Ro_paying_111 nl Ln xs (d + 1) this x1 x2 x3 x5 x7 y0 σ F := by
  obtain ⟨j111, j113, j114, j116, j117, j120, j121, j124, -⟩ := P_Ro_paying_111 nl Ln xs
  unfold c_Ro_paying_111
  refine s_lstore j111 rfl (n := 13) (L' := [some (am_ov (some this)), some (.int x1), some (.int x2), some (.long x3), none, some (.long x5), none, some (.long y0), none, none, none, none, none]) rfl (by decide) rfl ?_
  refine s_lload_n j113 rfl rfl ?_
  refine s_lload j114 rfl rfl ?_
  refine s_g j116 rfl rfl rfl rfl rfl rfl ?_
  have K2 : ∀ (w3 : Int64), w3 = (if x3 < y0 then x3 else y0) → am_C (TT nl Ln xs) (d + 1) 215 126 [some (am_ov (some this)), some (.int x1), some (.int x2), some (.long x3), none, some (.long x5), none, some (.long y0), none, none, none, none, none] [.long w3] σ (am_qL F) := by
    intro w3 hw4
    replace h := h w3 hw4
    exact h
  refine s_ifn j117 rfl rfl am_cl_ge (fun hc1 => ?_) (fun hc1 => ?_)
  · refine s_lload j124 rfl rfl ?_
    exact K2 _ (am_t2 hc1 rfl)
  · refine s_lload_n j120 rfl rfl ?_
    refine s_goto j121 rfl rfl ?_
    exact K2 _ (am_t1 hc1 rfl)
theorem P_Ro_paying_126 (nl : Bool) (Ln : Nat) (xs : Nat → Int32) : am_Jl (TT nl Ln xs) 215 [(126, .lstore 9, 128, []), (128, .aload_n 0, 129, []), (129, .aload_n 0, 130, []), (130, .getfield 371, 133, [9, 13, 71, 0]), (133, .iconst 4, 134, []), (134, .invokevirtual 377, 137, [10, 224, 14, 6, 3]), (137, .lstore 11, 139, []), (139, .lload 11, 141, []), (141, .ldc2_w 256, 144, [6, 18446744073709551615]), (144, .lcmp, 145, []), (145, .ifCond .eq 35, 148, []), (148, .lload_n 3, 149, []), (149, .lload 9, 151, []), (151, .lsub, 152, []), (152, .lload 11, 154, []), (154, .aload_n 0, 155, []), (155, .aload_n 0, 156, []), (156, .getfield 351, 159, [9, 13, 70, 0]), (159, .aload_n 0, 160, []), (160, .iload_n 1, 161, []), (161, .invokevirtual 464, 164, [10, 254, 14, 2, 2]), (164, .aload_n 0, 165, []), (165, .getfield 206, 168, [9, 13, 0, 0]), (168, .invokevirtual 557, 171, [10, 261, 14, 7, 4]), (171, .lsub, 172, []), (172, .lcmp, 173, []), (173, .ifCond .le 7, 176, []), (176, .ldc2_w 256, 179, [6, 18446744073709551615]), (179, .lreturn, 180, [2]), (180, .lload 9, 182, []), (182, .lreturn, 183, [2])] := dk_ck (by decide +kernel)
set_option maxRecDepth 4096 in
theorem w_Ro_paying_126 {nl : Bool} {Ln : Nat} {xs : Nat → Int32} {d : Nat} {this : Nat} {x1 : Int32} {x2 : Int32} {x3 : Int64} {x5 : Int64} {x7 : Int64} {y0 : Int64} {σ : am_S} {F : Int64 → am_S → Prop} (h : (am_is σ (some this) 13) ∧ k_Ro_told nl Ln xs d this (am_fI σ 13071 this) (4 : Int32) σ (fun a3 σ2 => am_ext σ σ2 → (a3 = (-1 : Int64) → F y0 σ2) ∧ (¬ (a3 = (-1 : Int64)) → k_Ro_lossYear nl Ln xs d this x1 σ2 (fun a6 σ5 => am_ext σ2 σ5 → k_Ro_used nl Ln xs d this (am_fI σ2 13070 this) a6 (am_fI σ5 13000 this) σ5 (fun a8 σ7 => am_ext σ5 σ7 → ((a3 - a8) < (x3 - y0) → F (-1 : Int64) σ7) ∧ (¬ ((a3 - a8) < (x3 - y0)) → F y0 σ7)))))) : c_Ro_paying_126 nl Ln xs (d + 1) this x1 x2 x3 x5 x7 y0 σ F := by
  obtain ⟨j126, j128, j129, j130, j133, j134, j137, j139, j141, j144, j145, j148, j149, j151, j152, j154, j155, j156, j159, j160, j161, j164, j165, j168, j171, j172, j173, j176, j179, j180, j182, -⟩ := P_Ro_paying_126 nl Ln xs
  unfold c_Ro_paying_126
  refine s_lstore j126 rfl (n := 13) (L' := [some (am_ov (some this)), some (.int x1), some (.int x2), some (.long x3), none, some (.long x5), none, some (.long x7), none, some (.long y0), none, none, none]) rfl (by decide) rfl ?_
  refine s_aload_n j128 rfl rfl ?_
  refine s_aload_n j129 rfl rfl ?_
  obtain ⟨ho1, h⟩ := h
  refine s_gfI j130 rfl ho1 ?_
  refine s_iconst j133 rfl kc_ic_4 ?_
  refine s_virt j134 rfl rfl rfl rfl ho1 (by decide) (in_Ro_told _ _ _) (am_r8 rfl) (am_bL h (fun a3 σ2 h hx2 => ?_))
  replace h := h hx2
  refine s_lstore j137 rfl (n := 13) (L' := [some (am_ov (some this)), some (.int x1), some (.int x2), some (.long x3), none, some (.long x5), none, some (.long x7), none, some (.long y0), none, some (.long a3), none]) rfl (by decide) rfl ?_
  refine s_lload j139 rfl rfl ?_
  refine s_ldc2 j141 rfl kc_ll_m1 ?_
  refine s_g j144 rfl rfl rfl rfl rfl rfl ?_
  refine s_if j145 rfl rfl am_cl_eq (fun hc4 => ?_) (fun hc4 => ?_)
  · replace h := h.1 hc4
    refine s_lload j180 rfl rfl ?_
    exact s_retL j182 rfl h
  · replace h := h.2 hc4
    refine s_lload_n j148 rfl rfl ?_
    refine s_lload j149 rfl rfl ?_
    refine s_g j151 rfl rfl rfl rfl rfl rfl ?_
    refine s_lload j152 rfl rfl ?_
    refine s_aload_n j154 rfl rfl ?_
    refine s_aload_n j155 rfl rfl ?_
    refine s_gfI j156 rfl (am_is_ext hx2 ho1) ?_
    refine s_aload_n j159 rfl rfl ?_
    refine s_iload_n j160 rfl rfl ?_
    refine s_virt j161 rfl rfl rfl rfl (am_is_ext hx2 ho1) (by decide) (in_Ro_lossYear _ _) (am_r8 rfl) (am_bI h (fun a6 σ5 h hx5 => ?_))
    replace h := h hx5
    refine s_aload_n j164 rfl rfl ?_
    refine s_gfI j165 rfl (am_is_ext hx5 (am_is_ext hx2 ho1)) ?_
    refine s_virt j168 rfl rfl rfl rfl (am_is_ext hx5 (am_is_ext hx2 ho1)) (by decide) (in_Ro_used _ _ _ _) (am_r8 rfl) (am_bL h (fun a8 σ7 h hx7 => ?_))
    replace h := h hx7
    refine s_g j171 rfl rfl rfl rfl rfl rfl ?_
    refine s_g j172 rfl rfl rfl rfl rfl rfl ?_
    refine s_ifn j173 rfl rfl am_cl_le (fun hc9 => ?_) (fun hc9 => ?_)
    · replace h := h.2 hc9
      refine s_lload j180 rfl rfl ?_
      exact s_retL j182 rfl h
    · replace h := h.1 hc9
      refine s_ldc2 j176 rfl kc_ll_m1 ?_
      exact s_retL j179 rfl h
theorem P_Ro_work (nl : Bool) (Ln : Nat) (xs : Nat → Int32) : am_Jl (TT nl Ln xs) 216 [(0, .aload_n 0, 1, []), (1, .getfield 3, 4, [9, 13, 99, 2]), (4, .iload 4, 6, []), (6, .putfield 276, 9, [9, 12, 15, 3]), (9, .aload_n 0, 10, []), (10, .iload_n 1, 11, []), (11, .iload_n 2, 12, []), (12, .iload_n 3, 13, []), (13, .invokevirtual 451, 16, [10, 217, 14, 7, 4]), (16, .aload_n 0, 17, []), (17, .lconst 0, 18, []), (18, .putfield 455, 21, [9, 13, 79, 1]), (21, .aload_n 0, 22, []), (22, .getfield 266, 25, [9, 13, 74, 0]), (25, .ifCond .ne 63, 28, []), (28, .aload_n 0, 29, []), (29, .getfield 368, 32, [9, 13, 75, 3]), (32, .ifCond .ne 56, 35, []), (35, .aload_n 0, 36, []), (36, .aload_n 0, 37, []), (37, .getfield 371, 40, [9, 13, 71, 0]), (40, .bipush 6, 42, []), (42, .invokevirtual 377, 45, [10, 224, 14, 6, 3]), (45, .lstore 5, 47, []), (47, .aload_n 0, 48, []), (48, .aload_n 0, 49, []), (49, .getfield 371, 52, [9, 13, 71, 0]), (52, .iconst 4, 53, []), (53, .invokevirtual 377, 56, [10, 224, 14, 6, 3]), (56, .lstore 7, 58, []), (58, .lload 5, 60, []), (60, .ldc2_w 256, 63, [6, 18446744073709551615]), (63, .lcmp, 64, []), (64, .ifCond .ne 12, 67, []), (67, .lload 7, 69, []), (69, .ldc2_w 256, 72, [6, 18446744073709551615]), (72, .lcmp, 73, []), (73, .ifCond .eq 11, 76, []), (88, .aload_n 0, 89, []), (89, .getfield 3, 92, [9, 13, 99, 2]), (92, .iconst 0, 93, []), (93, .putfield 276, 96, [9, 12, 15, 3]), (96, .return_, 97, [0])] := dk_ck (by decide +kernel)
set_option maxRecDepth 4096 in
theorem w_Ro_work {nl : Bool} {Ln : Nat} {xs : Nat → Int32} {d : Nat} {this : Nat} {p0 : Int32} {p1 : Int32} {p2 : Int32} {p3 : Int32} {σ : am_S} {F : am_S → Prop} (h : (am_is σ (some this) 13) ∧ (am_is σ (am_fR σ 13099 this) 12) ∧ (p3 = 0 ∨ p3 = 1) ∧ ∀ σ4, σ4 = am_sfI σ 12015 ((am_fR σ 13099 this).getD 0) p3 → k_Ro_begin nl Ln xs d this p0 p1 p2 σ4 (fun σ7 => am_ext σ4 σ7 → ∀ σ9, σ9 = am_sfL σ7 13079 this (0 : Int64) → ((am_fI σ9 13074 this) = 0 → ((am_fI σ9 13075 this) = 0 → k_Ro_told nl Ln xs d this (am_fI σ9 13071 this) (6 : Int32) σ9 (fun a15 σ14 => am_ext σ9 σ14 → k_Ro_told nl Ln xs d this (am_fI σ14 13071 this) (4 : Int32) σ14 (fun a17 σ16 => am_ext σ14 σ16 → (a15 = (-1 : Int64) → (a17 = (-1 : Int64) → c_Ro_work_84 nl Ln xs (d + 1) this p0 p1 p2 p3 a15 a17 σ16 F) ∧ (¬ (a17 = (-1 : Int64)) → c_Ro_work_76 nl Ln xs (d + 1) this p0 p1 p2 p3 a15 a17 σ16 F)) ∧ (¬ (a15 = (-1 : Int64)) → c_Ro_work_76 nl Ln xs (d + 1) this p0 p1 p2 p3 a15 a17 σ16 F)))) ∧ (¬ ((am_fI σ9 13075 this) = 0) → (am_is σ9 (am_fR σ9 13099 this) 12) ∧ ∀ σ21, σ21 = am_sfI σ9 12015 ((am_fR σ9 13099 this).getD 0) (0 : Int32) → F σ21)) ∧ (¬ ((am_fI σ9 13074 this) = 0) → (am_is σ9 (am_fR σ9 13099 this) 12) ∧ ∀ σ25, σ25 = am_sfI σ9 12015 ((am_fR σ9 13099 this).getD 0) (0 : Int32) → F σ25))) : k_Ro_work nl Ln xs (d + 1) this p0 p1 p2 p3 σ F := by
  obtain ⟨j0, j1, j4, j6, j9, j10, j11, j12, j13, j16, j17, j18, j21, j22, j25, j28, j29, j32, j35, j36, j37, j40, j42, j45, j47, j48, j49, j52, j53, j56, j58, j60, j63, j64, j67, j69, j72, j73, j88, j89, j92, j93, j96, -⟩ := P_Ro_work nl Ln xs
  have elo : am_lo 9 [am_ov (some this), .int p0, .int p1, .int p2, .int p3] = [some (am_ov (some this)), some (.int p0), some (.int p1), some (.int p2), some (.int p3), none, none, none, none] := by simp only [am_lo, am_in_ov, am_in_int, am_in_long, am_in_nil]; rfl
  unfold k_Ro_work
  rw [elo]
  refine s_aload_n j0 rfl rfl ?_
  obtain ⟨ho1, h⟩ := h
  refine s_gfR j1 rfl ho1 ?_
  refine s_iload j4 rfl rfl ?_
  obtain ⟨ho2, h⟩ := h
  obtain ⟨ho3, h⟩ := h
  refine s_pfZ j6 rfl ho2 ho3 (fun σ4 e5 => ?_)
  replace h := h σ4 e5
  have ek6 : am_kd σ4 = am_kd σ := by rw [e5]
  refine s_aload_n j9 rfl rfl ?_
  refine s_iload_n j10 rfl rfl ?_
  refine s_iload_n j11 rfl rfl ?_
  refine s_iload_n j12 rfl rfl ?_
  refine s_virt j13 rfl rfl rfl rfl (am_is_kd ek6 ho1) (by decide) (in_Ro_begin _ _ _ _) (am_r8 rfl) (am_bV h (fun σ7 h hx7 => ?_))
  replace h := h hx7
  refine s_aload_n j16 rfl rfl ?_
  refine s_lconst j17 rfl rfl ?_
  refine s_pfL j18 rfl (am_is_ext hx7 (am_is_kd ek6 ho1)) (fun σ9 e10 => ?_)
  replace h := h σ9 e10
  have ek11 : am_kd σ9 = am_kd σ7 := by rw [e10]
  refine s_aload_n j21 rfl rfl ?_
  refine s_gfI j22 rfl (am_is_kd ek11 (am_is_ext hx7 (am_is_kd ek6 ho1))) ?_
  refine s_ifn j25 rfl rfl am_cc_ne (fun hc12 => ?_) (fun hc12 => ?_)
  · replace h := h.2 hc12
    refine s_aload_n j88 rfl rfl ?_
    refine s_gfR j89 rfl (am_is_kd ek11 (am_is_ext hx7 (am_is_kd ek6 ho1))) ?_
    refine s_iconst j92 rfl kc_ic_0 ?_
    obtain ⟨ho24, h⟩ := h
    refine s_pfZ j93 rfl ho24 (Or.inl rfl) (fun σ25 e26 => ?_)
    replace h := h σ25 e26
    have ek27 : am_kd σ25 = am_kd σ9 := by rw [e26]
    exact s_retV j96 rfl h
  · replace h := h.1 hc12
    refine s_aload_n j28 rfl rfl ?_
    refine s_gfZ j29 rfl (am_is_kd ek11 (am_is_ext hx7 (am_is_kd ek6 ho1))) ?_
    refine s_ifn j32 rfl rfl am_cc_ne (fun hc13 => ?_) (fun hc13 => ?_)
    · replace h := h.2 hc13
      refine s_aload_n j88 rfl rfl ?_
      refine s_gfR j89 rfl (am_is_kd ek11 (am_is_ext hx7 (am_is_kd ek6 ho1))) ?_
      refine s_iconst j92 rfl kc_ic_0 ?_
      obtain ⟨ho20, h⟩ := h
      refine s_pfZ j93 rfl ho20 (Or.inl rfl) (fun σ21 e22 => ?_)
      replace h := h σ21 e22
      have ek23 : am_kd σ21 = am_kd σ9 := by rw [e22]
      exact s_retV j96 rfl h
    · replace h := h.1 hc13
      refine s_aload_n j35 rfl rfl ?_
      refine s_aload_n j36 rfl rfl ?_
      refine s_gfI j37 rfl (am_is_kd ek11 (am_is_ext hx7 (am_is_kd ek6 ho1))) ?_
      refine s_bipush j40 rfl kc_bi_6 ?_
      refine s_virt j42 rfl rfl rfl rfl (am_is_kd ek11 (am_is_ext hx7 (am_is_kd ek6 ho1))) (by decide) (in_Ro_told _ _ _) (am_r8 rfl) (am_bL h (fun a15 σ14 h hx14 => ?_))
      replace h := h hx14
      refine s_lstore j45 rfl (n := 9) (L' := [some (am_ov (some this)), some (.int p0), some (.int p1), some (.int p2), some (.int p3), some (.long a15), none, none, none]) rfl (by decide) rfl ?_
      refine s_aload_n j47 rfl rfl ?_
      refine s_aload_n j48 rfl rfl ?_
      refine s_gfI j49 rfl (am_is_ext hx14 (am_is_kd ek11 (am_is_ext hx7 (am_is_kd ek6 ho1)))) ?_
      refine s_iconst j52 rfl kc_ic_4 ?_
      refine s_virt j53 rfl rfl rfl rfl (am_is_ext hx14 (am_is_kd ek11 (am_is_ext hx7 (am_is_kd ek6 ho1)))) (by decide) (in_Ro_told _ _ _) (am_r8 rfl) (am_bL h (fun a17 σ16 h hx16 => ?_))
      replace h := h hx16
      refine s_lstore j56 rfl (n := 9) (L' := [some (am_ov (some this)), some (.int p0), some (.int p1), some (.int p2), some (.int p3), some (.long a15), none, some (.long a17), none]) rfl (by decide) rfl ?_
      refine s_lload j58 rfl rfl ?_
      refine s_ldc2 j60 rfl kc_ll_m1 ?_
      refine s_g j63 rfl rfl rfl rfl rfl rfl ?_
      refine s_ifn j64 rfl rfl am_cl_ne (fun hc18 => ?_) (fun hc18 => ?_)
      · replace h := h.2 hc18
        exact h
      · replace h := h.1 hc18
        refine s_lload j67 rfl rfl ?_
        refine s_ldc2 j69 rfl kc_ll_m1 ?_
        refine s_g j72 rfl rfl rfl rfl rfl rfl ?_
        refine s_if j73 rfl rfl am_cl_eq (fun hc19 => ?_) (fun hc19 => ?_)
        · replace h := h.1 hc19
          exact h
        · replace h := h.2 hc19
          exact h
theorem P_Ro_work_76 (nl : Bool) (Ln : Nat) (xs : Nat → Int32) : am_Jl (TT nl Ln xs) 216 [(76, .aload_n 0, 77, []), (77, .lload 5, 79, []), (79, .lload 7, 81, []), (81, .invokevirtual 458, 84, [10, 253, 14, 27, 3])] := dk_ck (by decide +kernel)
set_option maxRecDepth 4096 in
theorem w_Ro_work_76 {nl : Bool} {Ln : Nat} {xs : Nat → Int32} {d : Nat} {this : Nat} {x1 : Int32} {x2 : Int32} {x3 : Int32} {x4 : Int32} {x5 : Int64} {x7 : Int64} {σ : am_S} {F : am_S → Prop} (h : (am_is σ (some this) 13) ∧ k_Ro_laid nl Ln xs d this x5 x7 σ (fun σ2 => am_ext σ σ2 → c_Ro_work_84 nl Ln xs (d + 1) this x1 x2 x3 x4 x5 x7 σ2 F)) : c_Ro_work_76 nl Ln xs (d + 1) this x1 x2 x3 x4 x5 x7 σ F := by
  obtain ⟨j76, j77, j79, j81, -⟩ := P_Ro_work_76 nl Ln xs
  unfold c_Ro_work_76
  refine s_aload_n j76 rfl rfl ?_
  refine s_lload j77 rfl rfl ?_
  refine s_lload j79 rfl rfl ?_
  obtain ⟨ho1, h⟩ := h
  refine s_virt j81 rfl rfl rfl rfl ho1 (by decide) (in_Ro_laid _ _ _) (am_r8 rfl) (am_bV h (fun σ2 h hx2 => ?_))
  replace h := h hx2
  exact h
theorem P_Ro_work_84 (nl : Bool) (Ln : Nat) (xs : Nat → Int32) : am_Jl (TT nl Ln xs) 216 [(84, .aload_n 0, 85, []), (85, .invokevirtual 461, 88, [10, 258, 14, 7, 1]), (88, .aload_n 0, 89, []), (89, .getfield 3, 92, [9, 13, 99, 2]), (92, .iconst 0, 93, []), (93, .putfield 276, 96, [9, 12, 15, 3]), (96, .return_, 97, [0])] := dk_ck (by decide +kernel)
set_option maxRecDepth 4096 in
theorem w_Ro_work_84 {nl : Bool} {Ln : Nat} {xs : Nat → Int32} {d : Nat} {this : Nat} {x1 : Int32} {x2 : Int32} {x3 : Int32} {x4 : Int32} {x5 : Int64} {x7 : Int64} {σ : am_S} {F : am_S → Prop} (h : (am_is σ (some this) 13) ∧ k_Ro_behind nl Ln xs d this σ (fun σ2 => am_ext σ σ2 → (am_is σ2 (am_fR σ2 13099 this) 12) ∧ ∀ σ5, σ5 = am_sfI σ2 12015 ((am_fR σ2 13099 this).getD 0) (0 : Int32) → F σ5)) : c_Ro_work_84 nl Ln xs (d + 1) this x1 x2 x3 x4 x5 x7 σ F := by
  obtain ⟨j84, j85, j88, j89, j92, j93, j96, -⟩ := P_Ro_work_84 nl Ln xs
  unfold c_Ro_work_84
  refine s_aload_n j84 rfl rfl ?_
  obtain ⟨ho1, h⟩ := h
  refine s_virt j85 rfl rfl rfl rfl ho1 (by decide) (in_Ro_behind _) (am_r8 rfl) (am_bV h (fun σ2 h hx2 => ?_))
  replace h := h hx2
  refine s_aload_n j88 rfl rfl ?_
  refine s_gfR j89 rfl (am_is_ext hx2 ho1) ?_
  refine s_iconst j92 rfl kc_ic_0 ?_
  obtain ⟨ho4, h⟩ := h
  refine s_pfZ j93 rfl ho4 (Or.inl rfl) (fun σ5 e6 => ?_)
  replace h := h σ5 e6
  have ek7 : am_kd σ5 = am_kd σ2 := by rw [e6]
  exact s_retV j96 rfl h
theorem P_Ro_begin (nl : Bool) (Ln : Nat) (xs : Nat → Int32) : am_Jl (TT nl Ln xs) 217 [(0, .aload_n 0, 1, []), (1, .iload_n 1, 2, []), (2, .putfield 305, 5, [9, 13, 68, 0]), (5, .aload_n 0, 6, []), (6, .iload_n 2, 7, []), (7, .putfield 308, 10, [9, 13, 72, 0]), (10, .aload_n 0, 11, []), (11, .iload_n 3, 12, []), (12, .putfield 311, 15, [9, 13, 73, 0]), (15, .aload_n 0, 16, []), (16, .aload_n 0, 17, []), (17, .getfield 129, 20, [9, 13, 48, 2]), (20, .aload_n 0, 21, []), (21, .getfield 305, 24, [9, 13, 68, 0]), (24, .iaload, 25, []), (25, .putfield 298, 28, [9, 13, 69, 0]), (28, .aload_n 0, 29, []), (29, .iconst 0, 30, []), (30, .putfield 266, 33, [9, 13, 74, 0]), (33, .aload_n 0, 34, []), (34, .iconst 0, 35, []), (35, .putfield 368, 38, [9, 13, 75, 3]), (38, .aload_n 0, 39, []), (39, .lconst 0, 40, []), (40, .putfield 272, 43, [9, 13, 78, 1]), (43, .aload_n 0, 44, []), (44, .lconst 0, 45, []), (45, .putfield 295, 48, [9, 13, 77, 1]), (48, .aload_n 0, 49, []), (49, .aload_n 0, 50, []), (50, .aload_n 0, 51, []), (51, .getfield 305, 54, [9, 13, 68, 0]), (54, .aload_n 0, 55, []), (55, .getfield 311, 58, [9, 13, 73, 0]), (58, .invokevirtual 391, 61, [10, 218, 14, 5, 3]), (61, .putfield 351, 64, [9, 13, 70, 0]), (64, .aload_n 0, 65, []), (65, .getfield 351, 68, [9, 13, 70, 0]), (68, .iconst (-1), 69, []), (69, .if_icmp .ne 9, 72, []), (72, .aload_n 0, 73, []), (73, .iconst 1, 74, []), (74, .invokevirtual 348, 77, [10, 220, 14, 2, 2]), (77, .return_, 78, [0]), (78, .aload_n 0, 79, []), (79, .getfield 98, 82, [9, 13, 37, 2]), (82, .aload_n 0, 83, []), (83, .getfield 298, 86, [9, 13, 69, 0]), (86, .iaload, 87, []), (87, .sipush 365, 90, []), (90, .idiv, 91, []), (91, .istore 4, 93, []), (93, .iload 4, 95, []), (95, .i2l, 96, []), (96, .aload_n 0, 97, []), (97, .getfield 19, 100, [9, 13, 4, 2]), (100, .aload_n 0, 101, []), (101, .getfield 351, 104, [9, 13, 70, 0]), (104, .iaload, 105, []), (105, .sipush 365, 108, []), (108, .idiv, 109, []), (109, .i2l, 110, []), (110, .aload_n 0, 111, []), (111, .getfield 22, 114, [9, 13, 5, 2]), (114, .aload_n 0, 115, []), (115, .getfield 351, 118, [9, 13, 70, 0]), (118, .iaload, 119, []), (119, .sipush 365, 122, []), (122, .idiv, 123, []), (123, .i2l, 124, []), (124, .invokestatic 364, 127, [12, 209, 6, 3]), (127, .ifCond .ne 9, 130, []), (130, .aload_n 0, 131, []), (131, .iconst 3, 132, []), (132, .invokevirtual 348, 135, [10, 220, 14, 2, 2]), (135, .return_, 136, [0]), (136, .aload_n 0, 137, []), (137, .aload_n 0, 138, []), (138, .getfield 351, 141, [9, 13, 70, 0]), (141, .iload 4, 143, []), (143, .aload_n 0, 144, []), (144, .getfield 311, 147, [9, 13, 73, 0]), (147, .invokevirtual 395, 150, [10, 221, 14, 7, 4]), (150, .lstore 5, 152, []), (152, .lload 5, 154, []), (154, .ldc2_w 256, 157, [6, 18446744073709551615]), (157, .lcmp, 158, []), (158, .ifCond .ne 9, 161, []), (161, .aload_n 0, 162, []), (162, .iconst 1, 163, []), (163, .invokevirtual 348, 166, [10, 220, 14, 2, 2]), (166, .return_, 167, [0]), (167, .aload_n 0, 168, []), (168, .aload_n 0, 169, []), (169, .aload_n 0, 170, []), (170, .getfield 351, 173, [9, 13, 70, 0]), (173, .aload_n 0, 174, []), (174, .getfield 311, 177, [9, 13, 73, 0]), (177, .invokevirtual 399, 180, [10, 222, 14, 5, 3]), (180, .putfield 371, 183, [9, 13, 71, 0]), (183, .aload_n 0, 184, []), (184, .lload 5, 186, []), (186, .invokevirtual 402, 189, [10, 223, 14, 10, 2]), (189, .aload_n 0, 190, []), (190, .aload_n 0, 191, []), (191, .getfield 266, 194, [9, 13, 74, 0]), (194, .ifCond .ne 10, 197, []), (197, .aload_n 0, 198, []), (198, .getfield 368, 201, [9, 13, 75, 3]), (201, .ifCond .eq 7, 204, []), (204, .lconst 0, 205, []), (205, .goto 7, 208, []), (208, .aload_n 0, 209, []), (209, .getfield 295, 212, [9, 13, 77, 1]), (212, .putfield 295, 215, [9, 13, 77, 1]), (215, .return_, 216, [0])] := dk_ck (by decide +kernel)
set_option maxRecDepth 4096 in
theorem w_Ro_begin {nl : Bool} {Ln : Nat} {xs : Nat → Int32} {d : Nat} {this : Nat} {p0 : Int32} {p1 : Int32} {p2 : Int32} {σ : am_S} {F : am_S → Prop} (h : (am_is σ (some this) 13) ∧ ∀ σ2, σ2 = am_sfI σ 13068 this p0 → ∀ σ5, σ5 = am_sfI σ2 13072 this p1 → ∀ σ8, σ8 = am_sfI σ5 13073 this p2 → (am_ar σ8 1000 (am_fR σ8 13048 this) (am_fI σ8 13068 this)) ∧ ∀ σ12, σ12 = am_sfI σ8 13069 this (am_aI σ8 ((am_fR σ8 13048 this).getD 0) (am_fI σ8 13068 this).toNatClampNeg) → ∀ σ15, σ15 = am_sfI σ12 13074 this (0 : Int32) → ∀ σ18, σ18 = am_sfI σ15 13075 this (0 : Int32) → ∀ σ21, σ21 = am_sfL σ18 13078 this (0 : Int64) → ∀ σ24, σ24 = am_sfL σ21 13077 this (0 : Int64) → k_Ro_coverOf nl Ln xs d this (am_fI σ24 13068 this) (am_fI σ24 13073 this) σ24 (fun a28 σ27 => am_ext σ24 σ27 → ∀ σ29, σ29 = am_sfI σ27 13070 this a28 → ((am_fI σ29 13070 this) = (-1 : Int32) → k_Ro_meets nl Ln xs d this (1 : Int32) σ29 (fun σ33 => am_ext σ29 σ33 → F σ33)) ∧ (¬ ((am_fI σ29 13070 this) = (-1 : Int32)) → (am_ar σ29 1000 (am_fR σ29 13037 this) (am_fI σ29 13069 this)) ∧ ∀ v36 : Int32, v36 = ((am_aI σ29 ((am_fR σ29 13037 this).getD 0) (am_fI σ29 13069 this).toNatClampNeg) / (365 : Int32)) → (am_ar σ29 1000 (am_fR σ29 13004 this) (am_fI σ29 13070 this)) ∧ (am_ar σ29 1000 (am_fR σ29 13005 this) (am_fI σ29 13070 this)) ∧ k_Rm_in nl Ln xs d v36.toInt64 (((am_aI σ29 ((am_fR σ29 13004 this).getD 0) (am_fI σ29 13070 this).toNatClampNeg) / (365 : Int32)).toInt64) (((am_aI σ29 ((am_fR σ29 13005 this).getD 0) (am_fI σ29 13070 this).toNatClampNeg) / (365 : Int32)).toInt64) σ29 (fun a41 σ40 => am_ext σ29 σ40 → (a41 = true → k_Ro_sumOf nl Ln xs d this (am_fI σ40 13070 this) v36 (am_fI σ40 13073 this) σ40 (fun a44 σ43 => am_ext σ40 σ43 → (a44 = (-1 : Int64) → k_Ro_meets nl Ln xs d this (1 : Int32) σ43 (fun σ46 => am_ext σ43 σ46 → F σ46)) ∧ (¬ (a44 = (-1 : Int64)) → k_Ro_setOf nl Ln xs d this (am_fI σ43 13070 this) (am_fI σ43 13073 this) σ43 (fun a49 σ48 => am_ext σ43 σ48 → ∀ σ50, σ50 = am_sfI σ48 13071 this a49 → k_Ro_toSeven nl Ln xs d this a44 σ50 (fun σ53 => am_ext σ50 σ53 → ∀ w58 : Int64, w58 = (if (am_fI σ53 13074 this) = 0 then (if (am_fI σ53 13075 this) = 0 then (am_fL σ53 13077 this) else (0 : Int64)) else (0 : Int64)) → ∀ σ60, σ60 = am_sfL σ53 13077 this w58 → F σ60))))) ∧ (¬ (a41 = true) → k_Ro_meets nl Ln xs d this (3 : Int32) σ40 (fun σ63 => am_ext σ40 σ63 → F σ63)))))) : k_Ro_begin nl Ln xs (d + 1) this p0 p1 p2 σ F := by
  obtain ⟨j0, j1, j2, j5, j6, j7, j10, j11, j12, j15, j16, j17, j20, j21, j24, j25, j28, j29, j30, j33, j34, j35, j38, j39, j40, j43, j44, j45, j48, j49, j50, j51, j54, j55, j58, j61, j64, j65, j68, j69, j72, j73, j74, j77, j78, j79, j82, j83, j86, j87, j90, j91, j93, j95, j96, j97, j100, j101, j104, j105, j108, j109, j110, j111, j114, j115, j118, j119, j122, j123, j124, j127, j130, j131, j132, j135, j136, j137, j138, j141, j143, j144, j147, j150, j152, j154, j157, j158, j161, j162, j163, j166, j167, j168, j169, j170, j173, j174, j177, j180, j183, j184, j186, j189, j190, j191, j194, j197, j198, j201, j204, j205, j208, j209, j212, j215, -⟩ := P_Ro_begin nl Ln xs
  have elo : am_lo 7 [am_ov (some this), .int p0, .int p1, .int p2] = [some (am_ov (some this)), some (.int p0), some (.int p1), some (.int p2), none, none, none] := by simp only [am_lo, am_in_ov, am_in_int, am_in_long, am_in_nil]; rfl
  unfold k_Ro_begin
  rw [elo]
  refine s_aload_n j0 rfl rfl ?_
  refine s_iload_n j1 rfl rfl ?_
  obtain ⟨ho1, h⟩ := h
  refine s_pfI j2 rfl ho1 (fun σ2 e3 => ?_)
  replace h := h σ2 e3
  have ek4 : am_kd σ2 = am_kd σ := by rw [e3]
  refine s_aload_n j5 rfl rfl ?_
  refine s_iload_n j6 rfl rfl ?_
  refine s_pfI j7 rfl (am_is_kd ek4 ho1) (fun σ5 e6 => ?_)
  replace h := h σ5 e6
  have ek7 : am_kd σ5 = am_kd σ2 := by rw [e6]
  refine s_aload_n j10 rfl rfl ?_
  refine s_iload_n j11 rfl rfl ?_
  refine s_pfI j12 rfl (am_is_kd ek7 (am_is_kd ek4 ho1)) (fun σ8 e9 => ?_)
  replace h := h σ8 e9
  have ek10 : am_kd σ8 = am_kd σ5 := by rw [e9]
  refine s_aload_n j15 rfl rfl ?_
  refine s_aload_n j16 rfl rfl ?_
  refine s_gfR j17 rfl (am_is_kd ek10 (am_is_kd ek7 (am_is_kd ek4 ho1))) ?_
  refine s_aload_n j20 rfl rfl ?_
  refine s_gfI j21 rfl (am_is_kd ek10 (am_is_kd ek7 (am_is_kd ek4 ho1))) ?_
  obtain ⟨ho11, h⟩ := h
  refine s_iaload j24 rfl ho11 ?_
  refine s_pfI j25 rfl (am_is_kd ek10 (am_is_kd ek7 (am_is_kd ek4 ho1))) (fun σ12 e13 => ?_)
  replace h := h σ12 e13
  have ek14 : am_kd σ12 = am_kd σ8 := by rw [e13]
  refine s_aload_n j28 rfl rfl ?_
  refine s_iconst j29 rfl kc_ic_0 ?_
  refine s_pfI j30 rfl (am_is_kd ek14 (am_is_kd ek10 (am_is_kd ek7 (am_is_kd ek4 ho1)))) (fun σ15 e16 => ?_)
  replace h := h σ15 e16
  have ek17 : am_kd σ15 = am_kd σ12 := by rw [e16]
  refine s_aload_n j33 rfl rfl ?_
  refine s_iconst j34 rfl kc_ic_0 ?_
  refine s_pfZ j35 rfl (am_is_kd ek17 (am_is_kd ek14 (am_is_kd ek10 (am_is_kd ek7 (am_is_kd ek4 ho1))))) (Or.inl rfl) (fun σ18 e19 => ?_)
  replace h := h σ18 e19
  have ek20 : am_kd σ18 = am_kd σ15 := by rw [e19]
  refine s_aload_n j38 rfl rfl ?_
  refine s_lconst j39 rfl rfl ?_
  refine s_pfL j40 rfl (am_is_kd ek20 (am_is_kd ek17 (am_is_kd ek14 (am_is_kd ek10 (am_is_kd ek7 (am_is_kd ek4 ho1)))))) (fun σ21 e22 => ?_)
  replace h := h σ21 e22
  have ek23 : am_kd σ21 = am_kd σ18 := by rw [e22]
  refine s_aload_n j43 rfl rfl ?_
  refine s_lconst j44 rfl rfl ?_
  refine s_pfL j45 rfl (am_is_kd ek23 (am_is_kd ek20 (am_is_kd ek17 (am_is_kd ek14 (am_is_kd ek10 (am_is_kd ek7 (am_is_kd ek4 ho1))))))) (fun σ24 e25 => ?_)
  replace h := h σ24 e25
  have ek26 : am_kd σ24 = am_kd σ21 := by rw [e25]
  refine s_aload_n j48 rfl rfl ?_
  refine s_aload_n j49 rfl rfl ?_
  refine s_aload_n j50 rfl rfl ?_
  refine s_gfI j51 rfl (am_is_kd ek26 (am_is_kd ek23 (am_is_kd ek20 (am_is_kd ek17 (am_is_kd ek14 (am_is_kd ek10 (am_is_kd ek7 (am_is_kd ek4 ho1)))))))) ?_
  refine s_aload_n j54 rfl rfl ?_
  refine s_gfI j55 rfl (am_is_kd ek26 (am_is_kd ek23 (am_is_kd ek20 (am_is_kd ek17 (am_is_kd ek14 (am_is_kd ek10 (am_is_kd ek7 (am_is_kd ek4 ho1)))))))) ?_
  refine s_virt j58 rfl rfl rfl rfl (am_is_kd ek26 (am_is_kd ek23 (am_is_kd ek20 (am_is_kd ek17 (am_is_kd ek14 (am_is_kd ek10 (am_is_kd ek7 (am_is_kd ek4 ho1)))))))) (by decide) (in_Ro_coverOf _ _ _) (am_r8 rfl) (am_bI h (fun a28 σ27 h hx27 => ?_))
  replace h := h hx27
  refine s_pfI j61 rfl (am_is_ext hx27 (am_is_kd ek26 (am_is_kd ek23 (am_is_kd ek20 (am_is_kd ek17 (am_is_kd ek14 (am_is_kd ek10 (am_is_kd ek7 (am_is_kd ek4 ho1))))))))) (fun σ29 e30 => ?_)
  replace h := h σ29 e30
  have ek31 : am_kd σ29 = am_kd σ27 := by rw [e30]
  refine s_aload_n j64 rfl rfl ?_
  refine s_gfI j65 rfl (am_is_kd ek31 (am_is_ext hx27 (am_is_kd ek26 (am_is_kd ek23 (am_is_kd ek20 (am_is_kd ek17 (am_is_kd ek14 (am_is_kd ek10 (am_is_kd ek7 (am_is_kd ek4 ho1)))))))))) ?_
  refine s_iconst j68 rfl kc_ic_m1 ?_
  refine s_icn j69 rfl rfl am_cc_ne (fun hc32 => ?_) (fun hc32 => ?_)
  · replace h := h.2 hc32
    refine s_aload_n j78 rfl rfl ?_
    refine s_gfR j79 rfl (am_is_kd ek31 (am_is_ext hx27 (am_is_kd ek26 (am_is_kd ek23 (am_is_kd ek20 (am_is_kd ek17 (am_is_kd ek14 (am_is_kd ek10 (am_is_kd ek7 (am_is_kd ek4 ho1)))))))))) ?_
    refine s_aload_n j82 rfl rfl ?_
    refine s_gfI j83 rfl (am_is_kd ek31 (am_is_ext hx27 (am_is_kd ek26 (am_is_kd ek23 (am_is_kd ek20 (am_is_kd ek17 (am_is_kd ek14 (am_is_kd ek10 (am_is_kd ek7 (am_is_kd ek4 ho1)))))))))) ?_
    obtain ⟨ho35, h⟩ := h
    refine s_iaload j86 rfl ho35 ?_
    refine s_sipush j87 rfl kc_si_365 ?_
    refine s_idiv j90 rfl (by decide) ?_
    refine s_istoreV j91 rfl (n := 7) (L' := fun w => [some (am_ov (some this)), some (.int p0), some (.int p1), some (.int p2), some (.int w), none, none]) rfl (by decide) (fun _ => rfl) (fun v36 hv37 => ?_)
    replace h := h v36 hv37
    refine s_iload j93 rfl rfl ?_
    refine s_g j95 rfl rfl rfl rfl rfl rfl ?_
    refine s_aload_n j96 rfl rfl ?_
    refine s_gfR j97 rfl (am_is_kd ek31 (am_is_ext hx27 (am_is_kd ek26 (am_is_kd ek23 (am_is_kd ek20 (am_is_kd ek17 (am_is_kd ek14 (am_is_kd ek10 (am_is_kd ek7 (am_is_kd ek4 ho1)))))))))) ?_
    refine s_aload_n j100 rfl rfl ?_
    refine s_gfI j101 rfl (am_is_kd ek31 (am_is_ext hx27 (am_is_kd ek26 (am_is_kd ek23 (am_is_kd ek20 (am_is_kd ek17 (am_is_kd ek14 (am_is_kd ek10 (am_is_kd ek7 (am_is_kd ek4 ho1)))))))))) ?_
    obtain ⟨ho38, h⟩ := h
    refine s_iaload j104 rfl ho38 ?_
    refine s_sipush j105 rfl kc_si_365 ?_
    refine s_idiv j108 rfl (by decide) ?_
    refine s_g j109 rfl rfl rfl rfl rfl rfl ?_
    refine s_aload_n j110 rfl rfl ?_
    refine s_gfR j111 rfl (am_is_kd ek31 (am_is_ext hx27 (am_is_kd ek26 (am_is_kd ek23 (am_is_kd ek20 (am_is_kd ek17 (am_is_kd ek14 (am_is_kd ek10 (am_is_kd ek7 (am_is_kd ek4 ho1)))))))))) ?_
    refine s_aload_n j114 rfl rfl ?_
    refine s_gfI j115 rfl (am_is_kd ek31 (am_is_ext hx27 (am_is_kd ek26 (am_is_kd ek23 (am_is_kd ek20 (am_is_kd ek17 (am_is_kd ek14 (am_is_kd ek10 (am_is_kd ek7 (am_is_kd ek4 ho1)))))))))) ?_
    obtain ⟨ho39, h⟩ := h
    refine s_iaload j118 rfl ho39 ?_
    refine s_sipush j119 rfl kc_si_365 ?_
    refine s_idiv j122 rfl (by decide) ?_
    refine s_g j123 rfl rfl rfl rfl rfl rfl ?_
    refine s_stat j124 rfl rfl rfl rfl (by decide) (in_Rm_in _ _ _) (am_r8 rfl) (am_bB h (fun a41 σ40 h hx40 => ?_))
    replace h := h hx40
    refine s_if j127 rfl rfl am_cb_ne (fun hc42 => ?_) (fun hc42 => ?_)
    · replace h := h.1 hc42
      refine s_aload_n j136 rfl rfl ?_
      refine s_aload_n j137 rfl rfl ?_
      refine s_gfI j138 rfl (am_is_ext hx40 (am_is_kd ek31 (am_is_ext hx27 (am_is_kd ek26 (am_is_kd ek23 (am_is_kd ek20 (am_is_kd ek17 (am_is_kd ek14 (am_is_kd ek10 (am_is_kd ek7 (am_is_kd ek4 ho1))))))))))) ?_
      refine s_iload j141 rfl rfl ?_
      refine s_aload_n j143 rfl rfl ?_
      refine s_gfI j144 rfl (am_is_ext hx40 (am_is_kd ek31 (am_is_ext hx27 (am_is_kd ek26 (am_is_kd ek23 (am_is_kd ek20 (am_is_kd ek17 (am_is_kd ek14 (am_is_kd ek10 (am_is_kd ek7 (am_is_kd ek4 ho1))))))))))) ?_
      refine s_virt j147 rfl rfl rfl rfl (am_is_ext hx40 (am_is_kd ek31 (am_is_ext hx27 (am_is_kd ek26 (am_is_kd ek23 (am_is_kd ek20 (am_is_kd ek17 (am_is_kd ek14 (am_is_kd ek10 (am_is_kd ek7 (am_is_kd ek4 ho1))))))))))) (by decide) (in_Ro_sumOf _ _ _ _) (am_r8 rfl) (am_bL h (fun a44 σ43 h hx43 => ?_))
      replace h := h hx43
      refine s_lstore j150 rfl (n := 7) (L' := [some (am_ov (some this)), some (.int p0), some (.int p1), some (.int p2), some (.int v36), some (.long a44), none]) rfl (by decide) rfl ?_
      refine s_lload j152 rfl rfl ?_
      refine s_ldc2 j154 rfl kc_ll_m1 ?_
      refine s_g j157 rfl rfl rfl rfl rfl rfl ?_
      refine s_ifn j158 rfl rfl am_cl_ne (fun hc45 => ?_) (fun hc45 => ?_)
      · replace h := h.2 hc45
        refine s_aload_n j167 rfl rfl ?_
        refine s_aload_n j168 rfl rfl ?_
        refine s_aload_n j169 rfl rfl ?_
        refine s_gfI j170 rfl (am_is_ext hx43 (am_is_ext hx40 (am_is_kd ek31 (am_is_ext hx27 (am_is_kd ek26 (am_is_kd ek23 (am_is_kd ek20 (am_is_kd ek17 (am_is_kd ek14 (am_is_kd ek10 (am_is_kd ek7 (am_is_kd ek4 ho1)))))))))))) ?_
        refine s_aload_n j173 rfl rfl ?_
        refine s_gfI j174 rfl (am_is_ext hx43 (am_is_ext hx40 (am_is_kd ek31 (am_is_ext hx27 (am_is_kd ek26 (am_is_kd ek23 (am_is_kd ek20 (am_is_kd ek17 (am_is_kd ek14 (am_is_kd ek10 (am_is_kd ek7 (am_is_kd ek4 ho1)))))))))))) ?_
        refine s_virt j177 rfl rfl rfl rfl (am_is_ext hx43 (am_is_ext hx40 (am_is_kd ek31 (am_is_ext hx27 (am_is_kd ek26 (am_is_kd ek23 (am_is_kd ek20 (am_is_kd ek17 (am_is_kd ek14 (am_is_kd ek10 (am_is_kd ek7 (am_is_kd ek4 ho1)))))))))))) (by decide) (in_Ro_setOf _ _ _) (am_r8 rfl) (am_bI h (fun a49 σ48 h hx48 => ?_))
        replace h := h hx48
        refine s_pfI j180 rfl (am_is_ext hx48 (am_is_ext hx43 (am_is_ext hx40 (am_is_kd ek31 (am_is_ext hx27 (am_is_kd ek26 (am_is_kd ek23 (am_is_kd ek20 (am_is_kd ek17 (am_is_kd ek14 (am_is_kd ek10 (am_is_kd ek7 (am_is_kd ek4 ho1))))))))))))) (fun σ50 e51 => ?_)
        replace h := h σ50 e51
        have ek52 : am_kd σ50 = am_kd σ48 := by rw [e51]
        refine s_aload_n j183 rfl rfl ?_
        refine s_lload j184 rfl rfl ?_
        refine s_virt j186 rfl rfl rfl rfl (am_is_kd ek52 (am_is_ext hx48 (am_is_ext hx43 (am_is_ext hx40 (am_is_kd ek31 (am_is_ext hx27 (am_is_kd ek26 (am_is_kd ek23 (am_is_kd ek20 (am_is_kd ek17 (am_is_kd ek14 (am_is_kd ek10 (am_is_kd ek7 (am_is_kd ek4 ho1)))))))))))))) (by decide) (in_Ro_toSeven _ _) (am_r8 rfl) (am_bV h (fun σ53 h hx53 => ?_))
        replace h := h hx53
        refine s_aload_n j189 rfl rfl ?_
        refine s_aload_n j190 rfl rfl ?_
        refine s_gfI j191 rfl (am_is_ext hx53 (am_is_kd ek52 (am_is_ext hx48 (am_is_ext hx43 (am_is_ext hx40 (am_is_kd ek31 (am_is_ext hx27 (am_is_kd ek26 (am_is_kd ek23 (am_is_kd ek20 (am_is_kd ek17 (am_is_kd ek14 (am_is_kd ek10 (am_is_kd ek7 (am_is_kd ek4 ho1))))))))))))))) ?_
        have K57 : ∀ (w58 : Int64), w58 = (if (am_fI σ53 13074 this) = 0 then (if (am_fI σ53 13075 this) = 0 then (am_fL σ53 13077 this) else (0 : Int64)) else (0 : Int64)) → am_C (TT nl Ln xs) (d + 1) 217 212 [some (am_ov (some this)), some (.int p0), some (.int p1), some (.int p2), some (.int v36), some (.long a44), none] [.long w58, am_ov (some this)] σ53 (am_qV F) := by
          intro w58 hw59
          replace h := h w58 hw59
          refine s_pfL j212 rfl (am_is_ext hx53 (am_is_kd ek52 (am_is_ext hx48 (am_is_ext hx43 (am_is_ext hx40 (am_is_kd ek31 (am_is_ext hx27 (am_is_kd ek26 (am_is_kd ek23 (am_is_kd ek20 (am_is_kd ek17 (am_is_kd ek14 (am_is_kd ek10 (am_is_kd ek7 (am_is_kd ek4 ho1))))))))))))))) (fun σ60 e61 => ?_)
          replace h := h σ60 e61
          have ek62 : am_kd σ60 = am_kd σ53 := by rw [e61]
          exact s_retV j215 rfl h
        refine s_ifn j194 rfl rfl am_cc_ne (fun hc55 => ?_) (fun hc55 => ?_)
        · refine s_lconst j204 rfl rfl ?_
          refine s_goto j205 rfl rfl ?_
          exact K57 _ (am_t2 hc55 rfl)
        · refine s_aload_n j197 rfl rfl ?_
          refine s_gfZ j198 rfl (am_is_ext hx53 (am_is_kd ek52 (am_is_ext hx48 (am_is_ext hx43 (am_is_ext hx40 (am_is_kd ek31 (am_is_ext hx27 (am_is_kd ek26 (am_is_kd ek23 (am_is_kd ek20 (am_is_kd ek17 (am_is_kd ek14 (am_is_kd ek10 (am_is_kd ek7 (am_is_kd ek4 ho1))))))))))))))) ?_
          refine s_if j201 rfl rfl am_cc_eq (fun hc56 => ?_) (fun hc56 => ?_)
          · refine s_aload_n j208 rfl rfl ?_
            refine s_gfL j209 rfl (am_is_ext hx53 (am_is_kd ek52 (am_is_ext hx48 (am_is_ext hx43 (am_is_ext hx40 (am_is_kd ek31 (am_is_ext hx27 (am_is_kd ek26 (am_is_kd ek23 (am_is_kd ek20 (am_is_kd ek17 (am_is_kd ek14 (am_is_kd ek10 (am_is_kd ek7 (am_is_kd ek4 ho1))))))))))))))) ?_
            exact K57 _ (am_t1 hc55 (am_t1 hc56 rfl))
          · refine s_lconst j204 rfl rfl ?_
            refine s_goto j205 rfl rfl ?_
            exact K57 _ (am_t1 hc55 (am_t2 hc56 rfl))
      · replace h := h.1 hc45
        refine s_aload_n j161 rfl rfl ?_
        refine s_iconst j162 rfl kc_ic_1 ?_
        refine s_virt j163 rfl rfl rfl rfl (am_is_ext hx43 (am_is_ext hx40 (am_is_kd ek31 (am_is_ext hx27 (am_is_kd ek26 (am_is_kd ek23 (am_is_kd ek20 (am_is_kd ek17 (am_is_kd ek14 (am_is_kd ek10 (am_is_kd ek7 (am_is_kd ek4 ho1)))))))))))) (by decide) (in_Ro_meets _ _) (am_r8 rfl) (am_bV h (fun σ46 h hx46 => ?_))
        replace h := h hx46
        exact s_retV j166 rfl h
    · replace h := h.2 hc42
      refine s_aload_n j130 rfl rfl ?_
      refine s_iconst j131 rfl kc_ic_3 ?_
      refine s_virt j132 rfl rfl rfl rfl (am_is_ext hx40 (am_is_kd ek31 (am_is_ext hx27 (am_is_kd ek26 (am_is_kd ek23 (am_is_kd ek20 (am_is_kd ek17 (am_is_kd ek14 (am_is_kd ek10 (am_is_kd ek7 (am_is_kd ek4 ho1))))))))))) (by decide) (in_Ro_meets _ _) (am_r8 rfl) (am_bV h (fun σ63 h hx63 => ?_))
      replace h := h hx63
      exact s_retV j135 rfl h
  · replace h := h.1 hc32
    refine s_aload_n j72 rfl rfl ?_
    refine s_iconst j73 rfl kc_ic_1 ?_
    refine s_virt j74 rfl rfl rfl rfl (am_is_kd ek31 (am_is_ext hx27 (am_is_kd ek26 (am_is_kd ek23 (am_is_kd ek20 (am_is_kd ek17 (am_is_kd ek14 (am_is_kd ek10 (am_is_kd ek7 (am_is_kd ek4 ho1)))))))))) (by decide) (in_Ro_meets _ _) (am_r8 rfl) (am_bV h (fun σ33 h hx33 => ?_))
    replace h := h hx33
    exact s_retV j77 rfl h
theorem P_Ro_coverOf (nl : Bool) (Ln : Nat) (xs : Nat → Int32) : am_Jl (TT nl Ln xs) 218 [(0, .aload_n 0, 1, []), (1, .getfield 123, 4, [9, 13, 46, 2]), (4, .iload_n 1, 5, []), (5, .iaload, 6, []), (6, .istore_n 3, 7, []), (7, .aload_n 0, 8, []), (8, .getfield 126, 11, [9, 13, 47, 2]), (11, .iload_n 1, 12, []), (12, .iaload, 13, []), (13, .istore 4, 15, [])] := dk_ck (by decide +kernel)
set_option maxRecDepth 4096 in
theorem w_Ro_coverOf {nl : Bool} {Ln : Nat} {xs : Nat → Int32} {d : Nat} {this : Nat} {p0 : Int32} {p1 : Int32} {σ : am_S} {F : Int32 → am_S → Prop} (h : (am_is σ (some this) 13) ∧ (am_ar σ 1000 (am_fR σ 13046 this) p0) ∧ ∀ v3 : Int32, v3 = (am_aI σ ((am_fR σ 13046 this).getD 0) p0.toNatClampNeg) → (am_ar σ 1000 (am_fR σ 13047 this) p0) ∧ ∀ v6 : Int32, v6 = (am_aI σ ((am_fR σ 13047 this).getD 0) p0.toNatClampNeg) → c_Ro_coverOf_15 nl Ln xs (d + 1) this p0 p1 v3 v6 σ F) : k_Ro_coverOf nl Ln xs (d + 1) this p0 p1 σ F := by
  obtain ⟨j0, j1, j4, j5, j6, j7, j8, j11, j12, j13, -⟩ := P_Ro_coverOf nl Ln xs
  have elo : am_lo 5 [am_ov (some this), .int p0, .int p1] = [some (am_ov (some this)), some (.int p0), some (.int p1), none, none] := by simp only [am_lo, am_in_ov, am_in_int, am_in_long, am_in_nil]; rfl
  unfold k_Ro_coverOf
  rw [elo]
  refine s_aload_n j0 rfl rfl ?_
  obtain ⟨ho1, h⟩ := h
  refine s_gfR j1 rfl ho1 ?_
  refine s_iload_n j4 rfl rfl ?_
  obtain ⟨ho2, h⟩ := h
  refine s_iaload j5 rfl ho2 ?_
  refine s_istore_nV j6 rfl (n := 5) (L' := fun w => [some (am_ov (some this)), some (.int p0), some (.int p1), some (.int w), none]) rfl (by decide) (fun _ => rfl) (fun v3 hv4 => ?_)
  replace h := h v3 hv4
  refine s_aload_n j7 rfl rfl ?_
  refine s_gfR j8 rfl ho1 ?_
  refine s_iload_n j11 rfl rfl ?_
  obtain ⟨ho5, h⟩ := h
  refine s_iaload j12 rfl ho5 ?_
  refine s_istoreV j13 rfl (n := 5) (L' := fun w => [some (am_ov (some this)), some (.int p0), some (.int p1), some (.int v3), some (.int w)]) rfl (by decide) (fun _ => rfl) (fun v6 hv7 => ?_)
  replace h := h v6 hv7
  exact h
theorem P_Ro_coverOf_15 (nl : Bool) (Ln : Nat) (xs : Nat → Int32) : am_Jl (TT nl Ln xs) 218 [(15, .iload_n 3, 16, []), (16, .iconst (-1), 17, []), (17, .if_icmp .eq 29, 20, []), (20, .aload_n 0, 21, []), (21, .getfield 15, 24, [9, 13, 3, 2]), (24, .iload_n 3, 25, []), (25, .iaload, 26, []), (26, .bipush 6, 28, []), (28, .if_icmp .ne 18, 31, []), (31, .aload_n 0, 32, []), (32, .iload_n 3, 33, []), (33, .iload 4, 35, []), (35, .iload_n 2, 36, []), (36, .invokevirtual 258, 39, [10, 219, 14, 6, 4]), (39, .istore_n 3, 40, []), (40, .iconst 0, 41, []), (41, .istore 4, 43, []), (43, .goto (-28), 46, []), (46, .iload_n 3, 47, []), (47, .ireturn, 48, [1])] := dk_ck (by decide +kernel)
set_option maxRecDepth 4096 in
theorem w_Ro_coverOf_15 {nl : Bool} {Ln : Nat} {xs : Nat → Int32} {d : Nat} {this : Nat} {x1 : Int32} {x2 : Int32} {x3 : Int32} {x4 : Int32} {σ : am_S} {F : Int32 → am_S → Prop} (h : (x3 = (-1 : Int32) → F x3 σ) ∧ (¬ (x3 = (-1 : Int32)) → (am_is σ (some this) 13) ∧ (am_ar σ 1000 (am_fR σ 13003 this) x3) ∧ ((am_aI σ ((am_fR σ 13003 this).getD 0) x3.toNatClampNeg) = (6 : Int32) → k_Ro_partOf nl Ln xs d this x3 x4 x2 σ (fun a6 σ5 => am_ext σ σ5 → c_Ro_coverOf_15 nl Ln xs (d + 1) this x1 x2 a6 (0 : Int32) σ5 F)) ∧ (¬ ((am_aI σ ((am_fR σ 13003 this).getD 0) x3.toNatClampNeg) = (6 : Int32)) → F x3 σ))) : c_Ro_coverOf_15 nl Ln xs (d + 1) this x1 x2 x3 x4 σ F := by
  obtain ⟨j15, j16, j17, j20, j21, j24, j25, j26, j28, j31, j32, j33, j35, j36, j39, j40, j41, j43, j46, j47, -⟩ := P_Ro_coverOf_15 nl Ln xs
  unfold c_Ro_coverOf_15
  refine s_iload_n j15 rfl rfl ?_
  refine s_iconst j16 rfl kc_ic_m1 ?_
  refine s_ic j17 rfl rfl am_cc_eq (fun hc1 => ?_) (fun hc1 => ?_)
  · replace h := h.1 hc1
    refine s_iload_n j46 rfl rfl ?_
    exact s_retI j47 rfl h
  · replace h := h.2 hc1
    refine s_aload_n j20 rfl rfl ?_
    obtain ⟨ho2, h⟩ := h
    refine s_gfR j21 rfl ho2 ?_
    refine s_iload_n j24 rfl rfl ?_
    obtain ⟨ho3, h⟩ := h
    refine s_iaload j25 rfl ho3 ?_
    refine s_bipush j26 rfl kc_bi_6 ?_
    refine s_icn j28 rfl rfl am_cc_ne (fun hc4 => ?_) (fun hc4 => ?_)
    · replace h := h.2 hc4
      refine s_iload_n j46 rfl rfl ?_
      exact s_retI j47 rfl h
    · replace h := h.1 hc4
      refine s_aload_n j31 rfl rfl ?_
      refine s_iload_n j32 rfl rfl ?_
      refine s_iload j33 rfl rfl ?_
      refine s_iload_n j35 rfl rfl ?_
      refine s_virt j36 rfl rfl rfl rfl ho2 (by decide) (in_Ro_partOf _ _ _ _) (am_r8 rfl) (am_bI h (fun a6 σ5 h hx5 => ?_))
      replace h := h hx5
      refine s_istore_n j39 rfl (n := 5) (L' := [some (am_ov (some this)), some (.int x1), some (.int x2), some (.int a6), some (.int x4)]) rfl (by decide) rfl ?_
      refine s_iconst j40 rfl kc_ic_0 ?_
      refine s_istore j41 rfl (n := 5) (L' := [some (am_ov (some this)), some (.int x1), some (.int x2), some (.int a6), some (.int (0 : Int32))]) rfl (by decide) rfl ?_
      refine s_goto j43 rfl rfl ?_
      exact h
theorem P_Ro_partOf (nl : Bool) (Ln : Nat) (xs : Nat → Int32) : am_Jl (TT nl Ln xs) 219 [(0, .iconst (-1), 1, []), (1, .istore 4, 3, []), (3, .iconst 0, 4, []), (4, .istore 5, 6, [])] := dk_ck (by decide +kernel)
set_option maxRecDepth 4096 in
theorem w_Ro_partOf {nl : Bool} {Ln : Nat} {xs : Nat → Int32} {d : Nat} {this : Nat} {p0 : Int32} {p1 : Int32} {p2 : Int32} {σ : am_S} {F : Int32 → am_S → Prop} (h : c_Ro_partOf_6 nl Ln xs (d + 1) this p0 p1 p2 (-1 : Int32) (0 : Int32) σ F) : k_Ro_partOf nl Ln xs (d + 1) this p0 p1 p2 σ F := by
  obtain ⟨j0, j1, j3, j4, -⟩ := P_Ro_partOf nl Ln xs
  have elo : am_lo 6 [am_ov (some this), .int p0, .int p1, .int p2] = [some (am_ov (some this)), some (.int p0), some (.int p1), some (.int p2), none, none] := by simp only [am_lo, am_in_ov, am_in_int, am_in_long, am_in_nil]; rfl
  unfold k_Ro_partOf
  rw [elo]
  refine s_iconst j0 rfl kc_ic_m1 ?_
  refine s_istore j1 rfl (n := 6) (L' := [some (am_ov (some this)), some (.int p0), some (.int p1), some (.int p2), some (.int (-1 : Int32)), none]) rfl (by decide) rfl ?_
  refine s_iconst j3 rfl kc_ic_0 ?_
  refine s_istore j4 rfl (n := 6) (L' := [some (am_ov (some this)), some (.int p0), some (.int p1), some (.int p2), some (.int (-1 : Int32)), some (.int (0 : Int32))]) rfl (by decide) rfl ?_
  exact h
theorem P_Ro_partOf_6 (nl : Bool) (Ln : Nat) (xs : Nat → Int32) : am_Jl (TT nl Ln xs) 219 [(6, .iload 5, 8, []), (8, .aload_n 0, 9, []), (9, .getfield 219, 12, [9, 13, 10, 0]), (12, .if_icmp .ge 56, 15, []), (15, .aload_n 0, 16, []), (16, .getfield 34, 19, [9, 13, 11, 2]), (19, .iload 5, 21, []), (21, .iaload, 22, []), (22, .iload_n 1, 23, []), (23, .if_icmp .ne 35, 26, []), (26, .aload_n 0, 27, []), (27, .getfield 37, 30, [9, 13, 12, 2]), (30, .iload 5, 32, []), (32, .iaload, 33, []), (33, .iload_n 2, 34, []), (34, .if_icmp .ne 24, 37, []), (37, .aload_n 0, 38, []), (38, .getfield 43, 41, [9, 13, 14, 2]), (41, .iload 5, 43, []), (43, .iaload, 44, []), (44, .iload_n 3, 45, []), (45, .if_icmp .gt 13, 48, []), (48, .aload_n 0, 49, []), (49, .getfield 40, 52, [9, 13, 13, 2]), (52, .iload 5, 54, []), (54, .iaload, 55, []), (55, .goto 5, 58, []), (58, .iload 4, 60, []), (60, .istore 4, 62, []), (62, .iinc 5 1, 65, []), (65, .goto (-59), 68, []), (68, .iload 4, 70, []), (70, .ireturn, 71, [1])] := dk_ck (by decide +kernel)
set_option maxRecDepth 4096 in
theorem w_Ro_partOf_6 {nl : Bool} {Ln : Nat} {xs : Nat → Int32} {d : Nat} {this : Nat} {x1 : Int32} {x2 : Int32} {x3 : Int32} {x4 : Int32} {x5 : Int32} {σ : am_S} {F : Int32 → am_S → Prop} (h : (am_is σ (some this) 13) ∧ (x5 < (am_fI σ 13010 this) → (am_ar σ 1000 (am_fR σ 13011 this) x5) ∧ (((am_aI σ ((am_fR σ 13011 this).getD 0) x5.toNatClampNeg) = x1) → am_ar σ 1000 (am_fR σ 13012 this) x5) ∧ (((am_aI σ ((am_fR σ 13011 this).getD 0) x5.toNatClampNeg) = x1) → ((am_aI σ ((am_fR σ 13012 this).getD 0) x5.toNatClampNeg) = x2) → am_ar σ 1000 (am_fR σ 13014 this) x5) ∧ (((am_aI σ ((am_fR σ 13011 this).getD 0) x5.toNatClampNeg) = x1) → ((am_aI σ ((am_fR σ 13012 this).getD 0) x5.toNatClampNeg) = x2) → ¬ (x3 < (am_aI σ ((am_fR σ 13014 this).getD 0) x5.toNatClampNeg)) → am_ar σ 1000 (am_fR σ 13013 this) x5) ∧ ∀ w11 : Int32, w11 = (if (am_aI σ ((am_fR σ 13011 this).getD 0) x5.toNatClampNeg) = x1 then (if (am_aI σ ((am_fR σ 13012 this).getD 0) x5.toNatClampNeg) = x2 then (if x3 < (am_aI σ ((am_fR σ 13014 this).getD 0) x5.toNatClampNeg) then x4 else (am_aI σ ((am_fR σ 13013 this).getD 0) x5.toNatClampNeg)) else x4) else x4) → c_Ro_partOf_6 nl Ln xs (d + 1) this x1 x2 x3 w11 (x5 + (1 : Int32)) σ F) ∧ (¬ (x5 < (am_fI σ 13010 this)) → F x4 σ)) : c_Ro_partOf_6 nl Ln xs (d + 1) this x1 x2 x3 x4 x5 σ F := by
  obtain ⟨j6, j8, j9, j12, j15, j16, j19, j21, j22, j23, j26, j27, j30, j32, j33, j34, j37, j38, j41, j43, j44, j45, j48, j49, j52, j54, j55, j58, j60, j62, j65, j68, j70, -⟩ := P_Ro_partOf_6 nl Ln xs
  unfold c_Ro_partOf_6
  refine s_iload j6 rfl rfl ?_
  refine s_aload_n j8 rfl rfl ?_
  obtain ⟨ho1, h⟩ := h
  refine s_gfI j9 rfl ho1 ?_
  refine s_icn j12 rfl rfl am_cc_ge (fun hc2 => ?_) (fun hc2 => ?_)
  · replace h := h.2 hc2
    refine s_iload j68 rfl rfl ?_
    exact s_retI j70 rfl h
  · replace h := h.1 hc2
    refine s_aload_n j15 rfl rfl ?_
    refine s_gfR j16 rfl ho1 ?_
    refine s_iload j19 rfl rfl ?_
    obtain ⟨ho3, h⟩ := h
    refine s_iaload j21 rfl ho3 ?_
    refine s_iload_n j22 rfl rfl ?_
    obtain ⟨ho5, h⟩ := h
    obtain ⟨ho7, h⟩ := h
    obtain ⟨ho9, h⟩ := h
    have K10 : ∀ (w11 : Int32), w11 = (if (am_aI σ ((am_fR σ 13011 this).getD 0) x5.toNatClampNeg) = x1 then (if (am_aI σ ((am_fR σ 13012 this).getD 0) x5.toNatClampNeg) = x2 then (if x3 < (am_aI σ ((am_fR σ 13014 this).getD 0) x5.toNatClampNeg) then x4 else (am_aI σ ((am_fR σ 13013 this).getD 0) x5.toNatClampNeg)) else x4) else x4) → am_C (TT nl Ln xs) (d + 1) 219 60 [some (am_ov (some this)), some (.int x1), some (.int x2), some (.int x3), some (.int x4), some (.int x5)] [.int w11] σ (am_qI F) := by
      intro w11 hw12
      replace h := h w11 hw12
      refine s_istore j60 rfl (n := 6) (L' := [some (am_ov (some this)), some (.int x1), some (.int x2), some (.int x3), some (.int w11), some (.int x5)]) rfl (by decide) rfl ?_
      refine s_iinc (L' := [some (am_ov (some this)), some (.int x1), some (.int x2), some (.int x3), some (.int w11), some (.int (x5 + (1 : Int32)))]) j62 rfl rfl kc_ic_1 rfl ?_
      refine s_goto j65 rfl rfl ?_
      exact h
    refine s_icn j23 rfl rfl am_cc_ne (fun hc4 => ?_) (fun hc4 => ?_)
    · refine s_iload j58 rfl rfl ?_
      exact K10 _ (am_t2 hc4 rfl)
    · refine s_aload_n j26 rfl rfl ?_
      refine s_gfR j27 rfl ho1 ?_
      refine s_iload j30 rfl rfl ?_
      refine s_iaload j32 rfl (ho5 hc4) ?_
      refine s_iload_n j33 rfl rfl ?_
      refine s_icn j34 rfl rfl am_cc_ne (fun hc6 => ?_) (fun hc6 => ?_)
      · refine s_iload j58 rfl rfl ?_
        exact K10 _ (am_t1 hc4 (am_t2 hc6 rfl))
      · refine s_aload_n j37 rfl rfl ?_
        refine s_gfR j38 rfl ho1 ?_
        refine s_iload j41 rfl rfl ?_
        refine s_iaload j43 rfl (ho7 hc4 hc6) ?_
        refine s_iload_n j44 rfl rfl ?_
        refine s_ic j45 rfl rfl am_cc_gt (fun hc8 => ?_) (fun hc8 => ?_)
        · refine s_iload j58 rfl rfl ?_
          exact K10 _ (am_t1 hc4 (am_t1 hc6 (am_t1 hc8 rfl)))
        · refine s_aload_n j48 rfl rfl ?_
          refine s_gfR j49 rfl ho1 ?_
          refine s_iload j52 rfl rfl ?_
          refine s_iaload j54 rfl (ho9 hc4 hc6 hc8) ?_
          refine s_goto j55 rfl rfl ?_
          exact K10 _ (am_t1 hc4 (am_t1 hc6 (am_t2 hc8 rfl)))
theorem P_Ro_meets (nl : Bool) (Ln : Nat) (xs : Nat → Int32) : am_Jl (TT nl Ln xs) 220 [(0, .aload_n 0, 1, []), (1, .iload_n 1, 2, []), (2, .putfield 266, 5, [9, 13, 74, 0]), (5, .aload_n 0, 6, []), (6, .getfield 3, 9, [9, 13, 99, 2]), (9, .dup, 10, []), (10, .getfield 269, 13, [9, 12, 6, 0]), (13, .iconst 1, 14, []), (14, .iadd, 15, []), (15, .putfield 269, 18, [9, 12, 6, 0]), (18, .return_, 19, [0])] := dk_ck (by decide +kernel)
set_option maxRecDepth 4096 in
theorem w_Ro_meets {nl : Bool} {Ln : Nat} {xs : Nat → Int32} {d : Nat} {this : Nat} {p0 : Int32} {σ : am_S} {F : am_S → Prop} (h : (am_is σ (some this) 13) ∧ ∀ σ2, σ2 = am_sfI σ 13074 this p0 → (am_is σ2 (am_fR σ2 13099 this) 12) ∧ ∀ σ6, σ6 = am_sfI σ2 12006 ((am_fR σ2 13099 this).getD 0) ((am_fI σ2 12006 ((am_fR σ2 13099 this).getD 0)) + (1 : Int32)) → F σ6) : k_Ro_meets nl Ln xs (d + 1) this p0 σ F := by
  obtain ⟨j0, j1, j2, j5, j6, j9, j10, j13, j14, j15, j18, -⟩ := P_Ro_meets nl Ln xs
  have elo : am_lo 2 [am_ov (some this), .int p0] = [some (am_ov (some this)), some (.int p0)] := by simp only [am_lo, am_in_ov, am_in_int, am_in_long, am_in_nil]; rfl
  unfold k_Ro_meets
  rw [elo]
  refine s_aload_n j0 rfl rfl ?_
  refine s_iload_n j1 rfl rfl ?_
  obtain ⟨ho1, h⟩ := h
  refine s_pfI j2 rfl ho1 (fun σ2 e3 => ?_)
  replace h := h σ2 e3
  have ek4 : am_kd σ2 = am_kd σ := by rw [e3]
  refine s_aload_n j5 rfl rfl ?_
  refine s_gfR j6 rfl (am_is_kd ek4 ho1) ?_
  refine s_dup j9 rfl (am_cov _) ?_
  obtain ⟨ho5, h⟩ := h
  refine s_gfI j10 rfl ho5 ?_
  refine s_iconst j13 rfl kc_ic_1 ?_
  refine s_g j14 rfl rfl rfl rfl rfl rfl ?_
  refine s_pfI j15 rfl ho5 (fun σ6 e7 => ?_)
  replace h := h σ6 e7
  have ek8 : am_kd σ6 = am_kd σ2 := by rw [e7]
  exact s_retV j18 rfl h
theorem P_Ro_sumOf (nl : Bool) (Ln : Nat) (xs : Nat → Int32) : am_Jl (TT nl Ln xs) 221 [(0, .ldc2_w 256, 3, [6, 18446744073709551615]), (3, .lstore 4, 5, []), (5, .iconst 0, 6, []), (6, .istore 6, 8, [])] := dk_ck (by decide +kernel)
set_option maxRecDepth 4096 in
theorem w_Ro_sumOf {nl : Bool} {Ln : Nat} {xs : Nat → Int32} {d : Nat} {this : Nat} {p0 : Int32} {p1 : Int32} {p2 : Int32} {σ : am_S} {F : Int64 → am_S → Prop} (h : c_Ro_sumOf_8 nl Ln xs (d + 1) this p0 p1 p2 (-1 : Int64) (0 : Int32) σ F) : k_Ro_sumOf nl Ln xs (d + 1) this p0 p1 p2 σ F := by
  obtain ⟨j0, j3, j5, j6, -⟩ := P_Ro_sumOf nl Ln xs
  have elo : am_lo 7 [am_ov (some this), .int p0, .int p1, .int p2] = [some (am_ov (some this)), some (.int p0), some (.int p1), some (.int p2), none, none, none] := by simp only [am_lo, am_in_ov, am_in_int, am_in_long, am_in_nil]; rfl
  unfold k_Ro_sumOf
  rw [elo]
  refine s_ldc2 j0 rfl kc_ll_m1 ?_
  refine s_lstore j3 rfl (n := 7) (L' := [some (am_ov (some this)), some (.int p0), some (.int p1), some (.int p2), some (.long (-1 : Int64)), none, none]) rfl (by decide) rfl ?_
  refine s_iconst j5 rfl kc_ic_0 ?_
  refine s_istore j6 rfl (n := 7) (L' := [some (am_ov (some this)), some (.int p0), some (.int p1), some (.int p2), some (.long (-1 : Int64)), none, some (.int (0 : Int32))]) rfl (by decide) rfl ?_
  exact h
theorem P_Ro_sumOf_8 (nl : Bool) (Ln : Nat) (xs : Nat → Int32) : am_Jl (TT nl Ln xs) 221 [(8, .iload 6, 10, []), (10, .aload_n 0, 11, []), (11, .getfield 222, 14, [9, 13, 15, 0]), (14, .if_icmp .ge 56, 17, []), (17, .aload_n 0, 18, []), (18, .getfield 46, 21, [9, 13, 16, 2]), (21, .iload 6, 23, []), (23, .iaload, 24, []), (24, .iload_n 1, 25, []), (25, .if_icmp .ne 35, 28, []), (28, .aload_n 0, 29, []), (29, .getfield 49, 32, [9, 13, 17, 2]), (32, .iload 6, 34, []), (34, .iaload, 35, []), (35, .iload_n 2, 36, []), (36, .if_icmp .ne 24, 39, []), (39, .aload_n 0, 40, []), (40, .getfield 56, 43, [9, 13, 19, 2]), (43, .iload 6, 45, []), (45, .iaload, 46, []), (46, .iload_n 3, 47, []), (47, .if_icmp .gt 13, 50, []), (50, .aload_n 0, 51, []), (51, .getfield 52, 54, [9, 13, 18, 2]), (54, .iload 6, 56, []), (56, .laload, 57, []), (57, .goto 5, 60, []), (60, .lload 4, 62, []), (62, .lstore 4, 64, []), (64, .iinc 6 1, 67, []), (67, .goto (-59), 70, []), (70, .lload 4, 72, []), (72, .lreturn, 73, [2])] := dk_ck (by decide +kernel)
set_option maxRecDepth 4096 in
theorem w_Ro_sumOf_8 {nl : Bool} {Ln : Nat} {xs : Nat → Int32} {d : Nat} {this : Nat} {x1 : Int32} {x2 : Int32} {x3 : Int32} {x4 : Int64} {x6 : Int32} {σ : am_S} {F : Int64 → am_S → Prop} (h : (am_is σ (some this) 13) ∧ (x6 < (am_fI σ 13015 this) → (am_ar σ 1000 (am_fR σ 13016 this) x6) ∧ (((am_aI σ ((am_fR σ 13016 this).getD 0) x6.toNatClampNeg) = x1) → am_ar σ 1000 (am_fR σ 13017 this) x6) ∧ (((am_aI σ ((am_fR σ 13016 this).getD 0) x6.toNatClampNeg) = x1) → ((am_aI σ ((am_fR σ 13017 this).getD 0) x6.toNatClampNeg) = x2) → am_ar σ 1000 (am_fR σ 13019 this) x6) ∧ (((am_aI σ ((am_fR σ 13016 this).getD 0) x6.toNatClampNeg) = x1) → ((am_aI σ ((am_fR σ 13017 this).getD 0) x6.toNatClampNeg) = x2) → ¬ (x3 < (am_aI σ ((am_fR σ 13019 this).getD 0) x6.toNatClampNeg)) → am_ar σ 1001 (am_fR σ 13018 this) x6) ∧ ∀ w11 : Int64, w11 = (if (am_aI σ ((am_fR σ 13016 this).getD 0) x6.toNatClampNeg) = x1 then (if (am_aI σ ((am_fR σ 13017 this).getD 0) x6.toNatClampNeg) = x2 then (if x3 < (am_aI σ ((am_fR σ 13019 this).getD 0) x6.toNatClampNeg) then x4 else (am_aL σ ((am_fR σ 13018 this).getD 0) x6.toNatClampNeg)) else x4) else x4) → c_Ro_sumOf_8 nl Ln xs (d + 1) this x1 x2 x3 w11 (x6 + (1 : Int32)) σ F) ∧ (¬ (x6 < (am_fI σ 13015 this)) → F x4 σ)) : c_Ro_sumOf_8 nl Ln xs (d + 1) this x1 x2 x3 x4 x6 σ F := by
  obtain ⟨j8, j10, j11, j14, j17, j18, j21, j23, j24, j25, j28, j29, j32, j34, j35, j36, j39, j40, j43, j45, j46, j47, j50, j51, j54, j56, j57, j60, j62, j64, j67, j70, j72, -⟩ := P_Ro_sumOf_8 nl Ln xs
  unfold c_Ro_sumOf_8
  refine s_iload j8 rfl rfl ?_
  refine s_aload_n j10 rfl rfl ?_
  obtain ⟨ho1, h⟩ := h
  refine s_gfI j11 rfl ho1 ?_
  refine s_icn j14 rfl rfl am_cc_ge (fun hc2 => ?_) (fun hc2 => ?_)
  · replace h := h.2 hc2
    refine s_lload j70 rfl rfl ?_
    exact s_retL j72 rfl h
  · replace h := h.1 hc2
    refine s_aload_n j17 rfl rfl ?_
    refine s_gfR j18 rfl ho1 ?_
    refine s_iload j21 rfl rfl ?_
    obtain ⟨ho3, h⟩ := h
    refine s_iaload j23 rfl ho3 ?_
    refine s_iload_n j24 rfl rfl ?_
    obtain ⟨ho5, h⟩ := h
    obtain ⟨ho7, h⟩ := h
    obtain ⟨ho9, h⟩ := h
    have K10 : ∀ (w11 : Int64), w11 = (if (am_aI σ ((am_fR σ 13016 this).getD 0) x6.toNatClampNeg) = x1 then (if (am_aI σ ((am_fR σ 13017 this).getD 0) x6.toNatClampNeg) = x2 then (if x3 < (am_aI σ ((am_fR σ 13019 this).getD 0) x6.toNatClampNeg) then x4 else (am_aL σ ((am_fR σ 13018 this).getD 0) x6.toNatClampNeg)) else x4) else x4) → am_C (TT nl Ln xs) (d + 1) 221 62 [some (am_ov (some this)), some (.int x1), some (.int x2), some (.int x3), some (.long x4), none, some (.int x6)] [.long w11] σ (am_qL F) := by
      intro w11 hw12
      replace h := h w11 hw12
      refine s_lstore j62 rfl (n := 7) (L' := [some (am_ov (some this)), some (.int x1), some (.int x2), some (.int x3), some (.long w11), none, some (.int x6)]) rfl (by decide) rfl ?_
      refine s_iinc (L' := [some (am_ov (some this)), some (.int x1), some (.int x2), some (.int x3), some (.long w11), none, some (.int (x6 + (1 : Int32)))]) j64 rfl rfl kc_ic_1 rfl ?_
      refine s_goto j67 rfl rfl ?_
      exact h
    refine s_icn j25 rfl rfl am_cc_ne (fun hc4 => ?_) (fun hc4 => ?_)
    · refine s_lload j60 rfl rfl ?_
      exact K10 _ (am_t2 hc4 rfl)
    · refine s_aload_n j28 rfl rfl ?_
      refine s_gfR j29 rfl ho1 ?_
      refine s_iload j32 rfl rfl ?_
      refine s_iaload j34 rfl (ho5 hc4) ?_
      refine s_iload_n j35 rfl rfl ?_
      refine s_icn j36 rfl rfl am_cc_ne (fun hc6 => ?_) (fun hc6 => ?_)
      · refine s_lload j60 rfl rfl ?_
        exact K10 _ (am_t1 hc4 (am_t2 hc6 rfl))
      · refine s_aload_n j39 rfl rfl ?_
        refine s_gfR j40 rfl ho1 ?_
        refine s_iload j43 rfl rfl ?_
        refine s_iaload j45 rfl (ho7 hc4 hc6) ?_
        refine s_iload_n j46 rfl rfl ?_
        refine s_ic j47 rfl rfl am_cc_gt (fun hc8 => ?_) (fun hc8 => ?_)
        · refine s_lload j60 rfl rfl ?_
          exact K10 _ (am_t1 hc4 (am_t1 hc6 (am_t1 hc8 rfl)))
        · refine s_aload_n j50 rfl rfl ?_
          refine s_gfR j51 rfl ho1 ?_
          refine s_iload j54 rfl rfl ?_
          refine s_laload j56 rfl (ho9 hc4 hc6 hc8) ?_
          refine s_goto j57 rfl rfl ?_
          exact K10 _ (am_t1 hc4 (am_t1 hc6 (am_t2 hc8 rfl)))
theorem P_Ro_setOf (nl : Bool) (Ln : Nat) (xs : Nat → Int32) : am_Jl (TT nl Ln xs) 222 [(0, .iconst (-1), 1, []), (1, .istore_n 3, 2, []), (2, .iconst 0, 3, []), (3, .istore 4, 5, [])] := dk_ck (by decide +kernel)
set_option maxRecDepth 4096 in
theorem w_Ro_setOf {nl : Bool} {Ln : Nat} {xs : Nat → Int32} {d : Nat} {this : Nat} {p0 : Int32} {p1 : Int32} {σ : am_S} {F : Int32 → am_S → Prop} (h : c_Ro_setOf_5 nl Ln xs (d + 1) this p0 p1 (-1 : Int32) (0 : Int32) σ F) : k_Ro_setOf nl Ln xs (d + 1) this p0 p1 σ F := by
  obtain ⟨j0, j1, j2, j3, -⟩ := P_Ro_setOf nl Ln xs
  have elo : am_lo 5 [am_ov (some this), .int p0, .int p1] = [some (am_ov (some this)), some (.int p0), some (.int p1), none, none] := by simp only [am_lo, am_in_ov, am_in_int, am_in_long, am_in_nil]; rfl
  unfold k_Ro_setOf
  rw [elo]
  refine s_iconst j0 rfl kc_ic_m1 ?_
  refine s_istore_n j1 rfl (n := 5) (L' := [some (am_ov (some this)), some (.int p0), some (.int p1), some (.int (-1 : Int32)), none]) rfl (by decide) rfl ?_
  refine s_iconst j2 rfl kc_ic_0 ?_
  refine s_istore j3 rfl (n := 5) (L' := [some (am_ov (some this)), some (.int p0), some (.int p1), some (.int (-1 : Int32)), some (.int (0 : Int32))]) rfl (by decide) rfl ?_
  exact h
theorem P_Ro_setOf_5 (nl : Bool) (Ln : Nat) (xs : Nat → Int32) : am_Jl (TT nl Ln xs) 222 [(5, .iload 4, 7, []), (7, .aload_n 0, 8, []), (8, .getfield 228, 11, [9, 13, 24, 0]), (11, .if_icmp .ge 38, 14, []), (14, .aload_n 0, 15, []), (15, .getfield 68, 18, [9, 13, 25, 2]), (18, .iload 4, 20, []), (20, .iaload, 21, []), (21, .iload_n 1, 22, []), (22, .if_icmp .ne 19, 25, []), (25, .aload_n 0, 26, []), (26, .getfield 71, 29, [9, 13, 26, 2]), (29, .iload 4, 31, []), (31, .iaload, 32, []), (32, .iload_n 2, 33, []), (33, .if_icmp .gt 8, 36, []), (36, .iload 4, 38, []), (38, .goto 4, 41, []), (41, .iload_n 3, 42, []), (42, .istore_n 3, 43, []), (43, .iinc 4 1, 46, []), (46, .goto (-41), 49, []), (49, .iload_n 3, 50, []), (50, .ireturn, 51, [1])] := dk_ck (by decide +kernel)
set_option maxRecDepth 4096 in
theorem w_Ro_setOf_5 {nl : Bool} {Ln : Nat} {xs : Nat → Int32} {d : Nat} {this : Nat} {x1 : Int32} {x2 : Int32} {x3 : Int32} {x4 : Int32} {σ : am_S} {F : Int32 → am_S → Prop} (h : (am_is σ (some this) 13) ∧ (x4 < (am_fI σ 13024 this) → (am_ar σ 1000 (am_fR σ 13025 this) x4) ∧ (((am_aI σ ((am_fR σ 13025 this).getD 0) x4.toNatClampNeg) = x1) → am_ar σ 1000 (am_fR σ 13026 this) x4) ∧ ∀ w8 : Int32, w8 = (if (am_aI σ ((am_fR σ 13025 this).getD 0) x4.toNatClampNeg) = x1 then (if x2 < (am_aI σ ((am_fR σ 13026 this).getD 0) x4.toNatClampNeg) then x3 else x4) else x3) → c_Ro_setOf_5 nl Ln xs (d + 1) this x1 x2 w8 (x4 + (1 : Int32)) σ F) ∧ (¬ (x4 < (am_fI σ 13024 this)) → F x3 σ)) : c_Ro_setOf_5 nl Ln xs (d + 1) this x1 x2 x3 x4 σ F := by
  obtain ⟨j5, j7, j8, j11, j14, j15, j18, j20, j21, j22, j25, j26, j29, j31, j32, j33, j36, j38, j41, j42, j43, j46, j49, j50, -⟩ := P_Ro_setOf_5 nl Ln xs
  unfold c_Ro_setOf_5
  refine s_iload j5 rfl rfl ?_
  refine s_aload_n j7 rfl rfl ?_
  obtain ⟨ho1, h⟩ := h
  refine s_gfI j8 rfl ho1 ?_
  refine s_icn j11 rfl rfl am_cc_ge (fun hc2 => ?_) (fun hc2 => ?_)
  · replace h := h.2 hc2
    refine s_iload_n j49 rfl rfl ?_
    exact s_retI j50 rfl h
  · replace h := h.1 hc2
    refine s_aload_n j14 rfl rfl ?_
    refine s_gfR j15 rfl ho1 ?_
    refine s_iload j18 rfl rfl ?_
    obtain ⟨ho3, h⟩ := h
    refine s_iaload j20 rfl ho3 ?_
    refine s_iload_n j21 rfl rfl ?_
    obtain ⟨ho5, h⟩ := h
    have K7 : ∀ (w8 : Int32), w8 = (if (am_aI σ ((am_fR σ 13025 this).getD 0) x4.toNatClampNeg) = x1 then (if x2 < (am_aI σ ((am_fR σ 13026 this).getD 0) x4.toNatClampNeg) then x3 else x4) else x3) → am_C (TT nl Ln xs) (d + 1) 222 42 [some (am_ov (some this)), some (.int x1), some (.int x2), some (.int x3), some (.int x4)] [.int w8] σ (am_qI F) := by
      intro w8 hw9
      replace h := h w8 hw9
      refine s_istore_n j42 rfl (n := 5) (L' := [some (am_ov (some this)), some (.int x1), some (.int x2), some (.int w8), some (.int x4)]) rfl (by decide) rfl ?_
      refine s_iinc (L' := [some (am_ov (some this)), some (.int x1), some (.int x2), some (.int w8), some (.int (x4 + (1 : Int32)))]) j43 rfl rfl kc_ic_1 rfl ?_
      refine s_goto j46 rfl rfl ?_
      exact h
    refine s_icn j22 rfl rfl am_cc_ne (fun hc4 => ?_) (fun hc4 => ?_)
    · refine s_iload_n j41 rfl rfl ?_
      exact K7 _ (am_t2 hc4 rfl)
    · refine s_aload_n j25 rfl rfl ?_
      refine s_gfR j26 rfl ho1 ?_
      refine s_iload j29 rfl rfl ?_
      refine s_iaload j31 rfl (ho5 hc4) ?_
      refine s_iload_n j32 rfl rfl ?_
      refine s_ic j33 rfl rfl am_cc_gt (fun hc6 => ?_) (fun hc6 => ?_)
      · refine s_iload_n j41 rfl rfl ?_
        exact K7 _ (am_t1 hc4 (am_t1 hc6 rfl))
      · refine s_iload j36 rfl rfl ?_
        refine s_goto j38 rfl rfl ?_
        exact K7 _ (am_t1 hc4 (am_t2 hc6 rfl))
theorem P_Ro_toSeven (nl : Bool) (Ln : Nat) (xs : Nat → Int32) : am_Jl (TT nl Ln xs) 223 [(0, .aload_n 0, 1, []), (1, .aload_n 0, 2, []), (2, .getfield 371, 5, [9, 13, 71, 0]), (5, .iconst 2, 6, []), (6, .invokevirtual 377, 9, [10, 224, 14, 6, 3]), (9, .lstore_n 3, 10, []), (10, .aload_n 0, 11, []), (11, .aload_n 0, 12, []), (12, .aload_n 0, 13, []), (13, .getfield 298, 16, [9, 13, 69, 0]), (16, .lload_n 3, 17, []), (17, .ldc2_w 256, 20, [6, 18446744073709551615]), (20, .lcmp, 21, []), (21, .ifCond .ne 9, 24, []), (24, .ldc2_w 406, 27, [6, 1000000000000]), (27, .goto 4, 30, []), (30, .lload_n 3, 31, [])] := dk_ck (by decide +kernel)
set_option maxRecDepth 4096 in
theorem w_Ro_toSeven {nl : Bool} {Ln : Nat} {xs : Nat → Int32} {d : Nat} {this : Nat} {p0 : Int64} {σ : am_S} {F : am_S → Prop} (h : (am_is σ (some this) 13) ∧ k_Ro_told nl Ln xs d this (am_fI σ 13071 this) (2 : Int32) σ (fun a3 σ2 => am_ext σ σ2 → ∀ w6 : Int64, w6 = (if a3 = (-1 : Int64) then (1000000000000 : Int64) else a3) → c_Ro_toSeven_31 nl Ln xs (d + 1) this p0 a3 (some this) (some this) (am_fI σ2 13069 this) w6 σ2 F)) : k_Ro_toSeven nl Ln xs (d + 1) this p0 σ F := by
  obtain ⟨j0, j1, j2, j5, j6, j9, j10, j11, j12, j13, j16, j17, j20, j21, j24, j27, j30, -⟩ := P_Ro_toSeven nl Ln xs
  have elo : am_lo 10 [am_ov (some this), .long p0] = [some (am_ov (some this)), some (.long p0), none, none, none, none, none, none, none, none] := by simp only [am_lo, am_in_ov, am_in_int, am_in_long, am_in_nil]; rfl
  unfold k_Ro_toSeven
  rw [elo]
  refine s_aload_n j0 rfl rfl ?_
  refine s_aload_n j1 rfl rfl ?_
  obtain ⟨ho1, h⟩ := h
  refine s_gfI j2 rfl ho1 ?_
  refine s_iconst j5 rfl kc_ic_2 ?_
  refine s_virt j6 rfl rfl rfl rfl ho1 (by decide) (in_Ro_told _ _ _) (am_r8 rfl) (am_bL h (fun a3 σ2 h hx2 => ?_))
  replace h := h hx2
  refine s_lstore_n j9 rfl (n := 10) (L' := [some (am_ov (some this)), some (.long p0), none, some (.long a3), none, none, none, none, none, none]) rfl (by decide) rfl ?_
  refine s_aload_n j10 rfl rfl ?_
  refine s_aload_n j11 rfl rfl ?_
  refine s_aload_n j12 rfl rfl ?_
  refine s_gfI j13 rfl (am_is_ext hx2 ho1) ?_
  refine s_lload_n j16 rfl rfl ?_
  refine s_ldc2 j17 rfl kc_ll_m1 ?_
  refine s_g j20 rfl rfl rfl rfl rfl rfl ?_
  have K5 : ∀ (w6 : Int64), w6 = (if a3 = (-1 : Int64) then (1000000000000 : Int64) else a3) → am_C (TT nl Ln xs) (d + 1) 223 31 [some (am_ov (some this)), some (.long p0), none, some (.long a3), none, none, none, none, none, none] [.long w6, .int (am_fI σ2 13069 this), am_ov (some this), am_ov (some this)] σ2 (am_qV F) := by
    intro w6 hw7
    replace h := h w6 hw7
    exact h
  refine s_ifn j21 rfl rfl am_cl_ne (fun hc4 => ?_) (fun hc4 => ?_)
  · refine s_lload_n j30 rfl rfl ?_
    exact K5 _ (am_t2 hc4 rfl)
  · refine s_ldc2 j24 rfl kc_ll_1000000000000 ?_
    refine s_goto j27 rfl rfl ?_
    exact K5 _ (am_t1 hc4 rfl)
theorem P_Ro_toSeven_31 (nl : Bool) (Ln : Nat) (xs : Nat → Int32) : am_Jl (TT nl Ln xs) 223 [(31, .invokevirtual 336, 34, [10, 225, 14, 14, 3]), (34, .putfield 408, 37, [9, 13, 76, 1]), (37, .aload_n 0, 38, []), (38, .aload_n 0, 39, []), (39, .getfield 408, 42, [9, 13, 76, 1]), (42, .putfield 295, 45, [9, 13, 77, 1]), (45, .aload_n 0, 46, []), (46, .iconst 0, 47, []), (47, .iconst 0, 48, []), (48, .aload_n 0, 49, []), (49, .getfield 295, 52, [9, 13, 77, 1]), (52, .invokevirtual 291, 55, [10, 228, 14, 5, 4]), (55, .aload_n 0, 56, []), (56, .invokevirtual 411, 59, [10, 229, 14, 5, 1]), (59, .aload_n 0, 60, []), (60, .getfield 266, 63, [9, 13, 74, 0]), (63, .ifCond .ne 14, 66, []), (66, .aload_n 0, 67, []), (67, .getfield 368, 70, [9, 13, 75, 3]), (70, .ifCond .ne 7, 73, []), (73, .aload_n 0, 74, []), (74, .invokevirtual 414, 77, [10, 238, 14, 6, 1])] := dk_ck (by decide +kernel)
set_option maxRecDepth 4096 in
theorem w_Ro_toSeven_31 {nl : Bool} {Ln : Nat} {xs : Nat → Int32} {d : Nat} {this : Nat} {x1 : Int64} {x3 : Int64} {y0 : Option Nat} {y1 : Option Nat} {y2 : Int32} {y3 : Int64} {σ : am_S} {F : am_S → Prop} (h : (am_is σ y1 13) ∧ k_Ro_worthOf nl Ln xs d (y1.getD 0) y2 y3 σ (fun a3 σ2 => am_ext σ σ2 → (am_is σ2 y0 13) ∧ ∀ σ5, σ5 = am_sfL σ2 13076 (y0.getD 0) a3 → (am_is σ5 (some this) 13) ∧ ∀ σ9, σ9 = am_sfL σ5 13077 this (am_fL σ5 13076 this) → k_Ro_row nl Ln xs d this (0 : Int32) (0 : Int32) (am_fL σ9 13077 this) σ9 (fun σ12 => am_ext σ9 σ12 → k_Ro_outs nl Ln xs d this σ12 (fun σ14 => am_ext σ12 σ14 → ((am_fI σ14 13074 this) = 0 → ((am_fI σ14 13075 this) = 0 → k_Ro_waiting nl Ln xs d this σ14 (fun σ18 => am_ext σ14 σ18 → c_Ro_toSeven_77 nl Ln xs (d + 1) this x1 x3 σ18 F)) ∧ (¬ ((am_fI σ14 13075 this) = 0) → c_Ro_toSeven_77 nl Ln xs (d + 1) this x1 x3 σ14 F)) ∧ (¬ ((am_fI σ14 13074 this) = 0) → c_Ro_toSeven_77 nl Ln xs (d + 1) this x1 x3 σ14 F))))) : c_Ro_toSeven_31 nl Ln xs (d + 1) this x1 x3 y0 y1 y2 y3 σ F := by
  obtain ⟨j31, j34, j37, j38, j39, j42, j45, j46, j47, j48, j49, j52, j55, j56, j59, j60, j63, j66, j67, j70, j73, j74, -⟩ := P_Ro_toSeven_31 nl Ln xs
  unfold c_Ro_toSeven_31
  obtain ⟨ho1, h⟩ := h
  refine s_virt j31 rfl rfl rfl rfl ho1 (by decide) (in_Ro_worthOf _ _ _) (am_r8 rfl) (am_bL h (fun a3 σ2 h hx2 => ?_))
  replace h := h hx2
  obtain ⟨ho4, h⟩ := h
  refine s_pfL j34 rfl ho4 (fun σ5 e6 => ?_)
  replace h := h σ5 e6
  have ek7 : am_kd σ5 = am_kd σ2 := by rw [e6]
  refine s_aload_n j37 rfl rfl ?_
  refine s_aload_n j38 rfl rfl ?_
  obtain ⟨ho8, h⟩ := h
  refine s_gfL j39 rfl ho8 ?_
  refine s_pfL j42 rfl ho8 (fun σ9 e10 => ?_)
  replace h := h σ9 e10
  have ek11 : am_kd σ9 = am_kd σ5 := by rw [e10]
  refine s_aload_n j45 rfl rfl ?_
  refine s_iconst j46 rfl kc_ic_0 ?_
  refine s_iconst j47 rfl kc_ic_0 ?_
  refine s_aload_n j48 rfl rfl ?_
  refine s_gfL j49 rfl (am_is_kd ek11 ho8) ?_
  refine s_virt j52 rfl rfl rfl rfl (am_is_kd ek11 ho8) (by decide) (in_Ro_row _ _ _ _) (am_r8 rfl) (am_bV h (fun σ12 h hx12 => ?_))
  replace h := h hx12
  refine s_aload_n j55 rfl rfl ?_
  refine s_virt j56 rfl rfl rfl rfl (am_is_ext hx12 (am_is_kd ek11 ho8)) (by decide) (in_Ro_outs _) (am_r8 rfl) (am_bV h (fun σ14 h hx14 => ?_))
  replace h := h hx14
  refine s_aload_n j59 rfl rfl ?_
  refine s_gfI j60 rfl (am_is_ext hx14 (am_is_ext hx12 (am_is_kd ek11 ho8))) ?_
  refine s_ifn j63 rfl rfl am_cc_ne (fun hc16 => ?_) (fun hc16 => ?_)
  · replace h := h.2 hc16
    exact h
  · replace h := h.1 hc16
    refine s_aload_n j66 rfl rfl ?_
    refine s_gfZ j67 rfl (am_is_ext hx14 (am_is_ext hx12 (am_is_kd ek11 ho8))) ?_
    refine s_ifn j70 rfl rfl am_cc_ne (fun hc17 => ?_) (fun hc17 => ?_)
    · replace h := h.2 hc17
      exact h
    · replace h := h.1 hc17
      refine s_aload_n j73 rfl rfl ?_
      refine s_virt j74 rfl rfl rfl rfl (am_is_ext hx14 (am_is_ext hx12 (am_is_kd ek11 ho8))) (by decide) (in_Ro_waiting _) (am_r8 rfl) (am_bV h (fun σ18 h hx18 => ?_))
      replace h := h hx18
      exact h
theorem P_Ro_toSeven_77 (nl : Bool) (Ln : Nat) (xs : Nat → Int32) : am_Jl (TT nl Ln xs) 223 [(77, .aload_n 0, 78, []), (78, .getfield 266, 81, [9, 13, 74, 0]), (81, .ifCond .ne 15, 84, []), (84, .aload_n 0, 85, []), (85, .getfield 368, 88, [9, 13, 75, 3]), (88, .ifCond .ne 8, 91, []), (91, .aload_n 0, 92, []), (92, .lload_n 1, 93, []), (93, .invokevirtual 417, 96, [10, 240, 14, 7, 2])] := dk_ck (by decide +kernel)
set_option maxRecDepth 4096 in
theorem w_Ro_toSeven_77 {nl : Bool} {Ln : Nat} {xs : Nat → Int32} {d : Nat} {this : Nat} {x1 : Int64} {x3 : Int64} {σ : am_S} {F : am_S → Prop} (h : (am_is σ (some this) 13) ∧ ((am_fI σ 13074 this) = 0 → ((am_fI σ 13075 this) = 0 → k_Ro_average nl Ln xs d this x1 σ (fun σ4 => am_ext σ σ4 → c_Ro_toSeven_96 nl Ln xs (d + 1) this x1 x3 σ4 F)) ∧ (¬ ((am_fI σ 13075 this) = 0) → c_Ro_toSeven_96 nl Ln xs (d + 1) this x1 x3 σ F)) ∧ (¬ ((am_fI σ 13074 this) = 0) → c_Ro_toSeven_96 nl Ln xs (d + 1) this x1 x3 σ F)) : c_Ro_toSeven_77 nl Ln xs (d + 1) this x1 x3 σ F := by
  obtain ⟨j77, j78, j81, j84, j85, j88, j91, j92, j93, -⟩ := P_Ro_toSeven_77 nl Ln xs
  unfold c_Ro_toSeven_77
  refine s_aload_n j77 rfl rfl ?_
  obtain ⟨ho1, h⟩ := h
  refine s_gfI j78 rfl ho1 ?_
  refine s_ifn j81 rfl rfl am_cc_ne (fun hc2 => ?_) (fun hc2 => ?_)
  · replace h := h.2 hc2
    exact h
  · replace h := h.1 hc2
    refine s_aload_n j84 rfl rfl ?_
    refine s_gfZ j85 rfl ho1 ?_
    refine s_ifn j88 rfl rfl am_cc_ne (fun hc3 => ?_) (fun hc3 => ?_)
    · replace h := h.2 hc3
      exact h
    · replace h := h.1 hc3
      refine s_aload_n j91 rfl rfl ?_
      refine s_lload_n j92 rfl rfl ?_
      refine s_virt j93 rfl rfl rfl rfl ho1 (by decide) (in_Ro_average _ _) (am_r8 rfl) (am_bV h (fun σ4 h hx4 => ?_))
      replace h := h hx4
      exact h
theorem P_Ro_toSeven_96 (nl : Bool) (Ln : Nat) (xs : Nat → Int32) : am_Jl (TT nl Ln xs) 223 [(96, .aload_n 0, 97, []), (97, .getfield 266, 100, [9, 13, 74, 0]), (100, .ifCond .ne 10, 103, []), (103, .aload_n 0, 104, []), (104, .getfield 368, 107, [9, 13, 75, 3]), (107, .ifCond .eq 4, 110, []), (110, .return_, 111, [0]), (111, .aload_n 0, 112, []), (112, .invokevirtual 420, 115, [10, 244, 14, 2, 1]), (115, .istore 5, 117, []), (117, .aload_n 0, 118, []), (118, .iconst 4, 119, []), (119, .iload 5, 121, []), (121, .aload_n 0, 122, []), (122, .getfield 295, 125, [9, 13, 77, 1]), (125, .iload 5, 127, []), (127, .i2l, 128, []), (128, .lmul, 129, []), (129, .ldc2_w 340, 132, [6, 100]), (132, .ldiv, 133, []), (133, .invokevirtual 388, 136, [10, 243, 14, 5, 4]), (136, .aload_n 0, 137, []), (137, .aload_n 0, 138, []), (138, .getfield 371, 141, [9, 13, 71, 0]), (141, .iconst 5, 142, []), (142, .invokevirtual 377, 145, [10, 224, 14, 6, 3]), (145, .lstore 6, 147, []), (147, .aload_n 0, 148, []), (148, .iconst 5, 149, []), (149, .iconst 0, 150, []), (150, .lload 6, 152, []), (152, .ldc2_w 256, 155, [6, 18446744073709551615]), (155, .lcmp, 156, []), (156, .ifCond .ne 7, 159, []), (159, .lconst 0, 160, []), (160, .goto 22, 163, []), (163, .lload 6, 165, []), (165, .aload_n 0, 166, []), (166, .getfield 295, 169, [9, 13, 77, 1]), (169, .lcmp, 170, []), (170, .ifCond .ge 8, 173, []), (173, .lload 6, 175, []), (175, .goto 7, 178, []), (178, .aload_n 0, 179, []), (179, .getfield 295, 182, [9, 13, 77, 1])] := dk_ck (by decide +kernel)
set_option maxRecDepth 4096 in
theorem w_Ro_toSeven_96 {nl : Bool} {Ln : Nat} {xs : Nat → Int32} {d : Nat} {this : Nat} {x1 : Int64} {x3 : Int64} {σ : am_S} {F : am_S → Prop} (h : (am_is σ (some this) 13) ∧ ((am_fI σ 13074 this) = 0 → ((am_fI σ 13075 this) = 0 → k_Ro_self nl Ln xs d this σ (fun a5 σ4 => am_ext σ σ4 → k_Ro_less nl Ln xs d this (4 : Int32) a5 (((am_fL σ4 13077 this) * a5.toInt64) / (100 : Int64)) σ4 (fun σ6 => am_ext σ4 σ6 → k_Ro_told nl Ln xs d this (am_fI σ6 13071 this) (5 : Int32) σ6 (fun a9 σ8 => am_ext σ6 σ8 → ∀ w13 : Int64, w13 = (if a9 = (-1 : Int64) then (0 : Int64) else (if a9 < (am_fL σ8 13077 this) then a9 else (am_fL σ8 13077 this))) → c_Ro_toSeven_182 nl Ln xs (d + 1) this x1 x3 a5 a9 (some this) (5 : Int32) (0 : Int32) w13 σ8 F)))) ∧ (¬ ((am_fI σ 13075 this) = 0) → F σ)) ∧ (¬ ((am_fI σ 13074 this) = 0) → F σ)) : c_Ro_toSeven_96 nl Ln xs (d + 1) this x1 x3 σ F := by
  obtain ⟨j96, j97, j100, j103, j104, j107, j110, j111, j112, j115, j117, j118, j119, j121, j122, j125, j127, j128, j129, j132, j133, j136, j137, j138, j141, j142, j145, j147, j148, j149, j150, j152, j155, j156, j159, j160, j163, j165, j166, j169, j170, j173, j175, j178, j179, -⟩ := P_Ro_toSeven_96 nl Ln xs
  unfold c_Ro_toSeven_96
  refine s_aload_n j96 rfl rfl ?_
  obtain ⟨ho1, h⟩ := h
  refine s_gfI j97 rfl ho1 ?_
  refine s_ifn j100 rfl rfl am_cc_ne (fun hc2 => ?_) (fun hc2 => ?_)
  · replace h := h.2 hc2
    exact s_retV j110 rfl h
  · replace h := h.1 hc2
    refine s_aload_n j103 rfl rfl ?_
    refine s_gfZ j104 rfl ho1 ?_
    refine s_if j107 rfl rfl am_cc_eq (fun hc3 => ?_) (fun hc3 => ?_)
    · replace h := h.1 hc3
      refine s_aload_n j111 rfl rfl ?_
      refine s_virt j112 rfl rfl rfl rfl ho1 (by decide) (in_Ro_self _) (am_r8 rfl) (am_bI h (fun a5 σ4 h hx4 => ?_))
      replace h := h hx4
      refine s_istore j115 rfl (n := 10) (L' := [some (am_ov (some this)), some (.long x1), none, some (.long x3), none, some (.int a5), none, none, none, none]) rfl (by decide) rfl ?_
      refine s_aload_n j117 rfl rfl ?_
      refine s_iconst j118 rfl kc_ic_4 ?_
      refine s_iload j119 rfl rfl ?_
      refine s_aload_n j121 rfl rfl ?_
      refine s_gfL j122 rfl (am_is_ext hx4 ho1) ?_
      refine s_iload j125 rfl rfl ?_
      refine s_g j127 rfl rfl rfl rfl rfl rfl ?_
      refine s_g j128 rfl rfl rfl rfl rfl rfl ?_
      refine s_ldc2 j129 rfl kc_ll_100 ?_
      refine s_ldiv j132 rfl (by decide) ?_
      refine s_virt j133 rfl rfl rfl rfl (am_is_ext hx4 ho1) (by decide) (in_Ro_less _ _ _ _) (am_r8 rfl) (am_bV h (fun σ6 h hx6 => ?_))
      replace h := h hx6
      refine s_aload_n j136 rfl rfl ?_
      refine s_aload_n j137 rfl rfl ?_
      refine s_gfI j138 rfl (am_is_ext hx6 (am_is_ext hx4 ho1)) ?_
      refine s_iconst j141 rfl kc_ic_5 ?_
      refine s_virt j142 rfl rfl rfl rfl (am_is_ext hx6 (am_is_ext hx4 ho1)) (by decide) (in_Ro_told _ _ _) (am_r8 rfl) (am_bL h (fun a9 σ8 h hx8 => ?_))
      replace h := h hx8
      refine s_lstore j145 rfl (n := 10) (L' := [some (am_ov (some this)), some (.long x1), none, some (.long x3), none, some (.int a5), some (.long a9), none, none, none]) rfl (by decide) rfl ?_
      refine s_aload_n j147 rfl rfl ?_
      refine s_iconst j148 rfl kc_ic_5 ?_
      refine s_iconst j149 rfl kc_ic_0 ?_
      refine s_lload j150 rfl rfl ?_
      refine s_ldc2 j152 rfl kc_ll_m1 ?_
      refine s_g j155 rfl rfl rfl rfl rfl rfl ?_
      have K12 : ∀ (w13 : Int64), w13 = (if a9 = (-1 : Int64) then (0 : Int64) else (if a9 < (am_fL σ8 13077 this) then a9 else (am_fL σ8 13077 this))) → am_C (TT nl Ln xs) (d + 1) 223 182 [some (am_ov (some this)), some (.long x1), none, some (.long x3), none, some (.int a5), some (.long a9), none, none, none] [.long w13, .int (0 : Int32), .int (5 : Int32), am_ov (some this)] σ8 (am_qV F) := by
        intro w13 hw14
        replace h := h w13 hw14
        exact h
      refine s_ifn j156 rfl rfl am_cl_ne (fun hc10 => ?_) (fun hc10 => ?_)
      · refine s_lload j163 rfl rfl ?_
        refine s_aload_n j165 rfl rfl ?_
        refine s_gfL j166 rfl (am_is_ext hx8 (am_is_ext hx6 (am_is_ext hx4 ho1))) ?_
        refine s_g j169 rfl rfl rfl rfl rfl rfl ?_
        refine s_ifn j170 rfl rfl am_cl_ge (fun hc11 => ?_) (fun hc11 => ?_)
        · refine s_aload_n j178 rfl rfl ?_
          refine s_gfL j179 rfl (am_is_ext hx8 (am_is_ext hx6 (am_is_ext hx4 ho1))) ?_
          exact K12 _ (am_t2 hc10 (am_t2 hc11 rfl))
        · refine s_lload j173 rfl rfl ?_
          refine s_goto j175 rfl rfl ?_
          exact K12 _ (am_t2 hc10 (am_t1 hc11 rfl))
      · refine s_lconst j159 rfl rfl ?_
        refine s_goto j160 rfl rfl ?_
        exact K12 _ (am_t1 hc10 rfl)
    · replace h := h.2 hc3
      exact s_retV j110 rfl h
theorem P_Ro_toSeven_182 (nl : Bool) (Ln : Nat) (xs : Nat → Int32) : am_Jl (TT nl Ln xs) 223 [(182, .invokevirtual 388, 185, [10, 243, 14, 5, 4]), (185, .aload_n 0, 186, []), (186, .aload_n 0, 187, []), (187, .getfield 371, 190, [9, 13, 71, 0]), (190, .iconst 3, 191, []), (191, .invokevirtual 377, 194, [10, 224, 14, 6, 3]), (194, .lstore 8, 196, []), (196, .aload_n 0, 197, []), (197, .bipush 6, 199, []), (199, .iconst 0, 200, []), (200, .lload 8, 202, []), (202, .ldc2_w 256, 205, [6, 18446744073709551615]), (205, .lcmp, 206, []), (206, .ifCond .eq 23, 209, []), (209, .aload_n 0, 210, []), (210, .getfield 295, 213, [9, 13, 77, 1]), (213, .lload 8, 215, []), (215, .lcmp, 216, []), (216, .ifCond .le 13, 219, []), (219, .aload_n 0, 220, []), (220, .getfield 295, 223, [9, 13, 77, 1]), (223, .lload 8, 225, []), (225, .lsub, 226, []), (226, .goto 4, 229, []), (229, .lconst 0, 230, [])] := dk_ck (by decide +kernel)
set_option maxRecDepth 4096 in
theorem w_Ro_toSeven_182 {nl : Bool} {Ln : Nat} {xs : Nat → Int32} {d : Nat} {this : Nat} {x1 : Int64} {x3 : Int64} {x5 : Int32} {x6 : Int64} {y0 : Option Nat} {y1 : Int32} {y2 : Int32} {y3 : Int64} {σ : am_S} {F : am_S → Prop} (h : (am_is σ y0 13) ∧ k_Ro_less nl Ln xs d (y0.getD 0) y1 y2 y3 σ (fun σ2 => am_ext σ σ2 → (am_is σ2 (some this) 13) ∧ k_Ro_told nl Ln xs d this (am_fI σ2 13071 this) (3 : Int32) σ2 (fun a6 σ5 => am_ext σ2 σ5 → ∀ w10 : Int64, w10 = (if a6 = (-1 : Int64) then (0 : Int64) else (if a6 < (am_fL σ5 13077 this) then ((am_fL σ5 13077 this) - a6) else (0 : Int64))) → c_Ro_toSeven_230 nl Ln xs (d + 1) this x1 x3 x5 x6 a6 (some this) (6 : Int32) (0 : Int32) w10 σ5 F))) : c_Ro_toSeven_182 nl Ln xs (d + 1) this x1 x3 x5 x6 y0 y1 y2 y3 σ F := by
  obtain ⟨j182, j185, j186, j187, j190, j191, j194, j196, j197, j199, j200, j202, j205, j206, j209, j210, j213, j215, j216, j219, j220, j223, j225, j226, j229, -⟩ := P_Ro_toSeven_182 nl Ln xs
  unfold c_Ro_toSeven_182
  obtain ⟨ho1, h⟩ := h
  refine s_virt j182 rfl rfl rfl rfl ho1 (by decide) (in_Ro_less _ _ _ _) (am_r8 rfl) (am_bV h (fun σ2 h hx2 => ?_))
  replace h := h hx2
  refine s_aload_n j185 rfl rfl ?_
  refine s_aload_n j186 rfl rfl ?_
  obtain ⟨ho4, h⟩ := h
  refine s_gfI j187 rfl ho4 ?_
  refine s_iconst j190 rfl kc_ic_3 ?_
  refine s_virt j191 rfl rfl rfl rfl ho4 (by decide) (in_Ro_told _ _ _) (am_r8 rfl) (am_bL h (fun a6 σ5 h hx5 => ?_))
  replace h := h hx5
  refine s_lstore j194 rfl (n := 10) (L' := [some (am_ov (some this)), some (.long x1), none, some (.long x3), none, some (.int x5), some (.long x6), none, some (.long a6), none]) rfl (by decide) rfl ?_
  refine s_aload_n j196 rfl rfl ?_
  refine s_bipush j197 rfl kc_bi_6 ?_
  refine s_iconst j199 rfl kc_ic_0 ?_
  refine s_lload j200 rfl rfl ?_
  refine s_ldc2 j202 rfl kc_ll_m1 ?_
  refine s_g j205 rfl rfl rfl rfl rfl rfl ?_
  have K9 : ∀ (w10 : Int64), w10 = (if a6 = (-1 : Int64) then (0 : Int64) else (if a6 < (am_fL σ5 13077 this) then ((am_fL σ5 13077 this) - a6) else (0 : Int64))) → am_C (TT nl Ln xs) (d + 1) 223 230 [some (am_ov (some this)), some (.long x1), none, some (.long x3), none, some (.int x5), some (.long x6), none, some (.long a6), none] [.long w10, .int (0 : Int32), .int (6 : Int32), am_ov (some this)] σ5 (am_qV F) := by
    intro w10 hw11
    replace h := h w10 hw11
    exact h
  refine s_if j206 rfl rfl am_cl_eq (fun hc7 => ?_) (fun hc7 => ?_)
  · refine s_lconst j229 rfl rfl ?_
    exact K9 _ (am_t1 hc7 rfl)
  · refine s_aload_n j209 rfl rfl ?_
    refine s_gfL j210 rfl (am_is_ext hx5 ho4) ?_
    refine s_lload j213 rfl rfl ?_
    refine s_g j215 rfl rfl rfl rfl rfl rfl ?_
    refine s_ifn j216 rfl rfl am_cl_le (fun hc8 => ?_) (fun hc8 => ?_)
    · refine s_lconst j229 rfl rfl ?_
      exact K9 _ (am_t2 hc7 (am_t2 hc8 rfl))
    · refine s_aload_n j219 rfl rfl ?_
      refine s_gfL j220 rfl (am_is_ext hx5 ho4) ?_
      refine s_lload j223 rfl rfl ?_
      refine s_g j225 rfl rfl rfl rfl rfl rfl ?_
      refine s_goto j226 rfl rfl ?_
      exact K9 _ (am_t2 hc7 (am_t1 hc8 rfl))
theorem P_Ro_toSeven_230 (nl : Bool) (Ln : Nat) (xs : Nat → Int32) : am_Jl (TT nl Ln xs) 223 [(230, .invokevirtual 388, 233, [10, 243, 14, 5, 4]), (233, .aload_n 0, 234, []), (234, .invokevirtual 423, 237, [10, 245, 14, 6, 1]), (237, .return_, 238, [0])] := dk_ck (by decide +kernel)
set_option maxRecDepth 4096 in
theorem w_Ro_toSeven_230 {nl : Bool} {Ln : Nat} {xs : Nat → Int32} {d : Nat} {this : Nat} {x1 : Int64} {x3 : Int64} {x5 : Int32} {x6 : Int64} {x8 : Int64} {y0 : Option Nat} {y1 : Int32} {y2 : Int32} {y3 : Int64} {σ : am_S} {F : am_S → Prop} (h : (am_is σ y0 13) ∧ k_Ro_less nl Ln xs d (y0.getD 0) y1 y2 y3 σ (fun σ2 => am_ext σ σ2 → (am_is σ2 (some this) 13) ∧ k_Ro_shared nl Ln xs d this σ2 (fun σ5 => am_ext σ2 σ5 → F σ5))) : c_Ro_toSeven_230 nl Ln xs (d + 1) this x1 x3 x5 x6 x8 y0 y1 y2 y3 σ F := by
  obtain ⟨j230, j233, j234, j237, -⟩ := P_Ro_toSeven_230 nl Ln xs
  unfold c_Ro_toSeven_230
  obtain ⟨ho1, h⟩ := h
  refine s_virt j230 rfl rfl rfl rfl ho1 (by decide) (in_Ro_less _ _ _ _) (am_r8 rfl) (am_bV h (fun σ2 h hx2 => ?_))
  replace h := h hx2
  refine s_aload_n j233 rfl rfl ?_
  obtain ⟨ho4, h⟩ := h
  refine s_virt j234 rfl rfl rfl rfl ho4 (by decide) (in_Ro_shared _) (am_r8 rfl) (am_bV h (fun σ5 h hx5 => ?_))
  replace h := h hx5
  exact s_retV j237 rfl h
theorem P_Ro_told (nl : Bool) (Ln : Nat) (xs : Nat → Int32) : am_Jl (TT nl Ln xs) 224 [(0, .ldc2_w 256, 3, [6, 18446744073709551615]), (3, .lstore_n 3, 4, []), (4, .iload_n 1, 5, []), (5, .iconst (-1), 6, []), (6, .if_icmp .ne 7, 9, []), (9, .iconst 0, 10, []), (10, .goto 9, 13, []), (13, .aload_n 0, 14, []), (14, .getfield 74, 17, [9, 13, 27, 2]), (17, .iload_n 1, 18, []), (18, .iaload, 19, []), (19, .istore 5, 21, [])] := dk_ck (by decide +kernel)
set_option maxRecDepth 4096 in
theorem w_Ro_told {nl : Bool} {Ln : Nat} {xs : Nat → Int32} {d : Nat} {this : Nat} {p0 : Int32} {p1 : Int32} {σ : am_S} {F : Int64 → am_S → Prop} (h : (¬ (p0 = (-1 : Int32)) → am_is σ (some this) 13) ∧ (¬ (p0 = (-1 : Int32)) → am_ar σ 1000 (am_fR σ 13027 this) p0) ∧ ∀ w5 : Int32, w5 = (if p0 = (-1 : Int32) then (0 : Int32) else (am_aI σ ((am_fR σ 13027 this).getD 0) p0.toNatClampNeg)) → c_Ro_told_21 nl Ln xs (d + 1) this p0 p1 (-1 : Int64) w5 σ F) : k_Ro_told nl Ln xs (d + 1) this p0 p1 σ F := by
  obtain ⟨j0, j3, j4, j5, j6, j9, j10, j13, j14, j17, j18, j19, -⟩ := P_Ro_told nl Ln xs
  have elo : am_lo 6 [am_ov (some this), .int p0, .int p1] = [some (am_ov (some this)), some (.int p0), some (.int p1), none, none, none] := by simp only [am_lo, am_in_ov, am_in_int, am_in_long, am_in_nil]; rfl
  unfold k_Ro_told
  rw [elo]
  refine s_ldc2 j0 rfl kc_ll_m1 ?_
  refine s_lstore_n j3 rfl (n := 6) (L' := [some (am_ov (some this)), some (.int p0), some (.int p1), some (.long (-1 : Int64)), none, none]) rfl (by decide) rfl ?_
  refine s_iload_n j4 rfl rfl ?_
  refine s_iconst j5 rfl kc_ic_m1 ?_
  obtain ⟨ho2, h⟩ := h
  obtain ⟨ho3, h⟩ := h
  have K4 : ∀ (w5 : Int32), w5 = (if p0 = (-1 : Int32) then (0 : Int32) else (am_aI σ ((am_fR σ 13027 this).getD 0) p0.toNatClampNeg)) → am_C (TT nl Ln xs) (d + 1) 224 19 [some (am_ov (some this)), some (.int p0), some (.int p1), some (.long (-1 : Int64)), none, none] [.int w5] σ (am_qL F) := by
    intro w5 hw6
    replace h := h w5 hw6
    refine s_istore j19 rfl (n := 6) (L' := [some (am_ov (some this)), some (.int p0), some (.int p1), some (.long (-1 : Int64)), none, some (.int w5)]) rfl (by decide) rfl ?_
    exact h
  refine s_icn j6 rfl rfl am_cc_ne (fun hc1 => ?_) (fun hc1 => ?_)
  · refine s_aload_n j13 rfl rfl ?_
    refine s_gfR j14 rfl (ho2 hc1) ?_
    refine s_iload_n j17 rfl rfl ?_
    refine s_iaload j18 rfl (ho3 hc1) ?_
    exact K4 _ (am_t2 hc1 rfl)
  · refine s_iconst j9 rfl kc_ic_0 ?_
    refine s_goto j10 rfl rfl ?_
    exact K4 _ (am_t1 hc1 rfl)
theorem P_Ro_told_21 (nl : Bool) (Ln : Nat) (xs : Nat → Int32) : am_Jl (TT nl Ln xs) 224 [(21, .iload_n 1, 22, []), (22, .iconst (-1), 23, []), (23, .if_icmp .eq 46, 26, []), (26, .iload 5, 28, []), (28, .aload_n 0, 29, []), (29, .getfield 74, 32, [9, 13, 27, 2]), (32, .iload_n 1, 33, []), (33, .iconst 1, 34, []), (34, .iadd, 35, []), (35, .iaload, 36, []), (36, .if_icmp .ge 33, 39, []), (39, .aload_n 0, 40, []), (40, .getfield 77, 43, [9, 13, 28, 2]), (43, .iload 5, 45, []), (45, .iaload, 46, []), (46, .iload_n 2, 47, []), (47, .if_icmp .ne 14, 50, []), (50, .aload_n 0, 51, []), (51, .getfield 80, 54, [9, 13, 29, 2]), (54, .iload 5, 56, []), (56, .iaload, 57, []), (57, .i2l, 58, []), (58, .goto 4, 61, []), (61, .lload_n 3, 62, []), (62, .lstore_n 3, 63, []), (63, .iinc 5 1, 66, []), (66, .goto (-45), 69, []), (69, .lload_n 3, 70, []), (70, .lreturn, 71, [2])] := dk_ck (by decide +kernel)
set_option maxRecDepth 4096 in
theorem w_Ro_told_21 {nl : Bool} {Ln : Nat} {xs : Nat → Int32} {d : Nat} {this : Nat} {x1 : Int32} {x2 : Int32} {x3 : Int64} {x5 : Int32} {σ : am_S} {F : Int64 → am_S → Prop} (h : (x1 = (-1 : Int32) → F x3 σ) ∧ (¬ (x1 = (-1 : Int32)) → (am_is σ (some this) 13) ∧ (am_ar σ 1000 (am_fR σ 13027 this) (x1 + (1 : Int32))) ∧ (x5 < (am_aI σ ((am_fR σ 13027 this).getD 0) (x1 + (1 : Int32)).toNatClampNeg) → (am_ar σ 1000 (am_fR σ 13028 this) x5) ∧ (((am_aI σ ((am_fR σ 13028 this).getD 0) x5.toNatClampNeg) = x2) → am_ar σ 1000 (am_fR σ 13029 this) x5) ∧ ∀ w9 : Int64, w9 = (if (am_aI σ ((am_fR σ 13028 this).getD 0) x5.toNatClampNeg) = x2 then (am_aI σ ((am_fR σ 13029 this).getD 0) x5.toNatClampNeg).toInt64 else x3) → c_Ro_told_21 nl Ln xs (d + 1) this x1 x2 w9 (x5 + (1 : Int32)) σ F) ∧ (¬ (x5 < (am_aI σ ((am_fR σ 13027 this).getD 0) (x1 + (1 : Int32)).toNatClampNeg)) → F x3 σ))) : c_Ro_told_21 nl Ln xs (d + 1) this x1 x2 x3 x5 σ F := by
  obtain ⟨j21, j22, j23, j26, j28, j29, j32, j33, j34, j35, j36, j39, j40, j43, j45, j46, j47, j50, j51, j54, j56, j57, j58, j61, j62, j63, j66, j69, j70, -⟩ := P_Ro_told_21 nl Ln xs
  unfold c_Ro_told_21
  refine s_iload_n j21 rfl rfl ?_
  refine s_iconst j22 rfl kc_ic_m1 ?_
  refine s_ic j23 rfl rfl am_cc_eq (fun hc1 => ?_) (fun hc1 => ?_)
  · replace h := h.1 hc1
    refine s_lload_n j69 rfl rfl ?_
    exact s_retL j70 rfl h
  · replace h := h.2 hc1
    refine s_iload j26 rfl rfl ?_
    refine s_aload_n j28 rfl rfl ?_
    obtain ⟨ho2, h⟩ := h
    refine s_gfR j29 rfl ho2 ?_
    refine s_iload_n j32 rfl rfl ?_
    refine s_iconst j33 rfl kc_ic_1 ?_
    refine s_g j34 rfl rfl rfl rfl rfl rfl ?_
    obtain ⟨ho3, h⟩ := h
    refine s_iaload j35 rfl ho3 ?_
    refine s_icn j36 rfl rfl am_cc_ge (fun hc4 => ?_) (fun hc4 => ?_)
    · replace h := h.2 hc4
      refine s_lload_n j69 rfl rfl ?_
      exact s_retL j70 rfl h
    · replace h := h.1 hc4
      refine s_aload_n j39 rfl rfl ?_
      refine s_gfR j40 rfl ho2 ?_
      refine s_iload j43 rfl rfl ?_
      obtain ⟨ho5, h⟩ := h
      refine s_iaload j45 rfl ho5 ?_
      refine s_iload_n j46 rfl rfl ?_
      obtain ⟨ho7, h⟩ := h
      have K8 : ∀ (w9 : Int64), w9 = (if (am_aI σ ((am_fR σ 13028 this).getD 0) x5.toNatClampNeg) = x2 then (am_aI σ ((am_fR σ 13029 this).getD 0) x5.toNatClampNeg).toInt64 else x3) → am_C (TT nl Ln xs) (d + 1) 224 62 [some (am_ov (some this)), some (.int x1), some (.int x2), some (.long x3), none, some (.int x5)] [.long w9] σ (am_qL F) := by
        intro w9 hw10
        replace h := h w9 hw10
        refine s_lstore_n j62 rfl (n := 6) (L' := [some (am_ov (some this)), some (.int x1), some (.int x2), some (.long w9), none, some (.int x5)]) rfl (by decide) rfl ?_
        refine s_iinc (L' := [some (am_ov (some this)), some (.int x1), some (.int x2), some (.long w9), none, some (.int (x5 + (1 : Int32)))]) j63 rfl rfl kc_ic_1 rfl ?_
        refine s_goto j66 rfl rfl ?_
        exact h
      refine s_icn j47 rfl rfl am_cc_ne (fun hc6 => ?_) (fun hc6 => ?_)
      · refine s_lload_n j61 rfl rfl ?_
        exact K8 _ (am_t2 hc6 rfl)
      · refine s_aload_n j50 rfl rfl ?_
        refine s_gfR j51 rfl ho2 ?_
        refine s_iload j54 rfl rfl ?_
        refine s_iaload j56 rfl (ho7 hc6) ?_
        refine s_g j57 rfl rfl rfl rfl rfl rfl ?_
        refine s_goto j58 rfl rfl ?_
        exact K8 _ (am_t1 hc6 rfl)
theorem P_Ro_worthOf (nl : Bool) (Ln : Nat) (xs : Nat → Int32) : am_Jl (TT nl Ln xs) 225 [(0, .aload_n 0, 1, []), (1, .getfield 95, 4, [9, 13, 36, 2]), (4, .iload_n 1, 5, []), (5, .iaload, 6, []), (6, .istore 4, 8, []), (8, .iload 4, 10, []), (10, .iconst 5, 11, []), (11, .if_icmp .ne 37, 14, []), (14, .aload_n 0, 15, []), (15, .getfield 3, 18, [9, 13, 99, 2]), (18, .sipush 144, 21, []), (21, .invokevirtual 322, 24, [10, 226, 13, 2, 2]), (24, .aload_n 0, 25, []), (25, .aload_n 0, 26, []), (26, .getfield 101, 29, [9, 13, 38, 2]), (29, .iload_n 1, 30, []), (30, .iaload, 31, []), (31, .lload_n 2, 32, []), (32, .invokevirtual 336, 35, [10, 225, 14, 14, 3]), (35, .aload_n 0, 36, []), (36, .getfield 104, 39, [9, 13, 39, 2]), (39, .iload_n 1, 40, []), (40, .iaload, 41, []), (41, .i2l, 42, []), (42, .lmul, 43, []), (43, .ldc2_w 340, 46, [6, 100]), (46, .ldiv, 47, []), (47, .lreturn, 48, [2]), (48, .iload 4, 50, []), (50, .iconst 2, 51, []), (51, .if_icmp .ne 12, 54, []), (54, .aload_n 0, 55, []), (55, .getfield 3, 58, [9, 13, 99, 2]), (58, .bipush 114, 60, []), (60, .invokevirtual 322, 63, [10, 226, 13, 2, 2])] := dk_ck (by decide +kernel)
set_option maxRecDepth 4096 in
theorem w_Ro_worthOf {nl : Bool} {Ln : Nat} {xs : Nat → Int32} {d : Nat} {this : Nat} {p0 : Int32} {p1 : Int64} {σ : am_S} {F : Int64 → am_S → Prop} (h : (am_is σ (some this) 13) ∧ (am_ar σ 1000 (am_fR σ 13036 this) p0) ∧ ∀ v3 : Int32, v3 = (am_aI σ ((am_fR σ 13036 this).getD 0) p0.toNatClampNeg) → (v3 = (5 : Int32) → (am_is σ (am_fR σ 13099 this) 12) ∧ k_Rm_traced nl Ln xs d ((am_fR σ 13099 this).getD 0) (144 : Int32) σ (fun σ7 => am_ext σ σ7 → (am_ar σ7 1000 (am_fR σ7 13038 this) p0) ∧ k_Ro_worthOf nl Ln xs d this (am_aI σ7 ((am_fR σ7 13038 this).getD 0) p0.toNatClampNeg) p1 σ7 (fun a11 σ10 => am_ext σ7 σ10 → (am_ar σ10 1000 (am_fR σ10 13039 this) p0) ∧ F ((a11 * (am_aI σ10 ((am_fR σ10 13039 this).getD 0) p0.toNatClampNeg).toInt64) / (100 : Int64)) σ10))) ∧ (¬ (v3 = (5 : Int32)) → (v3 = (2 : Int32) → (am_is σ (am_fR σ 13099 this) 12) ∧ k_Rm_traced nl Ln xs d ((am_fR σ 13099 this).getD 0) (114 : Int32) σ (fun σ15 => am_ext σ σ15 → c_Ro_worthOf_63 nl Ln xs (d + 1) this p0 p1 v3 σ15 F)) ∧ (¬ (v3 = (2 : Int32)) → c_Ro_worthOf_63 nl Ln xs (d + 1) this p0 p1 v3 σ F))) : k_Ro_worthOf nl Ln xs (d + 1) this p0 p1 σ F := by
  obtain ⟨j0, j1, j4, j5, j6, j8, j10, j11, j14, j15, j18, j21, j24, j25, j26, j29, j30, j31, j32, j35, j36, j39, j40, j41, j42, j43, j46, j47, j48, j50, j51, j54, j55, j58, j60, -⟩ := P_Ro_worthOf nl Ln xs
  have elo : am_lo 14 [am_ov (some this), .int p0, .long p1] = [some (am_ov (some this)), some (.int p0), some (.long p1), none, none, none, none, none, none, none, none, none, none, none] := by simp only [am_lo, am_in_ov, am_in_int, am_in_long, am_in_nil]; rfl
  unfold k_Ro_worthOf
  rw [elo]
  refine s_aload_n j0 rfl rfl ?_
  obtain ⟨ho1, h⟩ := h
  refine s_gfR j1 rfl ho1 ?_
  refine s_iload_n j4 rfl rfl ?_
  obtain ⟨ho2, h⟩ := h
  refine s_iaload j5 rfl ho2 ?_
  refine s_istoreV j6 rfl (n := 14) (L' := fun w => [some (am_ov (some this)), some (.int p0), some (.long p1), none, some (.int w), none, none, none, none, none, none, none, none, none]) rfl (by decide) (fun _ => rfl) (fun v3 hv4 => ?_)
  replace h := h v3 hv4
  refine s_iload j8 rfl rfl ?_
  refine s_iconst j10 rfl kc_ic_5 ?_
  refine s_icn j11 rfl rfl am_cc_ne (fun hc5 => ?_) (fun hc5 => ?_)
  · replace h := h.2 hc5
    refine s_iload j48 rfl rfl ?_
    refine s_iconst j50 rfl kc_ic_2 ?_
    refine s_icn j51 rfl rfl am_cc_ne (fun hc13 => ?_) (fun hc13 => ?_)
    · replace h := h.2 hc13
      exact h
    · replace h := h.1 hc13
      refine s_aload_n j54 rfl rfl ?_
      refine s_gfR j55 rfl ho1 ?_
      refine s_bipush j58 rfl kc_bi_114 ?_
      obtain ⟨ho14, h⟩ := h
      refine s_virt j60 rfl rfl rfl rfl ho14 (by decide) (in_Rm_traced _ _) (am_r8 rfl) (am_bV h (fun σ15 h hx15 => ?_))
      replace h := h hx15
      exact h
  · replace h := h.1 hc5
    refine s_aload_n j14 rfl rfl ?_
    refine s_gfR j15 rfl ho1 ?_
    refine s_sipush j18 rfl kc_si_144 ?_
    obtain ⟨ho6, h⟩ := h
    refine s_virt j21 rfl rfl rfl rfl ho6 (by decide) (in_Rm_traced _ _) (am_r8 rfl) (am_bV h (fun σ7 h hx7 => ?_))
    replace h := h hx7
    refine s_aload_n j24 rfl rfl ?_
    refine s_aload_n j25 rfl rfl ?_
    refine s_gfR j26 rfl (am_is_ext hx7 ho1) ?_
    refine s_iload_n j29 rfl rfl ?_
    obtain ⟨ho9, h⟩ := h
    refine s_iaload j30 rfl ho9 ?_
    refine s_lload_n j31 rfl rfl ?_
    refine s_virt j32 rfl rfl rfl rfl (am_is_ext hx7 ho1) (by decide) (in_Ro_worthOf _ _ _) (am_r8 rfl) (am_bL h (fun a11 σ10 h hx10 => ?_))
    replace h := h hx10
    refine s_aload_n j35 rfl rfl ?_
    refine s_gfR j36 rfl (am_is_ext hx10 (am_is_ext hx7 ho1)) ?_
    refine s_iload_n j39 rfl rfl ?_
    obtain ⟨ho12, h⟩ := h
    refine s_iaload j40 rfl ho12 ?_
    refine s_g j41 rfl rfl rfl rfl rfl rfl ?_
    refine s_g j42 rfl rfl rfl rfl rfl rfl ?_
    refine s_ldc2 j43 rfl kc_ll_100 ?_
    refine s_ldiv j46 rfl (by decide) ?_
    exact s_retL j47 rfl h
theorem P_Ro_worthOf_63 (nl : Bool) (Ln : Nat) (xs : Nat → Int32) : am_Jl (TT nl Ln xs) 225 [(63, .aload_n 0, 64, []), (64, .getfield 3, 67, [9, 13, 99, 2]), (67, .iload 4, 69, []), (69, .iconst 4, 70, []), (70, .if_icmp .ne 8, 73, []), (73, .bipush 94, 75, []), (75, .goto 5, 78, []), (78, .bipush 104, 80, [])] := dk_ck (by decide +kernel)
set_option maxRecDepth 4096 in
theorem w_Ro_worthOf_63 {nl : Bool} {Ln : Nat} {xs : Nat → Int32} {d : Nat} {this : Nat} {x1 : Int32} {x2 : Int64} {x4 : Int32} {σ : am_S} {F : Int64 → am_S → Prop} (h : (am_is σ (some this) 13) ∧ ∀ w4 : Int32, w4 = (if x4 = (4 : Int32) then (94 : Int32) else (104 : Int32)) → c_Ro_worthOf_80 nl Ln xs (d + 1) this x1 x2 x4 (am_fR σ 13099 this) w4 σ F) : c_Ro_worthOf_63 nl Ln xs (d + 1) this x1 x2 x4 σ F := by
  obtain ⟨j63, j64, j67, j69, j70, j73, j75, j78, -⟩ := P_Ro_worthOf_63 nl Ln xs
  unfold c_Ro_worthOf_63
  refine s_aload_n j63 rfl rfl ?_
  obtain ⟨ho1, h⟩ := h
  refine s_gfR j64 rfl ho1 ?_
  refine s_iload j67 rfl rfl ?_
  refine s_iconst j69 rfl kc_ic_4 ?_
  have K3 : ∀ (w4 : Int32), w4 = (if x4 = (4 : Int32) then (94 : Int32) else (104 : Int32)) → am_C (TT nl Ln xs) (d + 1) 225 80 [some (am_ov (some this)), some (.int x1), some (.long x2), none, some (.int x4), none, none, none, none, none, none, none, none, none] [.int w4, am_ov (am_fR σ 13099 this)] σ (am_qL F) := by
    intro w4 hw5
    replace h := h w4 hw5
    exact h
  refine s_icn j70 rfl rfl am_cc_ne (fun hc2 => ?_) (fun hc2 => ?_)
  · refine s_bipush j78 rfl kc_bi_104 ?_
    exact K3 _ (am_t2 hc2 rfl)
  · refine s_bipush j73 rfl kc_bi_94 ?_
    refine s_goto j75 rfl rfl ?_
    exact K3 _ (am_t1 hc2 rfl)
theorem P_Ro_worthOf_80 (nl : Bool) (Ln : Nat) (xs : Nat → Int32) : am_Jl (TT nl Ln xs) 225 [(80, .invokevirtual 322, 83, [10, 226, 13, 2, 2]), (83, .lconst 0, 84, []), (84, .lstore 5, 86, []), (86, .iconst 0, 87, []), (87, .istore 7, 89, [])] := dk_ck (by decide +kernel)
set_option maxRecDepth 4096 in
theorem w_Ro_worthOf_80 {nl : Bool} {Ln : Nat} {xs : Nat → Int32} {d : Nat} {this : Nat} {x1 : Int32} {x2 : Int64} {x4 : Int32} {y0 : Option Nat} {y1 : Int32} {σ : am_S} {F : Int64 → am_S → Prop} (h : (am_is σ y0 12) ∧ k_Rm_traced nl Ln xs d (y0.getD 0) y1 σ (fun σ2 => am_ext σ σ2 → c_Ro_worthOf_89 nl Ln xs (d + 1) this x1 x2 x4 (0 : Int64) (0 : Int32) none none none none none none σ2 F)) : c_Ro_worthOf_80 nl Ln xs (d + 1) this x1 x2 x4 y0 y1 σ F := by
  obtain ⟨j80, j83, j84, j86, j87, -⟩ := P_Ro_worthOf_80 nl Ln xs
  unfold c_Ro_worthOf_80
  obtain ⟨ho1, h⟩ := h
  refine s_virt j80 rfl rfl rfl rfl ho1 (by decide) (in_Rm_traced _ _) (am_r8 rfl) (am_bV h (fun σ2 h hx2 => ?_))
  replace h := h hx2
  refine s_lconst j83 rfl rfl ?_
  refine s_lstore j84 rfl (n := 14) (L' := [some (am_ov (some this)), some (.int x1), some (.long x2), none, some (.int x4), some (.long (0 : Int64)), none, none, none, none, none, none, none, none]) rfl (by decide) rfl ?_
  refine s_iconst j86 rfl kc_ic_0 ?_
  refine s_istore j87 rfl (n := 14) (L' := [some (am_ov (some this)), some (.int x1), some (.long x2), none, some (.int x4), some (.long (0 : Int64)), none, some (.int (0 : Int32)), none, none, none, none, none, none]) rfl (by decide) rfl ?_
  exact h
theorem P_Ro_worthOf_89 (nl : Bool) (Ln : Nat) (xs : Nat → Int32) : am_Jl (TT nl Ln xs) 225 [(89, .iload 7, 91, []), (91, .aload_n 0, 92, []), (92, .getfield 107, 95, [9, 13, 40, 2]), (95, .iload_n 1, 96, []), (96, .iaload, 97, []), (97, .if_icmp .ge 73, 100, []), (100, .aload_n 0, 101, []), (101, .iload 7, 103, []), (103, .iconst 0, 104, []), (104, .invokevirtual 318, 107, [10, 227, 14, 9, 3]), (107, .lstore 8, 109, []), (109, .iload 4, 111, []), (111, .iconst 4, 112, []), (112, .if_icmp .ne 8, 115, []), (115, .lload 8, 117, []), (117, .goto 10, 120, []), (120, .aload_n 0, 121, []), (121, .iload 7, 123, []), (123, .iconst 1, 124, []), (124, .invokevirtual 318, 127, [10, 227, 14, 9, 3]), (170, .iload 4, 172, []), (172, .iconst 2, 173, []), (173, .if_icmp .ne 15, 176, []), (176, .lload 5, 178, []), (178, .lload 5, 180, []), (180, .ldc2_w 340, 183, [6, 100]), (183, .lrem, 184, []), (184, .lsub, 185, []), (185, .goto 5, 188, []), (188, .lload 5, 190, []), (190, .lreturn, 191, [2])] := dk_ck (by decide +kernel)
set_option maxRecDepth 4096 in
theorem w_Ro_worthOf_89 {nl : Bool} {Ln : Nat} {xs : Nat → Int32} {d : Nat} {this : Nat} {x1 : Int32} {x2 : Int64} {x4 : Int32} {x5 : Int64} {x7 : Int32} {x8 : Option Value} {x9 : Option Value} {x10 : Option Value} {x11 : Option Value} {x12 : Option Value} {x13 : Option Value} {σ : am_S} {F : Int64 → am_S → Prop} (h : (am_is σ (some this) 13) ∧ (am_ar σ 1000 (am_fR σ 13040 this) x1) ∧ (x7 < (am_aI σ ((am_fR σ 13040 this).getD 0) x1.toNatClampNeg) → k_Ro_amount nl Ln xs d this x7 (0 : Int32) σ (fun a5 σ4 => am_ext σ σ4 → (x4 = (4 : Int32) → c_Ro_worthOf_127 nl Ln xs (d + 1) this x1 x2 x4 x5 x7 a5 x10 x11 x12 x13 a5 σ4 F) ∧ (¬ (x4 = (4 : Int32)) → k_Ro_amount nl Ln xs d this x7 (1 : Int32) σ4 (fun a8 σ7 => am_ext σ4 σ7 → c_Ro_worthOf_127 nl Ln xs (d + 1) this x1 x2 x4 x5 x7 a5 x10 x11 x12 x13 a8 σ7 F)))) ∧ (¬ (x7 < (am_aI σ ((am_fR σ 13040 this).getD 0) x1.toNatClampNeg)) → ∀ w11 : Int64, w11 = (if x4 = (2 : Int32) then (x5 - (x5 - x5 / (100 : Int64) * (100 : Int64))) else x5) → F w11 σ)) : c_Ro_worthOf_89 nl Ln xs (d + 1) this x1 x2 x4 x5 x7 x8 x9 x10 x11 x12 x13 σ F := by
  obtain ⟨j89, j91, j92, j95, j96, j97, j100, j101, j103, j104, j107, j109, j111, j112, j115, j117, j120, j121, j123, j124, j170, j172, j173, j176, j178, j180, j183, j184, j185, j188, j190, -⟩ := P_Ro_worthOf_89 nl Ln xs
  unfold c_Ro_worthOf_89
  refine s_iload j89 rfl rfl ?_
  refine s_aload_n j91 rfl rfl ?_
  obtain ⟨ho1, h⟩ := h
  refine s_gfR j92 rfl ho1 ?_
  refine s_iload_n j95 rfl rfl ?_
  obtain ⟨ho2, h⟩ := h
  refine s_iaload j96 rfl ho2 ?_
  refine s_icn j97 rfl rfl am_cc_ge (fun hc3 => ?_) (fun hc3 => ?_)
  · replace h := h.2 hc3
    refine s_iload j170 rfl rfl ?_
    refine s_iconst j172 rfl kc_ic_2 ?_
    have K10 : ∀ (w11 : Int64), w11 = (if x4 = (2 : Int32) then (x5 - (x5 - x5 / (100 : Int64) * (100 : Int64))) else x5) → am_C (TT nl Ln xs) (d + 1) 225 190 [some (am_ov (some this)), some (.int x1), some (.long x2), none, some (.int x4), some (.long x5), none, some (.int x7), x8, x9, x10, x11, x12, x13] [.long w11] σ (am_qL F) := by
      intro w11 hw12
      replace h := h w11 hw12
      exact s_retL j190 rfl h
    refine s_icn j173 rfl rfl am_cc_ne (fun hc9 => ?_) (fun hc9 => ?_)
    · refine s_lload j188 rfl rfl ?_
      exact K10 _ (am_t2 hc9 rfl)
    · refine s_lload j176 rfl rfl ?_
      refine s_lload j178 rfl rfl ?_
      refine s_ldc2 j180 rfl kc_ll_100 ?_
      refine s_lrem j183 rfl (by decide) ?_
      refine s_g j184 rfl rfl rfl rfl rfl rfl ?_
      refine s_goto j185 rfl rfl ?_
      exact K10 _ (am_t1 hc9 rfl)
  · replace h := h.1 hc3
    refine s_aload_n j100 rfl rfl ?_
    refine s_iload j101 rfl rfl ?_
    refine s_iconst j103 rfl kc_ic_0 ?_
    refine s_virt j104 rfl rfl rfl rfl ho1 (by decide) (in_Ro_amount _ _ _) (am_r8 rfl) (am_bL h (fun a5 σ4 h hx4 => ?_))
    replace h := h hx4
    refine s_lstore j107 rfl (n := 14) (L' := [some (am_ov (some this)), some (.int x1), some (.long x2), none, some (.int x4), some (.long x5), none, some (.int x7), some (.long a5), none, x10, x11, x12, x13]) rfl (by decide) rfl ?_
    refine s_iload j109 rfl rfl ?_
    refine s_iconst j111 rfl kc_ic_4 ?_
    refine s_icn j112 rfl rfl am_cc_ne (fun hc6 => ?_) (fun hc6 => ?_)
    · replace h := h.2 hc6
      refine s_aload_n j120 rfl rfl ?_
      refine s_iload j121 rfl rfl ?_
      refine s_iconst j123 rfl kc_ic_1 ?_
      refine s_virt j124 rfl rfl rfl rfl (am_is_ext hx4 ho1) (by decide) (in_Ro_amount _ _ _) (am_r8 rfl) (am_bL h (fun a8 σ7 h hx7 => ?_))
      replace h := h hx7
      exact h
    · replace h := h.1 hc6
      refine s_lload j115 rfl rfl ?_
      refine s_goto j117 rfl rfl ?_
      exact h
theorem P_Ro_worthOf_127 (nl : Bool) (Ln : Nat) (xs : Nat → Int32) : am_Jl (TT nl Ln xs) 225 [(127, .lstore 10, 129, []), (129, .lload 8, 131, []), (131, .lload 10, 133, []), (133, .lcmp, 134, []), (134, .ifCond .ge 8, 137, []), (137, .lload 8, 139, []), (139, .goto 5, 142, []), (142, .lload 10, 144, [])] := dk_ck (by decide +kernel)
set_option maxRecDepth 4096 in
theorem w_Ro_worthOf_127 {nl : Bool} {Ln : Nat} {xs : Nat → Int32} {d : Nat} {this : Nat} {x1 : Int32} {x2 : Int64} {x4 : Int32} {x5 : Int64} {x7 : Int32} {x8 : Int64} {x10 : Option Value} {x11 : Option Value} {x12 : Option Value} {x13 : Option Value} {y0 : Int64} {σ : am_S} {F : Int64 → am_S → Prop} (h : ∀ w3 : Int64, w3 = (if x8 < y0 then x8 else y0) → c_Ro_worthOf_144 nl Ln xs (d + 1) this x1 x2 x4 x5 x7 x8 y0 x12 x13 w3 σ F) : c_Ro_worthOf_127 nl Ln xs (d + 1) this x1 x2 x4 x5 x7 x8 x10 x11 x12 x13 y0 σ F := by
  obtain ⟨j127, j129, j131, j133, j134, j137, j139, j142, -⟩ := P_Ro_worthOf_127 nl Ln xs
  unfold c_Ro_worthOf_127
  refine s_lstore j127 rfl (n := 14) (L' := [some (am_ov (some this)), some (.int x1), some (.long x2), none, some (.int x4), some (.long x5), none, some (.int x7), some (.long x8), none, some (.long y0), none, x12, x13]) rfl (by decide) rfl ?_
  refine s_lload j129 rfl rfl ?_
  refine s_lload j131 rfl rfl ?_
  refine s_g j133 rfl rfl rfl rfl rfl rfl ?_
  have K2 : ∀ (w3 : Int64), w3 = (if x8 < y0 then x8 else y0) → am_C (TT nl Ln xs) (d + 1) 225 144 [some (am_ov (some this)), some (.int x1), some (.long x2), none, some (.int x4), some (.long x5), none, some (.int x7), some (.long x8), none, some (.long y0), none, x12, x13] [.long w3] σ (am_qL F) := by
    intro w3 hw4
    replace h := h w3 hw4
    exact h
  refine s_ifn j134 rfl rfl am_cl_ge (fun hc1 => ?_) (fun hc1 => ?_)
  · refine s_lload j142 rfl rfl ?_
    exact K2 _ (am_t2 hc1 rfl)
  · refine s_lload j137 rfl rfl ?_
    refine s_goto j139 rfl rfl ?_
    exact K2 _ (am_t1 hc1 rfl)
theorem P_Ro_worthOf_144 (nl : Bool) (Ln : Nat) (xs : Nat → Int32) : am_Jl (TT nl Ln xs) 225 [(144, .lstore 12, 146, []), (146, .lload 5, 148, []), (148, .lload 12, 150, []), (150, .lload_n 2, 151, []), (151, .lcmp, 152, []), (152, .ifCond .ge 8, 155, []), (155, .lload 12, 157, []), (157, .goto 4, 160, []), (160, .lload_n 2, 161, []), (161, .ladd, 162, []), (162, .lstore 5, 164, []), (164, .iinc 7 1, 167, []), (167, .goto (-78), 170, [])] := dk_ck (by decide +kernel)
set_option maxRecDepth 4096 in
theorem w_Ro_worthOf_144 {nl : Bool} {Ln : Nat} {xs : Nat → Int32} {d : Nat} {this : Nat} {x1 : Int32} {x2 : Int64} {x4 : Int32} {x5 : Int64} {x7 : Int32} {x8 : Int64} {x10 : Int64} {x12 : Option Value} {x13 : Option Value} {y0 : Int64} {σ : am_S} {F : Int64 → am_S → Prop} (h : ∀ w3 : Int64, w3 = (if y0 < x2 then y0 else x2) → ∀ v5 : Int64, v5 = (x5 + w3) → c_Ro_worthOf_89 nl Ln xs (d + 1) this x1 x2 x4 v5 (x7 + (1 : Int32)) (some (.long x8)) none (some (.long x10)) none (some (.long y0)) none σ F) : c_Ro_worthOf_144 nl Ln xs (d + 1) this x1 x2 x4 x5 x7 x8 x10 x12 x13 y0 σ F := by
  obtain ⟨j144, j146, j148, j150, j151, j152, j155, j157, j160, j161, j162, j164, j167, -⟩ := P_Ro_worthOf_144 nl Ln xs
  unfold c_Ro_worthOf_144
  refine s_lstore j144 rfl (n := 14) (L' := [some (am_ov (some this)), some (.int x1), some (.long x2), none, some (.int x4), some (.long x5), none, some (.int x7), some (.long x8), none, some (.long x10), none, some (.long y0), none]) rfl (by decide) rfl ?_
  refine s_lload j146 rfl rfl ?_
  refine s_lload j148 rfl rfl ?_
  refine s_lload_n j150 rfl rfl ?_
  refine s_g j151 rfl rfl rfl rfl rfl rfl ?_
  have K2 : ∀ (w3 : Int64), w3 = (if y0 < x2 then y0 else x2) → am_C (TT nl Ln xs) (d + 1) 225 161 [some (am_ov (some this)), some (.int x1), some (.long x2), none, some (.int x4), some (.long x5), none, some (.int x7), some (.long x8), none, some (.long x10), none, some (.long y0), none] [.long w3, .long x5] σ (am_qL F) := by
    intro w3 hw4
    replace h := h w3 hw4
    refine s_g j161 rfl rfl rfl rfl rfl rfl ?_
    refine s_lstoreV j162 rfl (n := 14) (L' := fun w => [some (am_ov (some this)), some (.int x1), some (.long x2), none, some (.int x4), some (.long w), none, some (.int x7), some (.long x8), none, some (.long x10), none, some (.long y0), none]) rfl (by decide) (fun _ => rfl) (fun v5 hv6 => ?_)
    replace h := h v5 hv6
    refine s_iinc (L' := [some (am_ov (some this)), some (.int x1), some (.long x2), none, some (.int x4), some (.long v5), none, some (.int (x7 + (1 : Int32))), some (.long x8), none, some (.long x10), none, some (.long y0), none]) j164 rfl rfl kc_ic_1 rfl ?_
    refine s_goto j167 rfl rfl ?_
    exact h
  refine s_ifn j152 rfl rfl am_cl_ge (fun hc1 => ?_) (fun hc1 => ?_)
  · refine s_lload_n j160 rfl rfl ?_
    exact K2 _ (am_t2 hc1 rfl)
  · refine s_lload j155 rfl rfl ?_
    refine s_goto j157 rfl rfl ?_
    exact K2 _ (am_t1 hc1 rfl)
