/-! statements of methods, 15 (by wip/whole/gensteps.py) -/
theorem P_Ro_opens (nl : Bool) (Ln : Nat) (xs : Nat → Int32) : am_Jl (TT nl Ln xs) 285 [(0, .aload_n 0, 1, []), (1, .getfield 681, 4, [9, 13, 98, 0]), (4, .bipush 20, 6, []), (6, .if_icmp .ne 13, 9, []), (9, .aload_n 0, 10, []), (10, .aload_n 0, 11, []), (11, .getfield 630, 14, [9, 13, 93, 0]), (14, .invokevirtual 671, 17, [10, 277, 14, 2, 2]), (17, .iconst 0, 18, []), (18, .ireturn, 19, [4]), (19, .aload_n 0, 20, []), (20, .dup, 21, []), (21, .getfield 681, 24, [9, 13, 98, 0]), (24, .iconst 1, 25, []), (25, .iadd, 26, []), (26, .putfield 681, 29, [9, 13, 98, 0]), (29, .aload_n 0, 30, []), (30, .invokevirtual 668, 33, [10, 276, 14, 2, 1]), (33, .iconst 1, 34, []), (34, .ireturn, 35, [4])] := dk_ck (by decide +kernel)
set_option maxRecDepth 4096 in
theorem w_Ro_opens {nl : Bool} {Ln : Nat} {xs : Nat → Int32} {d : Nat} {this : Nat} {σ : am_S} {F : Bool → am_S → Prop} (h : (am_is σ (some this) 13) ∧ ((am_fI σ 13098 this) = (20 : Int32) → k_Ro_wrong nl Ln xs d this (am_fI σ 13093 this) σ (fun σ3 => am_ext σ σ3 → F false σ3)) ∧ (¬ ((am_fI σ 13098 this) = (20 : Int32)) → ∀ σ5, σ5 = am_sfI σ 13098 this ((am_fI σ 13098 this) + (1 : Int32)) → k_Ro_step nl Ln xs d this σ5 (fun σ8 => am_ext σ5 σ8 → F true σ8))) : k_Ro_opens nl Ln xs (d + 1) this σ F := by
  obtain ⟨j0, j1, j4, j6, j9, j10, j11, j14, j17, j18, j19, j20, j21, j24, j25, j26, j29, j30, j33, j34, -⟩ := P_Ro_opens nl Ln xs
  have elo : am_lo 1 [am_ov (some this)] = [some (am_ov (some this))] := by simp only [am_lo, am_in_ov, am_in_int, am_in_long, am_in_nil]; rfl
  unfold k_Ro_opens
  rw [elo]
  refine s_aload_n j0 rfl rfl ?_
  obtain ⟨ho1, h⟩ := h
  refine s_gfI j1 rfl ho1 ?_
  refine s_bipush j4 rfl kc_bi_20 ?_
  refine s_icn j6 rfl rfl am_cc_ne (fun hc2 => ?_) (fun hc2 => ?_)
  · replace h := h.2 hc2
    refine s_aload_n j19 rfl rfl ?_
    refine s_dup j20 rfl (am_cov _) ?_
    refine s_gfI j21 rfl ho1 ?_
    refine s_iconst j24 rfl kc_ic_1 ?_
    refine s_g j25 rfl rfl rfl rfl rfl rfl ?_
    refine s_pfI j26 rfl ho1 (fun σ5 e6 => ?_)
    replace h := h σ5 e6
    have ek7 : am_kd σ5 = am_kd σ := by rw [e6]
    refine s_aload_n j29 rfl rfl ?_
    refine s_virt j30 rfl rfl rfl rfl (am_is_kd ek7 ho1) (by decide) (in_Ro_step _) (am_r8 rfl) (am_bV h (fun σ8 h hx8 => ?_))
    replace h := h hx8
    refine s_iconst j33 rfl kc_ic_1 ?_
    exact s_retZ1 j34 rfl h
  · replace h := h.1 hc2
    refine s_aload_n j9 rfl rfl ?_
    refine s_aload_n j10 rfl rfl ?_
    refine s_gfI j11 rfl ho1 ?_
    refine s_virt j14 rfl rfl rfl rfl ho1 (by decide) (in_Ro_wrong _ _) (am_r8 rfl) (am_bV h (fun σ3 h hx3 => ?_))
    replace h := h hx3
    refine s_iconst j17 rfl kc_ic_0 ?_
    exact s_retZ0 j18 rfl h
theorem P_Ro_node (nl : Bool) (Ln : Nat) (xs : Nat → Int32) : am_Jl (TT nl Ln xs) 286 [(0, .aload_n 0, 1, []), (1, .getfield 86, 4, [9, 13, 32, 2]), (4, .aload_n 0, 5, []), (5, .getfield 231, 8, [9, 13, 31, 0]), (8, .iload_n 1, 9, []), (9, .iastore, 10, []), (10, .aload_n 0, 11, []), (11, .getfield 89, 14, [9, 13, 33, 2]), (14, .aload_n 0, 15, []), (15, .getfield 231, 18, [9, 13, 31, 0]), (18, .iload_n 2, 19, []), (19, .iastore, 20, []), (20, .aload_n 0, 21, []), (21, .getfield 92, 24, [9, 13, 34, 2]), (24, .aload_n 0, 25, []), (25, .getfield 231, 28, [9, 13, 31, 0]), (28, .iload_n 3, 29, []), (29, .iastore, 30, []), (30, .aload_n 0, 31, []), (31, .dup, 32, []), (32, .getfield 231, 35, [9, 13, 31, 0]), (35, .iconst 1, 36, []), (36, .iadd, 37, []), (37, .putfield 231, 40, [9, 13, 31, 0]), (40, .aload_n 0, 41, []), (41, .getfield 231, 44, [9, 13, 31, 0]), (44, .iconst 1, 45, []), (45, .isub, 46, []), (46, .ireturn, 47, [1])] := dk_ck (by decide +kernel)
set_option maxRecDepth 4096 in
theorem w_Ro_node {nl : Bool} {Ln : Nat} {xs : Nat → Int32} {d : Nat} {this : Nat} {p0 : Int32} {p1 : Int32} {p2 : Int32} {σ : am_S} {F : Int32 → am_S → Prop} (h : (am_is σ (some this) 13) ∧ (am_ar σ 1000 (am_fR σ 13032 this) (am_fI σ 13031 this)) ∧ ∀ σ3, σ3 = am_saI σ ((am_fR σ 13032 this).getD 0) (am_fI σ 13031 this).toNatClampNeg p0 → (am_ar σ3 1000 (am_fR σ3 13033 this) (am_fI σ3 13031 this)) ∧ ∀ σ7, σ7 = am_saI σ3 ((am_fR σ3 13033 this).getD 0) (am_fI σ3 13031 this).toNatClampNeg p1 → (am_ar σ7 1000 (am_fR σ7 13034 this) (am_fI σ7 13031 this)) ∧ ∀ σ11, σ11 = am_saI σ7 ((am_fR σ7 13034 this).getD 0) (am_fI σ7 13031 this).toNatClampNeg p2 → ∀ σ14, σ14 = am_sfI σ11 13031 this ((am_fI σ11 13031 this) + (1 : Int32)) → F ((am_fI σ14 13031 this) - (1 : Int32)) σ14) : k_Ro_node nl Ln xs (d + 1) this p0 p1 p2 σ F := by
  obtain ⟨j0, j1, j4, j5, j8, j9, j10, j11, j14, j15, j18, j19, j20, j21, j24, j25, j28, j29, j30, j31, j32, j35, j36, j37, j40, j41, j44, j45, j46, -⟩ := P_Ro_node nl Ln xs
  have elo : am_lo 4 [am_ov (some this), .int p0, .int p1, .int p2] = [some (am_ov (some this)), some (.int p0), some (.int p1), some (.int p2)] := by simp only [am_lo, am_in_ov, am_in_int, am_in_long, am_in_nil]; rfl
  unfold k_Ro_node
  rw [elo]
  refine s_aload_n j0 rfl rfl ?_
  obtain ⟨ho1, h⟩ := h
  refine s_gfR j1 rfl ho1 ?_
  refine s_aload_n j4 rfl rfl ?_
  refine s_gfI j5 rfl ho1 ?_
  refine s_iload_n j8 rfl rfl ?_
  obtain ⟨ho2, h⟩ := h
  refine s_iastore j9 rfl ho2 (fun σ3 e4 => ?_)
  replace h := h σ3 e4
  have ek5 : am_kd σ3 = am_kd σ := by rw [e4]
  refine s_aload_n j10 rfl rfl ?_
  refine s_gfR j11 rfl (am_is_kd ek5 ho1) ?_
  refine s_aload_n j14 rfl rfl ?_
  refine s_gfI j15 rfl (am_is_kd ek5 ho1) ?_
  refine s_iload_n j18 rfl rfl ?_
  obtain ⟨ho6, h⟩ := h
  refine s_iastore j19 rfl ho6 (fun σ7 e8 => ?_)
  replace h := h σ7 e8
  have ek9 : am_kd σ7 = am_kd σ3 := by rw [e8]
  refine s_aload_n j20 rfl rfl ?_
  refine s_gfR j21 rfl (am_is_kd ek9 (am_is_kd ek5 ho1)) ?_
  refine s_aload_n j24 rfl rfl ?_
  refine s_gfI j25 rfl (am_is_kd ek9 (am_is_kd ek5 ho1)) ?_
  refine s_iload_n j28 rfl rfl ?_
  obtain ⟨ho10, h⟩ := h
  refine s_iastore j29 rfl ho10 (fun σ11 e12 => ?_)
  replace h := h σ11 e12
  have ek13 : am_kd σ11 = am_kd σ7 := by rw [e12]
  refine s_aload_n j30 rfl rfl ?_
  refine s_dup j31 rfl (am_cov _) ?_
  refine s_gfI j32 rfl (am_is_kd ek13 (am_is_kd ek9 (am_is_kd ek5 ho1))) ?_
  refine s_iconst j35 rfl kc_ic_1 ?_
  refine s_g j36 rfl rfl rfl rfl rfl rfl ?_
  refine s_pfI j37 rfl (am_is_kd ek13 (am_is_kd ek9 (am_is_kd ek5 ho1))) (fun σ14 e15 => ?_)
  replace h := h σ14 e15
  have ek16 : am_kd σ14 = am_kd σ11 := by rw [e15]
  refine s_aload_n j40 rfl rfl ?_
  refine s_gfI j41 rfl (am_is_kd ek16 (am_is_kd ek13 (am_is_kd ek9 (am_is_kd ek5 ho1)))) ?_
  refine s_iconst j44 rfl kc_ic_1 ?_
  refine s_g j45 rfl rfl rfl rfl rfl rfl ?_
  exact s_retI j46 rfl h
theorem P_Ro_needs (nl : Bool) (Ln : Nat) (xs : Nat → Int32) : am_Jl (TT nl Ln xs) 287 [(0, .aload_n 0, 1, []), (1, .getfield 652, 4, [9, 13, 97, 0]), (4, .iconst (-1), 5, []), (5, .if_icmp .ne 18, 8, []), (8, .aload_n 0, 9, []), (9, .getfield 633, 12, [9, 13, 94, 0]), (12, .iload_n 1, 13, []), (13, .if_icmp .ne 10, 16, []), (16, .aload_n 0, 17, []), (17, .invokevirtual 668, 20, [10, 276, 14, 2, 1]), (20, .goto 11, 23, []), (31, .return_, 32, [0])] := dk_ck (by decide +kernel)
set_option maxRecDepth 4096 in
theorem w_Ro_needs {nl : Bool} {Ln : Nat} {xs : Nat → Int32} {d : Nat} {this : Nat} {p0 : Int32} {σ : am_S} {F : am_S → Prop} (h : (am_is σ (some this) 13) ∧ ((am_fI σ 13097 this) = (-1 : Int32) → ((am_fI σ 13094 this) = p0 → k_Ro_step nl Ln xs d this σ (fun σ4 => am_ext σ σ4 → F σ4)) ∧ (¬ ((am_fI σ 13094 this) = p0) → c_Ro_needs_23 nl Ln xs (d + 1) this p0 σ F)) ∧ (¬ ((am_fI σ 13097 this) = (-1 : Int32)) → c_Ro_needs_23 nl Ln xs (d + 1) this p0 σ F)) : k_Ro_needs nl Ln xs (d + 1) this p0 σ F := by
  obtain ⟨j0, j1, j4, j5, j8, j9, j12, j13, j16, j17, j20, j31, -⟩ := P_Ro_needs nl Ln xs
  have elo : am_lo 2 [am_ov (some this), .int p0] = [some (am_ov (some this)), some (.int p0)] := by simp only [am_lo, am_in_ov, am_in_int, am_in_long, am_in_nil]; rfl
  unfold k_Ro_needs
  rw [elo]
  refine s_aload_n j0 rfl rfl ?_
  obtain ⟨ho1, h⟩ := h
  refine s_gfI j1 rfl ho1 ?_
  refine s_iconst j4 rfl kc_ic_m1 ?_
  refine s_icn j5 rfl rfl am_cc_ne (fun hc2 => ?_) (fun hc2 => ?_)
  · replace h := h.2 hc2
    exact h
  · replace h := h.1 hc2
    refine s_aload_n j8 rfl rfl ?_
    refine s_gfI j9 rfl ho1 ?_
    refine s_iload_n j12 rfl rfl ?_
    refine s_icn j13 rfl rfl am_cc_ne (fun hc3 => ?_) (fun hc3 => ?_)
    · replace h := h.2 hc3
      exact h
    · replace h := h.1 hc3
      refine s_aload_n j16 rfl rfl ?_
      refine s_virt j17 rfl rfl rfl rfl ho1 (by decide) (in_Ro_step _) (am_r8 rfl) (am_bV h (fun σ4 h hx4 => ?_))
      replace h := h hx4
      refine s_goto j20 rfl rfl ?_
      exact s_retV j31 rfl h
theorem P_Ro_needs_23 (nl : Bool) (Ln : Nat) (xs : Nat → Int32) : am_Jl (TT nl Ln xs) 287 [(23, .aload_n 0, 24, []), (24, .aload_n 0, 25, []), (25, .getfield 630, 28, [9, 13, 93, 0]), (28, .invokevirtual 671, 31, [10, 277, 14, 2, 2]), (31, .return_, 32, [0])] := dk_ck (by decide +kernel)
set_option maxRecDepth 4096 in
theorem w_Ro_needs_23 {nl : Bool} {Ln : Nat} {xs : Nat → Int32} {d : Nat} {this : Nat} {x1 : Int32} {σ : am_S} {F : am_S → Prop} (h : (am_is σ (some this) 13) ∧ k_Ro_wrong nl Ln xs d this (am_fI σ 13093 this) σ (fun σ2 => am_ext σ σ2 → F σ2)) : c_Ro_needs_23 nl Ln xs (d + 1) this x1 σ F := by
  obtain ⟨j23, j24, j25, j28, j31, -⟩ := P_Ro_needs_23 nl Ln xs
  unfold c_Ro_needs_23
  refine s_aload_n j23 rfl rfl ?_
  refine s_aload_n j24 rfl rfl ?_
  obtain ⟨ho1, h⟩ := h
  refine s_gfI j25 rfl ho1 ?_
  refine s_virt j28 rfl rfl rfl rfl ho1 (by decide) (in_Ro_wrong _ _) (am_r8 rfl) (am_bV h (fun σ2 h hx2 => ?_))
  replace h := h hx2
  exact s_retV j31 rfl h
theorem P_Ro_needsNumber (nl : Bool) (Ln : Nat) (xs : Nat → Int32) : am_Jl (TT nl Ln xs) 288 [(0, .aload_n 0, 1, []), (1, .getfield 652, 4, [9, 13, 97, 0]), (4, .iconst (-1), 5, []), (5, .if_icmp .ne 11, 8, []), (8, .aload_n 0, 9, []), (9, .getfield 633, 12, [9, 13, 94, 0]), (12, .iconst 2, 13, []), (13, .if_icmp .eq 13, 16, []), (26, .aload_n 0, 27, []), (27, .getfield 649, 30, [9, 13, 95, 0]), (30, .aload_n 0, 31, []), (31, .getfield 630, 34, [9, 13, 93, 0]), (34, .isub, 35, []), (35, .bipush 9, 37, []), (37, .if_icmp .le 16, 40, []), (40, .aload_n 0, 41, []), (41, .aload_n 0, 42, []), (42, .getfield 630, 45, [9, 13, 93, 0]), (45, .bipush 9, 47, []), (47, .iadd, 48, []), (48, .invokevirtual 671, 51, [10, 277, 14, 2, 2]), (51, .iconst 0, 52, []), (52, .ireturn, 53, [1]), (53, .aload_n 0, 54, []), (54, .getfield 644, 57, [9, 13, 96, 1]), (57, .l2i, 58, []), (58, .istore_n 1, 59, []), (59, .aload_n 0, 60, []), (60, .invokevirtual 668, 63, [10, 276, 14, 2, 1]), (63, .iload_n 1, 64, []), (64, .ireturn, 65, [1])] := dk_ck (by decide +kernel)
set_option maxRecDepth 4096 in
theorem w_Ro_needsNumber {nl : Bool} {Ln : Nat} {xs : Nat → Int32} {d : Nat} {this : Nat} {σ : am_S} {F : Int32 → am_S → Prop} (h : (am_is σ (some this) 13) ∧ ((am_fI σ 13097 this) = (-1 : Int32) → ((am_fI σ 13094 this) = (2 : Int32) → ((9 : Int32) < ((am_fI σ 13095 this) - (am_fI σ 13093 this)) → k_Ro_wrong nl Ln xs d this ((am_fI σ 13093 this) + (9 : Int32)) σ (fun σ5 => am_ext σ σ5 → F (0 : Int32) σ5)) ∧ (¬ ((9 : Int32) < ((am_fI σ 13095 this) - (am_fI σ 13093 this))) → ∀ v7 : Int32, v7 = (am_fL σ 13096 this).toInt32 → k_Ro_step nl Ln xs d this σ (fun σ9 => am_ext σ σ9 → F v7 σ9))) ∧ (¬ ((am_fI σ 13094 this) = (2 : Int32)) → c_Ro_needsNumber_16 nl Ln xs (d + 1) this σ F)) ∧ (¬ ((am_fI σ 13097 this) = (-1 : Int32)) → c_Ro_needsNumber_16 nl Ln xs (d + 1) this σ F)) : k_Ro_needsNumber nl Ln xs (d + 1) this σ F := by
  obtain ⟨j0, j1, j4, j5, j8, j9, j12, j13, j26, j27, j30, j31, j34, j35, j37, j40, j41, j42, j45, j47, j48, j51, j52, j53, j54, j57, j58, j59, j60, j63, j64, -⟩ := P_Ro_needsNumber nl Ln xs
  have elo : am_lo 2 [am_ov (some this)] = [some (am_ov (some this)), none] := by simp only [am_lo, am_in_ov, am_in_int, am_in_long, am_in_nil]; rfl
  unfold k_Ro_needsNumber
  rw [elo]
  refine s_aload_n j0 rfl rfl ?_
  obtain ⟨ho1, h⟩ := h
  refine s_gfI j1 rfl ho1 ?_
  refine s_iconst j4 rfl kc_ic_m1 ?_
  refine s_icn j5 rfl rfl am_cc_ne (fun hc2 => ?_) (fun hc2 => ?_)
  · replace h := h.2 hc2
    exact h
  · replace h := h.1 hc2
    refine s_aload_n j8 rfl rfl ?_
    refine s_gfI j9 rfl ho1 ?_
    refine s_iconst j12 rfl kc_ic_2 ?_
    refine s_ic j13 rfl rfl am_cc_eq (fun hc3 => ?_) (fun hc3 => ?_)
    · replace h := h.1 hc3
      refine s_aload_n j26 rfl rfl ?_
      refine s_gfI j27 rfl ho1 ?_
      refine s_aload_n j30 rfl rfl ?_
      refine s_gfI j31 rfl ho1 ?_
      refine s_g j34 rfl rfl rfl rfl rfl rfl ?_
      refine s_bipush j35 rfl kc_bi_9 ?_
      refine s_icn j37 rfl rfl am_cc_le (fun hc4 => ?_) (fun hc4 => ?_)
      · replace h := h.2 hc4
        refine s_aload_n j53 rfl rfl ?_
        refine s_gfL j54 rfl ho1 ?_
        refine s_g j57 rfl rfl rfl rfl rfl rfl ?_
        refine s_istore_nV j58 rfl (n := 2) (L' := fun w => [some (am_ov (some this)), some (.int w)]) rfl (by decide) (fun _ => am_st1_R [] _ _ _ _) (fun v7 hv8 => ?_)
        replace h := h v7 hv8
        refine s_aload_n j59 rfl rfl ?_
        refine s_virt j60 rfl rfl rfl rfl ho1 (by decide) (in_Ro_step _) (am_r8 rfl) (am_bV h (fun σ9 h hx9 => ?_))
        replace h := h hx9
        refine s_iload_n j63 rfl rfl ?_
        exact s_retI j64 rfl h
      · replace h := h.1 hc4
        refine s_aload_n j40 rfl rfl ?_
        refine s_aload_n j41 rfl rfl ?_
        refine s_gfI j42 rfl ho1 ?_
        refine s_bipush j45 rfl kc_bi_9 ?_
        refine s_g j47 rfl rfl rfl rfl rfl rfl ?_
        refine s_virt j48 rfl rfl rfl rfl ho1 (by decide) (in_Ro_wrong _ _) (am_r8 rfl) (am_bV h (fun σ5 h hx5 => ?_))
        replace h := h hx5
        refine s_iconst j51 rfl kc_ic_0 ?_
        exact s_retI j52 rfl h
    · replace h := h.2 hc3
      exact h
theorem P_Ro_needsNumber_16 (nl : Bool) (Ln : Nat) (xs : Nat → Int32) : am_Jl (TT nl Ln xs) 288 [(16, .aload_n 0, 17, []), (17, .aload_n 0, 18, []), (18, .getfield 630, 21, [9, 13, 93, 0]), (21, .invokevirtual 671, 24, [10, 277, 14, 2, 2]), (24, .iconst 0, 25, []), (25, .ireturn, 26, [1])] := dk_ck (by decide +kernel)
set_option maxRecDepth 4096 in
theorem w_Ro_needsNumber_16 {nl : Bool} {Ln : Nat} {xs : Nat → Int32} {d : Nat} {this : Nat} {σ : am_S} {F : Int32 → am_S → Prop} (h : (am_is σ (some this) 13) ∧ k_Ro_wrong nl Ln xs d this (am_fI σ 13093 this) σ (fun σ2 => am_ext σ σ2 → F (0 : Int32) σ2)) : c_Ro_needsNumber_16 nl Ln xs (d + 1) this σ F := by
  obtain ⟨j16, j17, j18, j21, j24, j25, -⟩ := P_Ro_needsNumber_16 nl Ln xs
  unfold c_Ro_needsNumber_16
  refine s_aload_n j16 rfl rfl ?_
  refine s_aload_n j17 rfl rfl ?_
  obtain ⟨ho1, h⟩ := h
  refine s_gfI j18 rfl ho1 ?_
  refine s_virt j21 rfl rfl rfl rfl ho1 (by decide) (in_Ro_wrong _ _) (am_r8 rfl) (am_bV h (fun σ2 h hx2 => ?_))
  replace h := h hx2
  refine s_iconst j24 rfl kc_ic_0 ?_
  exact s_retI j25 rfl h
theorem P_Ro_numbered (nl : Bool) (Ln : Nat) (xs : Nat → Int32) : am_Jl (TT nl Ln xs) 289 [(0, .aload_n 0, 1, []), (1, .ldc_w 734, 4, [5, 13]), (4, .invokevirtual 678, 7, [10, 281, 14, 3, 2]), (7, .ifCond .eq 36, 10, []), (10, .aload_n 0, 11, []), (11, .ldc_w 730, 14, [5, 33]), (14, .invokevirtual 678, 17, [10, 281, 14, 3, 2]), (17, .ifCond .eq 5, 20, []), (20, .iconst 5, 21, []), (21, .ireturn, 22, [1]), (22, .aload_n 0, 23, []), (23, .ldc_w 736, 26, [5, 17]), (26, .invokevirtual 678, 29, [10, 281, 14, 3, 2]), (29, .ifCond .ne 11, 32, []), (32, .aload_n 0, 33, []), (33, .aload_n 0, 34, []), (34, .getfield 630, 37, [9, 13, 93, 0]), (37, .invokevirtual 671, 40, [10, 277, 14, 2, 2]), (40, .bipush 6, 42, []), (42, .ireturn, 43, [1]), (43, .aload_n 0, 44, []), (44, .ldc_w 738, 47, [5, 34]), (47, .invokevirtual 678, 50, [10, 281, 14, 3, 2]), (50, .ifCond .eq 7, 53, []), (53, .iconst 2, 54, []), (54, .goto 62, 57, []), (57, .aload_n 0, 58, []), (58, .ldc_w 730, 61, [5, 33]), (61, .invokevirtual 678, 64, [10, 281, 14, 3, 2]), (64, .ifCond .eq 7, 67, []), (67, .iconst 3, 68, []), (68, .goto 48, 71, []), (71, .aload_n 0, 72, []), (72, .ldc_w 736, 75, [5, 17]), (75, .invokevirtual 678, 78, [10, 281, 14, 3, 2]), (78, .ifCond .eq 7, 81, []), (81, .iconst 4, 82, []), (82, .goto 34, 85, []), (85, .aload_n 0, 86, []), (86, .ldc_w 739, 89, [5, 10]), (89, .invokevirtual 678, 92, [10, 281, 14, 3, 2]), (92, .ifCond .eq 8, 95, []), (95, .bipush 7, 97, []), (97, .goto 19, 100, []), (100, .aload_n 0, 101, []), (101, .ldc_w 741, 104, [5, 19]), (104, .invokevirtual 678, 107, [10, 281, 14, 3, 2]), (107, .ifCond .eq 8, 110, []), (110, .bipush 9, 112, []), (112, .goto 4, 115, []), (115, .iconst (-1), 116, [])] := dk_ck (by decide +kernel)
set_option maxRecDepth 4096 in
theorem w_Ro_numbered {nl : Bool} {Ln : Nat} {xs : Nat → Int32} {d : Nat} {this : Nat} {σ : am_S} {F : Int32 → am_S → Prop} (h : (am_is σ (some this) 13) ∧ k_Ro_takes nl Ln xs d this (some 13) σ (fun a3 σ2 => am_ext σ σ2 → (a3 = true → k_Ro_takes nl Ln xs d this (some 33) σ2 (fun a6 σ5 => am_ext σ2 σ5 → (a6 = true → F (5 : Int32) σ5) ∧ (¬ (a6 = true) → k_Ro_takes nl Ln xs d this (some 17) σ5 (fun a9 σ8 => am_ext σ5 σ8 → (a9 = true → F (6 : Int32) σ8) ∧ (¬ (a9 = true) → k_Ro_wrong nl Ln xs d this (am_fI σ8 13093 this) σ8 (fun σ11 => am_ext σ8 σ11 → F (6 : Int32) σ11)))))) ∧ (¬ (a3 = true) → k_Ro_takes nl Ln xs d this (some 34) σ2 (fun a14 σ13 => am_ext σ2 σ13 → (a14 = true → c_Ro_numbered_116 nl Ln xs (d + 1) this (2 : Int32) σ13 F) ∧ (¬ (a14 = true) → k_Ro_takes nl Ln xs d this (some 33) σ13 (fun a17 σ16 => am_ext σ13 σ16 → (a17 = true → c_Ro_numbered_116 nl Ln xs (d + 1) this (3 : Int32) σ16 F) ∧ (¬ (a17 = true) → k_Ro_takes nl Ln xs d this (some 17) σ16 (fun a20 σ19 => am_ext σ16 σ19 → (a20 = true → c_Ro_numbered_116 nl Ln xs (d + 1) this (4 : Int32) σ19 F) ∧ (¬ (a20 = true) → k_Ro_takes nl Ln xs d this (some 10) σ19 (fun a23 σ22 => am_ext σ19 σ22 → (a23 = true → c_Ro_numbered_116 nl Ln xs (d + 1) this (7 : Int32) σ22 F) ∧ (¬ (a23 = true) → k_Ro_takes nl Ln xs d this (some 19) σ22 (fun a26 σ25 => am_ext σ22 σ25 → ∀ w29 : Int32, w29 = (if a26 = true then (9 : Int32) else (-1 : Int32)) → c_Ro_numbered_116 nl Ln xs (d + 1) this w29 σ25 F)))))))))))) : k_Ro_numbered nl Ln xs (d + 1) this σ F := by
  obtain ⟨j0, j1, j4, j7, j10, j11, j14, j17, j20, j21, j22, j23, j26, j29, j32, j33, j34, j37, j40, j42, j43, j44, j47, j50, j53, j54, j57, j58, j61, j64, j67, j68, j71, j72, j75, j78, j81, j82, j85, j86, j89, j92, j95, j97, j100, j101, j104, j107, j110, j112, j115, -⟩ := P_Ro_numbered nl Ln xs
  have elo : am_lo 2 [am_ov (some this)] = [some (am_ov (some this)), none] := by simp only [am_lo, am_in_ov, am_in_int, am_in_long, am_in_nil]; rfl
  unfold k_Ro_numbered
  rw [elo]
  refine s_aload_n j0 rfl rfl ?_
  refine s_ldc_wS j1 rfl ?_
  obtain ⟨ho1, h⟩ := h
  refine s_virt j4 rfl rfl rfl rfl ho1 (by decide) (in_Ro_takes _ _) (am_r8 rfl) (am_bB h (fun a3 σ2 h hx2 => ?_))
  replace h := h hx2
  refine s_ifn j7 rfl rfl am_cb_eq (fun hc4 => ?_) (fun hc4 => ?_)
  · replace h := h.2 hc4
    refine s_aload_n j43 rfl rfl ?_
    refine s_ldc_wS j44 rfl ?_
    refine s_virt j47 rfl rfl rfl rfl (am_is_ext hx2 ho1) (by decide) (in_Ro_takes _ _) (am_r8 rfl) (am_bB h (fun a14 σ13 h hx13 => ?_))
    replace h := h hx13
    refine s_ifn j50 rfl rfl am_cb_eq (fun hc15 => ?_) (fun hc15 => ?_)
    · replace h := h.2 hc15
      refine s_aload_n j57 rfl rfl ?_
      refine s_ldc_wS j58 rfl ?_
      refine s_virt j61 rfl rfl rfl rfl (am_is_ext hx13 (am_is_ext hx2 ho1)) (by decide) (in_Ro_takes _ _) (am_r8 rfl) (am_bB h (fun a17 σ16 h hx16 => ?_))
      replace h := h hx16
      refine s_ifn j64 rfl rfl am_cb_eq (fun hc18 => ?_) (fun hc18 => ?_)
      · replace h := h.2 hc18
        refine s_aload_n j71 rfl rfl ?_
        refine s_ldc_wS j72 rfl ?_
        refine s_virt j75 rfl rfl rfl rfl (am_is_ext hx16 (am_is_ext hx13 (am_is_ext hx2 ho1))) (by decide) (in_Ro_takes _ _) (am_r8 rfl) (am_bB h (fun a20 σ19 h hx19 => ?_))
        replace h := h hx19
        refine s_ifn j78 rfl rfl am_cb_eq (fun hc21 => ?_) (fun hc21 => ?_)
        · replace h := h.2 hc21
          refine s_aload_n j85 rfl rfl ?_
          refine s_ldc_wS j86 rfl ?_
          refine s_virt j89 rfl rfl rfl rfl (am_is_ext hx19 (am_is_ext hx16 (am_is_ext hx13 (am_is_ext hx2 ho1)))) (by decide) (in_Ro_takes _ _) (am_r8 rfl) (am_bB h (fun a23 σ22 h hx22 => ?_))
          replace h := h hx22
          refine s_ifn j92 rfl rfl am_cb_eq (fun hc24 => ?_) (fun hc24 => ?_)
          · replace h := h.2 hc24
            refine s_aload_n j100 rfl rfl ?_
            refine s_ldc_wS j101 rfl ?_
            refine s_virt j104 rfl rfl rfl rfl (am_is_ext hx22 (am_is_ext hx19 (am_is_ext hx16 (am_is_ext hx13 (am_is_ext hx2 ho1))))) (by decide) (in_Ro_takes _ _) (am_r8 rfl) (am_bB h (fun a26 σ25 h hx25 => ?_))
            replace h := h hx25
            have K28 : ∀ (w29 : Int32), w29 = (if a26 = true then (9 : Int32) else (-1 : Int32)) → am_C (TT nl Ln xs) (d + 1) 289 116 [some (am_ov (some this)), none] [.int w29] σ25 (am_qI F) := by
              intro w29 hw30
              replace h := h w29 hw30
              exact h
            refine s_ifn j107 rfl rfl am_cb_eq (fun hc27 => ?_) (fun hc27 => ?_)
            · refine s_iconst j115 rfl kc_ic_m1 ?_
              exact K28 _ (am_t2 hc27 rfl)
            · refine s_bipush j110 rfl kc_bi_9 ?_
              refine s_goto j112 rfl rfl ?_
              exact K28 _ (am_t1 hc27 rfl)
          · replace h := h.1 hc24
            refine s_bipush j95 rfl kc_bi_7 ?_
            refine s_goto j97 rfl rfl ?_
            exact h
        · replace h := h.1 hc21
          refine s_iconst j81 rfl kc_ic_4 ?_
          refine s_goto j82 rfl rfl ?_
          exact h
      · replace h := h.1 hc18
        refine s_iconst j67 rfl kc_ic_3 ?_
        refine s_goto j68 rfl rfl ?_
        exact h
    · replace h := h.1 hc15
      refine s_iconst j53 rfl kc_ic_2 ?_
      refine s_goto j54 rfl rfl ?_
      exact h
  · replace h := h.1 hc4
    refine s_aload_n j10 rfl rfl ?_
    refine s_ldc_wS j11 rfl ?_
    refine s_virt j14 rfl rfl rfl rfl (am_is_ext hx2 ho1) (by decide) (in_Ro_takes _ _) (am_r8 rfl) (am_bB h (fun a6 σ5 h hx5 => ?_))
    replace h := h hx5
    refine s_ifn j17 rfl rfl am_cb_eq (fun hc7 => ?_) (fun hc7 => ?_)
    · replace h := h.2 hc7
      refine s_aload_n j22 rfl rfl ?_
      refine s_ldc_wS j23 rfl ?_
      refine s_virt j26 rfl rfl rfl rfl (am_is_ext hx5 (am_is_ext hx2 ho1)) (by decide) (in_Ro_takes _ _) (am_r8 rfl) (am_bB h (fun a9 σ8 h hx8 => ?_))
      replace h := h hx8
      refine s_if j29 rfl rfl am_cb_ne (fun hc10 => ?_) (fun hc10 => ?_)
      · replace h := h.1 hc10
        refine s_bipush j40 rfl kc_bi_6 ?_
        exact s_retI j42 rfl h
      · replace h := h.2 hc10
        refine s_aload_n j32 rfl rfl ?_
        refine s_aload_n j33 rfl rfl ?_
        refine s_gfI j34 rfl (am_is_ext hx8 (am_is_ext hx5 (am_is_ext hx2 ho1))) ?_
        refine s_virt j37 rfl rfl rfl rfl (am_is_ext hx8 (am_is_ext hx5 (am_is_ext hx2 ho1))) (by decide) (in_Ro_wrong _ _) (am_r8 rfl) (am_bV h (fun σ11 h hx11 => ?_))
        replace h := h hx11
        refine s_bipush j40 rfl kc_bi_6 ?_
        exact s_retI j42 rfl h
    · replace h := h.1 hc7
      refine s_iconst j20 rfl kc_ic_5 ?_
      exact s_retI j21 rfl h
theorem P_Ro_numbered_116 (nl : Bool) (Ln : Nat) (xs : Nat → Int32) : am_Jl (TT nl Ln xs) 289 [(116, .istore_n 1, 117, []), (117, .iload_n 1, 118, []), (118, .iconst (-1), 119, []), (119, .if_icmp .ne 11, 122, []), (122, .aload_n 0, 123, []), (123, .aload_n 0, 124, []), (124, .getfield 630, 127, [9, 13, 93, 0]), (127, .invokevirtual 671, 130, [10, 277, 14, 2, 2]), (130, .iload_n 1, 131, []), (131, .ireturn, 132, [1])] := dk_ck (by decide +kernel)
set_option maxRecDepth 4096 in
theorem w_Ro_numbered_116 {nl : Bool} {Ln : Nat} {xs : Nat → Int32} {d : Nat} {this : Nat} {y0 : Int32} {σ : am_S} {F : Int32 → am_S → Prop} (h : (y0 = (-1 : Int32) → (am_is σ (some this) 13) ∧ k_Ro_wrong nl Ln xs d this (am_fI σ 13093 this) σ (fun σ3 => am_ext σ σ3 → F y0 σ3)) ∧ (¬ (y0 = (-1 : Int32)) → F y0 σ)) : c_Ro_numbered_116 nl Ln xs (d + 1) this y0 σ F := by
  obtain ⟨j116, j117, j118, j119, j122, j123, j124, j127, j130, j131, -⟩ := P_Ro_numbered_116 nl Ln xs
  unfold c_Ro_numbered_116
  refine s_istore_n j116 rfl (n := 2) (L' := [some (am_ov (some this)), some (.int y0)]) rfl (by decide) (am_st1_R [] _ _ _ _) ?_
  refine s_iload_n j117 rfl rfl ?_
  refine s_iconst j118 rfl kc_ic_m1 ?_
  refine s_icn j119 rfl rfl am_cc_ne (fun hc1 => ?_) (fun hc1 => ?_)
  · replace h := h.2 hc1
    refine s_iload_n j130 rfl rfl ?_
    exact s_retI j131 rfl h
  · replace h := h.1 hc1
    refine s_aload_n j122 rfl rfl ?_
    refine s_aload_n j123 rfl rfl ?_
    obtain ⟨ho2, h⟩ := h
    refine s_gfI j124 rfl ho2 ?_
    refine s_virt j127 rfl rfl rfl rfl ho2 (by decide) (in_Ro_wrong _ _) (am_r8 rfl) (am_bV h (fun σ3 h hx3 => ?_))
    replace h := h hx3
    refine s_iload_n j130 rfl rfl ?_
    exact s_retI j131 rfl h
theorem P_Ro_ruleTold (nl : Bool) (Ln : Nat) (xs : Nat → Int32) : am_Jl (TT nl Ln xs) 290 [(0, .aload_n 0, 1, []), (1, .aload_n 1, 2, []), (2, .iconst 0, 3, []), (3, .laload, 4, []), (4, .invokevirtual 518, 7, [10, 271, 14, 3, 2]), (7, .ifCond .eq 16, 10, []), (10, .aload_n 1, 11, []), (11, .iconst 1, 12, []), (12, .laload, 13, []), (13, .lconst 0, 14, []), (14, .ldc2_w 524, 17, [6, 2]), (17, .invokestatic 364, 20, [12, 209, 6, 3]), (20, .ifCond .ne 6, 23, []), (23, .bipush (-2), 25, []), (25, .ireturn, 26, [1]), (26, .aload_n 0, 27, []), (27, .getfield 225, 30, [9, 13, 20, 0]), (30, .sipush 150, 33, []), (33, .if_icmp .ne 6, 36, []), (36, .bipush (-7), 38, []), (38, .ireturn, 39, [1]), (39, .aload_n 0, 40, []), (40, .getfield 59, 43, [9, 13, 21, 2]), (43, .aload_n 0, 44, []), (44, .getfield 225, 47, [9, 13, 20, 0]), (47, .aload_n 1, 48, []), (48, .iconst 0, 49, []), (49, .laload, 50, []), (50, .l2i, 51, []), (51, .iastore, 52, []), (52, .aload_n 0, 53, []), (53, .getfield 62, 56, [9, 13, 22, 2]), (56, .aload_n 0, 57, []), (57, .getfield 225, 60, [9, 13, 20, 0]), (60, .aload_n 1, 61, []), (61, .iconst 1, 62, []), (62, .laload, 63, []), (63, .l2i, 64, []), (64, .iastore, 65, []), (65, .aload_n 0, 66, []), (66, .getfield 65, 69, [9, 13, 23, 2]), (69, .aload_n 0, 70, []), (70, .getfield 225, 73, [9, 13, 20, 0]), (73, .aload_n 0, 74, []), (74, .getfield 206, 77, [9, 13, 0, 0]), (77, .iconst 1, 78, []), (78, .iadd, 79, []), (79, .iastore, 80, []), (80, .aload_n 0, 81, []), (81, .dup, 82, []), (82, .getfield 225, 85, [9, 13, 20, 0]), (85, .iconst 1, 86, []), (86, .iadd, 87, []), (87, .putfield 225, 90, [9, 13, 20, 0]), (90, .aload_n 0, 91, []), (91, .bipush 7, 93, []), (93, .aload_n 1, 94, []), (94, .iconst 1, 95, []), (95, .invokevirtual 503, 98, [10, 265, 14, 4, 4]), (98, .ireturn, 99, [1])] := dk_ck (by decide +kernel)
set_option maxRecDepth 4096 in
theorem w_Ro_ruleTold {nl : Bool} {Ln : Nat} {xs : Nat → Int32} {d : Nat} {this : Nat} {p0 : Option Nat} {σ : am_S} {F : Int32 → am_S → Prop} (h : (am_ar σ 1001 p0 (0 : Int32)) ∧ (am_is σ (some this) 13) ∧ k_Ro_isCover nl Ln xs d this (am_aL σ (p0.getD 0) (0 : Int32).toNatClampNeg) σ (fun a4 σ3 => am_ext σ σ3 → (a4 = true → (am_ar σ3 1001 p0 (1 : Int32)) ∧ k_Rm_in nl Ln xs d (am_aL σ3 (p0.getD 0) (1 : Int32).toNatClampNeg) (0 : Int64) (2 : Int64) σ3 (fun a8 σ7 => am_ext σ3 σ7 → (a8 = true → ((am_fI σ7 13020 this) = (150 : Int32) → F (-7 : Int32) σ7) ∧ (¬ ((am_fI σ7 13020 this) = (150 : Int32)) → (am_ar σ7 1001 p0 (0 : Int32)) ∧ (am_ar σ7 1000 (am_fR σ7 13021 this) (am_fI σ7 13020 this)) ∧ ∀ σ13, σ13 = am_saI σ7 ((am_fR σ7 13021 this).getD 0) (am_fI σ7 13020 this).toNatClampNeg ((am_aL σ7 (p0.getD 0) (0 : Int32).toNatClampNeg).toInt32) → (am_ar σ13 1001 p0 (1 : Int32)) ∧ (am_ar σ13 1000 (am_fR σ13 13022 this) (am_fI σ13 13020 this)) ∧ ∀ σ18, σ18 = am_saI σ13 ((am_fR σ13 13022 this).getD 0) (am_fI σ13 13020 this).toNatClampNeg ((am_aL σ13 (p0.getD 0) (1 : Int32).toNatClampNeg).toInt32) → (am_ar σ18 1000 (am_fR σ18 13023 this) (am_fI σ18 13020 this)) ∧ ∀ σ22, σ22 = am_saI σ18 ((am_fR σ18 13023 this).getD 0) (am_fI σ18 13020 this).toNatClampNeg ((am_fI σ18 13000 this) + (1 : Int32)) → ∀ σ25, σ25 = am_sfI σ22 13020 this ((am_fI σ22 13020 this) + (1 : Int32)) → k_Ro_done nl Ln xs d this (7 : Int32) p0 (1 : Int32) σ25 (fun a29 σ28 => am_ext σ25 σ28 → F a29 σ28))) ∧ (¬ (a8 = true) → F (-2 : Int32) σ7))) ∧ (¬ (a4 = true) → F (-2 : Int32) σ3))) : k_Ro_ruleTold nl Ln xs (d + 1) this p0 σ F := by
  obtain ⟨j0, j1, j2, j3, j4, j7, j10, j11, j12, j13, j14, j17, j20, j23, j25, j26, j27, j30, j33, j36, j38, j39, j40, j43, j44, j47, j48, j49, j50, j51, j52, j53, j56, j57, j60, j61, j62, j63, j64, j65, j66, j69, j70, j73, j74, j77, j78, j79, j80, j81, j82, j85, j86, j87, j90, j91, j93, j94, j95, j98, -⟩ := P_Ro_ruleTold nl Ln xs
  have elo : am_lo 2 [am_ov (some this), am_ov p0] = [some (am_ov (some this)), some (am_ov p0)] := by simp only [am_lo, am_in_ov, am_in_int, am_in_long, am_in_nil]; rfl
  unfold k_Ro_ruleTold
  rw [elo]
  refine s_aload_n j0 rfl rfl ?_
  refine s_aload_n j1 rfl rfl ?_
  refine s_iconst j2 rfl kc_ic_0 ?_
  obtain ⟨ho1, h⟩ := h
  refine s_laload j3 rfl ho1 ?_
  obtain ⟨ho2, h⟩ := h
  refine s_virt j4 rfl rfl rfl rfl ho2 (by decide) (in_Ro_isCover _ _) (am_r8 rfl) (am_bB h (fun a4 σ3 h hx3 => ?_))
  replace h := h hx3
  refine s_ifn j7 rfl rfl am_cb_eq (fun hc5 => ?_) (fun hc5 => ?_)
  · replace h := h.2 hc5
    refine s_bipush j23 rfl kc_bi_m2 ?_
    exact s_retI j25 rfl h
  · replace h := h.1 hc5
    refine s_aload_n j10 rfl rfl ?_
    refine s_iconst j11 rfl kc_ic_1 ?_
    obtain ⟨ho6, h⟩ := h
    refine s_laload j12 rfl ho6 ?_
    refine s_lconst j13 rfl rfl ?_
    refine s_ldc2 j14 rfl kc_ll_2 ?_
    refine s_stat j17 rfl rfl rfl rfl (by decide) (in_Rm_in _ _ _) (am_r8 rfl) (am_bB h (fun a8 σ7 h hx7 => ?_))
    replace h := h hx7
    refine s_if j20 rfl rfl am_cb_ne (fun hc9 => ?_) (fun hc9 => ?_)
    · replace h := h.1 hc9
      refine s_aload_n j26 rfl rfl ?_
      refine s_gfI j27 rfl (am_is_ext hx7 (am_is_ext hx3 ho2)) ?_
      refine s_sipush j30 rfl kc_si_150 ?_
      refine s_icn j33 rfl rfl am_cc_ne (fun hc10 => ?_) (fun hc10 => ?_)
      · replace h := h.2 hc10
        refine s_aload_n j39 rfl rfl ?_
        refine s_gfR j40 rfl (am_is_ext hx7 (am_is_ext hx3 ho2)) ?_
        refine s_aload_n j43 rfl rfl ?_
        refine s_gfI j44 rfl (am_is_ext hx7 (am_is_ext hx3 ho2)) ?_
        refine s_aload_n j47 rfl rfl ?_
        refine s_iconst j48 rfl kc_ic_0 ?_
        obtain ⟨ho11, h⟩ := h
        refine s_laload j49 rfl ho11 ?_
        refine s_g j50 rfl rfl rfl rfl rfl rfl ?_
        obtain ⟨ho12, h⟩ := h
        refine s_iastore j51 rfl ho12 (fun σ13 e14 => ?_)
        replace h := h σ13 e14
        have ek15 : am_kd σ13 = am_kd σ7 := by rw [e14]
        refine s_aload_n j52 rfl rfl ?_
        refine s_gfR j53 rfl (am_is_kd ek15 (am_is_ext hx7 (am_is_ext hx3 ho2))) ?_
        refine s_aload_n j56 rfl rfl ?_
        refine s_gfI j57 rfl (am_is_kd ek15 (am_is_ext hx7 (am_is_ext hx3 ho2))) ?_
        refine s_aload_n j60 rfl rfl ?_
        refine s_iconst j61 rfl kc_ic_1 ?_
        obtain ⟨ho16, h⟩ := h
        refine s_laload j62 rfl ho16 ?_
        refine s_g j63 rfl rfl rfl rfl rfl rfl ?_
        obtain ⟨ho17, h⟩ := h
        refine s_iastore j64 rfl ho17 (fun σ18 e19 => ?_)
        replace h := h σ18 e19
        have ek20 : am_kd σ18 = am_kd σ13 := by rw [e19]
        refine s_aload_n j65 rfl rfl ?_
        refine s_gfR j66 rfl (am_is_kd ek20 (am_is_kd ek15 (am_is_ext hx7 (am_is_ext hx3 ho2)))) ?_
        refine s_aload_n j69 rfl rfl ?_
        refine s_gfI j70 rfl (am_is_kd ek20 (am_is_kd ek15 (am_is_ext hx7 (am_is_ext hx3 ho2)))) ?_
        refine s_aload_n j73 rfl rfl ?_
        refine s_gfI j74 rfl (am_is_kd ek20 (am_is_kd ek15 (am_is_ext hx7 (am_is_ext hx3 ho2)))) ?_
        refine s_iconst j77 rfl kc_ic_1 ?_
        refine s_g j78 rfl rfl rfl rfl rfl rfl ?_
        obtain ⟨ho21, h⟩ := h
        refine s_iastore j79 rfl ho21 (fun σ22 e23 => ?_)
        replace h := h σ22 e23
        have ek24 : am_kd σ22 = am_kd σ18 := by rw [e23]
        refine s_aload_n j80 rfl rfl ?_
        refine s_dup j81 rfl (am_cov _) ?_
        refine s_gfI j82 rfl (am_is_kd ek24 (am_is_kd ek20 (am_is_kd ek15 (am_is_ext hx7 (am_is_ext hx3 ho2))))) ?_
        refine s_iconst j85 rfl kc_ic_1 ?_
        refine s_g j86 rfl rfl rfl rfl rfl rfl ?_
        refine s_pfI j87 rfl (am_is_kd ek24 (am_is_kd ek20 (am_is_kd ek15 (am_is_ext hx7 (am_is_ext hx3 ho2))))) (fun σ25 e26 => ?_)
        replace h := h σ25 e26
        have ek27 : am_kd σ25 = am_kd σ22 := by rw [e26]
        refine s_aload_n j90 rfl rfl ?_
        refine s_bipush j91 rfl kc_bi_7 ?_
        refine s_aload_n j93 rfl rfl ?_
        refine s_iconst j94 rfl kc_ic_1 ?_
        refine s_virt j95 rfl rfl rfl rfl (am_is_kd ek27 (am_is_kd ek24 (am_is_kd ek20 (am_is_kd ek15 (am_is_ext hx7 (am_is_ext hx3 ho2)))))) (by decide) (in_Ro_done _ _ _ _) (am_r8 rfl) (am_bI h (fun a29 σ28 h hx28 => ?_))
        replace h := h hx28
        exact s_retI j98 rfl h
      · replace h := h.1 hc10
        refine s_bipush j36 rfl kc_bi_m7 ?_
        exact s_retI j38 rfl h
    · replace h := h.2 hc9
      refine s_bipush j23 rfl kc_bi_m2 ?_
      exact s_retI j25 rfl h
theorem P_Ro_lossTold (nl : Bool) (Ln : Nat) (xs : Nat → Int32) : am_Jl (TT nl Ln xs) 291 [(0, .aload_n 1, 1, []), (1, .iconst 0, 2, []), (2, .laload, 3, []), (3, .lconst 0, 4, []), (4, .ldc2_w 526, 7, [6, 4]), (7, .invokestatic 364, 10, [12, 209, 6, 3]), (10, .ifCond .eq 16, 13, []), (13, .aload_n 1, 14, []), (14, .iconst 1, 15, []), (15, .laload, 16, []), (16, .lconst 0, 17, []), (17, .ldc2_w 513, 20, [6, 10949]), (20, .invokestatic 364, 23, [12, 209, 6, 3]), (23, .ifCond .ne 6, 26, []), (26, .bipush (-2), 28, []), (28, .ireturn, 29, [1]), (29, .aload_n 0, 30, []), (30, .getfield 234, 33, [9, 13, 35, 0]), (33, .sipush 200, 36, []), (36, .if_icmp .ne 8, 39, []), (39, .bipush (-7), 41, []), (41, .goto 20, 44, []), (44, .aload_n 0, 45, []), (45, .bipush 8, 47, []), (47, .aload_n 1, 48, []), (48, .aload_n 1, 49, []), (49, .iconst 0, 50, []), (50, .laload, 51, []), (51, .l2i, 52, []), (52, .aload_n 1, 53, []), (53, .iconst 1, 54, []), (54, .laload, 55, []), (55, .l2i, 56, []), (56, .iconst (-1), 57, []), (57, .iconst 0, 58, []), (58, .invokevirtual 528, 61, [10, 292, 14, 7, 7]), (61, .ireturn, 62, [1])] := dk_ck (by decide +kernel)
set_option maxRecDepth 4096 in
theorem w_Ro_lossTold {nl : Bool} {Ln : Nat} {xs : Nat → Int32} {d : Nat} {this : Nat} {p0 : Option Nat} {σ : am_S} {F : Int32 → am_S → Prop} (h : (am_ar σ 1001 p0 (0 : Int32)) ∧ k_Rm_in nl Ln xs d (am_aL σ (p0.getD 0) (0 : Int32).toNatClampNeg) (0 : Int64) (4 : Int64) σ (fun a3 σ2 => am_ext σ σ2 → (a3 = true → (am_ar σ2 1001 p0 (1 : Int32)) ∧ k_Rm_in nl Ln xs d (am_aL σ2 (p0.getD 0) (1 : Int32).toNatClampNeg) (0 : Int64) (10949 : Int64) σ2 (fun a7 σ6 => am_ext σ2 σ6 → (a7 = true → (am_is σ6 (some this) 13) ∧ ((am_fI σ6 13035 this) = (200 : Int32) → F (-7 : Int32) σ6) ∧ (¬ ((am_fI σ6 13035 this) = (200 : Int32)) → (am_ar σ6 1001 p0 (0 : Int32)) ∧ (am_ar σ6 1001 p0 (1 : Int32)) ∧ k_Ro_newLoss nl Ln xs d this (8 : Int32) p0 ((am_aL σ6 (p0.getD 0) (0 : Int32).toNatClampNeg).toInt32) ((am_aL σ6 (p0.getD 0) (1 : Int32).toNatClampNeg).toInt32) (-1 : Int32) (0 : Int32) σ6 (fun a14 σ13 => am_ext σ6 σ13 → F a14 σ13))) ∧ (¬ (a7 = true) → F (-2 : Int32) σ6))) ∧ (¬ (a3 = true) → F (-2 : Int32) σ2))) : k_Ro_lossTold nl Ln xs (d + 1) this p0 σ F := by
  obtain ⟨j0, j1, j2, j3, j4, j7, j10, j13, j14, j15, j16, j17, j20, j23, j26, j28, j29, j30, j33, j36, j39, j41, j44, j45, j47, j48, j49, j50, j51, j52, j53, j54, j55, j56, j57, j58, j61, -⟩ := P_Ro_lossTold nl Ln xs
  have elo : am_lo 2 [am_ov (some this), am_ov p0] = [some (am_ov (some this)), some (am_ov p0)] := by simp only [am_lo, am_in_ov, am_in_int, am_in_long, am_in_nil]; rfl
  unfold k_Ro_lossTold
  rw [elo]
  refine s_aload_n j0 rfl rfl ?_
  refine s_iconst j1 rfl kc_ic_0 ?_
  obtain ⟨ho1, h⟩ := h
  refine s_laload j2 rfl ho1 ?_
  refine s_lconst j3 rfl rfl ?_
  refine s_ldc2 j4 rfl kc_ll_4 ?_
  refine s_stat j7 rfl rfl rfl rfl (by decide) (in_Rm_in _ _ _) (am_r8 rfl) (am_bB h (fun a3 σ2 h hx2 => ?_))
  replace h := h hx2
  refine s_ifn j10 rfl rfl am_cb_eq (fun hc4 => ?_) (fun hc4 => ?_)
  · replace h := h.2 hc4
    refine s_bipush j26 rfl kc_bi_m2 ?_
    exact s_retI j28 rfl h
  · replace h := h.1 hc4
    refine s_aload_n j13 rfl rfl ?_
    refine s_iconst j14 rfl kc_ic_1 ?_
    obtain ⟨ho5, h⟩ := h
    refine s_laload j15 rfl ho5 ?_
    refine s_lconst j16 rfl rfl ?_
    refine s_ldc2 j17 rfl kc_ll_10949 ?_
    refine s_stat j20 rfl rfl rfl rfl (by decide) (in_Rm_in _ _ _) (am_r8 rfl) (am_bB h (fun a7 σ6 h hx6 => ?_))
    replace h := h hx6
    refine s_if j23 rfl rfl am_cb_ne (fun hc8 => ?_) (fun hc8 => ?_)
    · replace h := h.1 hc8
      refine s_aload_n j29 rfl rfl ?_
      obtain ⟨ho9, h⟩ := h
      refine s_gfI j30 rfl ho9 ?_
      refine s_sipush j33 rfl kc_si_200 ?_
      refine s_icn j36 rfl rfl am_cc_ne (fun hc10 => ?_) (fun hc10 => ?_)
      · replace h := h.2 hc10
        refine s_aload_n j44 rfl rfl ?_
        refine s_bipush j45 rfl kc_bi_8 ?_
        refine s_aload_n j47 rfl rfl ?_
        refine s_aload_n j48 rfl rfl ?_
        refine s_iconst j49 rfl kc_ic_0 ?_
        obtain ⟨ho11, h⟩ := h
        refine s_laload j50 rfl ho11 ?_
        refine s_g j51 rfl rfl rfl rfl rfl rfl ?_
        refine s_aload_n j52 rfl rfl ?_
        refine s_iconst j53 rfl kc_ic_1 ?_
        obtain ⟨ho12, h⟩ := h
        refine s_laload j54 rfl ho12 ?_
        refine s_g j55 rfl rfl rfl rfl rfl rfl ?_
        refine s_iconst j56 rfl kc_ic_m1 ?_
        refine s_iconst j57 rfl kc_ic_0 ?_
        refine s_virt j58 rfl rfl rfl rfl ho9 (by decide) (in_Ro_newLoss _ _ _ _ _ _ _) (am_r8 rfl) (am_bI h (fun a14 σ13 h hx13 => ?_))
        replace h := h hx13
        exact s_retI j61 rfl h
      · replace h := h.1 hc10
        refine s_bipush j39 rfl kc_bi_m7 ?_
        refine s_goto j41 rfl rfl ?_
        exact s_retI j61 rfl h
    · replace h := h.2 hc8
      refine s_bipush j26 rfl kc_bi_m2 ?_
      exact s_retI j28 rfl h
theorem P_Ro_newLoss (nl : Bool) (Ln : Nat) (xs : Nat → Int32) : am_Jl (TT nl Ln xs) 292 [(0, .aload_n 0, 1, []), (1, .getfield 95, 4, [9, 13, 36, 2]), (4, .aload_n 0, 5, []), (5, .getfield 234, 8, [9, 13, 35, 0]), (8, .iload_n 3, 9, []), (9, .iastore, 10, []), (10, .aload_n 0, 11, []), (11, .getfield 98, 14, [9, 13, 37, 2]), (14, .aload_n 0, 15, []), (15, .getfield 234, 18, [9, 13, 35, 0]), (18, .iload 4, 20, []), (20, .iastore, 21, []), (21, .aload_n 0, 22, []), (22, .getfield 101, 25, [9, 13, 38, 2]), (25, .aload_n 0, 26, []), (26, .getfield 234, 29, [9, 13, 35, 0]), (29, .iload 5, 31, []), (31, .iastore, 32, []), (32, .aload_n 0, 33, []), (33, .getfield 104, 36, [9, 13, 39, 2]), (36, .aload_n 0, 37, []), (37, .getfield 234, 40, [9, 13, 35, 0]), (40, .iload 6, 42, []), (42, .iastore, 43, []), (43, .aload_n 0, 44, []), (44, .getfield 107, 47, [9, 13, 40, 2]), (47, .aload_n 0, 48, []), (48, .getfield 234, 51, [9, 13, 35, 0]), (51, .iconst 0, 52, []), (52, .iastore, 53, []), (53, .aload_n 0, 54, []), (54, .getfield 110, 57, [9, 13, 41, 2]), (57, .aload_n 0, 58, []), (58, .getfield 234, 61, [9, 13, 35, 0]), (61, .iconst 0, 62, []), (62, .bastore, 63, []), (63, .aload_n 0, 64, []), (64, .dup, 65, []), (65, .getfield 234, 68, [9, 13, 35, 0]), (68, .iconst 1, 69, []), (69, .iadd, 70, []), (70, .putfield 234, 73, [9, 13, 35, 0]), (73, .aload_n 0, 74, []), (74, .iload_n 1, 75, []), (75, .aload_n 2, 76, []), (76, .aload_n 0, 77, []), (77, .getfield 234, 80, [9, 13, 35, 0]), (80, .iconst 1, 81, []), (81, .isub, 82, []), (82, .invokevirtual 503, 85, [10, 265, 14, 4, 4]), (85, .ireturn, 86, [1])] := dk_ck (by decide +kernel)
set_option maxRecDepth 4096 in
theorem w_Ro_newLoss {nl : Bool} {Ln : Nat} {xs : Nat → Int32} {d : Nat} {this : Nat} {p0 : Int32} {p1 : Option Nat} {p2 : Int32} {p3 : Int32} {p4 : Int32} {p5 : Int32} {σ : am_S} {F : Int32 → am_S → Prop} (h : (am_is σ (some this) 13) ∧ (am_ar σ 1000 (am_fR σ 13036 this) (am_fI σ 13035 this)) ∧ ∀ σ3, σ3 = am_saI σ ((am_fR σ 13036 this).getD 0) (am_fI σ 13035 this).toNatClampNeg p2 → (am_ar σ3 1000 (am_fR σ3 13037 this) (am_fI σ3 13035 this)) ∧ ∀ σ7, σ7 = am_saI σ3 ((am_fR σ3 13037 this).getD 0) (am_fI σ3 13035 this).toNatClampNeg p3 → (am_ar σ7 1000 (am_fR σ7 13038 this) (am_fI σ7 13035 this)) ∧ ∀ σ11, σ11 = am_saI σ7 ((am_fR σ7 13038 this).getD 0) (am_fI σ7 13035 this).toNatClampNeg p4 → (am_ar σ11 1000 (am_fR σ11 13039 this) (am_fI σ11 13035 this)) ∧ ∀ σ15, σ15 = am_saI σ11 ((am_fR σ11 13039 this).getD 0) (am_fI σ11 13035 this).toNatClampNeg p5 → (am_ar σ15 1000 (am_fR σ15 13040 this) (am_fI σ15 13035 this)) ∧ ∀ σ19, σ19 = am_saI σ15 ((am_fR σ15 13040 this).getD 0) (am_fI σ15 13035 this).toNatClampNeg (0 : Int32) → (am_ar σ19 1003 (am_fR σ19 13041 this) (am_fI σ19 13035 this)) ∧ ∀ σ23, σ23 = am_saI σ19 ((am_fR σ19 13041 this).getD 0) (am_fI σ19 13035 this).toNatClampNeg (vp_nar .boolean (0 : Int32)) → ∀ σ26, σ26 = am_sfI σ23 13035 this ((am_fI σ23 13035 this) + (1 : Int32)) → k_Ro_done nl Ln xs d this p0 p1 ((am_fI σ26 13035 this) - (1 : Int32)) σ26 (fun a30 σ29 => am_ext σ26 σ29 → F a30 σ29)) : k_Ro_newLoss nl Ln xs (d + 1) this p0 p1 p2 p3 p4 p5 σ F := by
  obtain ⟨j0, j1, j4, j5, j8, j9, j10, j11, j14, j15, j18, j20, j21, j22, j25, j26, j29, j31, j32, j33, j36, j37, j40, j42, j43, j44, j47, j48, j51, j52, j53, j54, j57, j58, j61, j62, j63, j64, j65, j68, j69, j70, j73, j74, j75, j76, j77, j80, j81, j82, j85, -⟩ := P_Ro_newLoss nl Ln xs
  have elo : am_lo 7 [am_ov (some this), .int p0, am_ov p1, .int p2, .int p3, .int p4, .int p5] = [some (am_ov (some this)), some (.int p0), some (am_ov p1), some (.int p2), some (.int p3), some (.int p4), some (.int p5)] := by simp only [am_lo, am_in_ov, am_in_int, am_in_long, am_in_nil]; rfl
  unfold k_Ro_newLoss
  rw [elo]
  refine s_aload_n j0 rfl rfl ?_
  obtain ⟨ho1, h⟩ := h
  refine s_gfR j1 rfl ho1 ?_
  refine s_aload_n j4 rfl rfl ?_
  refine s_gfI j5 rfl ho1 ?_
  refine s_iload_n j8 rfl rfl ?_
  obtain ⟨ho2, h⟩ := h
  refine s_iastore j9 rfl ho2 (fun σ3 e4 => ?_)
  replace h := h σ3 e4
  have ek5 : am_kd σ3 = am_kd σ := by rw [e4]
  refine s_aload_n j10 rfl rfl ?_
  refine s_gfR j11 rfl (am_is_kd ek5 ho1) ?_
  refine s_aload_n j14 rfl rfl ?_
  refine s_gfI j15 rfl (am_is_kd ek5 ho1) ?_
  refine s_iload j18 rfl rfl ?_
  obtain ⟨ho6, h⟩ := h
  refine s_iastore j20 rfl ho6 (fun σ7 e8 => ?_)
  replace h := h σ7 e8
  have ek9 : am_kd σ7 = am_kd σ3 := by rw [e8]
  refine s_aload_n j21 rfl rfl ?_
  refine s_gfR j22 rfl (am_is_kd ek9 (am_is_kd ek5 ho1)) ?_
  refine s_aload_n j25 rfl rfl ?_
  refine s_gfI j26 rfl (am_is_kd ek9 (am_is_kd ek5 ho1)) ?_
  refine s_iload j29 rfl rfl ?_
  obtain ⟨ho10, h⟩ := h
  refine s_iastore j31 rfl ho10 (fun σ11 e12 => ?_)
  replace h := h σ11 e12
  have ek13 : am_kd σ11 = am_kd σ7 := by rw [e12]
  refine s_aload_n j32 rfl rfl ?_
  refine s_gfR j33 rfl (am_is_kd ek13 (am_is_kd ek9 (am_is_kd ek5 ho1))) ?_
  refine s_aload_n j36 rfl rfl ?_
  refine s_gfI j37 rfl (am_is_kd ek13 (am_is_kd ek9 (am_is_kd ek5 ho1))) ?_
  refine s_iload j40 rfl rfl ?_
  obtain ⟨ho14, h⟩ := h
  refine s_iastore j42 rfl ho14 (fun σ15 e16 => ?_)
  replace h := h σ15 e16
  have ek17 : am_kd σ15 = am_kd σ11 := by rw [e16]
  refine s_aload_n j43 rfl rfl ?_
  refine s_gfR j44 rfl (am_is_kd ek17 (am_is_kd ek13 (am_is_kd ek9 (am_is_kd ek5 ho1)))) ?_
  refine s_aload_n j47 rfl rfl ?_
  refine s_gfI j48 rfl (am_is_kd ek17 (am_is_kd ek13 (am_is_kd ek9 (am_is_kd ek5 ho1)))) ?_
  refine s_iconst j51 rfl kc_ic_0 ?_
  obtain ⟨ho18, h⟩ := h
  refine s_iastore j52 rfl ho18 (fun σ19 e20 => ?_)
  replace h := h σ19 e20
  have ek21 : am_kd σ19 = am_kd σ15 := by rw [e20]
  refine s_aload_n j53 rfl rfl ?_
  refine s_gfR j54 rfl (am_is_kd ek21 (am_is_kd ek17 (am_is_kd ek13 (am_is_kd ek9 (am_is_kd ek5 ho1))))) ?_
  refine s_aload_n j57 rfl rfl ?_
  refine s_gfI j58 rfl (am_is_kd ek21 (am_is_kd ek17 (am_is_kd ek13 (am_is_kd ek9 (am_is_kd ek5 ho1))))) ?_
  refine s_iconst j61 rfl kc_ic_0 ?_
  obtain ⟨ho22, h⟩ := h
  refine s_zastore j62 rfl ho22 (fun σ23 e24 => ?_)
  replace h := h σ23 e24
  have ek25 : am_kd σ23 = am_kd σ19 := by rw [e24]
  refine s_aload_n j63 rfl rfl ?_
  refine s_dup j64 rfl (am_cov _) ?_
  refine s_gfI j65 rfl (am_is_kd ek25 (am_is_kd ek21 (am_is_kd ek17 (am_is_kd ek13 (am_is_kd ek9 (am_is_kd ek5 ho1)))))) ?_
  refine s_iconst j68 rfl kc_ic_1 ?_
  refine s_g j69 rfl rfl rfl rfl rfl rfl ?_
  refine s_pfI j70 rfl (am_is_kd ek25 (am_is_kd ek21 (am_is_kd ek17 (am_is_kd ek13 (am_is_kd ek9 (am_is_kd ek5 ho1)))))) (fun σ26 e27 => ?_)
  replace h := h σ26 e27
  have ek28 : am_kd σ26 = am_kd σ23 := by rw [e27]
  refine s_aload_n j73 rfl rfl ?_
  refine s_iload_n j74 rfl rfl ?_
  refine s_aload_n j75 rfl rfl ?_
  refine s_aload_n j76 rfl rfl ?_
  refine s_gfI j77 rfl (am_is_kd ek28 (am_is_kd ek25 (am_is_kd ek21 (am_is_kd ek17 (am_is_kd ek13 (am_is_kd ek9 (am_is_kd ek5 ho1))))))) ?_
  refine s_iconst j80 rfl kc_ic_1 ?_
  refine s_g j81 rfl rfl rfl rfl rfl rfl ?_
  refine s_virt j82 rfl rfl rfl rfl (am_is_kd ek28 (am_is_kd ek25 (am_is_kd ek21 (am_is_kd ek17 (am_is_kd ek13 (am_is_kd ek9 (am_is_kd ek5 ho1))))))) (by decide) (in_Ro_done _ _ _ _) (am_r8 rfl) (am_bI h (fun a30 σ29 h hx29 => ?_))
  replace h := h hx29
  exact s_retI j85 rfl h
theorem P_Ro_part (nl : Bool) (Ln : Nat) (xs : Nat → Int32) : am_Jl (TT nl Ln xs) 293 [(0, .aload_n 1, 1, []), (1, .iconst 0, 2, []), (2, .laload, 3, []), (3, .lconst 0, 4, []), (4, .aload_n 0, 5, []), (5, .getfield 234, 8, [9, 13, 35, 0]), (8, .iconst 1, 9, []), (9, .isub, 10, []), (10, .i2l, 11, []), (11, .invokestatic 364, 14, [12, 209, 6, 3]), (14, .ifCond .eq 16, 17, []), (17, .aload_n 1, 18, []), (18, .iconst 1, 19, []), (19, .laload, 20, []), (20, .lconst 1, 21, []), (21, .ldc2_w 340, 24, [6, 100]), (24, .invokestatic 364, 27, [12, 209, 6, 3]), (27, .ifCond .ne 6, 30, []), (30, .bipush (-2), 32, []), (32, .ireturn, 33, [1]), (33, .iconst 1, 34, []), (34, .istore_n 2, 35, []), (35, .aload_n 1, 36, []), (36, .iconst 0, 37, []), (37, .laload, 38, []), (38, .l2i, 39, []), (39, .istore_n 3, 40, [])] := dk_ck (by decide +kernel)
set_option maxRecDepth 4096 in
theorem w_Ro_part {nl : Bool} {Ln : Nat} {xs : Nat → Int32} {d : Nat} {this : Nat} {p0 : Option Nat} {σ : am_S} {F : Int32 → am_S → Prop} (h : (am_ar σ 1001 p0 (0 : Int32)) ∧ (am_is σ (some this) 13) ∧ k_Rm_in nl Ln xs d (am_aL σ (p0.getD 0) (0 : Int32).toNatClampNeg) (0 : Int64) (((am_fI σ 13035 this) - (1 : Int32)).toInt64) σ (fun a4 σ3 => am_ext σ σ3 → (a4 = true → (am_ar σ3 1001 p0 (1 : Int32)) ∧ k_Rm_in nl Ln xs d (am_aL σ3 (p0.getD 0) (1 : Int32).toNatClampNeg) (1 : Int64) (100 : Int64) σ3 (fun a8 σ7 => am_ext σ3 σ7 → (a8 = true → (am_ar σ7 1001 p0 (0 : Int32)) ∧ ∀ v11 : Int32, v11 = (am_aL σ7 (p0.getD 0) (0 : Int32).toNatClampNeg).toInt32 → c_Ro_part_40 nl Ln xs (d + 1) this p0 (1 : Int32) v11 σ7 F) ∧ (¬ (a8 = true) → F (-2 : Int32) σ7))) ∧ (¬ (a4 = true) → F (-2 : Int32) σ3))) : k_Ro_part nl Ln xs (d + 1) this p0 σ F := by
  obtain ⟨j0, j1, j2, j3, j4, j5, j8, j9, j10, j11, j14, j17, j18, j19, j20, j21, j24, j27, j30, j32, j33, j34, j35, j36, j37, j38, j39, -⟩ := P_Ro_part nl Ln xs
  have elo : am_lo 4 [am_ov (some this), am_ov p0] = [some (am_ov (some this)), some (am_ov p0), none, none] := by simp only [am_lo, am_in_ov, am_in_int, am_in_long, am_in_nil]; rfl
  unfold k_Ro_part
  rw [elo]
  refine s_aload_n j0 rfl rfl ?_
  refine s_iconst j1 rfl kc_ic_0 ?_
  obtain ⟨ho1, h⟩ := h
  refine s_laload j2 rfl ho1 ?_
  refine s_lconst j3 rfl rfl ?_
  refine s_aload_n j4 rfl rfl ?_
  obtain ⟨ho2, h⟩ := h
  refine s_gfI j5 rfl ho2 ?_
  refine s_iconst j8 rfl kc_ic_1 ?_
  refine s_g j9 rfl rfl rfl rfl rfl rfl ?_
  refine s_g j10 rfl rfl rfl rfl rfl rfl ?_
  refine s_stat j11 rfl rfl rfl rfl (by decide) (in_Rm_in _ _ _) (am_r8 rfl) (am_bB h (fun a4 σ3 h hx3 => ?_))
  replace h := h hx3
  refine s_ifn j14 rfl rfl am_cb_eq (fun hc5 => ?_) (fun hc5 => ?_)
  · replace h := h.2 hc5
    refine s_bipush j30 rfl kc_bi_m2 ?_
    exact s_retI j32 rfl h
  · replace h := h.1 hc5
    refine s_aload_n j17 rfl rfl ?_
    refine s_iconst j18 rfl kc_ic_1 ?_
    obtain ⟨ho6, h⟩ := h
    refine s_laload j19 rfl ho6 ?_
    refine s_lconst j20 rfl rfl ?_
    refine s_ldc2 j21 rfl kc_ll_100 ?_
    refine s_stat j24 rfl rfl rfl rfl (by decide) (in_Rm_in _ _ _) (am_r8 rfl) (am_bB h (fun a8 σ7 h hx7 => ?_))
    replace h := h hx7
    refine s_if j27 rfl rfl am_cb_ne (fun hc9 => ?_) (fun hc9 => ?_)
    · replace h := h.1 hc9
      refine s_iconst j33 rfl kc_ic_1 ?_
      refine s_istore_n j34 rfl (n := 4) (L' := [some (am_ov (some this)), some (am_ov p0), some (.int (1 : Int32)), none]) rfl (by decide) (am_st1_R [_] _ _ _ _) ?_
      refine s_aload_n j35 rfl rfl ?_
      refine s_iconst j36 rfl kc_ic_0 ?_
      obtain ⟨ho10, h⟩ := h
      refine s_laload j37 rfl ho10 ?_
      refine s_g j38 rfl rfl rfl rfl rfl rfl ?_
      refine s_istore_nV j39 rfl (n := 4) (L' := fun w => [some (am_ov (some this)), some (am_ov p0), some (.int (1 : Int32)), some (.int w)]) rfl (by decide) (fun _ => rfl) (fun v11 hv12 => ?_)
      replace h := h v11 hv12
      exact h
    · replace h := h.2 hc9
      refine s_bipush j30 rfl kc_bi_m2 ?_
      exact s_retI j32 rfl h
theorem P_Ro_part_40 (nl : Bool) (Ln : Nat) (xs : Nat → Int32) : am_Jl (TT nl Ln xs) 293 [(40, .aload_n 0, 41, []), (41, .getfield 95, 44, [9, 13, 36, 2]), (44, .iload_n 3, 45, []), (45, .iaload, 46, []), (46, .iconst 5, 47, []), (47, .if_icmp .ne 16, 50, []), (50, .iinc 2 1, 53, []), (53, .aload_n 0, 54, []), (54, .getfield 101, 57, [9, 13, 38, 2]), (57, .iload_n 3, 58, []), (58, .iaload, 59, []), (59, .istore_n 3, 60, []), (60, .goto (-20), 63, []), (63, .iload_n 2, 64, []), (64, .iconst 4, 65, []), (65, .if_icmp .le 6, 68, []), (68, .bipush (-3), 70, []), (70, .ireturn, 71, [1]), (71, .aload_n 0, 72, []), (72, .getfield 234, 75, [9, 13, 35, 0]), (75, .sipush 200, 78, []), (78, .if_icmp .ne 8, 81, []), (81, .bipush (-7), 83, []), (83, .goto 28, 86, []), (86, .aload_n 0, 87, []), (87, .bipush 9, 89, []), (89, .aload_n 1, 90, []), (90, .iconst 5, 91, []), (91, .aload_n 0, 92, []), (92, .getfield 98, 95, [9, 13, 37, 2]), (95, .aload_n 1, 96, []), (96, .iconst 0, 97, []), (97, .laload, 98, []), (98, .l2i, 99, []), (99, .iaload, 100, []), (100, .aload_n 1, 101, []), (101, .iconst 0, 102, []), (102, .laload, 103, []), (103, .l2i, 104, []), (104, .aload_n 1, 105, []), (105, .iconst 1, 106, []), (106, .laload, 107, []), (107, .l2i, 108, []), (108, .invokevirtual 528, 111, [10, 292, 14, 7, 7]), (111, .ireturn, 112, [1])] := dk_ck (by decide +kernel)
set_option maxRecDepth 4096 in
theorem w_Ro_part_40 {nl : Bool} {Ln : Nat} {xs : Nat → Int32} {d : Nat} {this : Nat} {x1 : Option Nat} {x2 : Int32} {x3 : Int32} {σ : am_S} {F : Int32 → am_S → Prop} (h : (am_is σ (some this) 13) ∧ (am_ar σ 1000 (am_fR σ 13036 this) x3) ∧ ((am_aI σ ((am_fR σ 13036 this).getD 0) x3.toNatClampNeg) = (5 : Int32) → (am_ar σ 1000 (am_fR σ 13038 this) x3) ∧ ∀ v5 : Int32, v5 = (am_aI σ ((am_fR σ 13038 this).getD 0) x3.toNatClampNeg) → c_Ro_part_40 nl Ln xs (d + 1) this x1 (x2 + (1 : Int32)) v5 σ F) ∧ (¬ ((am_aI σ ((am_fR σ 13036 this).getD 0) x3.toNatClampNeg) = (5 : Int32)) → ((4 : Int32) < x2 → F (-3 : Int32) σ) ∧ (¬ ((4 : Int32) < x2) → ((am_fI σ 13035 this) = (200 : Int32) → F (-7 : Int32) σ) ∧ (¬ ((am_fI σ 13035 this) = (200 : Int32)) → (am_ar σ 1001 x1 (0 : Int32)) ∧ (am_ar σ 1000 (am_fR σ 13037 this) ((am_aL σ (x1.getD 0) (0 : Int32).toNatClampNeg).toInt32)) ∧ (am_ar σ 1001 x1 (0 : Int32)) ∧ (am_ar σ 1001 x1 (1 : Int32)) ∧ k_Ro_newLoss nl Ln xs d this (9 : Int32) x1 (5 : Int32) (am_aI σ ((am_fR σ 13037 this).getD 0) ((am_aL σ (x1.getD 0) (0 : Int32).toNatClampNeg).toInt32).toNatClampNeg) ((am_aL σ (x1.getD 0) (0 : Int32).toNatClampNeg).toInt32) ((am_aL σ (x1.getD 0) (1 : Int32).toNatClampNeg).toInt32) σ (fun a14 σ13 => am_ext σ σ13 → F a14 σ13))))) : c_Ro_part_40 nl Ln xs (d + 1) this x1 x2 x3 σ F := by
  obtain ⟨j40, j41, j44, j45, j46, j47, j50, j53, j54, j57, j58, j59, j60, j63, j64, j65, j68, j70, j71, j72, j75, j78, j81, j83, j86, j87, j89, j90, j91, j92, j95, j96, j97, j98, j99, j100, j101, j102, j103, j104, j105, j106, j107, j108, j111, -⟩ := P_Ro_part_40 nl Ln xs
  unfold c_Ro_part_40
  refine s_aload_n j40 rfl rfl ?_
  obtain ⟨ho1, h⟩ := h
  refine s_gfR j41 rfl ho1 ?_
  refine s_iload_n j44 rfl rfl ?_
  obtain ⟨ho2, h⟩ := h
  refine s_iaload j45 rfl ho2 ?_
  refine s_iconst j46 rfl kc_ic_5 ?_
  refine s_icn j47 rfl rfl am_cc_ne (fun hc3 => ?_) (fun hc3 => ?_)
  · replace h := h.2 hc3
    refine s_iload_n j63 rfl rfl ?_
    refine s_iconst j64 rfl kc_ic_4 ?_
    refine s_icn j65 rfl rfl am_cc_le (fun hc7 => ?_) (fun hc7 => ?_)
    · replace h := h.2 hc7
      refine s_aload_n j71 rfl rfl ?_
      refine s_gfI j72 rfl ho1 ?_
      refine s_sipush j75 rfl kc_si_200 ?_
      refine s_icn j78 rfl rfl am_cc_ne (fun hc8 => ?_) (fun hc8 => ?_)
      · replace h := h.2 hc8
        refine s_aload_n j86 rfl rfl ?_
        refine s_bipush j87 rfl kc_bi_9 ?_
        refine s_aload_n j89 rfl rfl ?_
        refine s_iconst j90 rfl kc_ic_5 ?_
        refine s_aload_n j91 rfl rfl ?_
        refine s_gfR j92 rfl ho1 ?_
        refine s_aload_n j95 rfl rfl ?_
        refine s_iconst j96 rfl kc_ic_0 ?_
        obtain ⟨ho9, h⟩ := h
        refine s_laload j97 rfl ho9 ?_
        refine s_g j98 rfl rfl rfl rfl rfl rfl ?_
        obtain ⟨ho10, h⟩ := h
        refine s_iaload j99 rfl ho10 ?_
        refine s_aload_n j100 rfl rfl ?_
        refine s_iconst j101 rfl kc_ic_0 ?_
        obtain ⟨ho11, h⟩ := h
        refine s_laload j102 rfl ho11 ?_
        refine s_g j103 rfl rfl rfl rfl rfl rfl ?_
        refine s_aload_n j104 rfl rfl ?_
        refine s_iconst j105 rfl kc_ic_1 ?_
        obtain ⟨ho12, h⟩ := h
        refine s_laload j106 rfl ho12 ?_
        refine s_g j107 rfl rfl rfl rfl rfl rfl ?_
        refine s_virt j108 rfl rfl rfl rfl ho1 (by decide) (in_Ro_newLoss _ _ _ _ _ _ _) (am_r8 rfl) (am_bI h (fun a14 σ13 h hx13 => ?_))
        replace h := h hx13
        exact s_retI j111 rfl h
      · replace h := h.1 hc8
        refine s_bipush j81 rfl kc_bi_m7 ?_
        refine s_goto j83 rfl rfl ?_
        exact s_retI j111 rfl h
    · replace h := h.1 hc7
      refine s_bipush j68 rfl kc_bi_m3 ?_
      exact s_retI j70 rfl h
  · replace h := h.1 hc3
    refine s_iinc (L' := [some (am_ov (some this)), some (am_ov x1), some (.int (x2 + (1 : Int32))), some (.int x3)]) j50 rfl rfl kc_ic_1 (am_st1_R [_] _ _ _ _) ?_
    refine s_aload_n j53 rfl rfl ?_
    refine s_gfR j54 rfl ho1 ?_
    refine s_iload_n j57 rfl rfl ?_
    obtain ⟨ho4, h⟩ := h
    refine s_iaload j58 rfl ho4 ?_
    refine s_istore_nV j59 rfl (n := 4) (L' := fun w => [some (am_ov (some this)), some (am_ov x1), some (.int (x2 + (1 : Int32))), some (.int w)]) rfl (by decide) (fun _ => rfl) (fun v5 hv6 => ?_)
    replace h := h v5 hv6
    refine s_goto j60 rfl rfl ?_
    exact h
theorem P_Ro_item (nl : Bool) (Ln : Nat) (xs : Nat → Int32) : am_Jl (TT nl Ln xs) 294 [(0, .aload_n 1, 1, []), (1, .iconst 0, 2, []), (2, .laload, 3, []), (3, .lconst 0, 4, []), (4, .aload_n 0, 5, []), (5, .getfield 234, 8, [9, 13, 35, 0]), (8, .iconst 1, 9, []), (9, .isub, 10, []), (10, .i2l, 11, []), (11, .invokestatic 364, 14, [12, 209, 6, 3]), (14, .ifCond .eq 55, 17, []), (17, .aload_n 0, 18, []), (18, .getfield 95, 21, [9, 13, 36, 2]), (21, .aload_n 1, 22, []), (22, .iconst 0, 23, []), (23, .laload, 24, []), (24, .l2i, 25, []), (25, .iaload, 26, []), (26, .iconst 5, 27, []), (27, .if_icmp .eq 42, 30, []), (30, .aload_n 1, 31, []), (31, .iconst 1, 32, []), (32, .laload, 33, []), (33, .lconst 0, 34, []), (34, .ldc2_w 509, 37, [6, 9]), (37, .invokestatic 364, 40, [12, 209, 6, 3]), (40, .ifCond .eq 29, 43, []), (43, .aload_n 1, 44, []), (44, .iconst 2, 45, []), (45, .laload, 46, []), (46, .lconst 0, 47, []), (47, .ldc2_w 406, 50, [6, 1000000000000]), (50, .invokestatic 364, 53, [12, 209, 6, 3]), (53, .ifCond .eq 16, 56, []), (56, .aload_n 1, 57, []), (57, .iconst 3, 58, []), (58, .laload, 59, []), (59, .lconst 0, 60, []), (60, .ldc2_w 406, 63, [6, 1000000000000]), (63, .invokestatic 364, 66, [12, 209, 6, 3]), (66, .ifCond .ne 6, 69, []), (69, .bipush (-2), 71, []), (71, .ireturn, 72, [1]), (72, .aload_n 1, 73, []), (73, .iconst 0, 74, []), (74, .laload, 75, []), (75, .l2i, 76, []), (76, .istore_n 2, 77, []), (77, .aload_n 0, 78, []), (78, .getfield 110, 81, [9, 13, 41, 2]), (81, .iload_n 2, 82, []), (82, .baload, 83, []), (83, .ifCond .eq 6, 86, []), (86, .bipush (-3), 88, []), (88, .ireturn, 89, [1]), (89, .aload_n 0, 90, []), (90, .getfield 107, 93, [9, 13, 40, 2]), (93, .iload_n 2, 94, []), (94, .iaload, 95, []), (95, .bipush 6, 97, []), (97, .if_icmp .ne 6, 100, []), (100, .bipush (-7), 102, []), (102, .ireturn, 103, [1]), (103, .bipush 6, 105, []), (105, .iload_n 2, 106, []), (106, .imul, 107, []), (107, .aload_n 0, 108, []), (108, .getfield 107, 111, [9, 13, 40, 2]), (111, .iload_n 2, 112, []), (112, .iaload, 113, []), (113, .iadd, 114, []), (114, .istore_n 3, 115, []), (115, .aload_n 0, 116, []), (116, .getfield 114, 119, [9, 13, 42, 2]), (119, .iload_n 3, 120, []), (120, .aload_n 1, 121, []), (121, .iconst 1, 122, []), (122, .laload, 123, []), (123, .l2i, 124, []), (124, .iastore, 125, []), (125, .aload_n 0, 126, []), (126, .getfield 117, 129, [9, 13, 43, 2]), (129, .iload_n 3, 130, []), (130, .aload_n 1, 131, []), (131, .iconst 2, 132, []), (132, .laload, 133, []), (133, .lastore, 134, []), (134, .aload_n 0, 135, []), (135, .getfield 120, 138, [9, 13, 44, 2]), (138, .iload_n 3, 139, []), (139, .aload_n 1, 140, []), (140, .iconst 3, 141, []), (141, .laload, 142, []), (142, .lastore, 143, []), (143, .aload_n 0, 144, []), (144, .getfield 107, 147, [9, 13, 40, 2]), (147, .iload_n 2, 148, []), (148, .dup2, 149, []), (149, .iaload, 150, []), (150, .iconst 1, 151, []), (151, .iadd, 152, []), (152, .iastore, 153, []), (153, .aload_n 0, 154, []), (154, .bipush 10, 156, []), (156, .aload_n 1, 157, []), (157, .aload_n 0, 158, []), (158, .getfield 107, 161, [9, 13, 40, 2]), (161, .iload_n 2, 162, []), (162, .iaload, 163, []), (163, .invokevirtual 503, 166, [10, 265, 14, 4, 4]), (166, .ireturn, 167, [1])] := dk_ck (by decide +kernel)
set_option maxRecDepth 4096 in
theorem w_Ro_item {nl : Bool} {Ln : Nat} {xs : Nat → Int32} {d : Nat} {this : Nat} {p0 : Option Nat} {σ : am_S} {F : Int32 → am_S → Prop} (h : (am_ar σ 1001 p0 (0 : Int32)) ∧ (am_is σ (some this) 13) ∧ k_Rm_in nl Ln xs d (am_aL σ (p0.getD 0) (0 : Int32).toNatClampNeg) (0 : Int64) (((am_fI σ 13035 this) - (1 : Int32)).toInt64) σ (fun a4 σ3 => am_ext σ σ3 → (a4 = true → (am_ar σ3 1001 p0 (0 : Int32)) ∧ (am_ar σ3 1000 (am_fR σ3 13036 this) ((am_aL σ3 (p0.getD 0) (0 : Int32).toNatClampNeg).toInt32)) ∧ ((am_aI σ3 ((am_fR σ3 13036 this).getD 0) ((am_aL σ3 (p0.getD 0) (0 : Int32).toNatClampNeg).toInt32).toNatClampNeg) = (5 : Int32) → F (-2 : Int32) σ3) ∧ (¬ ((am_aI σ3 ((am_fR σ3 13036 this).getD 0) ((am_aL σ3 (p0.getD 0) (0 : Int32).toNatClampNeg).toInt32).toNatClampNeg) = (5 : Int32)) → (am_ar σ3 1001 p0 (1 : Int32)) ∧ k_Rm_in nl Ln xs d (am_aL σ3 (p0.getD 0) (1 : Int32).toNatClampNeg) (0 : Int64) (9 : Int64) σ3 (fun a11 σ10 => am_ext σ3 σ10 → (a11 = true → (am_ar σ10 1001 p0 (2 : Int32)) ∧ k_Rm_in nl Ln xs d (am_aL σ10 (p0.getD 0) (2 : Int32).toNatClampNeg) (0 : Int64) (1000000000000 : Int64) σ10 (fun a15 σ14 => am_ext σ10 σ14 → (a15 = true → (am_ar σ14 1001 p0 (3 : Int32)) ∧ k_Rm_in nl Ln xs d (am_aL σ14 (p0.getD 0) (3 : Int32).toNatClampNeg) (0 : Int64) (1000000000000 : Int64) σ14 (fun a19 σ18 => am_ext σ14 σ18 → (a19 = true → (am_ar σ18 1001 p0 (0 : Int32)) ∧ ∀ v22 : Int32, v22 = (am_aL σ18 (p0.getD 0) (0 : Int32).toNatClampNeg).toInt32 → (am_ar σ18 1003 (am_fR σ18 13041 this) v22) ∧ ((am_aI σ18 ((am_fR σ18 13041 this).getD 0) v22.toNatClampNeg) = 0 → (am_ar σ18 1000 (am_fR σ18 13040 this) v22) ∧ ((am_aI σ18 ((am_fR σ18 13040 this).getD 0) v22.toNatClampNeg) = (6 : Int32) → F (-7 : Int32) σ18) ∧ (¬ ((am_aI σ18 ((am_fR σ18 13040 this).getD 0) v22.toNatClampNeg) = (6 : Int32)) → (am_ar σ18 1000 (am_fR σ18 13040 this) v22) ∧ ∀ v29 : Int32, v29 = (((6 : Int32) * v22) + (am_aI σ18 ((am_fR σ18 13040 this).getD 0) v22.toNatClampNeg)) → (am_ar σ18 1001 p0 (1 : Int32)) ∧ (am_ar σ18 1000 (am_fR σ18 13042 this) v29) ∧ ∀ σ33, σ33 = am_saI σ18 ((am_fR σ18 13042 this).getD 0) v29.toNatClampNeg ((am_aL σ18 (p0.getD 0) (1 : Int32).toNatClampNeg).toInt32) → (am_ar σ33 1001 p0 (2 : Int32)) ∧ (am_ar σ33 1001 (am_fR σ33 13043 this) v29) ∧ ∀ σ38, σ38 = am_saL σ33 ((am_fR σ33 13043 this).getD 0) v29.toNatClampNeg (am_aL σ33 (p0.getD 0) (2 : Int32).toNatClampNeg) → (am_ar σ38 1001 p0 (3 : Int32)) ∧ (am_ar σ38 1001 (am_fR σ38 13044 this) v29) ∧ ∀ σ43, σ43 = am_saL σ38 ((am_fR σ38 13044 this).getD 0) v29.toNatClampNeg (am_aL σ38 (p0.getD 0) (3 : Int32).toNatClampNeg) → (am_ar σ43 1000 (am_fR σ43 13040 this) v22) ∧ (am_ar σ43 1000 (am_fR σ43 13040 this) v22) ∧ ∀ σ48, σ48 = am_saI σ43 ((am_fR σ43 13040 this).getD 0) v22.toNatClampNeg ((am_aI σ43 ((am_fR σ43 13040 this).getD 0) v22.toNatClampNeg) + (1 : Int32)) → (am_ar σ48 1000 (am_fR σ48 13040 this) v22) ∧ k_Ro_done nl Ln xs d this (10 : Int32) p0 (am_aI σ48 ((am_fR σ48 13040 this).getD 0) v22.toNatClampNeg) σ48 (fun a53 σ52 => am_ext σ48 σ52 → F a53 σ52))) ∧ (¬ ((am_aI σ18 ((am_fR σ18 13041 this).getD 0) v22.toNatClampNeg) = 0) → F (-3 : Int32) σ18)) ∧ (¬ (a19 = true) → F (-2 : Int32) σ18))) ∧ (¬ (a15 = true) → F (-2 : Int32) σ14))) ∧ (¬ (a11 = true) → F (-2 : Int32) σ10)))) ∧ (¬ (a4 = true) → F (-2 : Int32) σ3))) : k_Ro_item nl Ln xs (d + 1) this p0 σ F := by
  obtain ⟨j0, j1, j2, j3, j4, j5, j8, j9, j10, j11, j14, j17, j18, j21, j22, j23, j24, j25, j26, j27, j30, j31, j32, j33, j34, j37, j40, j43, j44, j45, j46, j47, j50, j53, j56, j57, j58, j59, j60, j63, j66, j69, j71, j72, j73, j74, j75, j76, j77, j78, j81, j82, j83, j86, j88, j89, j90, j93, j94, j95, j97, j100, j102, j103, j105, j106, j107, j108, j111, j112, j113, j114, j115, j116, j119, j120, j121, j122, j123, j124, j125, j126, j129, j130, j131, j132, j133, j134, j135, j138, j139, j140, j141, j142, j143, j144, j147, j148, j149, j150, j151, j152, j153, j154, j156, j157, j158, j161, j162, j163, j166, -⟩ := P_Ro_item nl Ln xs
  have elo : am_lo 4 [am_ov (some this), am_ov p0] = [some (am_ov (some this)), some (am_ov p0), none, none] := by simp only [am_lo, am_in_ov, am_in_int, am_in_long, am_in_nil]; rfl
  unfold k_Ro_item
  rw [elo]
  refine s_aload_n j0 rfl rfl ?_
  refine s_iconst j1 rfl kc_ic_0 ?_
  obtain ⟨ho1, h⟩ := h
  refine s_laload j2 rfl ho1 ?_
  refine s_lconst j3 rfl rfl ?_
  refine s_aload_n j4 rfl rfl ?_
  obtain ⟨ho2, h⟩ := h
  refine s_gfI j5 rfl ho2 ?_
  refine s_iconst j8 rfl kc_ic_1 ?_
  refine s_g j9 rfl rfl rfl rfl rfl rfl ?_
  refine s_g j10 rfl rfl rfl rfl rfl rfl ?_
  refine s_stat j11 rfl rfl rfl rfl (by decide) (in_Rm_in _ _ _) (am_r8 rfl) (am_bB h (fun a4 σ3 h hx3 => ?_))
  replace h := h hx3
  refine s_ifn j14 rfl rfl am_cb_eq (fun hc5 => ?_) (fun hc5 => ?_)
  · replace h := h.2 hc5
    refine s_bipush j69 rfl kc_bi_m2 ?_
    exact s_retI j71 rfl h
  · replace h := h.1 hc5
    refine s_aload_n j17 rfl rfl ?_
    refine s_gfR j18 rfl (am_is_ext hx3 ho2) ?_
    refine s_aload_n j21 rfl rfl ?_
    refine s_iconst j22 rfl kc_ic_0 ?_
    obtain ⟨ho6, h⟩ := h
    refine s_laload j23 rfl ho6 ?_
    refine s_g j24 rfl rfl rfl rfl rfl rfl ?_
    obtain ⟨ho7, h⟩ := h
    refine s_iaload j25 rfl ho7 ?_
    refine s_iconst j26 rfl kc_ic_5 ?_
    refine s_ic j27 rfl rfl am_cc_eq (fun hc8 => ?_) (fun hc8 => ?_)
    · replace h := h.1 hc8
      refine s_bipush j69 rfl kc_bi_m2 ?_
      exact s_retI j71 rfl h
    · replace h := h.2 hc8
      refine s_aload_n j30 rfl rfl ?_
      refine s_iconst j31 rfl kc_ic_1 ?_
      obtain ⟨ho9, h⟩ := h
      refine s_laload j32 rfl ho9 ?_
      refine s_lconst j33 rfl rfl ?_
      refine s_ldc2 j34 rfl kc_ll_9 ?_
      refine s_stat j37 rfl rfl rfl rfl (by decide) (in_Rm_in _ _ _) (am_r8 rfl) (am_bB h (fun a11 σ10 h hx10 => ?_))
      replace h := h hx10
      refine s_ifn j40 rfl rfl am_cb_eq (fun hc12 => ?_) (fun hc12 => ?_)
      · replace h := h.2 hc12
        refine s_bipush j69 rfl kc_bi_m2 ?_
        exact s_retI j71 rfl h
      · replace h := h.1 hc12
        refine s_aload_n j43 rfl rfl ?_
        refine s_iconst j44 rfl kc_ic_2 ?_
        obtain ⟨ho13, h⟩ := h
        refine s_laload j45 rfl ho13 ?_
        refine s_lconst j46 rfl rfl ?_
        refine s_ldc2 j47 rfl kc_ll_1000000000000 ?_
        refine s_stat j50 rfl rfl rfl rfl (by decide) (in_Rm_in _ _ _) (am_r8 rfl) (am_bB h (fun a15 σ14 h hx14 => ?_))
        replace h := h hx14
        refine s_ifn j53 rfl rfl am_cb_eq (fun hc16 => ?_) (fun hc16 => ?_)
        · replace h := h.2 hc16
          refine s_bipush j69 rfl kc_bi_m2 ?_
          exact s_retI j71 rfl h
        · replace h := h.1 hc16
          refine s_aload_n j56 rfl rfl ?_
          refine s_iconst j57 rfl kc_ic_3 ?_
          obtain ⟨ho17, h⟩ := h
          refine s_laload j58 rfl ho17 ?_
          refine s_lconst j59 rfl rfl ?_
          refine s_ldc2 j60 rfl kc_ll_1000000000000 ?_
          refine s_stat j63 rfl rfl rfl rfl (by decide) (in_Rm_in _ _ _) (am_r8 rfl) (am_bB h (fun a19 σ18 h hx18 => ?_))
          replace h := h hx18
          refine s_if j66 rfl rfl am_cb_ne (fun hc20 => ?_) (fun hc20 => ?_)
          · replace h := h.1 hc20
            refine s_aload_n j72 rfl rfl ?_
            refine s_iconst j73 rfl kc_ic_0 ?_
            obtain ⟨ho21, h⟩ := h
            refine s_laload j74 rfl ho21 ?_
            refine s_g j75 rfl rfl rfl rfl rfl rfl ?_
            refine s_istore_nV j76 rfl (n := 4) (L' := fun w => [some (am_ov (some this)), some (am_ov p0), some (.int w), none]) rfl (by decide) (fun _ => am_st1_R [_] _ _ _ _) (fun v22 hv23 => ?_)
            replace h := h v22 hv23
            refine s_aload_n j77 rfl rfl ?_
            refine s_gfR j78 rfl (am_is_ext hx18 (am_is_ext hx14 (am_is_ext hx10 (am_is_ext hx3 ho2)))) ?_
            refine s_iload_n j81 rfl rfl ?_
            obtain ⟨ho24, h⟩ := h
            refine s_baload (k := 1003) (by decide) j82 rfl ho24 ?_
            refine s_if j83 rfl rfl am_cc_eq (fun hc25 => ?_) (fun hc25 => ?_)
            · replace h := h.1 hc25
              refine s_aload_n j89 rfl rfl ?_
              refine s_gfR j90 rfl (am_is_ext hx18 (am_is_ext hx14 (am_is_ext hx10 (am_is_ext hx3 ho2)))) ?_
              refine s_iload_n j93 rfl rfl ?_
              obtain ⟨ho26, h⟩ := h
              refine s_iaload j94 rfl ho26 ?_
              refine s_bipush j95 rfl kc_bi_6 ?_
              refine s_icn j97 rfl rfl am_cc_ne (fun hc27 => ?_) (fun hc27 => ?_)
              · replace h := h.2 hc27
                refine s_bipush j103 rfl kc_bi_6 ?_
                refine s_iload_n j105 rfl rfl ?_
                refine s_g j106 rfl rfl rfl rfl rfl rfl ?_
                refine s_aload_n j107 rfl rfl ?_
                refine s_gfR j108 rfl (am_is_ext hx18 (am_is_ext hx14 (am_is_ext hx10 (am_is_ext hx3 ho2)))) ?_
                refine s_iload_n j111 rfl rfl ?_
                obtain ⟨ho28, h⟩ := h
                refine s_iaload j112 rfl ho28 ?_
                refine s_g j113 rfl rfl rfl rfl rfl rfl ?_
                refine s_istore_nV j114 rfl (n := 4) (L' := fun w => [some (am_ov (some this)), some (am_ov p0), some (.int v22), some (.int w)]) rfl (by decide) (fun _ => rfl) (fun v29 hv30 => ?_)
                replace h := h v29 hv30
                refine s_aload_n j115 rfl rfl ?_
                refine s_gfR j116 rfl (am_is_ext hx18 (am_is_ext hx14 (am_is_ext hx10 (am_is_ext hx3 ho2)))) ?_
                refine s_iload_n j119 rfl rfl ?_
                refine s_aload_n j120 rfl rfl ?_
                refine s_iconst j121 rfl kc_ic_1 ?_
                obtain ⟨ho31, h⟩ := h
                refine s_laload j122 rfl ho31 ?_
                refine s_g j123 rfl rfl rfl rfl rfl rfl ?_
                obtain ⟨ho32, h⟩ := h
                refine s_iastore j124 rfl ho32 (fun σ33 e34 => ?_)
                replace h := h σ33 e34
                have ek35 : am_kd σ33 = am_kd σ18 := by rw [e34]
                refine s_aload_n j125 rfl rfl ?_
                refine s_gfR j126 rfl (am_is_kd ek35 (am_is_ext hx18 (am_is_ext hx14 (am_is_ext hx10 (am_is_ext hx3 ho2))))) ?_
                refine s_iload_n j129 rfl rfl ?_
                refine s_aload_n j130 rfl rfl ?_
                refine s_iconst j131 rfl kc_ic_2 ?_
                obtain ⟨ho36, h⟩ := h
                refine s_laload j132 rfl ho36 ?_
                obtain ⟨ho37, h⟩ := h
                refine s_lastore j133 rfl ho37 (fun σ38 e39 => ?_)
                replace h := h σ38 e39
                have ek40 : am_kd σ38 = am_kd σ33 := by rw [e39]
                refine s_aload_n j134 rfl rfl ?_
                refine s_gfR j135 rfl (am_is_kd ek40 (am_is_kd ek35 (am_is_ext hx18 (am_is_ext hx14 (am_is_ext hx10 (am_is_ext hx3 ho2)))))) ?_
                refine s_iload_n j138 rfl rfl ?_
                refine s_aload_n j139 rfl rfl ?_
                refine s_iconst j140 rfl kc_ic_3 ?_
                obtain ⟨ho41, h⟩ := h
                refine s_laload j141 rfl ho41 ?_
                obtain ⟨ho42, h⟩ := h
                refine s_lastore j142 rfl ho42 (fun σ43 e44 => ?_)
                replace h := h σ43 e44
                have ek45 : am_kd σ43 = am_kd σ38 := by rw [e44]
                refine s_aload_n j143 rfl rfl ?_
                refine s_gfR j144 rfl (am_is_kd ek45 (am_is_kd ek40 (am_is_kd ek35 (am_is_ext hx18 (am_is_ext hx14 (am_is_ext hx10 (am_is_ext hx3 ho2))))))) ?_
                refine s_iload_n j147 rfl rfl ?_
                refine s_dup2 j148 rfl (am_cov _) ?_
                obtain ⟨ho46, h⟩ := h
                refine s_iaload j149 rfl ho46 ?_
                refine s_iconst j150 rfl kc_ic_1 ?_
                refine s_g j151 rfl rfl rfl rfl rfl rfl ?_
                obtain ⟨ho47, h⟩ := h
                refine s_iastore j152 rfl ho47 (fun σ48 e49 => ?_)
                replace h := h σ48 e49
                have ek50 : am_kd σ48 = am_kd σ43 := by rw [e49]
                refine s_aload_n j153 rfl rfl ?_
                refine s_bipush j154 rfl kc_bi_10 ?_
                refine s_aload_n j156 rfl rfl ?_
                refine s_aload_n j157 rfl rfl ?_
                refine s_gfR j158 rfl (am_is_kd ek50 (am_is_kd ek45 (am_is_kd ek40 (am_is_kd ek35 (am_is_ext hx18 (am_is_ext hx14 (am_is_ext hx10 (am_is_ext hx3 ho2)))))))) ?_
                refine s_iload_n j161 rfl rfl ?_
                obtain ⟨ho51, h⟩ := h
                refine s_iaload j162 rfl ho51 ?_
                refine s_virt j163 rfl rfl rfl rfl (am_is_kd ek50 (am_is_kd ek45 (am_is_kd ek40 (am_is_kd ek35 (am_is_ext hx18 (am_is_ext hx14 (am_is_ext hx10 (am_is_ext hx3 ho2)))))))) (by decide) (in_Ro_done _ _ _ _) (am_r8 rfl) (am_bI h (fun a53 σ52 h hx52 => ?_))
                replace h := h hx52
                exact s_retI j166 rfl h
              · replace h := h.1 hc27
                refine s_bipush j100 rfl kc_bi_m7 ?_
                exact s_retI j102 rfl h
            · replace h := h.2 hc25
              refine s_bipush j86 rfl kc_bi_m3 ?_
              exact s_retI j88 rfl h
          · replace h := h.2 hc20
            refine s_bipush j69 rfl kc_bi_m2 ?_
            exact s_retI j71 rfl h
theorem P_Ro_notified (nl : Bool) (Ln : Nat) (xs : Nat → Int32) : am_Jl (TT nl Ln xs) 295 [(0, .aload_n 0, 1, []), (1, .aload_n 1, 2, []), (2, .iconst 0, 3, []), (3, .laload, 4, []), (4, .invokevirtual 495, 7, [10, 270, 14, 3, 2]), (7, .ifCond .eq 69, 10, []), (10, .aload_n 0, 11, []), (11, .aload_n 1, 12, []), (12, .iconst 0, 13, []), (13, .laload, 14, []), (14, .invokevirtual 518, 17, [10, 271, 14, 3, 2]), (17, .ifCond .eq 16, 20, []), (20, .aload_n 1, 21, []), (21, .iconst 1, 22, []), (22, .laload, 23, []), (23, .ldc2_w 256, 26, [6, 18446744073709551615]), (26, .lcmp, 27, []), (27, .ifCond .eq 19, 30, []), (30, .goto 46, 33, []), (33, .aload_n 1, 34, []), (34, .iconst 1, 35, []), (35, .laload, 36, []), (36, .lconst 0, 37, []), (37, .ldc2_w 330, 40, [6, 3]), (40, .invokestatic 364, 43, [12, 209, 6, 3]), (43, .ifCond .eq 33, 46, []), (76, .bipush (-2), 78, []), (78, .ireturn, 79, [1])] := dk_ck (by decide +kernel)
set_option maxRecDepth 4096 in
theorem w_Ro_notified {nl : Bool} {Ln : Nat} {xs : Nat → Int32} {d : Nat} {this : Nat} {p0 : Option Nat} {σ : am_S} {F : Int32 → am_S → Prop} (h : (am_ar σ 1001 p0 (0 : Int32)) ∧ (am_is σ (some this) 13) ∧ k_Ro_isPolicy nl Ln xs d this (am_aL σ (p0.getD 0) (0 : Int32).toNatClampNeg) σ (fun a4 σ3 => am_ext σ σ3 → (a4 = true → (am_ar σ3 1001 p0 (0 : Int32)) ∧ k_Ro_isCover nl Ln xs d this (am_aL σ3 (p0.getD 0) (0 : Int32).toNatClampNeg) σ3 (fun a8 σ7 => am_ext σ3 σ7 → (a8 = true → (am_ar σ7 1001 p0 (1 : Int32)) ∧ ((am_aL σ7 (p0.getD 0) (1 : Int32).toNatClampNeg) = (-1 : Int64) → c_Ro_notified_46 nl Ln xs (d + 1) this p0 σ7 F) ∧ (¬ ((am_aL σ7 (p0.getD 0) (1 : Int32).toNatClampNeg) = (-1 : Int64)) → F (-2 : Int32) σ7)) ∧ (¬ (a8 = true) → (am_ar σ7 1001 p0 (1 : Int32)) ∧ k_Rm_in nl Ln xs d (am_aL σ7 (p0.getD 0) (1 : Int32).toNatClampNeg) (0 : Int64) (3 : Int64) σ7 (fun a14 σ13 => am_ext σ7 σ13 → (a14 = true → c_Ro_notified_46 nl Ln xs (d + 1) this p0 σ13 F) ∧ (¬ (a14 = true) → F (-2 : Int32) σ13))))) ∧ (¬ (a4 = true) → F (-2 : Int32) σ3))) : k_Ro_notified nl Ln xs (d + 1) this p0 σ F := by
  obtain ⟨j0, j1, j2, j3, j4, j7, j10, j11, j12, j13, j14, j17, j20, j21, j22, j23, j26, j27, j30, j33, j34, j35, j36, j37, j40, j43, j76, j78, -⟩ := P_Ro_notified nl Ln xs
  have elo : am_lo 2 [am_ov (some this), am_ov p0] = [some (am_ov (some this)), some (am_ov p0)] := by simp only [am_lo, am_in_ov, am_in_int, am_in_long, am_in_nil]; rfl
  unfold k_Ro_notified
  rw [elo]
  refine s_aload_n j0 rfl rfl ?_
  refine s_aload_n j1 rfl rfl ?_
  refine s_iconst j2 rfl kc_ic_0 ?_
  obtain ⟨ho1, h⟩ := h
  refine s_laload j3 rfl ho1 ?_
  obtain ⟨ho2, h⟩ := h
  refine s_virt j4 rfl rfl rfl rfl ho2 (by decide) (in_Ro_isPolicy _ _) (am_r8 rfl) (am_bB h (fun a4 σ3 h hx3 => ?_))
  replace h := h hx3
  refine s_ifn j7 rfl rfl am_cb_eq (fun hc5 => ?_) (fun hc5 => ?_)
  · replace h := h.2 hc5
    refine s_bipush j76 rfl kc_bi_m2 ?_
    exact s_retI j78 rfl h
  · replace h := h.1 hc5
    refine s_aload_n j10 rfl rfl ?_
    refine s_aload_n j11 rfl rfl ?_
    refine s_iconst j12 rfl kc_ic_0 ?_
    obtain ⟨ho6, h⟩ := h
    refine s_laload j13 rfl ho6 ?_
    refine s_virt j14 rfl rfl rfl rfl (am_is_ext hx3 ho2) (by decide) (in_Ro_isCover _ _) (am_r8 rfl) (am_bB h (fun a8 σ7 h hx7 => ?_))
    replace h := h hx7
    refine s_ifn j17 rfl rfl am_cb_eq (fun hc9 => ?_) (fun hc9 => ?_)
    · replace h := h.2 hc9
      refine s_aload_n j33 rfl rfl ?_
      refine s_iconst j34 rfl kc_ic_1 ?_
      obtain ⟨ho12, h⟩ := h
      refine s_laload j35 rfl ho12 ?_
      refine s_lconst j36 rfl rfl ?_
      refine s_ldc2 j37 rfl kc_ll_3 ?_
      refine s_stat j40 rfl rfl rfl rfl (by decide) (in_Rm_in _ _ _) (am_r8 rfl) (am_bB h (fun a14 σ13 h hx13 => ?_))
      replace h := h hx13
      refine s_ifn j43 rfl rfl am_cb_eq (fun hc15 => ?_) (fun hc15 => ?_)
      · replace h := h.2 hc15
        refine s_bipush j76 rfl kc_bi_m2 ?_
        exact s_retI j78 rfl h
      · replace h := h.1 hc15
        exact h
    · replace h := h.1 hc9
      refine s_aload_n j20 rfl rfl ?_
      refine s_iconst j21 rfl kc_ic_1 ?_
      obtain ⟨ho10, h⟩ := h
      refine s_laload j22 rfl ho10 ?_
      refine s_ldc2 j23 rfl kc_ll_m1 ?_
      refine s_g j26 rfl rfl rfl rfl rfl rfl ?_
      refine s_if j27 rfl rfl am_cl_eq (fun hc11 => ?_) (fun hc11 => ?_)
      · replace h := h.1 hc11
        exact h
      · replace h := h.2 hc11
        refine s_goto j30 rfl rfl ?_
        refine s_bipush j76 rfl kc_bi_m2 ?_
        exact s_retI j78 rfl h
theorem P_Ro_notified_46 (nl : Bool) (Ln : Nat) (xs : Nat → Int32) : am_Jl (TT nl Ln xs) 295 [(46, .aload_n 1, 47, []), (47, .iconst 2, 48, []), (48, .laload, 49, []), (49, .lconst 0, 50, []), (50, .aload_n 0, 51, []), (51, .getfield 234, 54, [9, 13, 35, 0]), (54, .iconst 1, 55, []), (55, .isub, 56, []), (56, .i2l, 57, []), (57, .invokestatic 364, 60, [12, 209, 6, 3]), (60, .ifCond .eq 16, 63, []), (63, .aload_n 1, 64, []), (64, .iconst 3, 65, []), (65, .laload, 66, []), (66, .lconst 0, 67, []), (67, .ldc2_w 513, 70, [6, 10949]), (70, .invokestatic 364, 73, [12, 209, 6, 3]), (73, .ifCond .ne 6, 76, []), (76, .bipush (-2), 78, []), (78, .ireturn, 79, [1]), (79, .aload_n 1, 80, []), (80, .iconst 3, 81, []), (81, .laload, 82, []), (82, .aload_n 0, 83, []), (83, .getfield 98, 86, [9, 13, 37, 2]), (86, .aload_n 1, 87, []), (87, .iconst 2, 88, []), (88, .laload, 89, []), (89, .l2i, 90, []), (90, .iaload, 91, []), (91, .i2l, 92, []), (92, .lcmp, 93, []), (93, .ifCond .lt 29, 96, []), (96, .aload_n 0, 97, []), (97, .getfield 237, 100, [9, 13, 45, 0]), (100, .ifCond .le 25, 103, []), (103, .aload_n 1, 104, []), (104, .iconst 3, 105, []), (105, .laload, 106, []), (106, .aload_n 0, 107, []), (107, .getfield 132, 110, [9, 13, 49, 2]), (110, .aload_n 0, 111, []), (111, .getfield 237, 114, [9, 13, 45, 0]), (114, .iconst 1, 115, []), (115, .isub, 116, []), (116, .iaload, 117, []), (117, .i2l, 118, []), (118, .lcmp, 119, []), (119, .ifCond .ge 6, 122, []), (122, .bipush (-4), 124, []), (124, .ireturn, 125, [1])] := dk_ck (by decide +kernel)
set_option maxRecDepth 4096 in
theorem w_Ro_notified_46 {nl : Bool} {Ln : Nat} {xs : Nat → Int32} {d : Nat} {this : Nat} {x1 : Option Nat} {σ : am_S} {F : Int32 → am_S → Prop} (h : (am_ar σ 1001 x1 (2 : Int32)) ∧ (am_is σ (some this) 13) ∧ k_Rm_in nl Ln xs d (am_aL σ (x1.getD 0) (2 : Int32).toNatClampNeg) (0 : Int64) (((am_fI σ 13035 this) - (1 : Int32)).toInt64) σ (fun a4 σ3 => am_ext σ σ3 → (a4 = true → (am_ar σ3 1001 x1 (3 : Int32)) ∧ k_Rm_in nl Ln xs d (am_aL σ3 (x1.getD 0) (3 : Int32).toNatClampNeg) (0 : Int64) (10949 : Int64) σ3 (fun a8 σ7 => am_ext σ3 σ7 → (a8 = true → (am_ar σ7 1001 x1 (3 : Int32)) ∧ (am_ar σ7 1001 x1 (2 : Int32)) ∧ (am_ar σ7 1000 (am_fR σ7 13037 this) ((am_aL σ7 (x1.getD 0) (2 : Int32).toNatClampNeg).toInt32)) ∧ ((am_aL σ7 (x1.getD 0) (3 : Int32).toNatClampNeg) < (am_aI σ7 ((am_fR σ7 13037 this).getD 0) ((am_aL σ7 (x1.getD 0) (2 : Int32).toNatClampNeg).toInt32).toNatClampNeg).toInt64 → F (-4 : Int32) σ7) ∧ (¬ ((am_aL σ7 (x1.getD 0) (3 : Int32).toNatClampNeg) < (am_aI σ7 ((am_fR σ7 13037 this).getD 0) ((am_aL σ7 (x1.getD 0) (2 : Int32).toNatClampNeg).toInt32).toNatClampNeg).toInt64) → (0 < (am_fI σ7 13045 this) → (am_ar σ7 1001 x1 (3 : Int32)) ∧ (am_ar σ7 1000 (am_fR σ7 13049 this) ((am_fI σ7 13045 this) - (1 : Int32))) ∧ ((am_aL σ7 (x1.getD 0) (3 : Int32).toNatClampNeg) < (am_aI σ7 ((am_fR σ7 13049 this).getD 0) ((am_fI σ7 13045 this) - (1 : Int32)).toNatClampNeg).toInt64 → F (-4 : Int32) σ7) ∧ (¬ ((am_aL σ7 (x1.getD 0) (3 : Int32).toNatClampNeg) < (am_aI σ7 ((am_fR σ7 13049 this).getD 0) ((am_fI σ7 13045 this) - (1 : Int32)).toNatClampNeg).toInt64) → c_Ro_notified_125 nl Ln xs (d + 1) this x1 σ7 F)) ∧ (¬ (0 < (am_fI σ7 13045 this)) → c_Ro_notified_125 nl Ln xs (d + 1) this x1 σ7 F))) ∧ (¬ (a8 = true) → F (-2 : Int32) σ7))) ∧ (¬ (a4 = true) → F (-2 : Int32) σ3))) : c_Ro_notified_46 nl Ln xs (d + 1) this x1 σ F := by
  obtain ⟨j46, j47, j48, j49, j50, j51, j54, j55, j56, j57, j60, j63, j64, j65, j66, j67, j70, j73, j76, j78, j79, j80, j81, j82, j83, j86, j87, j88, j89, j90, j91, j92, j93, j96, j97, j100, j103, j104, j105, j106, j107, j110, j111, j114, j115, j116, j117, j118, j119, j122, j124, -⟩ := P_Ro_notified_46 nl Ln xs
  unfold c_Ro_notified_46
  refine s_aload_n j46 rfl rfl ?_
  refine s_iconst j47 rfl kc_ic_2 ?_
  obtain ⟨ho1, h⟩ := h
  refine s_laload j48 rfl ho1 ?_
  refine s_lconst j49 rfl rfl ?_
  refine s_aload_n j50 rfl rfl ?_
  obtain ⟨ho2, h⟩ := h
  refine s_gfI j51 rfl ho2 ?_
  refine s_iconst j54 rfl kc_ic_1 ?_
  refine s_g j55 rfl rfl rfl rfl rfl rfl ?_
  refine s_g j56 rfl rfl rfl rfl rfl rfl ?_
  refine s_stat j57 rfl rfl rfl rfl (by decide) (in_Rm_in _ _ _) (am_r8 rfl) (am_bB h (fun a4 σ3 h hx3 => ?_))
  replace h := h hx3
  refine s_ifn j60 rfl rfl am_cb_eq (fun hc5 => ?_) (fun hc5 => ?_)
  · replace h := h.2 hc5
    refine s_bipush j76 rfl kc_bi_m2 ?_
    exact s_retI j78 rfl h
  · replace h := h.1 hc5
    refine s_aload_n j63 rfl rfl ?_
    refine s_iconst j64 rfl kc_ic_3 ?_
    obtain ⟨ho6, h⟩ := h
    refine s_laload j65 rfl ho6 ?_
    refine s_lconst j66 rfl rfl ?_
    refine s_ldc2 j67 rfl kc_ll_10949 ?_
    refine s_stat j70 rfl rfl rfl rfl (by decide) (in_Rm_in _ _ _) (am_r8 rfl) (am_bB h (fun a8 σ7 h hx7 => ?_))
    replace h := h hx7
    refine s_if j73 rfl rfl am_cb_ne (fun hc9 => ?_) (fun hc9 => ?_)
    · replace h := h.1 hc9
      refine s_aload_n j79 rfl rfl ?_
      refine s_iconst j80 rfl kc_ic_3 ?_
      obtain ⟨ho10, h⟩ := h
      refine s_laload j81 rfl ho10 ?_
      refine s_aload_n j82 rfl rfl ?_
      refine s_gfR j83 rfl (am_is_ext hx7 (am_is_ext hx3 ho2)) ?_
      refine s_aload_n j86 rfl rfl ?_
      refine s_iconst j87 rfl kc_ic_2 ?_
      obtain ⟨ho11, h⟩ := h
      refine s_laload j88 rfl ho11 ?_
      refine s_g j89 rfl rfl rfl rfl rfl rfl ?_
      obtain ⟨ho12, h⟩ := h
      refine s_iaload j90 rfl ho12 ?_
      refine s_g j91 rfl rfl rfl rfl rfl rfl ?_
      refine s_g j92 rfl rfl rfl rfl rfl rfl ?_
      refine s_if j93 rfl rfl am_cl_lt (fun hc13 => ?_) (fun hc13 => ?_)
      · replace h := h.1 hc13
        refine s_bipush j122 rfl kc_bi_m4 ?_
        exact s_retI j124 rfl h
      · replace h := h.2 hc13
        refine s_aload_n j96 rfl rfl ?_
        refine s_gfI j97 rfl (am_is_ext hx7 (am_is_ext hx3 ho2)) ?_
        refine s_ifn j100 rfl rfl am_cc_le (fun hc14 => ?_) (fun hc14 => ?_)
        · replace h := h.2 hc14
          exact h
        · replace h := h.1 hc14
          refine s_aload_n j103 rfl rfl ?_
          refine s_iconst j104 rfl kc_ic_3 ?_
          obtain ⟨ho15, h⟩ := h
          refine s_laload j105 rfl ho15 ?_
          refine s_aload_n j106 rfl rfl ?_
          refine s_gfR j107 rfl (am_is_ext hx7 (am_is_ext hx3 ho2)) ?_
          refine s_aload_n j110 rfl rfl ?_
          refine s_gfI j111 rfl (am_is_ext hx7 (am_is_ext hx3 ho2)) ?_
          refine s_iconst j114 rfl kc_ic_1 ?_
          refine s_g j115 rfl rfl rfl rfl rfl rfl ?_
          obtain ⟨ho16, h⟩ := h
          refine s_iaload j116 rfl ho16 ?_
          refine s_g j117 rfl rfl rfl rfl rfl rfl ?_
          refine s_g j118 rfl rfl rfl rfl rfl rfl ?_
          refine s_ifn j119 rfl rfl am_cl_ge (fun hc17 => ?_) (fun hc17 => ?_)
          · replace h := h.2 hc17
            exact h
          · replace h := h.1 hc17
            refine s_bipush j122 rfl kc_bi_m4 ?_
            exact s_retI j124 rfl h
    · replace h := h.2 hc9
      refine s_bipush j76 rfl kc_bi_m2 ?_
      exact s_retI j78 rfl h
theorem P_Ro_notified_125 (nl : Bool) (Ln : Nat) (xs : Nat → Int32) : am_Jl (TT nl Ln xs) 295 [(125, .aload_n 0, 126, []), (126, .getfield 237, 129, [9, 13, 45, 0]), (129, .bipush 100, 131, []), (131, .if_icmp .ne 6, 134, []), (134, .bipush (-7), 136, []), (136, .ireturn, 137, [1]), (137, .aload_n 0, 138, []), (138, .getfield 123, 141, [9, 13, 46, 2]), (141, .aload_n 0, 142, []), (142, .getfield 237, 145, [9, 13, 45, 0]), (145, .aload_n 1, 146, []), (146, .iconst 0, 147, []), (147, .laload, 148, []), (148, .l2i, 149, []), (149, .iastore, 150, []), (150, .aload_n 0, 151, []), (151, .getfield 126, 154, [9, 13, 47, 2]), (154, .aload_n 0, 155, []), (155, .getfield 237, 158, [9, 13, 45, 0]), (158, .aload_n 1, 159, []), (159, .iconst 1, 160, []), (160, .laload, 161, []), (161, .l2i, 162, []), (162, .iastore, 163, []), (163, .aload_n 0, 164, []), (164, .getfield 129, 167, [9, 13, 48, 2]), (167, .aload_n 0, 168, []), (168, .getfield 237, 171, [9, 13, 45, 0]), (171, .aload_n 1, 172, []), (172, .iconst 2, 173, []), (173, .laload, 174, []), (174, .l2i, 175, []), (175, .iastore, 176, []), (176, .aload_n 0, 177, []), (177, .getfield 132, 180, [9, 13, 49, 2]), (180, .aload_n 0, 181, []), (181, .getfield 237, 184, [9, 13, 45, 0]), (184, .aload_n 1, 185, []), (185, .iconst 3, 186, []), (186, .laload, 187, []), (187, .l2i, 188, []), (188, .iastore, 189, []), (189, .aload_n 0, 190, []), (190, .getfield 135, 193, [9, 13, 50, 2]), (193, .aload_n 0, 194, []), (194, .getfield 237, 197, [9, 13, 45, 0]), (197, .aload_n 0, 198, []), (198, .getfield 206, 201, [9, 13, 0, 0]), (201, .iconst 1, 202, []), (202, .iadd, 203, []), (203, .iastore, 204, []), (204, .aload_n 0, 205, []), (205, .getfield 138, 208, [9, 13, 51, 2]), (208, .aload_n 0, 209, []), (209, .getfield 237, 212, [9, 13, 45, 0]), (212, .iconst 0, 213, []), (213, .iastore, 214, []), (214, .aload_n 0, 215, []), (215, .getfield 110, 218, [9, 13, 41, 2]), (218, .aload_n 0, 219, []), (219, .aload_n 1, 220, []), (220, .iconst 2, 221, []), (221, .laload, 222, []), (222, .l2i, 223, []), (223, .invokevirtual 301, 226, [10, 210, 14, 3, 2]), (226, .iconst 1, 227, []), (227, .bastore, 228, []), (228, .aload_n 0, 229, []), (229, .dup, 230, []), (230, .getfield 237, 233, [9, 13, 45, 0]), (233, .iconst 1, 234, []), (234, .iadd, 235, []), (235, .putfield 237, 238, [9, 13, 45, 0]), (238, .aload_n 0, 239, []), (239, .bipush 11, 241, []), (241, .aload_n 1, 242, []), (242, .aload_n 0, 243, []), (243, .getfield 237, 246, [9, 13, 45, 0]), (246, .iconst 1, 247, []), (247, .isub, 248, []), (248, .invokevirtual 503, 251, [10, 265, 14, 4, 4]), (251, .ireturn, 252, [1])] := dk_ck (by decide +kernel)
set_option maxRecDepth 4096 in
theorem w_Ro_notified_125 {nl : Bool} {Ln : Nat} {xs : Nat → Int32} {d : Nat} {this : Nat} {x1 : Option Nat} {σ : am_S} {F : Int32 → am_S → Prop} (h : (am_is σ (some this) 13) ∧ ((am_fI σ 13045 this) = (100 : Int32) → F (-7 : Int32) σ) ∧ (¬ ((am_fI σ 13045 this) = (100 : Int32)) → (am_ar σ 1001 x1 (0 : Int32)) ∧ (am_ar σ 1000 (am_fR σ 13046 this) (am_fI σ 13045 this)) ∧ ∀ σ5, σ5 = am_saI σ ((am_fR σ 13046 this).getD 0) (am_fI σ 13045 this).toNatClampNeg ((am_aL σ (x1.getD 0) (0 : Int32).toNatClampNeg).toInt32) → (am_ar σ5 1001 x1 (1 : Int32)) ∧ (am_ar σ5 1000 (am_fR σ5 13047 this) (am_fI σ5 13045 this)) ∧ ∀ σ10, σ10 = am_saI σ5 ((am_fR σ5 13047 this).getD 0) (am_fI σ5 13045 this).toNatClampNeg ((am_aL σ5 (x1.getD 0) (1 : Int32).toNatClampNeg).toInt32) → (am_ar σ10 1001 x1 (2 : Int32)) ∧ (am_ar σ10 1000 (am_fR σ10 13048 this) (am_fI σ10 13045 this)) ∧ ∀ σ15, σ15 = am_saI σ10 ((am_fR σ10 13048 this).getD 0) (am_fI σ10 13045 this).toNatClampNeg ((am_aL σ10 (x1.getD 0) (2 : Int32).toNatClampNeg).toInt32) → (am_ar σ15 1001 x1 (3 : Int32)) ∧ (am_ar σ15 1000 (am_fR σ15 13049 this) (am_fI σ15 13045 this)) ∧ ∀ σ20, σ20 = am_saI σ15 ((am_fR σ15 13049 this).getD 0) (am_fI σ15 13045 this).toNatClampNeg ((am_aL σ15 (x1.getD 0) (3 : Int32).toNatClampNeg).toInt32) → (am_ar σ20 1000 (am_fR σ20 13050 this) (am_fI σ20 13045 this)) ∧ ∀ σ24, σ24 = am_saI σ20 ((am_fR σ20 13050 this).getD 0) (am_fI σ20 13045 this).toNatClampNeg ((am_fI σ20 13000 this) + (1 : Int32)) → (am_ar σ24 1000 (am_fR σ24 13051 this) (am_fI σ24 13045 this)) ∧ ∀ σ28, σ28 = am_saI σ24 ((am_fR σ24 13051 this).getD 0) (am_fI σ24 13045 this).toNatClampNeg (0 : Int32) → (am_ar σ28 1001 x1 (2 : Int32)) ∧ k_Ro_root nl Ln xs d this ((am_aL σ28 (x1.getD 0) (2 : Int32).toNatClampNeg).toInt32) σ28 (fun a33 σ32 => am_ext σ28 σ32 → (am_ar σ32 1003 (am_fR σ28 13041 this) a33) ∧ ∀ σ35, σ35 = am_saI σ32 ((am_fR σ28 13041 this).getD 0) a33.toNatClampNeg (vp_nar .boolean (1 : Int32)) → ∀ σ38, σ38 = am_sfI σ35 13045 this ((am_fI σ35 13045 this) + (1 : Int32)) → k_Ro_done nl Ln xs d this (11 : Int32) x1 ((am_fI σ38 13045 this) - (1 : Int32)) σ38 (fun a42 σ41 => am_ext σ38 σ41 → F a42 σ41)))) : c_Ro_notified_125 nl Ln xs (d + 1) this x1 σ F := by
  obtain ⟨j125, j126, j129, j131, j134, j136, j137, j138, j141, j142, j145, j146, j147, j148, j149, j150, j151, j154, j155, j158, j159, j160, j161, j162, j163, j164, j167, j168, j171, j172, j173, j174, j175, j176, j177, j180, j181, j184, j185, j186, j187, j188, j189, j190, j193, j194, j197, j198, j201, j202, j203, j204, j205, j208, j209, j212, j213, j214, j215, j218, j219, j220, j221, j222, j223, j226, j227, j228, j229, j230, j233, j234, j235, j238, j239, j241, j242, j243, j246, j247, j248, j251, -⟩ := P_Ro_notified_125 nl Ln xs
  unfold c_Ro_notified_125
  refine s_aload_n j125 rfl rfl ?_
  obtain ⟨ho1, h⟩ := h
  refine s_gfI j126 rfl ho1 ?_
  refine s_bipush j129 rfl kc_bi_100 ?_
  refine s_icn j131 rfl rfl am_cc_ne (fun hc2 => ?_) (fun hc2 => ?_)
  · replace h := h.2 hc2
    refine s_aload_n j137 rfl rfl ?_
    refine s_gfR j138 rfl ho1 ?_
    refine s_aload_n j141 rfl rfl ?_
    refine s_gfI j142 rfl ho1 ?_
    refine s_aload_n j145 rfl rfl ?_
    refine s_iconst j146 rfl kc_ic_0 ?_
    obtain ⟨ho3, h⟩ := h
    refine s_laload j147 rfl ho3 ?_
    refine s_g j148 rfl rfl rfl rfl rfl rfl ?_
    obtain ⟨ho4, h⟩ := h
    refine s_iastore j149 rfl ho4 (fun σ5 e6 => ?_)
    replace h := h σ5 e6
    have ek7 : am_kd σ5 = am_kd σ := by rw [e6]
    refine s_aload_n j150 rfl rfl ?_
    refine s_gfR j151 rfl (am_is_kd ek7 ho1) ?_
    refine s_aload_n j154 rfl rfl ?_
    refine s_gfI j155 rfl (am_is_kd ek7 ho1) ?_
    refine s_aload_n j158 rfl rfl ?_
    refine s_iconst j159 rfl kc_ic_1 ?_
    obtain ⟨ho8, h⟩ := h
    refine s_laload j160 rfl ho8 ?_
    refine s_g j161 rfl rfl rfl rfl rfl rfl ?_
    obtain ⟨ho9, h⟩ := h
    refine s_iastore j162 rfl ho9 (fun σ10 e11 => ?_)
    replace h := h σ10 e11
    have ek12 : am_kd σ10 = am_kd σ5 := by rw [e11]
    refine s_aload_n j163 rfl rfl ?_
    refine s_gfR j164 rfl (am_is_kd ek12 (am_is_kd ek7 ho1)) ?_
    refine s_aload_n j167 rfl rfl ?_
    refine s_gfI j168 rfl (am_is_kd ek12 (am_is_kd ek7 ho1)) ?_
    refine s_aload_n j171 rfl rfl ?_
    refine s_iconst j172 rfl kc_ic_2 ?_
    obtain ⟨ho13, h⟩ := h
    refine s_laload j173 rfl ho13 ?_
    refine s_g j174 rfl rfl rfl rfl rfl rfl ?_
    obtain ⟨ho14, h⟩ := h
    refine s_iastore j175 rfl ho14 (fun σ15 e16 => ?_)
    replace h := h σ15 e16
    have ek17 : am_kd σ15 = am_kd σ10 := by rw [e16]
    refine s_aload_n j176 rfl rfl ?_
    refine s_gfR j177 rfl (am_is_kd ek17 (am_is_kd ek12 (am_is_kd ek7 ho1))) ?_
    refine s_aload_n j180 rfl rfl ?_
    refine s_gfI j181 rfl (am_is_kd ek17 (am_is_kd ek12 (am_is_kd ek7 ho1))) ?_
    refine s_aload_n j184 rfl rfl ?_
    refine s_iconst j185 rfl kc_ic_3 ?_
    obtain ⟨ho18, h⟩ := h
    refine s_laload j186 rfl ho18 ?_
    refine s_g j187 rfl rfl rfl rfl rfl rfl ?_
    obtain ⟨ho19, h⟩ := h
    refine s_iastore j188 rfl ho19 (fun σ20 e21 => ?_)
    replace h := h σ20 e21
    have ek22 : am_kd σ20 = am_kd σ15 := by rw [e21]
    refine s_aload_n j189 rfl rfl ?_
    refine s_gfR j190 rfl (am_is_kd ek22 (am_is_kd ek17 (am_is_kd ek12 (am_is_kd ek7 ho1)))) ?_
    refine s_aload_n j193 rfl rfl ?_
    refine s_gfI j194 rfl (am_is_kd ek22 (am_is_kd ek17 (am_is_kd ek12 (am_is_kd ek7 ho1)))) ?_
    refine s_aload_n j197 rfl rfl ?_
    refine s_gfI j198 rfl (am_is_kd ek22 (am_is_kd ek17 (am_is_kd ek12 (am_is_kd ek7 ho1)))) ?_
    refine s_iconst j201 rfl kc_ic_1 ?_
    refine s_g j202 rfl rfl rfl rfl rfl rfl ?_
    obtain ⟨ho23, h⟩ := h
    refine s_iastore j203 rfl ho23 (fun σ24 e25 => ?_)
    replace h := h σ24 e25
    have ek26 : am_kd σ24 = am_kd σ20 := by rw [e25]
    refine s_aload_n j204 rfl rfl ?_
    refine s_gfR j205 rfl (am_is_kd ek26 (am_is_kd ek22 (am_is_kd ek17 (am_is_kd ek12 (am_is_kd ek7 ho1))))) ?_
    refine s_aload_n j208 rfl rfl ?_
    refine s_gfI j209 rfl (am_is_kd ek26 (am_is_kd ek22 (am_is_kd ek17 (am_is_kd ek12 (am_is_kd ek7 ho1))))) ?_
    refine s_iconst j212 rfl kc_ic_0 ?_
    obtain ⟨ho27, h⟩ := h
    refine s_iastore j213 rfl ho27 (fun σ28 e29 => ?_)
    replace h := h σ28 e29
    have ek30 : am_kd σ28 = am_kd σ24 := by rw [e29]
    refine s_aload_n j214 rfl rfl ?_
    refine s_gfR j215 rfl (am_is_kd ek30 (am_is_kd ek26 (am_is_kd ek22 (am_is_kd ek17 (am_is_kd ek12 (am_is_kd ek7 ho1)))))) ?_
    refine s_aload_n j218 rfl rfl ?_
    refine s_aload_n j219 rfl rfl ?_
    refine s_iconst j220 rfl kc_ic_2 ?_
    obtain ⟨ho31, h⟩ := h
    refine s_laload j221 rfl ho31 ?_
    refine s_g j222 rfl rfl rfl rfl rfl rfl ?_
    refine s_virt j223 rfl rfl rfl rfl (am_is_kd ek30 (am_is_kd ek26 (am_is_kd ek22 (am_is_kd ek17 (am_is_kd ek12 (am_is_kd ek7 ho1)))))) (by decide) (in_Ro_root _ _) (am_r8 rfl) (am_bI h (fun a33 σ32 h hx32 => ?_))
    replace h := h hx32
    refine s_iconst j226 rfl kc_ic_1 ?_
    obtain ⟨ho34, h⟩ := h
    refine s_zastore j227 rfl ho34 (fun σ35 e36 => ?_)
    replace h := h σ35 e36
    have ek37 : am_kd σ35 = am_kd σ32 := by rw [e36]
    refine s_aload_n j228 rfl rfl ?_
    refine s_dup j229 rfl (am_cov _) ?_
    refine s_gfI j230 rfl (am_is_kd ek37 (am_is_ext hx32 (am_is_kd ek30 (am_is_kd ek26 (am_is_kd ek22 (am_is_kd ek17 (am_is_kd ek12 (am_is_kd ek7 ho1)))))))) ?_
    refine s_iconst j233 rfl kc_ic_1 ?_
    refine s_g j234 rfl rfl rfl rfl rfl rfl ?_
    refine s_pfI j235 rfl (am_is_kd ek37 (am_is_ext hx32 (am_is_kd ek30 (am_is_kd ek26 (am_is_kd ek22 (am_is_kd ek17 (am_is_kd ek12 (am_is_kd ek7 ho1)))))))) (fun σ38 e39 => ?_)
    replace h := h σ38 e39
    have ek40 : am_kd σ38 = am_kd σ35 := by rw [e39]
    refine s_aload_n j238 rfl rfl ?_
    refine s_bipush j239 rfl kc_bi_11 ?_
    refine s_aload_n j241 rfl rfl ?_
    refine s_aload_n j242 rfl rfl ?_
    refine s_gfI j243 rfl (am_is_kd ek40 (am_is_kd ek37 (am_is_ext hx32 (am_is_kd ek30 (am_is_kd ek26 (am_is_kd ek22 (am_is_kd ek17 (am_is_kd ek12 (am_is_kd ek7 ho1))))))))) ?_
    refine s_iconst j246 rfl kc_ic_1 ?_
    refine s_g j247 rfl rfl rfl rfl rfl rfl ?_
    refine s_virt j248 rfl rfl rfl rfl (am_is_kd ek40 (am_is_kd ek37 (am_is_ext hx32 (am_is_kd ek30 (am_is_kd ek26 (am_is_kd ek22 (am_is_kd ek17 (am_is_kd ek12 (am_is_kd ek7 ho1))))))))) (by decide) (in_Ro_done _ _ _ _) (am_r8 rfl) (am_bI h (fun a42 σ41 h hx41 => ?_))
    replace h := h hx41
    exact s_retI j251 rfl h
  · replace h := h.1 hc2
    refine s_bipush j134 rfl kc_bi_m7 ?_
    exact s_retI j136 rfl h
theorem P_Ro_batch (nl : Bool) (Ln : Nat) (xs : Nat → Int32) : am_Jl (TT nl Ln xs) 296 [(0, .aload_n 0, 1, []), (1, .dup, 2, []), (2, .getfield 240, 5, [9, 13, 60, 0]), (5, .iconst 1, 6, []), (6, .iadd, 7, []), (7, .putfield 240, 10, [9, 13, 60, 0]), (10, .aload_n 0, 11, []), (11, .iconst 1, 12, []), (12, .putfield 246, 15, [9, 13, 62, 3]), (15, .aload_n 0, 16, []), (16, .iconst 0, 17, []), (17, .putfield 250, 20, [9, 13, 63, 0]), (20, .aload_n 0, 21, []), (21, .bipush 20, 23, []), (23, .aload_n 1, 24, []), (24, .invokevirtual 499, 27, [10, 203, 14, 5, 3]), (27, .aload_n 0, 28, []), (28, .getfield 240, 31, [9, 13, 60, 0]), (31, .ireturn, 32, [1])] := dk_ck (by decide +kernel)
set_option maxRecDepth 4096 in
theorem w_Ro_batch {nl : Bool} {Ln : Nat} {xs : Nat → Int32} {d : Nat} {this : Nat} {p0 : Option Nat} {σ : am_S} {F : Int32 → am_S → Prop} (h : (am_is σ (some this) 13) ∧ ∀ σ2, σ2 = am_sfI σ 13060 this ((am_fI σ 13060 this) + (1 : Int32)) → ∀ σ5, σ5 = am_sfI σ2 13062 this (1 : Int32) → ∀ σ8, σ8 = am_sfI σ5 13063 this (0 : Int32) → k_Ro_note nl Ln xs d this (20 : Int32) p0 σ8 (fun σ11 => am_ext σ8 σ11 → F (am_fI σ11 13060 this) σ11)) : k_Ro_batch nl Ln xs (d + 1) this p0 σ F := by
  obtain ⟨j0, j1, j2, j5, j6, j7, j10, j11, j12, j15, j16, j17, j20, j21, j23, j24, j27, j28, j31, -⟩ := P_Ro_batch nl Ln xs
  have elo : am_lo 2 [am_ov (some this), am_ov p0] = [some (am_ov (some this)), some (am_ov p0)] := by simp only [am_lo, am_in_ov, am_in_int, am_in_long, am_in_nil]; rfl
  unfold k_Ro_batch
  rw [elo]
  refine s_aload_n j0 rfl rfl ?_
  refine s_dup j1 rfl (am_cov _) ?_
  obtain ⟨ho1, h⟩ := h
  refine s_gfI j2 rfl ho1 ?_
  refine s_iconst j5 rfl kc_ic_1 ?_
  refine s_g j6 rfl rfl rfl rfl rfl rfl ?_
  refine s_pfI j7 rfl ho1 (fun σ2 e3 => ?_)
  replace h := h σ2 e3
  have ek4 : am_kd σ2 = am_kd σ := by rw [e3]
  refine s_aload_n j10 rfl rfl ?_
  refine s_iconst j11 rfl kc_ic_1 ?_
  refine s_pfZ j12 rfl (am_is_kd ek4 ho1) (Or.inr rfl) (fun σ5 e6 => ?_)
  replace h := h σ5 e6
  have ek7 : am_kd σ5 = am_kd σ2 := by rw [e6]
  refine s_aload_n j15 rfl rfl ?_
  refine s_iconst j16 rfl kc_ic_0 ?_
  refine s_pfI j17 rfl (am_is_kd ek7 (am_is_kd ek4 ho1)) (fun σ8 e9 => ?_)
  replace h := h σ8 e9
  have ek10 : am_kd σ8 = am_kd σ5 := by rw [e9]
  refine s_aload_n j20 rfl rfl ?_
  refine s_bipush j21 rfl kc_bi_20 ?_
  refine s_aload_n j23 rfl rfl ?_
  refine s_virt j24 rfl rfl rfl rfl (am_is_kd ek10 (am_is_kd ek7 (am_is_kd ek4 ho1))) (by decide) (in_Ro_note _ _ _) (am_r8 rfl) (am_bV h (fun σ11 h hx11 => ?_))
  replace h := h hx11
  refine s_aload_n j27 rfl rfl ?_
  refine s_gfI j28 rfl (am_is_ext hx11 (am_is_kd ek10 (am_is_kd ek7 (am_is_kd ek4 ho1)))) ?_
  exact s_retI j31 rfl h
theorem P_Ro_end (nl : Bool) (Ln : Nat) (xs : Nat → Int32) : am_Jl (TT nl Ln xs) 297 [(0, .aload_n 0, 1, []), (1, .getfield 246, 4, [9, 13, 62, 3]), (4, .ifCond .ne 6, 7, []), (7, .bipush (-3), 9, []), (9, .ireturn, 10, [1]), (10, .iconst 0, 11, []), (11, .istore_n 2, 12, [])] := dk_ck (by decide +kernel)
set_option maxRecDepth 4096 in
theorem w_Ro_end {nl : Bool} {Ln : Nat} {xs : Nat → Int32} {d : Nat} {this : Nat} {p0 : Option Nat} {σ : am_S} {F : Int32 → am_S → Prop} (h : (am_is σ (some this) 13) ∧ ((am_fI σ 13062 this) = 0 → F (-3 : Int32) σ) ∧ (¬ ((am_fI σ 13062 this) = 0) → c_Ro_end_12 nl Ln xs (d + 1) this p0 (0 : Int32) σ F)) : k_Ro_end nl Ln xs (d + 1) this p0 σ F := by
  obtain ⟨j0, j1, j4, j7, j9, j10, j11, -⟩ := P_Ro_end nl Ln xs
  have elo : am_lo 6 [am_ov (some this), am_ov p0] = [some (am_ov (some this)), some (am_ov p0), none, none, none, none] := by simp only [am_lo, am_in_ov, am_in_int, am_in_long, am_in_nil]; rfl
  unfold k_Ro_end
  rw [elo]
  refine s_aload_n j0 rfl rfl ?_
  obtain ⟨ho1, h⟩ := h
  refine s_gfZ j1 rfl ho1 ?_
  refine s_ifn j4 rfl rfl am_cc_ne (fun hc2 => ?_) (fun hc2 => ?_)
  · replace h := h.2 hc2
    refine s_iconst j10 rfl kc_ic_0 ?_
    refine s_istore_n j11 rfl (n := 6) (L' := [some (am_ov (some this)), some (am_ov p0), some (.int (0 : Int32)), none, none, none]) rfl (by decide) (am_st1_R [_] _ _ _ _) ?_
    exact h
  · replace h := h.1 hc2
    refine s_bipush j7 rfl kc_bi_m3 ?_
    exact s_retI j9 rfl h
theorem P_Ro_end_12 (nl : Bool) (Ln : Nat) (xs : Nat → Int32) : am_Jl (TT nl Ln xs) 297 [(12, .iload_n 2, 13, []), (13, .aload_n 0, 14, []), (14, .getfield 237, 17, [9, 13, 45, 0]), (17, .if_icmp .ge 21, 20, []), (20, .aload_n 0, 21, []), (21, .getfield 197, 24, [9, 13, 88, 2]), (24, .iload_n 2, 25, []), (25, .aload_n 0, 26, []), (26, .getfield 138, 29, [9, 13, 51, 2]), (29, .iload_n 2, 30, []), (30, .iaload, 31, []), (31, .iastore, 32, []), (32, .iinc 2 1, 35, []), (35, .goto (-23), 38, []), (38, .aload_n 0, 39, []), (39, .getfield 250, 42, [9, 13, 63, 0]), (42, .istore_n 2, 43, []), (43, .aload_n 0, 44, []), (44, .getfield 253, 47, [9, 13, 67, 0]), (47, .istore_n 3, 48, []), (48, .iconst 0, 49, []), (49, .istore 4, 51, [])] := dk_ck (by decide +kernel)
set_option maxRecDepth 4096 in
theorem w_Ro_end_12 {nl : Bool} {Ln : Nat} {xs : Nat → Int32} {d : Nat} {this : Nat} {x1 : Option Nat} {x2 : Int32} {σ : am_S} {F : Int32 → am_S → Prop} (h : (am_is σ (some this) 13) ∧ (x2 < (am_fI σ 13045 this) → (am_ar σ 1000 (am_fR σ 13051 this) x2) ∧ (am_ar σ 1000 (am_fR σ 13088 this) x2) ∧ ∀ σ5, σ5 = am_saI σ ((am_fR σ 13088 this).getD 0) x2.toNatClampNeg (am_aI σ ((am_fR σ 13051 this).getD 0) x2.toNatClampNeg) → c_Ro_end_12 nl Ln xs (d + 1) this x1 (x2 + (1 : Int32)) σ5 F) ∧ (¬ (x2 < (am_fI σ 13045 this)) → ∀ v8 : Int32, v8 = (am_fI σ 13063 this) → ∀ v10 : Int32, v10 = (am_fI σ 13067 this) → c_Ro_end_51 nl Ln xs (d + 1) this x1 v8 v10 (0 : Int32) none σ F)) : c_Ro_end_12 nl Ln xs (d + 1) this x1 x2 σ F := by
  obtain ⟨j12, j13, j14, j17, j20, j21, j24, j25, j26, j29, j30, j31, j32, j35, j38, j39, j42, j43, j44, j47, j48, j49, -⟩ := P_Ro_end_12 nl Ln xs
  unfold c_Ro_end_12
  refine s_iload_n j12 rfl rfl ?_
  refine s_aload_n j13 rfl rfl ?_
  obtain ⟨ho1, h⟩ := h
  refine s_gfI j14 rfl ho1 ?_
  refine s_icn j17 rfl rfl am_cc_ge (fun hc2 => ?_) (fun hc2 => ?_)
  · replace h := h.2 hc2
    refine s_aload_n j38 rfl rfl ?_
    refine s_gfI j39 rfl ho1 ?_
    refine s_istore_nV j42 rfl (n := 6) (L' := fun w => [some (am_ov (some this)), some (am_ov x1), some (.int w), none, none, none]) rfl (by decide) (fun _ => am_st1_R [_] _ _ _ _) (fun v8 hv9 => ?_)
    replace h := h v8 hv9
    refine s_aload_n j43 rfl rfl ?_
    refine s_gfI j44 rfl ho1 ?_
    refine s_istore_nV j47 rfl (n := 6) (L' := fun w => [some (am_ov (some this)), some (am_ov x1), some (.int v8), some (.int w), none, none]) rfl (by decide) (fun _ => rfl) (fun v10 hv11 => ?_)
    replace h := h v10 hv11
    refine s_iconst j48 rfl kc_ic_0 ?_
    refine s_istore j49 rfl (n := 6) (L' := [some (am_ov (some this)), some (am_ov x1), some (.int v8), some (.int v10), some (.int (0 : Int32)), none]) rfl (by decide) rfl ?_
    exact h
  · replace h := h.1 hc2
    refine s_aload_n j20 rfl rfl ?_
    refine s_gfR j21 rfl ho1 ?_
    refine s_iload_n j24 rfl rfl ?_
    refine s_aload_n j25 rfl rfl ?_
    refine s_gfR j26 rfl ho1 ?_
    refine s_iload_n j29 rfl rfl ?_
    obtain ⟨ho3, h⟩ := h
    refine s_iaload j30 rfl ho3 ?_
    obtain ⟨ho4, h⟩ := h
    refine s_iastore j31 rfl ho4 (fun σ5 e6 => ?_)
    replace h := h σ5 e6
    have ek7 : am_kd σ5 = am_kd σ := by rw [e6]
    refine s_iinc (L' := [some (am_ov (some this)), some (am_ov x1), some (.int (x2 + (1 : Int32))), none, none, none]) j32 rfl rfl kc_ic_1 (am_st1_R [_] _ _ _ _) ?_
    refine s_goto j35 rfl rfl ?_
    exact h
theorem P_Ro_end_51 (nl : Bool) (Ln : Nat) (xs : Nat → Int32) : am_Jl (TT nl Ln xs) 297 [(51, .iload 4, 53, []), (53, .aload_n 0, 54, []), (54, .getfield 250, 57, [9, 13, 63, 0]), (57, .if_icmp .ge 84, 60, []), (60, .iload_n 2, 61, []), (61, .aload_n 0, 62, []), (62, .getfield 250, 65, [9, 13, 63, 0]), (65, .if_icmp .ne 76, 68, []), (68, .iconst 0, 69, []), (69, .istore 5, 71, []), (141, .aload_n 0, 142, []), (142, .iload_n 3, 143, []), (143, .putfield 253, 146, [9, 13, 67, 0]), (146, .iconst 0, 147, []), (147, .istore 4, 149, [])] := dk_ck (by decide +kernel)
set_option maxRecDepth 4096 in
theorem w_Ro_end_51 {nl : Bool} {Ln : Nat} {xs : Nat → Int32} {d : Nat} {this : Nat} {x1 : Option Nat} {x2 : Int32} {x3 : Int32} {x4 : Int32} {x5 : Option Value} {σ : am_S} {F : Int32 → am_S → Prop} (h : (am_is σ (some this) 13) ∧ (x4 < (am_fI σ 13063 this) → (x2 = (am_fI σ 13063 this) → c_Ro_end_71 nl Ln xs (d + 1) this x1 x2 x3 x4 (0 : Int32) σ F) ∧ (¬ (x2 = (am_fI σ 13063 this)) → ∀ σ4, σ4 = am_sfI σ 13067 this x3 → c_Ro_end_149 nl Ln xs (d + 1) this x1 x2 x3 (0 : Int32) x5 σ4 F)) ∧ (¬ (x4 < (am_fI σ 13063 this)) → ∀ σ7, σ7 = am_sfI σ 13067 this x3 → c_Ro_end_149 nl Ln xs (d + 1) this x1 x2 x3 (0 : Int32) x5 σ7 F)) : c_Ro_end_51 nl Ln xs (d + 1) this x1 x2 x3 x4 x5 σ F := by
  obtain ⟨j51, j53, j54, j57, j60, j61, j62, j65, j68, j69, j141, j142, j143, j146, j147, -⟩ := P_Ro_end_51 nl Ln xs
  unfold c_Ro_end_51
  refine s_iload j51 rfl rfl ?_
  refine s_aload_n j53 rfl rfl ?_
  obtain ⟨ho1, h⟩ := h
  refine s_gfI j54 rfl ho1 ?_
  refine s_icn j57 rfl rfl am_cc_ge (fun hc2 => ?_) (fun hc2 => ?_)
  · replace h := h.2 hc2
    refine s_aload_n j141 rfl rfl ?_
    refine s_iload_n j142 rfl rfl ?_
    refine s_pfI j143 rfl ho1 (fun σ7 e8 => ?_)
    replace h := h σ7 e8
    have ek9 : am_kd σ7 = am_kd σ := by rw [e8]
    refine s_iconst j146 rfl kc_ic_0 ?_
    refine s_istore j147 rfl (n := 6) (L' := [some (am_ov (some this)), some (am_ov x1), some (.int x2), some (.int x3), some (.int (0 : Int32)), x5]) rfl (by decide) rfl ?_
    exact h
  · replace h := h.1 hc2
    refine s_iload_n j60 rfl rfl ?_
    refine s_aload_n j61 rfl rfl ?_
    refine s_gfI j62 rfl ho1 ?_
    refine s_icn j65 rfl rfl am_cc_ne (fun hc3 => ?_) (fun hc3 => ?_)
    · replace h := h.2 hc3
      refine s_aload_n j141 rfl rfl ?_
      refine s_iload_n j142 rfl rfl ?_
      refine s_pfI j143 rfl ho1 (fun σ4 e5 => ?_)
      replace h := h σ4 e5
      have ek6 : am_kd σ4 = am_kd σ := by rw [e5]
      refine s_iconst j146 rfl kc_ic_0 ?_
      refine s_istore j147 rfl (n := 6) (L' := [some (am_ov (some this)), some (am_ov x1), some (.int x2), some (.int x3), some (.int (0 : Int32)), x5]) rfl (by decide) rfl ?_
      exact h
    · replace h := h.1 hc3
      refine s_iconst j68 rfl kc_ic_0 ?_
      refine s_istore j69 rfl (n := 6) (L' := [some (am_ov (some this)), some (am_ov x1), some (.int x2), some (.int x3), some (.int x4), some (.int (0 : Int32))]) rfl (by decide) rfl ?_
      exact h
theorem P_Ro_end_71 (nl : Bool) (Ln : Nat) (xs : Nat → Int32) : am_Jl (TT nl Ln xs) 297 [(71, .iload 5, 73, []), (73, .bipush 6, 75, []), (75, .if_icmp .ge 29, 78, []), (78, .aload_n 0, 79, []), (79, .getfield 200, 82, [9, 13, 89, 2]), (82, .iload 5, 84, []), (84, .aload_n 0, 85, []), (85, .getfield 168, 88, [9, 13, 65, 2]), (88, .bipush 6, 90, []), (90, .iload 4, 92, []), (92, .imul, 93, []), (93, .iload 5, 95, []), (95, .iadd, 96, []), (96, .laload, 97, []), (97, .lastore, 98, []), (98, .iinc 5 1, 101, []), (101, .goto (-30), 104, []), (104, .aload_n 0, 105, []), (105, .aload_n 0, 106, []), (106, .getfield 165, 109, [9, 13, 64, 2]), (109, .iload 4, 111, []), (111, .iaload, 112, []), (112, .aload_n 0, 113, []), (113, .getfield 200, 116, [9, 13, 89, 2]), (116, .invokevirtual 560, 119, [10, 206, 14, 8, 3]), (119, .ifCond .ge 11, 122, []), (122, .bipush (-20), 124, []), (124, .iload 4, 126, []), (126, .isub, 127, []), (127, .goto 7, 130, []), (130, .aload_n 0, 131, []), (131, .getfield 250, 134, [9, 13, 63, 0]), (134, .istore_n 2, 135, []), (135, .iinc 4 1, 138, []), (138, .goto (-87), 141, [])] := dk_ck (by decide +kernel)
set_option maxRecDepth 4096 in
theorem w_Ro_end_71 {nl : Bool} {Ln : Nat} {xs : Nat → Int32} {d : Nat} {this : Nat} {x1 : Option Nat} {x2 : Int32} {x3 : Int32} {x4 : Int32} {x5 : Int32} {σ : am_S} {F : Int32 → am_S → Prop} (h : (x5 < (6 : Int32) → (am_is σ (some this) 13) ∧ (am_ar σ 1001 (am_fR σ 13065 this) (((6 : Int32) * x4) + x5)) ∧ (am_ar σ 1001 (am_fR σ 13089 this) x5) ∧ ∀ σ5, σ5 = am_saL σ ((am_fR σ 13089 this).getD 0) x5.toNatClampNeg (am_aL σ ((am_fR σ 13065 this).getD 0) (((6 : Int32) * x4) + x5).toNatClampNeg) → c_Ro_end_71 nl Ln xs (d + 1) this x1 x2 x3 x4 (x5 + (1 : Int32)) σ5 F) ∧ (¬ (x5 < (6 : Int32)) → (am_is σ (some this) 13) ∧ (am_ar σ 1000 (am_fR σ 13064 this) x4) ∧ k_Ro_fact nl Ln xs d this (am_aI σ ((am_fR σ 13064 this).getD 0) x4.toNatClampNeg) (am_fR σ 13089 this) σ (fun a11 σ10 => am_ext σ σ10 → ∀ w14 : Int32, w14 = (if a11 < 0 then ((-20 : Int32) - x4) else (am_fI σ10 13063 this)) → c_Ro_end_51 nl Ln xs (d + 1) this x1 w14 x3 (x4 + (1 : Int32)) (some (.int x5)) σ10 F))) : c_Ro_end_71 nl Ln xs (d + 1) this x1 x2 x3 x4 x5 σ F := by
  obtain ⟨j71, j73, j75, j78, j79, j82, j84, j85, j88, j90, j92, j93, j95, j96, j97, j98, j101, j104, j105, j106, j109, j111, j112, j113, j116, j119, j122, j124, j126, j127, j130, j131, j134, j135, j138, -⟩ := P_Ro_end_71 nl Ln xs
  unfold c_Ro_end_71
  refine s_iload j71 rfl rfl ?_
  refine s_bipush j73 rfl kc_bi_6 ?_
  refine s_icn j75 rfl rfl am_cc_ge (fun hc1 => ?_) (fun hc1 => ?_)
  · replace h := h.2 hc1
    refine s_aload_n j104 rfl rfl ?_
    refine s_aload_n j105 rfl rfl ?_
    obtain ⟨ho8, h⟩ := h
    refine s_gfR j106 rfl ho8 ?_
    refine s_iload j109 rfl rfl ?_
    obtain ⟨ho9, h⟩ := h
    refine s_iaload j111 rfl ho9 ?_
    refine s_aload_n j112 rfl rfl ?_
    refine s_gfR j113 rfl ho8 ?_
    refine s_virt j116 rfl rfl rfl rfl ho8 (by decide) (in_Ro_fact _ _ _) (am_r8 rfl) (am_bI h (fun a11 σ10 h hx10 => ?_))
    replace h := h hx10
    have K13 : ∀ (w14 : Int32), w14 = (if a11 < 0 then ((-20 : Int32) - x4) else (am_fI σ10 13063 this)) → am_C (TT nl Ln xs) (d + 1) 297 134 [some (am_ov (some this)), some (am_ov x1), some (.int x2), some (.int x3), some (.int x4), some (.int x5)] [.int w14] σ10 (am_qI F) := by
      intro w14 hw15
      replace h := h w14 hw15
      refine s_istore_n j134 rfl (n := 6) (L' := [some (am_ov (some this)), some (am_ov x1), some (.int w14), some (.int x3), some (.int x4), some (.int x5)]) rfl (by decide) (am_st1_R [_] _ _ _ _) ?_
      refine s_iinc (L' := [some (am_ov (some this)), some (am_ov x1), some (.int w14), some (.int x3), some (.int (x4 + (1 : Int32))), some (.int x5)]) j135 rfl rfl kc_ic_1 rfl ?_
      refine s_goto j138 rfl rfl ?_
      exact h
    refine s_ifn j119 rfl rfl am_cc_ge (fun hc12 => ?_) (fun hc12 => ?_)
    · refine s_aload_n j130 rfl rfl ?_
      refine s_gfI j131 rfl (am_is_ext hx10 ho8) ?_
      exact K13 _ (am_t2 hc12 rfl)
    · refine s_bipush j122 rfl kc_bi_m20 ?_
      refine s_iload j124 rfl rfl ?_
      refine s_g j126 rfl rfl rfl rfl rfl rfl ?_
      refine s_goto j127 rfl rfl ?_
      exact K13 _ (am_t1 hc12 rfl)
  · replace h := h.1 hc1
    refine s_aload_n j78 rfl rfl ?_
    obtain ⟨ho2, h⟩ := h
    refine s_gfR j79 rfl ho2 ?_
    refine s_iload j82 rfl rfl ?_
    refine s_aload_n j84 rfl rfl ?_
    refine s_gfR j85 rfl ho2 ?_
    refine s_bipush j88 rfl kc_bi_6 ?_
    refine s_iload j90 rfl rfl ?_
    refine s_g j92 rfl rfl rfl rfl rfl rfl ?_
    refine s_iload j93 rfl rfl ?_
    refine s_g j95 rfl rfl rfl rfl rfl rfl ?_
    obtain ⟨ho3, h⟩ := h
    refine s_laload j96 rfl ho3 ?_
    obtain ⟨ho4, h⟩ := h
    refine s_lastore j97 rfl ho4 (fun σ5 e6 => ?_)
    replace h := h σ5 e6
    have ek7 : am_kd σ5 = am_kd σ := by rw [e6]
    refine s_iinc (L' := [some (am_ov (some this)), some (am_ov x1), some (.int x2), some (.int x3), some (.int x4), some (.int (x5 + (1 : Int32)))]) j98 rfl rfl kc_ic_1 rfl ?_
    refine s_goto j101 rfl rfl ?_
    exact h
theorem P_Ro_end_149 (nl : Bool) (Ln : Nat) (xs : Nat → Int32) : am_Jl (TT nl Ln xs) 297 [(149, .iload 4, 151, []), (151, .aload_n 0, 152, []), (152, .getfield 237, 155, [9, 13, 45, 0]), (155, .if_icmp .ge 27, 158, []), (158, .iload_n 2, 159, []), (159, .ifCond .ge 23, 162, []), (162, .aload_n 0, 163, []), (163, .getfield 138, 166, [9, 13, 51, 2]), (166, .iload 4, 168, []), (168, .aload_n 0, 169, []), (169, .getfield 197, 172, [9, 13, 88, 2]), (172, .iload 4, 174, []), (174, .iaload, 175, []), (175, .iastore, 176, []), (176, .iinc 4 1, 179, []), (179, .goto (-30), 182, [])] := dk_ck (by decide +kernel)
set_option maxRecDepth 4096 in
theorem w_Ro_end_149 {nl : Bool} {Ln : Nat} {xs : Nat → Int32} {d : Nat} {this : Nat} {x1 : Option Nat} {x2 : Int32} {x3 : Int32} {x4 : Int32} {x5 : Option Value} {σ : am_S} {F : Int32 → am_S → Prop} (h : (am_is σ (some this) 13) ∧ (x4 < (am_fI σ 13045 this) → (x2 < 0 → (am_ar σ 1000 (am_fR σ 13088 this) x4) ∧ (am_ar σ 1000 (am_fR σ 13051 this) x4) ∧ ∀ σ6, σ6 = am_saI σ ((am_fR σ 13051 this).getD 0) x4.toNatClampNeg (am_aI σ ((am_fR σ 13088 this).getD 0) x4.toNatClampNeg) → c_Ro_end_149 nl Ln xs (d + 1) this x1 x2 x3 (x4 + (1 : Int32)) x5 σ6 F) ∧ (¬ (x2 < 0) → c_Ro_end_182 nl Ln xs (d + 1) this x1 x2 x3 x4 x5 σ F)) ∧ (¬ (x4 < (am_fI σ 13045 this)) → c_Ro_end_182 nl Ln xs (d + 1) this x1 x2 x3 x4 x5 σ F)) : c_Ro_end_149 nl Ln xs (d + 1) this x1 x2 x3 x4 x5 σ F := by
  obtain ⟨j149, j151, j152, j155, j158, j159, j162, j163, j166, j168, j169, j172, j174, j175, j176, j179, -⟩ := P_Ro_end_149 nl Ln xs
  unfold c_Ro_end_149
  refine s_iload j149 rfl rfl ?_
  refine s_aload_n j151 rfl rfl ?_
  obtain ⟨ho1, h⟩ := h
  refine s_gfI j152 rfl ho1 ?_
  refine s_icn j155 rfl rfl am_cc_ge (fun hc2 => ?_) (fun hc2 => ?_)
  · replace h := h.2 hc2
    exact h
  · replace h := h.1 hc2
    refine s_iload_n j158 rfl rfl ?_
    refine s_ifn j159 rfl rfl am_cc_ge (fun hc3 => ?_) (fun hc3 => ?_)
    · replace h := h.2 hc3
      exact h
    · replace h := h.1 hc3
      refine s_aload_n j162 rfl rfl ?_
      refine s_gfR j163 rfl ho1 ?_
      refine s_iload j166 rfl rfl ?_
      refine s_aload_n j168 rfl rfl ?_
      refine s_gfR j169 rfl ho1 ?_
      refine s_iload j172 rfl rfl ?_
      obtain ⟨ho4, h⟩ := h
      refine s_iaload j174 rfl ho4 ?_
      obtain ⟨ho5, h⟩ := h
      refine s_iastore j175 rfl ho5 (fun σ6 e7 => ?_)
      replace h := h σ6 e7
      have ek8 : am_kd σ6 = am_kd σ := by rw [e7]
      refine s_iinc (L' := [some (am_ov (some this)), some (am_ov x1), some (.int x2), some (.int x3), some (.int (x4 + (1 : Int32))), x5]) j176 rfl rfl kc_ic_1 rfl ?_
      refine s_goto j179 rfl rfl ?_
      exact h
theorem P_Ro_end_182 (nl : Bool) (Ln : Nat) (xs : Nat → Int32) : am_Jl (TT nl Ln xs) 297 [(182, .aload_n 0, 183, []), (183, .bipush 21, 185, []), (185, .aload_n 1, 186, []), (186, .invokevirtual 563, 189, [10, 298, 14, 3, 3]), (189, .iload_n 2, 190, []), (190, .ireturn, 191, [1])] := dk_ck (by decide +kernel)
set_option maxRecDepth 4096 in
theorem w_Ro_end_182 {nl : Bool} {Ln : Nat} {xs : Nat → Int32} {d : Nat} {this : Nat} {x1 : Option Nat} {x2 : Int32} {x3 : Int32} {x4 : Int32} {x5 : Option Value} {σ : am_S} {F : Int32 → am_S → Prop} (h : (am_is σ (some this) 13) ∧ k_Ro_over nl Ln xs d this (21 : Int32) x1 σ (fun σ2 => am_ext σ σ2 → F x2 σ2)) : c_Ro_end_182 nl Ln xs (d + 1) this x1 x2 x3 x4 x5 σ F := by
  obtain ⟨j182, j183, j185, j186, j189, j190, -⟩ := P_Ro_end_182 nl Ln xs
  unfold c_Ro_end_182
  refine s_aload_n j182 rfl rfl ?_
  refine s_bipush j183 rfl kc_bi_21 ?_
  refine s_aload_n j185 rfl rfl ?_
  obtain ⟨ho1, h⟩ := h
  refine s_virt j186 rfl rfl rfl rfl ho1 (by decide) (in_Ro_over _ _ _) (am_r8 rfl) (am_bV h (fun σ2 h hx2 => ?_))
  replace h := h hx2
  refine s_iload_n j189 rfl rfl ?_
  exact s_retI j190 rfl h
theorem P_Ro_over (nl : Bool) (Ln : Nat) (xs : Nat → Int32) : am_Jl (TT nl Ln xs) 298 [(0, .aload_n 0, 1, []), (1, .iconst 0, 2, []), (2, .putfield 246, 5, [9, 13, 62, 3]), (5, .aload_n 0, 6, []), (6, .iconst 0, 7, []), (7, .putfield 250, 10, [9, 13, 63, 0]), (10, .aload_n 0, 11, []), (11, .dup, 12, []), (12, .getfield 243, 15, [9, 13, 61, 0]), (15, .iconst 1, 16, []), (16, .iadd, 17, []), (17, .putfield 243, 20, [9, 13, 61, 0]), (20, .aload_n 0, 21, []), (21, .iload_n 1, 22, []), (22, .aload_n 2, 23, []), (23, .invokevirtual 499, 26, [10, 203, 14, 5, 3]), (26, .return_, 27, [0])] := dk_ck (by decide +kernel)
set_option maxRecDepth 4096 in
theorem w_Ro_over {nl : Bool} {Ln : Nat} {xs : Nat → Int32} {d : Nat} {this : Nat} {p0 : Int32} {p1 : Option Nat} {σ : am_S} {F : am_S → Prop} (h : (am_is σ (some this) 13) ∧ ∀ σ2, σ2 = am_sfI σ 13062 this (0 : Int32) → ∀ σ5, σ5 = am_sfI σ2 13063 this (0 : Int32) → ∀ σ8, σ8 = am_sfI σ5 13061 this ((am_fI σ5 13061 this) + (1 : Int32)) → k_Ro_note nl Ln xs d this p0 p1 σ8 (fun σ11 => am_ext σ8 σ11 → F σ11)) : k_Ro_over nl Ln xs (d + 1) this p0 p1 σ F := by
  obtain ⟨j0, j1, j2, j5, j6, j7, j10, j11, j12, j15, j16, j17, j20, j21, j22, j23, j26, -⟩ := P_Ro_over nl Ln xs
  have elo : am_lo 3 [am_ov (some this), .int p0, am_ov p1] = [some (am_ov (some this)), some (.int p0), some (am_ov p1)] := by simp only [am_lo, am_in_ov, am_in_int, am_in_long, am_in_nil]; rfl
  unfold k_Ro_over
  rw [elo]
  refine s_aload_n j0 rfl rfl ?_
  refine s_iconst j1 rfl kc_ic_0 ?_
  obtain ⟨ho1, h⟩ := h
  refine s_pfZ j2 rfl ho1 (Or.inl rfl) (fun σ2 e3 => ?_)
  replace h := h σ2 e3
  have ek4 : am_kd σ2 = am_kd σ := by rw [e3]
  refine s_aload_n j5 rfl rfl ?_
  refine s_iconst j6 rfl kc_ic_0 ?_
  refine s_pfI j7 rfl (am_is_kd ek4 ho1) (fun σ5 e6 => ?_)
  replace h := h σ5 e6
  have ek7 : am_kd σ5 = am_kd σ2 := by rw [e6]
  refine s_aload_n j10 rfl rfl ?_
  refine s_dup j11 rfl (am_cov _) ?_
  refine s_gfI j12 rfl (am_is_kd ek7 (am_is_kd ek4 ho1)) ?_
  refine s_iconst j15 rfl kc_ic_1 ?_
  refine s_g j16 rfl rfl rfl rfl rfl rfl ?_
  refine s_pfI j17 rfl (am_is_kd ek7 (am_is_kd ek4 ho1)) (fun σ8 e9 => ?_)
  replace h := h σ8 e9
  have ek10 : am_kd σ8 = am_kd σ5 := by rw [e9]
  refine s_aload_n j20 rfl rfl ?_
  refine s_iload_n j21 rfl rfl ?_
  refine s_aload_n j22 rfl rfl ?_
  refine s_virt j23 rfl rfl rfl rfl (am_is_kd ek10 (am_is_kd ek7 (am_is_kd ek4 ho1))) (by decide) (in_Ro_note _ _ _) (am_r8 rfl) (am_bV h (fun σ11 h hx11 => ?_))
  replace h := h hx11
  exact s_retV j26 rfl h
theorem P_Ro_undo (nl : Bool) (Ln : Nat) (xs : Nat → Int32) : am_Jl (TT nl Ln xs) 299 [(0, .aload_n 0, 1, []), (1, .getfield 246, 4, [9, 13, 62, 3]), (4, .ifCond .ne 6, 7, []), (7, .bipush (-3), 9, []), (9, .ireturn, 10, [1]), (10, .aload_n 0, 11, []), (11, .getfield 250, 14, [9, 13, 63, 0]), (14, .istore_n 2, 15, []), (15, .aload_n 0, 16, []), (16, .bipush 22, 18, []), (18, .aload_n 1, 19, []), (19, .invokevirtual 563, 22, [10, 298, 14, 3, 3]), (22, .iload_n 2, 23, []), (23, .ireturn, 24, [1])] := dk_ck (by decide +kernel)
set_option maxRecDepth 4096 in
theorem w_Ro_undo {nl : Bool} {Ln : Nat} {xs : Nat → Int32} {d : Nat} {this : Nat} {p0 : Option Nat} {σ : am_S} {F : Int32 → am_S → Prop} (h : (am_is σ (some this) 13) ∧ ((am_fI σ 13062 this) = 0 → F (-3 : Int32) σ) ∧ (¬ ((am_fI σ 13062 this) = 0) → ∀ v3 : Int32, v3 = (am_fI σ 13063 this) → k_Ro_over nl Ln xs d this (22 : Int32) p0 σ (fun σ5 => am_ext σ σ5 → F v3 σ5))) : k_Ro_undo nl Ln xs (d + 1) this p0 σ F := by
  obtain ⟨j0, j1, j4, j7, j9, j10, j11, j14, j15, j16, j18, j19, j22, j23, -⟩ := P_Ro_undo nl Ln xs
  have elo : am_lo 3 [am_ov (some this), am_ov p0] = [some (am_ov (some this)), some (am_ov p0), none] := by simp only [am_lo, am_in_ov, am_in_int, am_in_long, am_in_nil]; rfl
  unfold k_Ro_undo
  rw [elo]
  refine s_aload_n j0 rfl rfl ?_
  obtain ⟨ho1, h⟩ := h
  refine s_gfZ j1 rfl ho1 ?_
  refine s_ifn j4 rfl rfl am_cc_ne (fun hc2 => ?_) (fun hc2 => ?_)
  · replace h := h.2 hc2
    refine s_aload_n j10 rfl rfl ?_
    refine s_gfI j11 rfl ho1 ?_
    refine s_istore_nV j14 rfl (n := 3) (L' := fun w => [some (am_ov (some this)), some (am_ov p0), some (.int w)]) rfl (by decide) (fun _ => am_st1_R [_] _ _ _ _) (fun v3 hv4 => ?_)
    replace h := h v3 hv4
    refine s_aload_n j15 rfl rfl ?_
    refine s_bipush j16 rfl kc_bi_22 ?_
    refine s_aload_n j18 rfl rfl ?_
    refine s_virt j19 rfl rfl rfl rfl ho1 (by decide) (in_Ro_over _ _ _) (am_r8 rfl) (am_bV h (fun σ5 h hx5 => ?_))
    replace h := h hx5
    refine s_iload_n j22 rfl rfl ?_
    exact s_retI j23 rfl h
  · replace h := h.1 hc2
    refine s_bipush j7 rfl kc_bi_m3 ?_
    exact s_retI j9 rfl h
theorem P_Rm_rank (nl : Bool) (Ln : Nat) (xs : Nat → Int32) : am_Jl (TT nl Ln xs) 300 [(0, .aload_n 0, 1, []), (1, .iconst 2, 2, []), (2, .iload_n 1, 3, []), (3, .i2l, 4, []), (4, .iload_n 2, 5, []), (5, .i2l, 6, []), (6, .lconst 0, 7, []), (7, .lconst 0, 8, []), (8, .invokevirtual 137, 11, [10, 200, 13, 10, 6]), (11, .ireturn, 12, [1])] := dk_ck (by decide +kernel)
set_option maxRecDepth 4096 in
theorem w_Rm_rank {nl : Bool} {Ln : Nat} {xs : Nat → Int32} {d : Nat} {this : Nat} {p0 : Int32} {p1 : Int32} {σ : am_S} {F : Int32 → am_S → Prop} (h : (am_is σ (some this) 12) ∧ k_Rm_act nl Ln xs d this (2 : Int32) p0.toInt64 p1.toInt64 (0 : Int64) (0 : Int64) σ (fun a3 σ2 => am_ext σ σ2 → F a3 σ2)) : k_Rm_rank nl Ln xs (d + 1) this p0 p1 σ F := by
  obtain ⟨j0, j1, j2, j3, j4, j5, j6, j7, j8, j11, -⟩ := P_Rm_rank nl Ln xs
  have elo : am_lo 3 [am_ov (some this), .int p0, .int p1] = [some (am_ov (some this)), some (.int p0), some (.int p1)] := by simp only [am_lo, am_in_ov, am_in_int, am_in_long, am_in_nil]; rfl
  unfold k_Rm_rank
  rw [elo]
  refine s_aload_n j0 rfl rfl ?_
  refine s_iconst j1 rfl kc_ic_2 ?_
  refine s_iload_n j2 rfl rfl ?_
  refine s_g j3 rfl rfl rfl rfl rfl rfl ?_
  refine s_iload_n j4 rfl rfl ?_
  refine s_g j5 rfl rfl rfl rfl rfl rfl ?_
  refine s_lconst j6 rfl rfl ?_
  refine s_lconst j7 rfl rfl ?_
  obtain ⟨ho1, h⟩ := h
  refine s_virt j8 rfl rfl rfl rfl ho1 (by decide) (in_Rm_act _ _ _ _ _ _) (am_r8 rfl) (am_bI h (fun a3 σ2 h hx2 => ?_))
  replace h := h hx2
  exact s_retI j11 rfl h
theorem P_Rm_policy (nl : Bool) (Ln : Nat) (xs : Nat → Int32) : am_Jl (TT nl Ln xs) 301 [(0, .aload_n 0, 1, []), (1, .iconst 3, 2, []), (2, .iload_n 1, 3, []), (3, .i2l, 4, []), (4, .iload_n 2, 5, []), (5, .i2l, 6, []), (6, .iload_n 3, 7, []), (7, .i2l, 8, []), (8, .iload 4, 10, []), (10, .i2l, 11, []), (11, .invokevirtual 137, 14, [10, 200, 13, 10, 6]), (14, .ireturn, 15, [1])] := dk_ck (by decide +kernel)
set_option maxRecDepth 4096 in
theorem w_Rm_policy {nl : Bool} {Ln : Nat} {xs : Nat → Int32} {d : Nat} {this : Nat} {p0 : Int32} {p1 : Int32} {p2 : Int32} {p3 : Int32} {σ : am_S} {F : Int32 → am_S → Prop} (h : (am_is σ (some this) 12) ∧ k_Rm_act nl Ln xs d this (3 : Int32) p0.toInt64 p1.toInt64 p2.toInt64 p3.toInt64 σ (fun a3 σ2 => am_ext σ σ2 → F a3 σ2)) : k_Rm_policy nl Ln xs (d + 1) this p0 p1 p2 p3 σ F := by
  obtain ⟨j0, j1, j2, j3, j4, j5, j6, j7, j8, j10, j11, j14, -⟩ := P_Rm_policy nl Ln xs
  have elo : am_lo 5 [am_ov (some this), .int p0, .int p1, .int p2, .int p3] = [some (am_ov (some this)), some (.int p0), some (.int p1), some (.int p2), some (.int p3)] := by simp only [am_lo, am_in_ov, am_in_int, am_in_long, am_in_nil]; rfl
  unfold k_Rm_policy
  rw [elo]
  refine s_aload_n j0 rfl rfl ?_
  refine s_iconst j1 rfl kc_ic_3 ?_
  refine s_iload_n j2 rfl rfl ?_
  refine s_g j3 rfl rfl rfl rfl rfl rfl ?_
  refine s_iload_n j4 rfl rfl ?_
  refine s_g j5 rfl rfl rfl rfl rfl rfl ?_
  refine s_iload_n j6 rfl rfl ?_
  refine s_g j7 rfl rfl rfl rfl rfl rfl ?_
  refine s_iload j8 rfl rfl ?_
  refine s_g j10 rfl rfl rfl rfl rfl rfl ?_
  obtain ⟨ho1, h⟩ := h
  refine s_virt j11 rfl rfl rfl rfl ho1 (by decide) (in_Rm_act _ _ _ _ _ _) (am_r8 rfl) (am_bI h (fun a3 σ2 h hx2 => ?_))
  replace h := h hx2
  exact s_retI j14 rfl h
theorem P_Rm_bundle (nl : Bool) (Ln : Nat) (xs : Nat → Int32) : am_Jl (TT nl Ln xs) 302 [(0, .aload_n 0, 1, []), (1, .iconst 4, 2, []), (2, .iload_n 1, 3, []), (3, .i2l, 4, []), (4, .iload_n 2, 5, []), (5, .i2l, 6, []), (6, .iload_n 3, 7, []), (7, .i2l, 8, []), (8, .lconst 0, 9, []), (9, .invokevirtual 137, 12, [10, 200, 13, 10, 6]), (12, .ireturn, 13, [1])] := dk_ck (by decide +kernel)
set_option maxRecDepth 4096 in
theorem w_Rm_bundle {nl : Bool} {Ln : Nat} {xs : Nat → Int32} {d : Nat} {this : Nat} {p0 : Int32} {p1 : Int32} {p2 : Int32} {σ : am_S} {F : Int32 → am_S → Prop} (h : (am_is σ (some this) 12) ∧ k_Rm_act nl Ln xs d this (4 : Int32) p0.toInt64 p1.toInt64 p2.toInt64 (0 : Int64) σ (fun a3 σ2 => am_ext σ σ2 → F a3 σ2)) : k_Rm_bundle nl Ln xs (d + 1) this p0 p1 p2 σ F := by
  obtain ⟨j0, j1, j2, j3, j4, j5, j6, j7, j8, j9, j12, -⟩ := P_Rm_bundle nl Ln xs
  have elo : am_lo 4 [am_ov (some this), .int p0, .int p1, .int p2] = [some (am_ov (some this)), some (.int p0), some (.int p1), some (.int p2)] := by simp only [am_lo, am_in_ov, am_in_int, am_in_long, am_in_nil]; rfl
  unfold k_Rm_bundle
  rw [elo]
  refine s_aload_n j0 rfl rfl ?_
  refine s_iconst j1 rfl kc_ic_4 ?_
  refine s_iload_n j2 rfl rfl ?_
  refine s_g j3 rfl rfl rfl rfl rfl rfl ?_
  refine s_iload_n j4 rfl rfl ?_
  refine s_g j5 rfl rfl rfl rfl rfl rfl ?_
  refine s_iload_n j6 rfl rfl ?_
  refine s_g j7 rfl rfl rfl rfl rfl rfl ?_
  refine s_lconst j8 rfl rfl ?_
  obtain ⟨ho1, h⟩ := h
  refine s_virt j9 rfl rfl rfl rfl ho1 (by decide) (in_Rm_act _ _ _ _ _ _) (am_r8 rfl) (am_bI h (fun a3 σ2 h hx2 => ?_))
  replace h := h hx2
  exact s_retI j12 rfl h
theorem P_Rm_period (nl : Bool) (Ln : Nat) (xs : Nat → Int32) : am_Jl (TT nl Ln xs) 303 [(0, .aload_n 0, 1, []), (1, .iconst 5, 2, []), (2, .iload_n 1, 3, []), (3, .i2l, 4, []), (4, .iload_n 2, 5, []), (5, .i2l, 6, []), (6, .lload_n 3, 7, []), (7, .lconst 0, 8, []), (8, .invokevirtual 137, 11, [10, 200, 13, 10, 6]), (11, .ireturn, 12, [1])] := dk_ck (by decide +kernel)
set_option maxRecDepth 4096 in
theorem w_Rm_period {nl : Bool} {Ln : Nat} {xs : Nat → Int32} {d : Nat} {this : Nat} {p0 : Int32} {p1 : Int32} {p2 : Int64} {σ : am_S} {F : Int32 → am_S → Prop} (h : (am_is σ (some this) 12) ∧ k_Rm_act nl Ln xs d this (5 : Int32) p0.toInt64 p1.toInt64 p2 (0 : Int64) σ (fun a3 σ2 => am_ext σ σ2 → F a3 σ2)) : k_Rm_period nl Ln xs (d + 1) this p0 p1 p2 σ F := by
  obtain ⟨j0, j1, j2, j3, j4, j5, j6, j7, j8, j11, -⟩ := P_Rm_period nl Ln xs
  have elo : am_lo 5 [am_ov (some this), .int p0, .int p1, .long p2] = [some (am_ov (some this)), some (.int p0), some (.int p1), some (.long p2), none] := by simp only [am_lo, am_in_ov, am_in_int, am_in_long, am_in_nil]; rfl
  unfold k_Rm_period
  rw [elo]
  refine s_aload_n j0 rfl rfl ?_
  refine s_iconst j1 rfl kc_ic_5 ?_
  refine s_iload_n j2 rfl rfl ?_
  refine s_g j3 rfl rfl rfl rfl rfl rfl ?_
  refine s_iload_n j4 rfl rfl ?_
  refine s_g j5 rfl rfl rfl rfl rfl rfl ?_
  refine s_lload_n j6 rfl rfl ?_
  refine s_lconst j7 rfl rfl ?_
  obtain ⟨ho1, h⟩ := h
  refine s_virt j8 rfl rfl rfl rfl ho1 (by decide) (in_Rm_act _ _ _ _ _ _) (am_r8 rfl) (am_bI h (fun a3 σ2 h hx2 => ?_))
  replace h := h hx2
  exact s_retI j11 rfl h
theorem P_Rm_type (nl : Bool) (Ln : Nat) (xs : Nat → Int32) : am_Jl (TT nl Ln xs) 304 [(0, .iload_n 3, 1, []), (1, .ifCond .lt 9, 4, []), (4, .iload_n 3, 5, []), (5, .bipush 8, 7, []), (7, .if_icmp .le 6, 10, []), (10, .bipush (-2), 12, []), (12, .ireturn, 13, [1]), (13, .iload_n 3, 14, []), (14, .ifCond .ne 8, 17, []), (17, .aload_n 0, 18, []), (18, .iconst 0, 19, []), (19, .putfield 140, 22, [9, 12, 3, 0]), (22, .aload_n 0, 23, []), (23, .getfield 140, 26, [9, 12, 3, 0]), (26, .iload_n 3, 27, []), (27, .iadd, 28, []), (28, .sipush 6000, 31, []), (31, .if_icmp .le 6, 34, []), (34, .bipush (-7), 36, []), (36, .ireturn, 37, [1]), (37, .iload_n 3, 38, []), (38, .iconst 1, 39, []), (39, .isub, 40, []), (40, .istore 4, 42, [])] := dk_ck (by decide +kernel)
set_option maxRecDepth 4096 in
theorem w_Rm_type {nl : Bool} {Ln : Nat} {xs : Nat → Int32} {d : Nat} {this : Nat} {p0 : Int64} {p1 : Int32} {σ : am_S} {F : Int32 → am_S → Prop} (h : (p1 < 0 → F (-2 : Int32) σ) ∧ (¬ (p1 < 0) → ((8 : Int32) < p1 → F (-2 : Int32) σ) ∧ (¬ ((8 : Int32) < p1) → (p1 = 0 → (am_is σ (some this) 12) ∧ ∀ σ5, σ5 = am_sfI σ 12003 this (0 : Int32) → ((6000 : Int32) < ((am_fI σ5 12003 this) + p1) → F (-7 : Int32) σ5) ∧ (¬ ((6000 : Int32) < ((am_fI σ5 12003 this) + p1)) → ∀ v9 : Int32, v9 = (p1 - (1 : Int32)) → c_Rm_type_42 nl Ln xs (d + 1) this p0 p1 v9 σ5 F)) ∧ (¬ (p1 = 0) → (am_is σ (some this) 12) ∧ ((6000 : Int32) < ((am_fI σ 12003 this) + p1) → F (-7 : Int32) σ) ∧ (¬ ((6000 : Int32) < ((am_fI σ 12003 this) + p1)) → ∀ v13 : Int32, v13 = (p1 - (1 : Int32)) → c_Rm_type_42 nl Ln xs (d + 1) this p0 p1 v13 σ F))))) : k_Rm_type nl Ln xs (d + 1) this p0 p1 σ F := by
  obtain ⟨j0, j1, j4, j5, j7, j10, j12, j13, j14, j17, j18, j19, j22, j23, j26, j27, j28, j31, j34, j36, j37, j38, j39, j40, -⟩ := P_Rm_type nl Ln xs
  have elo : am_lo 5 [am_ov (some this), .long p0, .int p1] = [some (am_ov (some this)), some (.long p0), none, some (.int p1), none] := by simp only [am_lo, am_in_ov, am_in_int, am_in_long, am_in_nil]; rfl
  unfold k_Rm_type
  rw [elo]
  refine s_iload_n j0 rfl rfl ?_
  refine s_if j1 rfl rfl am_cc_lt (fun hc1 => ?_) (fun hc1 => ?_)
  · replace h := h.1 hc1
    refine s_bipush j10 rfl kc_bi_m2 ?_
    exact s_retI j12 rfl h
  · replace h := h.2 hc1
    refine s_iload_n j4 rfl rfl ?_
    refine s_bipush j5 rfl kc_bi_8 ?_
    refine s_icn j7 rfl rfl am_cc_le (fun hc2 => ?_) (fun hc2 => ?_)
    · replace h := h.2 hc2
      refine s_iload_n j13 rfl rfl ?_
      refine s_ifn j14 rfl rfl am_cc_ne (fun hc3 => ?_) (fun hc3 => ?_)
      · replace h := h.2 hc3
        refine s_aload_n j22 rfl rfl ?_
        obtain ⟨ho11, h⟩ := h
        refine s_gfI j23 rfl ho11 ?_
        refine s_iload_n j26 rfl rfl ?_
        refine s_g j27 rfl rfl rfl rfl rfl rfl ?_
        refine s_sipush j28 rfl kc_si_6000 ?_
        refine s_icn j31 rfl rfl am_cc_le (fun hc12 => ?_) (fun hc12 => ?_)
        · replace h := h.2 hc12
          refine s_iload_n j37 rfl rfl ?_
          refine s_iconst j38 rfl kc_ic_1 ?_
          refine s_g j39 rfl rfl rfl rfl rfl rfl ?_
          refine s_istoreV j40 rfl (n := 5) (L' := fun w => [some (am_ov (some this)), some (.long p0), none, some (.int p1), some (.int w)]) rfl (by decide) (fun _ => rfl) (fun v13 hv14 => ?_)
          replace h := h v13 hv14
          exact h
        · replace h := h.1 hc12
          refine s_bipush j34 rfl kc_bi_m7 ?_
          exact s_retI j36 rfl h
      · replace h := h.1 hc3
        refine s_aload_n j17 rfl rfl ?_
        refine s_iconst j18 rfl kc_ic_0 ?_
        obtain ⟨ho4, h⟩ := h
        refine s_pfI j19 rfl ho4 (fun σ5 e6 => ?_)
        replace h := h σ5 e6
        have ek7 : am_kd σ5 = am_kd σ := by rw [e6]
        refine s_aload_n j22 rfl rfl ?_
        refine s_gfI j23 rfl (am_is_kd ek7 ho4) ?_
        refine s_iload_n j26 rfl rfl ?_
        refine s_g j27 rfl rfl rfl rfl rfl rfl ?_
        refine s_sipush j28 rfl kc_si_6000 ?_
        refine s_icn j31 rfl rfl am_cc_le (fun hc8 => ?_) (fun hc8 => ?_)
        · replace h := h.2 hc8
          refine s_iload_n j37 rfl rfl ?_
          refine s_iconst j38 rfl kc_ic_1 ?_
          refine s_g j39 rfl rfl rfl rfl rfl rfl ?_
          refine s_istoreV j40 rfl (n := 5) (L' := fun w => [some (am_ov (some this)), some (.long p0), none, some (.int p1), some (.int w)]) rfl (by decide) (fun _ => rfl) (fun v9 hv10 => ?_)
          replace h := h v9 hv10
          exact h
        · replace h := h.1 hc8
          refine s_bipush j34 rfl kc_bi_m7 ?_
          exact s_retI j36 rfl h
    · replace h := h.1 hc2
      refine s_bipush j10 rfl kc_bi_m2 ?_
      exact s_retI j12 rfl h
theorem P_Rm_type_42 (nl : Bool) (Ln : Nat) (xs : Nat → Int32) : am_Jl (TT nl Ln xs) 304 [(42, .iload 4, 44, []), (44, .ifCond .lt 40, 47, []), (47, .aload_n 0, 48, []), (48, .getfield 9, 51, [9, 12, 2, 2]), (51, .aload_n 0, 52, []), (52, .getfield 140, 55, [9, 12, 3, 0]), (55, .lload_n 1, 56, []), (56, .bipush 8, 58, []), (58, .iload 4, 60, []), (60, .imul, 61, []), (61, .lshr, 62, []), (62, .ldc2_w 143, 65, [6, 255]), (65, .land, 66, []), (66, .l2i, 67, []), (67, .iastore, 68, []), (68, .aload_n 0, 69, []), (69, .dup, 70, []), (70, .getfield 140, 73, [9, 12, 3, 0]), (73, .iconst 1, 74, []), (74, .iadd, 75, []), (75, .putfield 140, 78, [9, 12, 3, 0]), (78, .iinc 4 (-1), 81, []), (81, .goto (-39), 84, []), (84, .aload_n 0, 85, []), (85, .getfield 140, 88, [9, 12, 3, 0]), (88, .ireturn, 89, [1])] := dk_ck (by decide +kernel)
set_option maxRecDepth 4096 in
theorem w_Rm_type_42 {nl : Bool} {Ln : Nat} {xs : Nat → Int32} {d : Nat} {this : Nat} {x1 : Int64} {x3 : Int32} {x4 : Int32} {σ : am_S} {F : Int32 → am_S → Prop} (h : (x4 < 0 → (am_is σ (some this) 12) ∧ F (am_fI σ 12003 this) σ) ∧ (¬ (x4 < 0) → (am_is σ (some this) 12) ∧ (am_ar σ 1000 (am_fR σ 12002 this) (am_fI σ 12003 this)) ∧ ∀ σ5, σ5 = am_saI σ ((am_fR σ 12002 this).getD 0) (am_fI σ 12003 this).toNatClampNeg (((x1 >>> (((8 : Int32) * x4).toInt64 &&& 63)) &&& (255 : Int64)).toInt32) → ∀ σ8, σ8 = am_sfI σ5 12003 this ((am_fI σ5 12003 this) + (1 : Int32)) → c_Rm_type_42 nl Ln xs (d + 1) this x1 x3 (x4 + (-1 : Int32)) σ8 F)) : c_Rm_type_42 nl Ln xs (d + 1) this x1 x3 x4 σ F := by
  obtain ⟨j42, j44, j47, j48, j51, j52, j55, j56, j58, j60, j61, j62, j65, j66, j67, j68, j69, j70, j73, j74, j75, j78, j81, j84, j85, j88, -⟩ := P_Rm_type_42 nl Ln xs
  unfold c_Rm_type_42
  refine s_iload j42 rfl rfl ?_
  refine s_if j44 rfl rfl am_cc_lt (fun hc1 => ?_) (fun hc1 => ?_)
  · replace h := h.1 hc1
    refine s_aload_n j84 rfl rfl ?_
    obtain ⟨ho2, h⟩ := h
    refine s_gfI j85 rfl ho2 ?_
    exact s_retI j88 rfl h
  · replace h := h.2 hc1
    refine s_aload_n j47 rfl rfl ?_
    obtain ⟨ho3, h⟩ := h
    refine s_gfR j48 rfl ho3 ?_
    refine s_aload_n j51 rfl rfl ?_
    refine s_gfI j52 rfl ho3 ?_
    refine s_lload_n j55 rfl rfl ?_
    refine s_bipush j56 rfl kc_bi_8 ?_
    refine s_iload j58 rfl rfl ?_
    refine s_g j60 rfl rfl rfl rfl rfl rfl ?_
    refine s_g j61 rfl rfl rfl rfl rfl rfl ?_
    refine s_ldc2 j62 rfl kc_ll_255 ?_
    refine s_g j65 rfl rfl rfl rfl rfl rfl ?_
    refine s_g j66 rfl rfl rfl rfl rfl rfl ?_
    obtain ⟨ho4, h⟩ := h
    refine s_iastore j67 rfl ho4 (fun σ5 e6 => ?_)
    replace h := h σ5 e6
    have ek7 : am_kd σ5 = am_kd σ := by rw [e6]
    refine s_aload_n j68 rfl rfl ?_
    refine s_dup j69 rfl (am_cov _) ?_
    refine s_gfI j70 rfl (am_is_kd ek7 ho3) ?_
    refine s_iconst j73 rfl kc_ic_1 ?_
    refine s_g j74 rfl rfl rfl rfl rfl rfl ?_
    refine s_pfI j75 rfl (am_is_kd ek7 ho3) (fun σ8 e9 => ?_)
    replace h := h σ8 e9
    have ek10 : am_kd σ8 = am_kd σ5 := by rw [e9]
    refine s_iinc (L' := [some (am_ov (some this)), some (.long x1), none, some (.int x3), some (.int (x4 + (-1 : Int32)))]) j78 rfl rfl kc_ic_m1 rfl ?_
    refine s_goto j81 rfl rfl ?_
    exact h
