/-! statements of methods, 6 (by wip/whole/gensteps.py) -/
theorem P_Bk_makeLoss (nl : Bool) (Ln : Nat) (xs : Nat → Int32) : am_Jl (TT nl Ln xs) 116 [(0, .aload_n 1, 1, []), (1, .iconst 1, 2, []), (2, .laload, 3, []), (3, .lconst 0, 4, []), (4, .lcmp, 5, []), (5, .ifCond .lt 22, 8, []), (8, .aload_n 1, 9, []), (9, .iconst 1, 10, []), (10, .laload, 11, []), (11, .ldc2_w 259, 14, [6, 4]), (14, .lcmp, 15, []), (15, .ifCond .gt 12, 18, []), (18, .aload_n 1, 19, []), (19, .iconst 2, 20, []), (20, .laload, 21, []), (21, .invokestatic 244, 24, [12, 13, 2, 1]), (24, .ifCond .ne 6, 27, []), (27, .bipush (-2), 29, []), (29, .ireturn, 30, [1]), (30, .aload_n 0, 31, []), (31, .aload_n 1, 32, []), (32, .iconst 1, 33, []), (33, .laload, 34, []), (34, .l2i, 35, []), (35, .aload_n 1, 36, []), (36, .iconst 2, 37, []), (37, .laload, 38, []), (38, .l2i, 39, []), (39, .aconst_null, 40, []), (40, .iconst 0, 41, []), (41, .invokevirtual 299, 44, [10, 117, 7, 5, 5]), (44, .ireturn, 45, [1])] := dk_ck (by decide +kernel)
set_option maxRecDepth 4096 in
theorem w_Bk_makeLoss {nl : Bool} {Ln : Nat} {xs : Nat → Int32} {d : Nat} {this : Nat} {p0 : Option Nat} {σ : am_S} {F : Int32 → am_S → Prop} (h : (am_ar σ 1001 p0 (1 : Int32)) ∧ ((am_aL σ (p0.getD 0) (1 : Int32).toNatClampNeg) < (0 : Int64) → F (-2 : Int32) σ) ∧ (¬ ((am_aL σ (p0.getD 0) (1 : Int32).toNatClampNeg) < (0 : Int64)) → (am_ar σ 1001 p0 (1 : Int32)) ∧ ((4 : Int64) < (am_aL σ (p0.getD 0) (1 : Int32).toNatClampNeg) → F (-2 : Int32) σ) ∧ (¬ ((4 : Int64) < (am_aL σ (p0.getD 0) (1 : Int32).toNatClampNeg)) → (am_ar σ 1001 p0 (2 : Int32)) ∧ k_Co_isDay nl Ln xs d (am_aL σ (p0.getD 0) (2 : Int32).toNatClampNeg) σ (fun a7 σ6 => am_ext σ σ6 → (a7 = true → (am_ar σ6 1001 p0 (1 : Int32)) ∧ (am_ar σ6 1001 p0 (2 : Int32)) ∧ (am_is σ6 (some this) 6) ∧ k_Bk_addLoss nl Ln xs d this ((am_aL σ6 (p0.getD 0) (1 : Int32).toNatClampNeg).toInt32) ((am_aL σ6 (p0.getD 0) (2 : Int32).toNatClampNeg).toInt32) none (0 : Int32) σ6 (fun a13 σ12 => am_ext σ6 σ12 → F a13 σ12)) ∧ (¬ (a7 = true) → F (-2 : Int32) σ6))))) : k_Bk_makeLoss nl Ln xs (d + 1) this p0 σ F := by
  obtain ⟨j0, j1, j2, j3, j4, j5, j8, j9, j10, j11, j14, j15, j18, j19, j20, j21, j24, j27, j29, j30, j31, j32, j33, j34, j35, j36, j37, j38, j39, j40, j41, j44, -⟩ := P_Bk_makeLoss nl Ln xs
  have elo : am_lo 2 [am_ov (some this), am_ov p0] = [some (am_ov (some this)), some (am_ov p0)] := by simp only [am_lo, am_in_ov, am_in_int, am_in_long, am_in_nil]; rfl
  unfold k_Bk_makeLoss
  rw [elo]
  refine s_aload_n j0 rfl rfl ?_
  refine s_iconst j1 rfl kc_ic_1 ?_
  obtain ⟨ho1, h⟩ := h
  refine s_laload j2 rfl ho1 ?_
  refine s_lconst j3 rfl rfl ?_
  refine s_g j4 rfl rfl rfl rfl rfl rfl ?_
  refine s_if j5 rfl rfl am_cl_lt (fun hc2 => ?_) (fun hc2 => ?_)
  · replace h := h.1 hc2
    refine s_bipush j27 rfl kc_bi_m2 ?_
    exact s_retI j29 rfl h
  · replace h := h.2 hc2
    refine s_aload_n j8 rfl rfl ?_
    refine s_iconst j9 rfl kc_ic_1 ?_
    obtain ⟨ho3, h⟩ := h
    refine s_laload j10 rfl ho3 ?_
    refine s_ldc2 j11 rfl kc_ll_4 ?_
    refine s_g j14 rfl rfl rfl rfl rfl rfl ?_
    refine s_if j15 rfl rfl am_cl_gt (fun hc4 => ?_) (fun hc4 => ?_)
    · replace h := h.1 hc4
      refine s_bipush j27 rfl kc_bi_m2 ?_
      exact s_retI j29 rfl h
    · replace h := h.2 hc4
      refine s_aload_n j18 rfl rfl ?_
      refine s_iconst j19 rfl kc_ic_2 ?_
      obtain ⟨ho5, h⟩ := h
      refine s_laload j20 rfl ho5 ?_
      refine s_stat j21 rfl rfl rfl rfl (by decide) (in_Co_isDay _) (am_r8 rfl) (am_bB h (fun a7 σ6 h hx6 => ?_))
      replace h := h hx6
      refine s_if j24 rfl rfl am_cb_ne (fun hc8 => ?_) (fun hc8 => ?_)
      · replace h := h.1 hc8
        refine s_aload_n j30 rfl rfl ?_
        refine s_aload_n j31 rfl rfl ?_
        refine s_iconst j32 rfl kc_ic_1 ?_
        obtain ⟨ho9, h⟩ := h
        refine s_laload j33 rfl ho9 ?_
        refine s_g j34 rfl rfl rfl rfl rfl rfl ?_
        refine s_aload_n j35 rfl rfl ?_
        refine s_iconst j36 rfl kc_ic_2 ?_
        obtain ⟨ho10, h⟩ := h
        refine s_laload j37 rfl ho10 ?_
        refine s_g j38 rfl rfl rfl rfl rfl rfl ?_
        refine s_null j39 rfl ?_
        refine s_iconst j40 rfl kc_ic_0 ?_
        obtain ⟨ho11, h⟩ := h
        refine s_virt j41 rfl rfl rfl rfl ho11 (by decide) (in_Bk_addLoss _ _ _ _ _) (am_r8 rfl) (am_bI h (fun a13 σ12 h hx12 => ?_))
        replace h := h hx12
        exact s_retI j44 rfl h
      · replace h := h.2 hc8
        refine s_bipush j27 rfl kc_bi_m2 ?_
        exact s_retI j29 rfl h
theorem P_Bk_addLoss (nl : Bool) (Ln : Nat) (xs : Nat → Int32) : am_Jl (TT nl Ln xs) 117 [(0, .aload_n 0, 1, []), (1, .getfield 76, 4, [9, 6, 13, 0]), (4, .sipush 200, 7, []), (7, .if_icmp .lt 6, 10, []), (10, .bipush (-7), 12, []), (12, .ireturn, 13, [1]), (13, .aload_n 0, 14, []), (14, .getfield 26, 17, [9, 6, 5, 2]), (17, .aload_n 0, 18, []), (18, .getfield 76, 21, [9, 6, 13, 0]), (21, .aload_n 0, 22, []), (22, .getfield 58, 25, [9, 6, 2, 2]), (25, .aload_n 0, 26, []), (26, .getfield 76, 29, [9, 6, 13, 0]), (29, .iload_n 1, 30, []), (30, .iload_n 2, 31, []), (31, .aload_n 3, 32, []), (32, .iload 4, 34, []), (34, .invokevirtual 315, 37, [10, 118, 6, 7, 6]), (37, .aastore, 38, []), (38, .aload_n 0, 39, []), (39, .dup, 40, []), (40, .getfield 76, 43, [9, 6, 13, 0]), (43, .iconst 1, 44, []), (44, .iadd, 45, []), (45, .putfield 76, 48, [9, 6, 13, 0]), (48, .aload_n 0, 49, []), (49, .getfield 76, 52, [9, 6, 13, 0]), (52, .iconst 1, 53, []), (53, .isub, 54, []), (54, .ireturn, 55, [1])] := dk_ck (by decide +kernel)
set_option maxRecDepth 4096 in
theorem w_Bk_addLoss {nl : Bool} {Ln : Nat} {xs : Nat → Int32} {d : Nat} {this : Nat} {p0 : Int32} {p1 : Int32} {p2 : Option Nat} {p3 : Int32} {σ : am_S} {F : Int32 → am_S → Prop} (h : (am_is σ (some this) 6) ∧ ((am_fI σ 6013 this) < (200 : Int32) → (am_is σ (am_fR σ 6002 this) 5) ∧ k_Sk_drawLoss nl Ln xs d ((am_fR σ 6002 this).getD 0) (am_fI σ 6013 this) p0 p1 p2 p3 σ (fun a5 σ4 => am_ext σ σ4 → (am_ar σ4 2010 (am_fR σ 6005 this) (am_fI σ 6013 this)) ∧ (∀ n, a5 = some n → (am_kd σ4 n).1 = 11) ∧ ∀ σ8, σ8 = am_saR σ4 ((am_fR σ 6005 this).getD 0) (am_fI σ 6013 this).toNatClampNeg a5 → ∀ σ11, σ11 = am_sfI σ8 6013 this ((am_fI σ8 6013 this) + (1 : Int32)) → F ((am_fI σ11 6013 this) - (1 : Int32)) σ11)) ∧ (¬ ((am_fI σ 6013 this) < (200 : Int32)) → F (-7 : Int32) σ)) : k_Bk_addLoss nl Ln xs (d + 1) this p0 p1 p2 p3 σ F := by
  obtain ⟨j0, j1, j4, j7, j10, j12, j13, j14, j17, j18, j21, j22, j25, j26, j29, j30, j31, j32, j34, j37, j38, j39, j40, j43, j44, j45, j48, j49, j52, j53, j54, -⟩ := P_Bk_addLoss nl Ln xs
  have elo : am_lo 5 [am_ov (some this), .int p0, .int p1, am_ov p2, .int p3] = [some (am_ov (some this)), some (.int p0), some (.int p1), some (am_ov p2), some (.int p3)] := by simp only [am_lo, am_in_ov, am_in_int, am_in_long, am_in_nil]; rfl
  unfold k_Bk_addLoss
  rw [elo]
  refine s_aload_n j0 rfl rfl ?_
  obtain ⟨ho1, h⟩ := h
  refine s_gfI j1 rfl ho1 ?_
  refine s_sipush j4 rfl kc_si_200 ?_
  refine s_ic j7 rfl rfl am_cc_lt (fun hc2 => ?_) (fun hc2 => ?_)
  · replace h := h.1 hc2
    refine s_aload_n j13 rfl rfl ?_
    refine s_gfR j14 rfl ho1 ?_
    refine s_aload_n j17 rfl rfl ?_
    refine s_gfI j18 rfl ho1 ?_
    refine s_aload_n j21 rfl rfl ?_
    refine s_gfR j22 rfl ho1 ?_
    refine s_aload_n j25 rfl rfl ?_
    refine s_gfI j26 rfl ho1 ?_
    refine s_iload_n j29 rfl rfl ?_
    refine s_iload_n j30 rfl rfl ?_
    refine s_aload_n j31 rfl rfl ?_
    refine s_iload j32 rfl rfl ?_
    obtain ⟨ho3, h⟩ := h
    refine s_virt j34 rfl rfl rfl rfl ho3 (by decide) (in_Sk_drawLoss _ _ _ _ _ _) (am_r8 rfl) (am_bR h (fun a5 σ4 h hx4 => ?_))
    replace h := h hx4
    obtain ⟨ho6, h⟩ := h
    obtain ⟨ho7, h⟩ := h
    refine s_aastoreN (k := 2010) (by decide) kq1_2010 ho7 j37 rfl ho6 (fun σ8 e9 => ?_)
    replace h := h σ8 e9
    have ek10 : am_kd σ8 = am_kd σ4 := by rw [e9]
    refine s_aload_n j38 rfl rfl ?_
    refine s_dup j39 rfl (am_cov _) ?_
    refine s_gfI j40 rfl (am_is_kd ek10 (am_is_ext hx4 ho1)) ?_
    refine s_iconst j43 rfl kc_ic_1 ?_
    refine s_g j44 rfl rfl rfl rfl rfl rfl ?_
    refine s_pfI j45 rfl (am_is_kd ek10 (am_is_ext hx4 ho1)) (fun σ11 e12 => ?_)
    replace h := h σ11 e12
    have ek13 : am_kd σ11 = am_kd σ8 := by rw [e12]
    refine s_aload_n j48 rfl rfl ?_
    refine s_gfI j49 rfl (am_is_kd ek13 (am_is_kd ek10 (am_is_ext hx4 ho1))) ?_
    refine s_iconst j52 rfl kc_ic_1 ?_
    refine s_g j53 rfl rfl rfl rfl rfl rfl ?_
    exact s_retI j54 rfl h
  · replace h := h.2 hc2
    refine s_bipush j10 rfl kc_bi_m7 ?_
    exact s_retI j12 rfl h
theorem P_Sk_drawLoss (nl : Bool) (Ln : Nat) (xs : Nat → Int32) : am_Jl (TT nl Ln xs) 118 [(0, .aload_n 0, 1, []), (1, .getfield 69, 4, [9, 5, 2, 2]), (4, .ifnonnull 13, 7, []), (7, .new 73, 10, [2, 10, 10]), (10, .dup, 11, []), (11, .invokespecial 75, 14, [11, 119, 11, 1, 1]), (14, .goto 7, 17, []), (17, .aload_n 0, 18, []), (18, .getfield 69, 21, [9, 5, 2, 2])] := dk_ck (by decide +kernel)
set_option maxRecDepth 4096 in
theorem w_Sk_drawLoss {nl : Bool} {Ln : Nat} {xs : Nat → Int32} {d : Nat} {this : Nat} {p0 : Int32} {p1 : Int32} {p2 : Int32} {p3 : Option Nat} {p4 : Int32} {σ : am_S} {F : Option Nat → am_S → Prop} (h : (am_is σ (some this) 5) ∧ ((am_fR σ 5002 this) = none → ∀ σ3, σ3 = am_new σ 11 0 10 → am_ext σ σ3 → am_fz σ3 (am_nx σ) → k_Ls_init nl Ln xs d (am_nx σ) σ3 (fun σ5 => am_ext σ3 σ5 → c_Sk_drawLoss_21 nl Ln xs (d + 1) this p0 p1 p2 p3 p4 (some (am_nx σ)) σ5 F)) ∧ (¬ ((am_fR σ 5002 this) = none) → c_Sk_drawLoss_21 nl Ln xs (d + 1) this p0 p1 p2 p3 p4 (am_fR σ 5002 this) σ F)) : k_Sk_drawLoss nl Ln xs (d + 1) this p0 p1 p2 p3 p4 σ F := by
  obtain ⟨j0, j1, j4, j7, j10, j11, j14, j17, j18, -⟩ := P_Sk_drawLoss nl Ln xs
  have elo : am_lo 7 [am_ov (some this), .int p0, .int p1, .int p2, am_ov p3, .int p4] = [some (am_ov (some this)), some (.int p0), some (.int p1), some (.int p2), some (am_ov p3), some (.int p4), none] := by simp only [am_lo, am_in_ov, am_in_int, am_in_long, am_in_nil]; rfl
  unfold k_Sk_drawLoss
  rw [elo]
  refine s_aload_n j0 rfl rfl ?_
  obtain ⟨ho1, h⟩ := h
  refine s_gfR j1 rfl ho1 ?_
  refine s_ifnonnull j4 rfl rfl (fun hc2 => ?_) (fun hc2 => ?_)
  · replace h := h.2 hc2
    refine s_aload_n j17 rfl rfl ?_
    refine s_gfR j18 rfl ho1 ?_
    exact h
  · replace h := h.1 hc2
    refine s_new j7 rfl (fun σ3 e4 e4x e4z => ?_)
    replace h := h σ3 e4 e4x e4z
    refine s_dup j10 rfl (am_cov _) ?_
    refine s_spec j11 rfl rfl rfl rfl (by decide) (in_Ls_init _) (am_r8 rfl) (am_bV h (fun σ5 h hx5 => ?_))
    replace h := h hx5
    refine s_goto j14 rfl rfl ?_
    exact h
theorem P_Sk_drawLoss_21 (nl : Bool) (Ln : Nat) (xs : Nat → Int32) : am_Jl (TT nl Ln xs) 118 [(21, .astore 6, 23, []), (23, .aload_n 0, 24, []), (24, .aload 6, 26, []), (26, .getfield 76, 29, [9, 10, 9, 2]), (29, .putfield 69, 32, [9, 5, 2, 2]), (32, .aload 6, 34, []), (34, .iload_n 1, 35, []), (35, .putfield 78, 38, [9, 10, 0, 0]), (38, .aload 6, 40, []), (40, .iload_n 2, 41, []), (41, .putfield 79, 44, [9, 10, 1, 0]), (44, .aload 6, 46, []), (46, .iload_n 3, 47, []), (47, .putfield 80, 50, [9, 10, 2, 0]), (50, .aload 6, 52, []), (52, .aload 4, 54, []), (54, .putfield 83, 57, [9, 10, 3, 2]), (57, .aload 6, 59, []), (59, .iload 5, 61, []), (61, .putfield 86, 64, [9, 10, 4, 0]), (64, .aload 6, 66, []), (66, .iconst 0, 67, []), (67, .putfield 89, 70, [9, 10, 7, 0]), (70, .aload 6, 72, []), (72, .iconst 0, 73, []), (73, .putfield 92, 76, [9, 10, 8, 3]), (76, .aload 6, 78, []), (78, .getfield 96, 81, [9, 10, 6, 2]), (81, .lconst 0, 82, []), (82, .invokestatic 100, 85, [12, 51, 5, 2]), (85, .aload 6, 87, []), (87, .areturn, 88, [3])] := dk_ck (by decide +kernel)
set_option maxRecDepth 4096 in
theorem w_Sk_drawLoss_21 {nl : Bool} {Ln : Nat} {xs : Nat → Int32} {d : Nat} {this : Nat} {x1 : Int32} {x2 : Int32} {x3 : Int32} {x4 : Option Nat} {x5 : Int32} {y0 : Option Nat} {σ : am_S} {F : Option Nat → am_S → Prop} (h : (am_is σ y0 10) ∧ (am_is σ (some this) 5) ∧ ∀ σ3, σ3 = am_sfR σ 5002 this (am_fR σ 10009 (y0.getD 0)) → ∀ σ6, σ6 = am_sfI σ3 10000 (y0.getD 0) x1 → ∀ σ9, σ9 = am_sfI σ6 10001 (y0.getD 0) x2 → ∀ σ12, σ12 = am_sfI σ9 10002 (y0.getD 0) x3 → ∀ σ15, σ15 = am_sfR σ12 10003 (y0.getD 0) x4 → ∀ σ18, σ18 = am_sfI σ15 10004 (y0.getD 0) x5 → ∀ σ21, σ21 = am_sfI σ18 10007 (y0.getD 0) (0 : Int32) → ∀ σ24, σ24 = am_sfI σ21 10008 (y0.getD 0) (0 : Int32) → k_Arr_fill nl Ln xs d (am_fR σ24 10006 (y0.getD 0)) (0 : Int64) σ24 (fun σ27 => am_ext σ24 σ27 → F y0 σ27)) : c_Sk_drawLoss_21 nl Ln xs (d + 1) this x1 x2 x3 x4 x5 y0 σ F := by
  obtain ⟨j21, j23, j24, j26, j29, j32, j34, j35, j38, j40, j41, j44, j46, j47, j50, j52, j54, j57, j59, j61, j64, j66, j67, j70, j72, j73, j76, j78, j81, j82, j85, j87, -⟩ := P_Sk_drawLoss_21 nl Ln xs
  unfold c_Sk_drawLoss_21
  refine s_astore j21 rfl (n := 7) (L' := [some (am_ov (some this)), some (.int x1), some (.int x2), some (.int x3), some (am_ov x4), some (.int x5), some (am_ov y0)]) rfl (by decide) rfl ?_
  refine s_aload_n j23 rfl rfl ?_
  refine s_aload j24 rfl rfl ?_
  obtain ⟨ho1, h⟩ := h
  refine s_gfR j26 rfl ho1 ?_
  obtain ⟨ho2, h⟩ := h
  refine s_pfR j29 rfl ho2 (fun σ3 e4 => ?_)
  replace h := h σ3 e4
  have ek5 : am_kd σ3 = am_kd σ := by rw [e4]
  refine s_aload j32 rfl rfl ?_
  refine s_iload_n j34 rfl rfl ?_
  refine s_pfI j35 rfl (am_is_kd ek5 ho1) (fun σ6 e7 => ?_)
  replace h := h σ6 e7
  have ek8 : am_kd σ6 = am_kd σ3 := by rw [e7]
  refine s_aload j38 rfl rfl ?_
  refine s_iload_n j40 rfl rfl ?_
  refine s_pfI j41 rfl (am_is_kd ek8 (am_is_kd ek5 ho1)) (fun σ9 e10 => ?_)
  replace h := h σ9 e10
  have ek11 : am_kd σ9 = am_kd σ6 := by rw [e10]
  refine s_aload j44 rfl rfl ?_
  refine s_iload_n j46 rfl rfl ?_
  refine s_pfI j47 rfl (am_is_kd ek11 (am_is_kd ek8 (am_is_kd ek5 ho1))) (fun σ12 e13 => ?_)
  replace h := h σ12 e13
  have ek14 : am_kd σ12 = am_kd σ9 := by rw [e13]
  refine s_aload j50 rfl rfl ?_
  refine s_aload j52 rfl rfl ?_
  refine s_pfR j54 rfl (am_is_kd ek14 (am_is_kd ek11 (am_is_kd ek8 (am_is_kd ek5 ho1)))) (fun σ15 e16 => ?_)
  replace h := h σ15 e16
  have ek17 : am_kd σ15 = am_kd σ12 := by rw [e16]
  refine s_aload j57 rfl rfl ?_
  refine s_iload j59 rfl rfl ?_
  refine s_pfI j61 rfl (am_is_kd ek17 (am_is_kd ek14 (am_is_kd ek11 (am_is_kd ek8 (am_is_kd ek5 ho1))))) (fun σ18 e19 => ?_)
  replace h := h σ18 e19
  have ek20 : am_kd σ18 = am_kd σ15 := by rw [e19]
  refine s_aload j64 rfl rfl ?_
  refine s_iconst j66 rfl kc_ic_0 ?_
  refine s_pfI j67 rfl (am_is_kd ek20 (am_is_kd ek17 (am_is_kd ek14 (am_is_kd ek11 (am_is_kd ek8 (am_is_kd ek5 ho1)))))) (fun σ21 e22 => ?_)
  replace h := h σ21 e22
  have ek23 : am_kd σ21 = am_kd σ18 := by rw [e22]
  refine s_aload j70 rfl rfl ?_
  refine s_iconst j72 rfl kc_ic_0 ?_
  refine s_pfZ j73 rfl (am_is_kd ek23 (am_is_kd ek20 (am_is_kd ek17 (am_is_kd ek14 (am_is_kd ek11 (am_is_kd ek8 (am_is_kd ek5 ho1))))))) (Or.inl rfl) (fun σ24 e25 => ?_)
  replace h := h σ24 e25
  have ek26 : am_kd σ24 = am_kd σ21 := by rw [e25]
  refine s_aload j76 rfl rfl ?_
  refine s_gfR j78 rfl (am_is_kd ek26 (am_is_kd ek23 (am_is_kd ek20 (am_is_kd ek17 (am_is_kd ek14 (am_is_kd ek11 (am_is_kd ek8 (am_is_kd ek5 ho1)))))))) ?_
  refine s_lconst j81 rfl rfl ?_
  refine s_stat j82 rfl rfl rfl rfl (by decide) (in_Arr_fill _ _) (am_r8 rfl) (am_bV h (fun σ27 h hx27 => ?_))
  replace h := h hx27
  refine s_aload j85 rfl rfl ?_
  exact s_retR j87 rfl h
theorem P_Ls_init (nl : Bool) (Ln : Nat) (xs : Nat → Int32) : am_Jl (TT nl Ln xs) 119 [(0, .aload_n 0, 1, []), (1, .invokespecial 3, 4, [13]), (4, .aload_n 0, 5, []), (5, .bipush 6, 7, []), (7, .newarray .int, 9, []), (9, .putfield 9, 12, [9, 10, 5, 2]), (12, .aload_n 0, 13, []), (13, .bipush 12, 15, []), (15, .newarray .long, 17, []), (17, .putfield 15, 20, [9, 10, 6, 2]), (20, .return_, 21, [0])] := dk_ck (by decide +kernel)
set_option maxRecDepth 4096 in
theorem w_Ls_init {nl : Bool} {Ln : Nat} {xs : Nat → Int32} {d : Nat} {this : Nat} {σ : am_S} {F : am_S → Prop} (h : ∀ σ1, σ1 = am_new σ 1000 6 6 → am_ext σ σ1 → am_fz σ1 (am_nx σ) → (am_is σ1 (some this) 10) ∧ ∀ σ4, σ4 = am_sfR σ1 10005 this (some (am_nx σ)) → ∀ σ7, σ7 = am_new σ4 1001 12 12 → am_ext σ4 σ7 → am_fz σ7 (am_nx σ4) → ∀ σ9, σ9 = am_sfR σ7 10006 this (some (am_nx σ4)) → F σ9) : k_Ls_init nl Ln xs (d + 1) this σ F := by
  obtain ⟨j0, j1, j4, j5, j7, j9, j12, j13, j15, j17, j20, -⟩ := P_Ls_init nl Ln xs
  have elo : am_lo 1 [am_ov (some this)] = [some (am_ov (some this))] := by simp only [am_lo, am_in_ov, am_in_int, am_in_long, am_in_nil]; rfl
  unfold k_Ls_init
  rw [elo]
  refine s_aload_n j0 rfl rfl ?_
  refine s_obj j1 rfl (am_r8 rfl) ?_
  refine s_aload_n j4 rfl rfl ?_
  refine s_bipush j5 rfl kc_bi_6 ?_
  refine s_newarray (k := 1000) (m := 6) j7 rfl rfl (by decide) (by decide) (by decide) (by decide) (fun σ1 e2 e2x e2z => ?_)
  replace h := h σ1 e2 e2x e2z
  obtain ⟨ho3, h⟩ := h
  refine s_pfR j9 rfl ho3 (fun σ4 e5 => ?_)
  replace h := h σ4 e5
  have ek6 : am_kd σ4 = am_kd σ1 := by rw [e5]
  refine s_aload_n j12 rfl rfl ?_
  refine s_bipush j13 rfl kc_bi_12 ?_
  refine s_newarray (k := 1001) (m := 12) j15 rfl rfl (by decide) (by decide) (by decide) (by decide) (fun σ7 e8 e8x e8z => ?_)
  replace h := h σ7 e8 e8x e8z
  refine s_pfR j17 rfl (am_is_ext e8x (am_is_kd ek6 ho3)) (fun σ9 e10 => ?_)
  replace h := h σ9 e10
  have ek11 : am_kd σ9 = am_kd σ7 := by rw [e10]
  exact s_retV j20 rfl h
theorem P_Bk_makePart (nl : Bool) (Ln : Nat) (xs : Nat → Int32) : am_Jl (TT nl Ln xs) 120 [(0, .aload_n 0, 1, []), (1, .aload_n 1, 2, []), (2, .iconst 1, 3, []), (3, .laload, 4, []), (4, .invokevirtual 303, 7, [10, 121, 7, 3, 2]), (7, .astore_n 2, 8, []), (8, .aload_n 2, 9, []), (9, .ifnull 21, 12, []), (12, .aload_n 1, 13, []), (13, .iconst 2, 14, []), (14, .laload, 15, []), (15, .lconst 1, 16, []), (16, .lcmp, 17, []), (17, .ifCond .lt 13, 20, []), (20, .aload_n 1, 21, []), (21, .iconst 2, 22, []), (22, .laload, 23, []), (23, .ldc2_w 307, 26, [6, 100]), (26, .lcmp, 27, []), (27, .ifCond .le 6, 30, []), (30, .bipush (-2), 32, []), (32, .ireturn, 33, [1]), (33, .aload_n 2, 34, []), (34, .invokevirtual 309, 37, [10, 122, 11, 4, 1]), (37, .iconst 4, 38, []), (38, .if_icmp .lt 6, 41, []), (41, .bipush (-3), 43, []), (43, .ireturn, 44, [1]), (44, .aload_n 0, 45, []), (45, .iconst 5, 46, []), (46, .aload_n 2, 47, []), (47, .getfield 312, 50, [9, 10, 2, 0]), (50, .aload_n 2, 51, []), (51, .aload_n 1, 52, []), (52, .iconst 2, 53, []), (53, .laload, 54, []), (54, .l2i, 55, []), (55, .invokevirtual 299, 58, [10, 117, 7, 5, 5]), (58, .ireturn, 59, [1])] := dk_ck (by decide +kernel)
set_option maxRecDepth 4096 in
theorem w_Bk_makePart {nl : Bool} {Ln : Nat} {xs : Nat → Int32} {d : Nat} {this : Nat} {p0 : Option Nat} {σ : am_S} {F : Int32 → am_S → Prop} (h : (am_ar σ 1001 p0 (1 : Int32)) ∧ (am_is σ (some this) 6) ∧ k_Bk_lossAt nl Ln xs d this (am_aL σ (p0.getD 0) (1 : Int32).toNatClampNeg) σ (fun a4 σ3 => am_ext σ σ3 → (a4 = none → F (-2 : Int32) σ3) ∧ (¬ (a4 = none) → (am_ar σ3 1001 p0 (2 : Int32)) ∧ ((am_aL σ3 (p0.getD 0) (2 : Int32).toNatClampNeg) < (1 : Int64) → F (-2 : Int32) σ3) ∧ (¬ ((am_aL σ3 (p0.getD 0) (2 : Int32).toNatClampNeg) < (1 : Int64)) → (am_ar σ3 1001 p0 (2 : Int32)) ∧ ((100 : Int64) < (am_aL σ3 (p0.getD 0) (2 : Int32).toNatClampNeg) → F (-2 : Int32) σ3) ∧ (¬ ((100 : Int64) < (am_aL σ3 (p0.getD 0) (2 : Int32).toNatClampNeg)) → (am_is σ3 a4 10) ∧ k_Ls_partsToBase nl Ln xs d (a4.getD 0) σ3 (fun a12 σ11 => am_ext σ3 σ11 → (a12 < (4 : Int32) → (am_ar σ11 1001 p0 (2 : Int32)) ∧ k_Bk_addLoss nl Ln xs d this (5 : Int32) (am_fI σ11 10002 (a4.getD 0)) a4 ((am_aL σ11 (p0.getD 0) (2 : Int32).toNatClampNeg).toInt32) σ11 (fun a16 σ15 => am_ext σ11 σ15 → F a16 σ15)) ∧ (¬ (a12 < (4 : Int32)) → F (-3 : Int32) σ11))))))) : k_Bk_makePart nl Ln xs (d + 1) this p0 σ F := by
  obtain ⟨j0, j1, j2, j3, j4, j7, j8, j9, j12, j13, j14, j15, j16, j17, j20, j21, j22, j23, j26, j27, j30, j32, j33, j34, j37, j38, j41, j43, j44, j45, j46, j47, j50, j51, j52, j53, j54, j55, j58, -⟩ := P_Bk_makePart nl Ln xs
  have elo : am_lo 3 [am_ov (some this), am_ov p0] = [some (am_ov (some this)), some (am_ov p0), none] := by simp only [am_lo, am_in_ov, am_in_int, am_in_long, am_in_nil]; rfl
  unfold k_Bk_makePart
  rw [elo]
  refine s_aload_n j0 rfl rfl ?_
  refine s_aload_n j1 rfl rfl ?_
  refine s_iconst j2 rfl kc_ic_1 ?_
  obtain ⟨ho1, h⟩ := h
  refine s_laload j3 rfl ho1 ?_
  obtain ⟨ho2, h⟩ := h
  refine s_virt j4 rfl rfl rfl rfl ho2 (by decide) (in_Bk_lossAt _ _) (am_r8 rfl) (am_bR h (fun a4 σ3 h hx3 => ?_))
  replace h := h hx3
  refine s_astore_n j7 rfl (n := 3) (L' := [some (am_ov (some this)), some (am_ov p0), some (am_ov a4)]) rfl (by decide) (am_st1_R [_] _ _ _ _) ?_
  refine s_aload_n j8 rfl rfl ?_
  refine s_ifnull j9 rfl rfl (fun hc5 => ?_) (fun hc5 => ?_)
  · replace h := h.1 hc5
    refine s_bipush j30 rfl kc_bi_m2 ?_
    exact s_retI j32 rfl h
  · replace h := h.2 hc5
    refine s_aload_n j12 rfl rfl ?_
    refine s_iconst j13 rfl kc_ic_2 ?_
    obtain ⟨ho6, h⟩ := h
    refine s_laload j14 rfl ho6 ?_
    refine s_lconst j15 rfl rfl ?_
    refine s_g j16 rfl rfl rfl rfl rfl rfl ?_
    refine s_if j17 rfl rfl am_cl_lt (fun hc7 => ?_) (fun hc7 => ?_)
    · replace h := h.1 hc7
      refine s_bipush j30 rfl kc_bi_m2 ?_
      exact s_retI j32 rfl h
    · replace h := h.2 hc7
      refine s_aload_n j20 rfl rfl ?_
      refine s_iconst j21 rfl kc_ic_2 ?_
      obtain ⟨ho8, h⟩ := h
      refine s_laload j22 rfl ho8 ?_
      refine s_ldc2 j23 rfl kc_ll_100 ?_
      refine s_g j26 rfl rfl rfl rfl rfl rfl ?_
      refine s_ifn j27 rfl rfl am_cl_le (fun hc9 => ?_) (fun hc9 => ?_)
      · replace h := h.2 hc9
        refine s_aload_n j33 rfl rfl ?_
        obtain ⟨ho10, h⟩ := h
        refine s_virt j34 rfl rfl rfl rfl ho10 (by decide) (in_Ls_partsToBase _) (am_r8 rfl) (am_bI h (fun a12 σ11 h hx11 => ?_))
        replace h := h hx11
        refine s_iconst j37 rfl kc_ic_4 ?_
        refine s_ic j38 rfl rfl am_cc_lt (fun hc13 => ?_) (fun hc13 => ?_)
        · replace h := h.1 hc13
          refine s_aload_n j44 rfl rfl ?_
          refine s_iconst j45 rfl kc_ic_5 ?_
          refine s_aload_n j46 rfl rfl ?_
          refine s_gfI j47 rfl (am_is_ext hx11 ho10) ?_
          refine s_aload_n j50 rfl rfl ?_
          refine s_aload_n j51 rfl rfl ?_
          refine s_iconst j52 rfl kc_ic_2 ?_
          obtain ⟨ho14, h⟩ := h
          refine s_laload j53 rfl ho14 ?_
          refine s_g j54 rfl rfl rfl rfl rfl rfl ?_
          refine s_virt j55 rfl rfl rfl rfl (am_is_ext hx11 (am_is_ext hx3 ho2)) (by decide) (in_Bk_addLoss _ _ _ _ _) (am_r8 rfl) (am_bI h (fun a16 σ15 h hx15 => ?_))
          replace h := h hx15
          exact s_retI j58 rfl h
        · replace h := h.2 hc13
          refine s_bipush j41 rfl kc_bi_m3 ?_
          exact s_retI j43 rfl h
      · replace h := h.1 hc9
        refine s_bipush j30 rfl kc_bi_m2 ?_
        exact s_retI j32 rfl h
theorem P_Bk_lossAt (nl : Bool) (Ln : Nat) (xs : Nat → Int32) : am_Jl (TT nl Ln xs) 121 [(0, .lload_n 1, 1, []), (1, .lconst 0, 2, []), (2, .lcmp, 3, []), (3, .ifCond .lt 13, 6, []), (6, .lload_n 1, 7, []), (7, .aload_n 0, 8, []), (8, .getfield 76, 11, [9, 6, 13, 0]), (11, .i2l, 12, []), (12, .lcmp, 13, []), (13, .ifCond .lt 7, 16, []), (16, .aconst_null, 17, []), (17, .goto 10, 20, []), (20, .aload_n 0, 21, []), (21, .getfield 26, 24, [9, 6, 5, 2]), (24, .lload_n 1, 25, []), (25, .l2i, 26, []), (26, .aaload, 27, []), (27, .areturn, 28, [3])] := dk_ck (by decide +kernel)
set_option maxRecDepth 4096 in
theorem w_Bk_lossAt {nl : Bool} {Ln : Nat} {xs : Nat → Int32} {d : Nat} {this : Nat} {p0 : Int64} {σ : am_S} {F : Option Nat → am_S → Prop} (h : (¬ (p0 < (0 : Int64)) → am_is σ (some this) 6) ∧ (¬ (p0 < (0 : Int64)) → (p0 < (am_fI σ 6013 this).toInt64) → am_is σ (some this) 6) ∧ (¬ (p0 < (0 : Int64)) → (p0 < (am_fI σ 6013 this).toInt64) → am_ar σ 2010 (am_fR σ 6005 this) p0.toInt32) ∧ ∀ w7 : Option Nat, w7 = (if p0 < (0 : Int64) then none else (if p0 < (am_fI σ 6013 this).toInt64 then (am_aR σ ((am_fR σ 6005 this).getD 0) p0.toInt32.toNatClampNeg) else none)) → F w7 σ) : k_Bk_lossAt nl Ln xs (d + 1) this p0 σ F := by
  obtain ⟨j0, j1, j2, j3, j6, j7, j8, j11, j12, j13, j16, j17, j20, j21, j24, j25, j26, j27, -⟩ := P_Bk_lossAt nl Ln xs
  have elo : am_lo 3 [am_ov (some this), .long p0] = [some (am_ov (some this)), some (.long p0), none] := by simp only [am_lo, am_in_ov, am_in_int, am_in_long, am_in_nil]; rfl
  unfold k_Bk_lossAt
  rw [elo]
  refine s_lload_n j0 rfl rfl ?_
  refine s_lconst j1 rfl rfl ?_
  refine s_g j2 rfl rfl rfl rfl rfl rfl ?_
  obtain ⟨ho2, h⟩ := h
  obtain ⟨ho4, h⟩ := h
  obtain ⟨ho5, h⟩ := h
  have K6 : ∀ (w7 : Option Nat), w7 = (if p0 < (0 : Int64) then none else (if p0 < (am_fI σ 6013 this).toInt64 then (am_aR σ ((am_fR σ 6005 this).getD 0) p0.toInt32.toNatClampNeg) else none)) → am_C (TT nl Ln xs) (d + 1) 121 27 [some (am_ov (some this)), some (.long p0), none] [am_ov w7] σ (am_qR F) := by
    intro w7 hw8
    replace h := h w7 hw8
    exact s_retR j27 rfl h
  refine s_if j3 rfl rfl am_cl_lt (fun hc1 => ?_) (fun hc1 => ?_)
  · refine s_null j16 rfl ?_
    refine s_goto j17 rfl rfl ?_
    exact K6 _ (am_t1 hc1 rfl)
  · refine s_lload_n j6 rfl rfl ?_
    refine s_aload_n j7 rfl rfl ?_
    refine s_gfI j8 rfl (ho2 hc1) ?_
    refine s_g j11 rfl rfl rfl rfl rfl rfl ?_
    refine s_g j12 rfl rfl rfl rfl rfl rfl ?_
    refine s_if j13 rfl rfl am_cl_lt (fun hc3 => ?_) (fun hc3 => ?_)
    · refine s_aload_n j20 rfl rfl ?_
      refine s_gfR j21 rfl (ho4 hc1 hc3) ?_
      refine s_lload_n j24 rfl rfl ?_
      refine s_g j25 rfl rfl rfl rfl rfl rfl ?_
      refine s_aaload (k := 2010) (by decide) kq_2010 j26 rfl (ho5 hc1 hc3) ?_
      exact K6 _ (am_t2 hc1 (am_t1 hc3 rfl))
    · refine s_null j16 rfl ?_
      refine s_goto j17 rfl rfl ?_
      exact K6 _ (am_t2 hc1 (am_t2 hc3 rfl))
theorem P_Ls_partsToBase (nl : Bool) (Ln : Nat) (xs : Nat → Int32) : am_Jl (TT nl Ln xs) 122 [(0, .iconst 0, 1, []), (1, .istore_n 1, 2, []), (2, .aload_n 0, 3, []), (3, .astore_n 2, 4, []), (4, .iconst 0, 5, []), (5, .istore_n 3, 6, [])] := dk_ck (by decide +kernel)
set_option maxRecDepth 4096 in
theorem w_Ls_partsToBase {nl : Bool} {Ln : Nat} {xs : Nat → Int32} {d : Nat} {this : Nat} {σ : am_S} {F : Int32 → am_S → Prop} (h : c_Ls_partsToBase_6 nl Ln xs (d + 1) this (0 : Int32) (some this) (0 : Int32) σ F) : k_Ls_partsToBase nl Ln xs (d + 1) this σ F := by
  obtain ⟨j0, j1, j2, j3, j4, j5, -⟩ := P_Ls_partsToBase nl Ln xs
  have elo : am_lo 4 [am_ov (some this)] = [some (am_ov (some this)), none, none, none] := by simp only [am_lo, am_in_ov, am_in_int, am_in_long, am_in_nil]; rfl
  unfold k_Ls_partsToBase
  rw [elo]
  refine s_iconst j0 rfl kc_ic_0 ?_
  refine s_istore_n j1 rfl (n := 4) (L' := [some (am_ov (some this)), some (.int (0 : Int32)), none, none]) rfl (by decide) (am_st1_R [] _ _ _ _) ?_
  refine s_aload_n j2 rfl rfl ?_
  refine s_astore_n j3 rfl (n := 4) (L' := [some (am_ov (some this)), some (.int (0 : Int32)), some (am_ov (some this)), none]) rfl (by decide) rfl ?_
  refine s_iconst j4 rfl kc_ic_0 ?_
  refine s_istore_n j5 rfl (n := 4) (L' := [some (am_ov (some this)), some (.int (0 : Int32)), some (am_ov (some this)), some (.int (0 : Int32))]) rfl (by decide) (am_st1_R [_, _] _ _ _ _) ?_
  exact h
theorem P_Ls_partsToBase_6 (nl : Bool) (Ln : Nat) (xs : Nat → Int32) : am_Jl (TT nl Ln xs) 122 [(6, .iload_n 3, 7, []), (7, .iconst 4, 8, []), (8, .if_icmp .ge 24, 11, []), (11, .aload_n 2, 12, []), (12, .getfield 19, 15, [9, 10, 3, 2]), (15, .ifnull 17, 18, []), (18, .aload_n 2, 19, []), (19, .getfield 19, 22, [9, 10, 3, 2]), (22, .astore_n 2, 23, []), (23, .iinc 1 1, 26, []), (26, .iinc 3 1, 29, []), (29, .goto (-23), 32, []), (32, .iload_n 1, 33, []), (33, .ireturn, 34, [1])] := dk_ck (by decide +kernel)
set_option maxRecDepth 4096 in
theorem w_Ls_partsToBase_6 {nl : Bool} {Ln : Nat} {xs : Nat → Int32} {d : Nat} {this : Nat} {x1 : Int32} {x2 : Option Nat} {x3 : Int32} {σ : am_S} {F : Int32 → am_S → Prop} (h : (x3 < (4 : Int32) → (am_is σ x2 10) ∧ ((am_fR σ 10003 (x2.getD 0)) = none → F x1 σ) ∧ (¬ ((am_fR σ 10003 (x2.getD 0)) = none) → ∀ v4 : Option Nat, v4 = (am_fR σ 10003 (x2.getD 0)) → c_Ls_partsToBase_6 nl Ln xs (d + 1) this (x1 + (1 : Int32)) v4 (x3 + (1 : Int32)) σ F)) ∧ (¬ (x3 < (4 : Int32)) → F x1 σ)) : c_Ls_partsToBase_6 nl Ln xs (d + 1) this x1 x2 x3 σ F := by
  obtain ⟨j6, j7, j8, j11, j12, j15, j18, j19, j22, j23, j26, j29, j32, j33, -⟩ := P_Ls_partsToBase_6 nl Ln xs
  unfold c_Ls_partsToBase_6
  refine s_iload_n j6 rfl rfl ?_
  refine s_iconst j7 rfl kc_ic_4 ?_
  refine s_icn j8 rfl rfl am_cc_ge (fun hc1 => ?_) (fun hc1 => ?_)
  · replace h := h.2 hc1
    refine s_iload_n j32 rfl rfl ?_
    exact s_retI j33 rfl h
  · replace h := h.1 hc1
    refine s_aload_n j11 rfl rfl ?_
    obtain ⟨ho2, h⟩ := h
    refine s_gfR j12 rfl ho2 ?_
    refine s_ifnull j15 rfl rfl (fun hc3 => ?_) (fun hc3 => ?_)
    · replace h := h.1 hc3
      refine s_iload_n j32 rfl rfl ?_
      exact s_retI j33 rfl h
    · replace h := h.2 hc3
      refine s_aload_n j18 rfl rfl ?_
      refine s_gfR j19 rfl ho2 ?_
      refine s_astore_nV j22 rfl (n := 4) (L' := fun w => [some (am_ov (some this)), some (.int x1), some (am_ov w), some (.int x3)]) rfl (by decide) (fun _ => rfl) (fun v4 hv5 => ?_)
      replace h := h v4 hv5
      refine s_iinc (L' := [some (am_ov (some this)), some (.int (x1 + (1 : Int32))), some (am_ov v4), some (.int x3)]) j23 rfl rfl kc_ic_1 (am_st1_R [] _ _ _ _) ?_
      refine s_iinc (L' := [some (am_ov (some this)), some (.int (x1 + (1 : Int32))), some (am_ov v4), some (.int (x3 + (1 : Int32)))]) j26 rfl rfl kc_ic_1 (am_st1_R [_, _] _ _ _ _) ?_
      refine s_goto j29 rfl rfl ?_
      exact h
theorem P_Bk_makeItem (nl : Bool) (Ln : Nat) (xs : Nat → Int32) : am_Jl (TT nl Ln xs) 123 [(0, .aload_n 0, 1, []), (1, .aload_n 1, 2, []), (2, .iconst 1, 3, []), (3, .laload, 4, []), (4, .invokevirtual 303, 7, [10, 121, 7, 3, 2]), (7, .astore_n 2, 8, []), (8, .aload_n 1, 9, []), (9, .iconst 2, 10, []), (10, .laload, 11, []), (11, .lconst 0, 12, []), (12, .lcmp, 13, []), (13, .ifCond .lt 17, 16, []), (16, .aload_n 1, 17, []), (17, .iconst 2, 18, []), (18, .laload, 19, []), (19, .ldc2_w 234, 22, [6, 9]), (22, .lcmp, 23, []), (23, .ifCond .gt 7, 26, []), (26, .iconst 1, 27, []), (27, .goto 4, 30, []), (30, .iconst 0, 31, [])] := dk_ck (by decide +kernel)
set_option maxRecDepth 4096 in
theorem w_Bk_makeItem {nl : Bool} {Ln : Nat} {xs : Nat → Int32} {d : Nat} {this : Nat} {p0 : Option Nat} {σ : am_S} {F : Int32 → am_S → Prop} (h : (am_ar σ 1001 p0 (1 : Int32)) ∧ (am_is σ (some this) 6) ∧ k_Bk_lossAt nl Ln xs d this (am_aL σ (p0.getD 0) (1 : Int32).toNatClampNeg) σ (fun a4 σ3 => am_ext σ σ3 → (am_ar σ3 1001 p0 (2 : Int32)) ∧ (¬ ((am_aL σ3 (p0.getD 0) (2 : Int32).toNatClampNeg) < (0 : Int64)) → am_ar σ3 1001 p0 (2 : Int32)) ∧ c_Bk_makeItem_31 nl Ln xs (d + 1) this p0 a4 (if ¬ ((am_aL σ3 (p0.getD 0) (2 : Int32).toNatClampNeg) < (0 : Int64)) ∧ (¬ ((9 : Int64) < (am_aL σ3 (p0.getD 0) (2 : Int32).toNatClampNeg))) then (1 : Int32) else 0) σ3 F)) : k_Bk_makeItem nl Ln xs (d + 1) this p0 σ F := by
  obtain ⟨j0, j1, j2, j3, j4, j7, j8, j9, j10, j11, j12, j13, j16, j17, j18, j19, j22, j23, j26, j27, j30, -⟩ := P_Bk_makeItem nl Ln xs
  have elo : am_lo 5 [am_ov (some this), am_ov p0] = [some (am_ov (some this)), some (am_ov p0), none, none, none] := by simp only [am_lo, am_in_ov, am_in_int, am_in_long, am_in_nil]; rfl
  unfold k_Bk_makeItem
  rw [elo]
  refine s_aload_n j0 rfl rfl ?_
  refine s_aload_n j1 rfl rfl ?_
  refine s_iconst j2 rfl kc_ic_1 ?_
  obtain ⟨ho1, h⟩ := h
  refine s_laload j3 rfl ho1 ?_
  obtain ⟨ho2, h⟩ := h
  refine s_virt j4 rfl rfl rfl rfl ho2 (by decide) (in_Bk_lossAt _ _) (am_r8 rfl) (am_bR h (fun a4 σ3 h hx3 => ?_))
  replace h := h hx3
  refine s_astore_n j7 rfl (n := 5) (L' := [some (am_ov (some this)), some (am_ov p0), some (am_ov a4), none, none]) rfl (by decide) (am_st1_R [_] _ _ _ _) ?_
  refine s_aload_n j8 rfl rfl ?_
  refine s_iconst j9 rfl kc_ic_2 ?_
  obtain ⟨ho5, h⟩ := h
  refine s_laload j10 rfl ho5 ?_
  refine s_lconst j11 rfl rfl ?_
  refine s_g j12 rfl rfl rfl rfl rfl rfl ?_
  obtain ⟨ho7, h⟩ := h
  have K9 : ∀ (w10 : Int32), w10 = (if ¬ ((am_aL σ3 (p0.getD 0) (2 : Int32).toNatClampNeg) < (0 : Int64)) ∧ (¬ ((9 : Int64) < (am_aL σ3 (p0.getD 0) (2 : Int32).toNatClampNeg))) then (1 : Int32) else 0) → am_C (TT nl Ln xs) (d + 1) 123 31 [some (am_ov (some this)), some (am_ov p0), some (am_ov a4), none, none] [.int w10] σ3 (am_qI F) := by
    intro w10 hw11
    subst hw11
    exact h
  refine s_if j13 rfl rfl am_cl_lt (fun hc6 => ?_) (fun hc6 => ?_)
  · refine s_iconst j30 rfl kc_ic_0 ?_
    exact K9 _ (am_e0 (Iff.trans Iff.rfl (am_p6 hc6)))
  · refine s_aload_n j16 rfl rfl ?_
    refine s_iconst j17 rfl kc_ic_2 ?_
    refine s_laload j18 rfl (ho7 hc6) ?_
    refine s_ldc2 j19 rfl kc_ll_9 ?_
    refine s_g j22 rfl rfl rfl rfl rfl rfl ?_
    refine s_if j23 rfl rfl am_cl_gt (fun hc8 => ?_) (fun hc8 => ?_)
    · refine s_iconst j30 rfl kc_ic_0 ?_
      exact K9 _ (am_e0 (am_p5 hc6 (Iff.trans Iff.rfl (am_p11 hc8))))
    · refine s_iconst j26 rfl kc_ic_1 ?_
      refine s_goto j27 rfl rfl ?_
      exact K9 _ (am_e1 (am_p5 hc6 (Iff.trans Iff.rfl (am_p12 hc8))))
theorem P_Bk_makeItem_31 (nl : Bool) (Ln : Nat) (xs : Nat → Int32) : am_Jl (TT nl Ln xs) 123 [(31, .istore_n 3, 32, []), (32, .aload_n 2, 33, []), (33, .ifnull 33, 36, []), (36, .aload_n 2, 37, []), (37, .getfield 319, 40, [9, 10, 1, 0]), (40, .iconst 5, 41, []), (41, .if_icmp .eq 25, 44, []), (44, .iload_n 3, 45, []), (45, .ifCond .eq 21, 48, []), (48, .aload_n 1, 49, []), (49, .iconst 3, 50, []), (50, .laload, 51, []), (51, .invokestatic 285, 54, [12, 16, 2, 1]), (54, .ifCond .eq 12, 57, []), (57, .aload_n 1, 58, []), (58, .iconst 4, 59, []), (59, .laload, 60, []), (60, .invokestatic 285, 63, [12, 16, 2, 1]), (63, .ifCond .ne 6, 66, []), (66, .bipush (-2), 68, []), (68, .ireturn, 69, [1]), (69, .aload_n 2, 70, []), (70, .getfield 320, 73, [9, 10, 8, 3]), (73, .ifCond .eq 6, 76, []), (76, .bipush (-3), 78, []), (78, .ireturn, 79, [1]), (79, .aload_n 2, 80, []), (80, .getfield 323, 83, [9, 10, 7, 0]), (83, .istore 4, 85, []), (85, .iload 4, 87, []), (87, .bipush 6, 89, []), (89, .if_icmp .lt 6, 92, []), (92, .bipush (-7), 94, []), (94, .ireturn, 95, [1]), (95, .aload_n 2, 96, []), (96, .getfield 326, 99, [9, 10, 5, 2]), (99, .iload 4, 101, []), (101, .aload_n 1, 102, []), (102, .iconst 2, 103, []), (103, .laload, 104, []), (104, .l2i, 105, []), (105, .iastore, 106, []), (106, .aload_n 2, 107, []), (107, .getfield 329, 110, [9, 10, 6, 2]), (110, .iconst 2, 111, []), (111, .iload 4, 113, []), (113, .imul, 114, []), (114, .aload_n 1, 115, []), (115, .iconst 3, 116, []), (116, .laload, 117, []), (117, .lastore, 118, []), (118, .aload_n 2, 119, []), (119, .getfield 329, 122, [9, 10, 6, 2]), (122, .iconst 2, 123, []), (123, .iload 4, 125, []), (125, .imul, 126, []), (126, .iconst 1, 127, []), (127, .iadd, 128, []), (128, .aload_n 1, 129, []), (129, .iconst 4, 130, []), (130, .laload, 131, []), (131, .lastore, 132, []), (132, .aload_n 2, 133, []), (133, .dup, 134, []), (134, .getfield 323, 137, [9, 10, 7, 0]), (137, .iconst 1, 138, []), (138, .iadd, 139, []), (139, .putfield 323, 142, [9, 10, 7, 0]), (142, .aload_n 2, 143, []), (143, .getfield 323, 146, [9, 10, 7, 0]), (146, .ireturn, 147, [1])] := dk_ck (by decide +kernel)
set_option maxRecDepth 4096 in
theorem w_Bk_makeItem_31 {nl : Bool} {Ln : Nat} {xs : Nat → Int32} {d : Nat} {this : Nat} {x1 : Option Nat} {x2 : Option Nat} {y0 : Int32} {σ : am_S} {F : Int32 → am_S → Prop} (h : (x2 = none → F (-2 : Int32) σ) ∧ (¬ (x2 = none) → (am_is σ x2 10) ∧ ((am_fI σ 10001 (x2.getD 0)) = (5 : Int32) → F (-2 : Int32) σ) ∧ (¬ ((am_fI σ 10001 (x2.getD 0)) = (5 : Int32)) → (y0 = 0 → F (-2 : Int32) σ) ∧ (¬ (y0 = 0) → (am_ar σ 1001 x1 (3 : Int32)) ∧ k_Co_isMoney nl Ln xs d (am_aL σ (x1.getD 0) (3 : Int32).toNatClampNeg) σ (fun a7 σ6 => am_ext σ σ6 → (a7 = true → (am_ar σ6 1001 x1 (4 : Int32)) ∧ k_Co_isMoney nl Ln xs d (am_aL σ6 (x1.getD 0) (4 : Int32).toNatClampNeg) σ6 (fun a11 σ10 => am_ext σ6 σ10 → (a11 = true → ((am_fI σ10 10008 (x2.getD 0)) = 0 → ∀ v14 : Int32, v14 = (am_fI σ10 10007 (x2.getD 0)) → (v14 < (6 : Int32) → (am_ar σ10 1001 x1 (2 : Int32)) ∧ (am_ar σ10 1000 (am_fR σ10 10005 (x2.getD 0)) v14) ∧ ∀ σ19, σ19 = am_saI σ10 ((am_fR σ10 10005 (x2.getD 0)).getD 0) v14.toNatClampNeg ((am_aL σ10 (x1.getD 0) (2 : Int32).toNatClampNeg).toInt32) → (am_ar σ19 1001 x1 (3 : Int32)) ∧ (am_ar σ19 1001 (am_fR σ19 10006 (x2.getD 0)) ((2 : Int32) * v14)) ∧ ∀ σ24, σ24 = am_saL σ19 ((am_fR σ19 10006 (x2.getD 0)).getD 0) ((2 : Int32) * v14).toNatClampNeg (am_aL σ19 (x1.getD 0) (3 : Int32).toNatClampNeg) → (am_ar σ24 1001 x1 (4 : Int32)) ∧ (am_ar σ24 1001 (am_fR σ24 10006 (x2.getD 0)) (((2 : Int32) * v14) + (1 : Int32))) ∧ ∀ σ29, σ29 = am_saL σ24 ((am_fR σ24 10006 (x2.getD 0)).getD 0) (((2 : Int32) * v14) + (1 : Int32)).toNatClampNeg (am_aL σ24 (x1.getD 0) (4 : Int32).toNatClampNeg) → ∀ σ32, σ32 = am_sfI σ29 10007 (x2.getD 0) ((am_fI σ29 10007 (x2.getD 0)) + (1 : Int32)) → F (am_fI σ32 10007 (x2.getD 0)) σ32) ∧ (¬ (v14 < (6 : Int32)) → F (-7 : Int32) σ10)) ∧ (¬ ((am_fI σ10 10008 (x2.getD 0)) = 0) → F (-3 : Int32) σ10)) ∧ (¬ (a11 = true) → F (-2 : Int32) σ10))) ∧ (¬ (a7 = true) → F (-2 : Int32) σ6)))))) : c_Bk_makeItem_31 nl Ln xs (d + 1) this x1 x2 y0 σ F := by
  obtain ⟨j31, j32, j33, j36, j37, j40, j41, j44, j45, j48, j49, j50, j51, j54, j57, j58, j59, j60, j63, j66, j68, j69, j70, j73, j76, j78, j79, j80, j83, j85, j87, j89, j92, j94, j95, j96, j99, j101, j102, j103, j104, j105, j106, j107, j110, j111, j113, j114, j115, j116, j117, j118, j119, j122, j123, j125, j126, j127, j128, j129, j130, j131, j132, j133, j134, j137, j138, j139, j142, j143, j146, -⟩ := P_Bk_makeItem_31 nl Ln xs
  unfold c_Bk_makeItem_31
  refine s_istore_n j31 rfl (n := 5) (L' := [some (am_ov (some this)), some (am_ov x1), some (am_ov x2), some (.int y0), none]) rfl (by decide) (am_st1_R [_, _] _ _ _ _) ?_
  refine s_aload_n j32 rfl rfl ?_
  refine s_ifnull j33 rfl rfl (fun hc1 => ?_) (fun hc1 => ?_)
  · replace h := h.1 hc1
    refine s_bipush j66 rfl kc_bi_m2 ?_
    exact s_retI j68 rfl h
  · replace h := h.2 hc1
    refine s_aload_n j36 rfl rfl ?_
    obtain ⟨ho2, h⟩ := h
    refine s_gfI j37 rfl ho2 ?_
    refine s_iconst j40 rfl kc_ic_5 ?_
    refine s_ic j41 rfl rfl am_cc_eq (fun hc3 => ?_) (fun hc3 => ?_)
    · replace h := h.1 hc3
      refine s_bipush j66 rfl kc_bi_m2 ?_
      exact s_retI j68 rfl h
    · replace h := h.2 hc3
      refine s_iload_n j44 rfl rfl ?_
      refine s_if j45 rfl rfl am_cc_eq (fun hc4 => ?_) (fun hc4 => ?_)
      · replace h := h.1 hc4
        refine s_bipush j66 rfl kc_bi_m2 ?_
        exact s_retI j68 rfl h
      · replace h := h.2 hc4
        refine s_aload_n j48 rfl rfl ?_
        refine s_iconst j49 rfl kc_ic_3 ?_
        obtain ⟨ho5, h⟩ := h
        refine s_laload j50 rfl ho5 ?_
        refine s_stat j51 rfl rfl rfl rfl (by decide) (in_Co_isMoney _) (am_r8 rfl) (am_bB h (fun a7 σ6 h hx6 => ?_))
        replace h := h hx6
        refine s_ifn j54 rfl rfl am_cb_eq (fun hc8 => ?_) (fun hc8 => ?_)
        · replace h := h.2 hc8
          refine s_bipush j66 rfl kc_bi_m2 ?_
          exact s_retI j68 rfl h
        · replace h := h.1 hc8
          refine s_aload_n j57 rfl rfl ?_
          refine s_iconst j58 rfl kc_ic_4 ?_
          obtain ⟨ho9, h⟩ := h
          refine s_laload j59 rfl ho9 ?_
          refine s_stat j60 rfl rfl rfl rfl (by decide) (in_Co_isMoney _) (am_r8 rfl) (am_bB h (fun a11 σ10 h hx10 => ?_))
          replace h := h hx10
          refine s_if j63 rfl rfl am_cb_ne (fun hc12 => ?_) (fun hc12 => ?_)
          · replace h := h.1 hc12
            refine s_aload_n j69 rfl rfl ?_
            refine s_gfZ j70 rfl (am_is_ext hx10 (am_is_ext hx6 ho2)) ?_
            refine s_if j73 rfl rfl am_cc_eq (fun hc13 => ?_) (fun hc13 => ?_)
            · replace h := h.1 hc13
              refine s_aload_n j79 rfl rfl ?_
              refine s_gfI j80 rfl (am_is_ext hx10 (am_is_ext hx6 ho2)) ?_
              refine s_istoreV j83 rfl (n := 5) (L' := fun w => [some (am_ov (some this)), some (am_ov x1), some (am_ov x2), some (.int y0), some (.int w)]) rfl (by decide) (fun _ => rfl) (fun v14 hv15 => ?_)
              replace h := h v14 hv15
              refine s_iload j85 rfl rfl ?_
              refine s_bipush j87 rfl kc_bi_6 ?_
              refine s_ic j89 rfl rfl am_cc_lt (fun hc16 => ?_) (fun hc16 => ?_)
              · replace h := h.1 hc16
                refine s_aload_n j95 rfl rfl ?_
                refine s_gfR j96 rfl (am_is_ext hx10 (am_is_ext hx6 ho2)) ?_
                refine s_iload j99 rfl rfl ?_
                refine s_aload_n j101 rfl rfl ?_
                refine s_iconst j102 rfl kc_ic_2 ?_
                obtain ⟨ho17, h⟩ := h
                refine s_laload j103 rfl ho17 ?_
                refine s_g j104 rfl rfl rfl rfl rfl rfl ?_
                obtain ⟨ho18, h⟩ := h
                refine s_iastore j105 rfl ho18 (fun σ19 e20 => ?_)
                replace h := h σ19 e20
                have ek21 : am_kd σ19 = am_kd σ10 := by rw [e20]
                refine s_aload_n j106 rfl rfl ?_
                refine s_gfR j107 rfl (am_is_kd ek21 (am_is_ext hx10 (am_is_ext hx6 ho2))) ?_
                refine s_iconst j110 rfl kc_ic_2 ?_
                refine s_iload j111 rfl rfl ?_
                refine s_g j113 rfl rfl rfl rfl rfl rfl ?_
                refine s_aload_n j114 rfl rfl ?_
                refine s_iconst j115 rfl kc_ic_3 ?_
                obtain ⟨ho22, h⟩ := h
                refine s_laload j116 rfl ho22 ?_
                obtain ⟨ho23, h⟩ := h
                refine s_lastore j117 rfl ho23 (fun σ24 e25 => ?_)
                replace h := h σ24 e25
                have ek26 : am_kd σ24 = am_kd σ19 := by rw [e25]
                refine s_aload_n j118 rfl rfl ?_
                refine s_gfR j119 rfl (am_is_kd ek26 (am_is_kd ek21 (am_is_ext hx10 (am_is_ext hx6 ho2)))) ?_
                refine s_iconst j122 rfl kc_ic_2 ?_
                refine s_iload j123 rfl rfl ?_
                refine s_g j125 rfl rfl rfl rfl rfl rfl ?_
                refine s_iconst j126 rfl kc_ic_1 ?_
                refine s_g j127 rfl rfl rfl rfl rfl rfl ?_
                refine s_aload_n j128 rfl rfl ?_
                refine s_iconst j129 rfl kc_ic_4 ?_
                obtain ⟨ho27, h⟩ := h
                refine s_laload j130 rfl ho27 ?_
                obtain ⟨ho28, h⟩ := h
                refine s_lastore j131 rfl ho28 (fun σ29 e30 => ?_)
                replace h := h σ29 e30
                have ek31 : am_kd σ29 = am_kd σ24 := by rw [e30]
                refine s_aload_n j132 rfl rfl ?_
                refine s_dup j133 rfl (am_cov _) ?_
                refine s_gfI j134 rfl (am_is_kd ek31 (am_is_kd ek26 (am_is_kd ek21 (am_is_ext hx10 (am_is_ext hx6 ho2))))) ?_
                refine s_iconst j137 rfl kc_ic_1 ?_
                refine s_g j138 rfl rfl rfl rfl rfl rfl ?_
                refine s_pfI j139 rfl (am_is_kd ek31 (am_is_kd ek26 (am_is_kd ek21 (am_is_ext hx10 (am_is_ext hx6 ho2))))) (fun σ32 e33 => ?_)
                replace h := h σ32 e33
                have ek34 : am_kd σ32 = am_kd σ29 := by rw [e33]
                refine s_aload_n j142 rfl rfl ?_
                refine s_gfI j143 rfl (am_is_kd ek34 (am_is_kd ek31 (am_is_kd ek26 (am_is_kd ek21 (am_is_ext hx10 (am_is_ext hx6 ho2)))))) ?_
                exact s_retI j146 rfl h
              · replace h := h.2 hc16
                refine s_bipush j92 rfl kc_bi_m7 ?_
                exact s_retI j94 rfl h
            · replace h := h.2 hc13
              refine s_bipush j76 rfl kc_bi_m3 ?_
              exact s_retI j78 rfl h
          · replace h := h.2 hc12
            refine s_bipush j66 rfl kc_bi_m2 ?_
            exact s_retI j68 rfl h
theorem P_Bk_makeCase (nl : Bool) (Ln : Nat) (xs : Nat → Int32) : am_Jl (TT nl Ln xs) 124 [(0, .aload_n 0, 1, []), (1, .aload_n 1, 2, []), (2, .iconst 1, 3, []), (3, .laload, 4, []), (4, .invokevirtual 252, 7, [10, 29, 7, 3, 2]), (7, .astore_n 2, 8, []), (8, .aload_n 0, 9, []), (9, .aload_n 1, 10, []), (10, .iconst 3, 11, []), (11, .laload, 12, []), (12, .invokevirtual 303, 15, [10, 121, 7, 3, 2]), (15, .astore_n 3, 16, []), (16, .aload_n 2, 17, []), (17, .ifnull 16, 20, []), (20, .aload_n 3, 21, []), (21, .ifnull 12, 24, []), (24, .aload_n 1, 25, []), (25, .iconst 4, 26, []), (26, .laload, 27, []), (27, .invokestatic 244, 30, [12, 13, 2, 1]), (30, .ifCond .ne 6, 33, []), (33, .bipush (-2), 35, []), (35, .ireturn, 36, [1]), (36, .aload_n 2, 37, []), (37, .getfield 256, 40, [9, 9, 1, 0]), (40, .bipush 6, 42, []), (42, .if_icmp .ne 29, 45, []), (45, .aload_n 1, 46, []), (46, .iconst 2, 47, []), (47, .laload, 48, []), (48, .lconst 0, 49, []), (49, .lcmp, 50, []), (50, .ifCond .lt 17, 53, []), (53, .aload_n 1, 54, []), (54, .iconst 2, 55, []), (55, .laload, 56, []), (56, .ldc2_w 259, 59, [6, 4]), (59, .lcmp, 60, []), (60, .ifCond .ge 7, 63, []), (63, .iconst 1, 64, []), (64, .goto 22, 67, []), (67, .iconst 0, 68, []), (68, .goto 18, 71, []), (71, .aload_n 1, 72, []), (72, .iconst 2, 73, []), (73, .laload, 74, []), (74, .ldc2_w 261, 77, [6, 18446744073709551615]), (77, .lcmp, 78, []), (78, .ifCond .ne 7, 81, []), (81, .iconst 1, 82, []), (82, .goto 4, 85, []), (85, .iconst 0, 86, [])] := dk_ck (by decide +kernel)
set_option maxRecDepth 4096 in
theorem w_Bk_makeCase {nl : Bool} {Ln : Nat} {xs : Nat → Int32} {d : Nat} {this : Nat} {p0 : Option Nat} {σ : am_S} {F : Int32 → am_S → Prop} (h : (am_ar σ 1001 p0 (1 : Int32)) ∧ (am_is σ (some this) 6) ∧ k_Bk_policyAt nl Ln xs d this (am_aL σ (p0.getD 0) (1 : Int32).toNatClampNeg) σ (fun a4 σ3 => am_ext σ σ3 → (am_ar σ3 1001 p0 (3 : Int32)) ∧ k_Bk_lossAt nl Ln xs d this (am_aL σ3 (p0.getD 0) (3 : Int32).toNatClampNeg) σ3 (fun a7 σ6 => am_ext σ3 σ6 → (a4 = none → F (-2 : Int32) σ6) ∧ (¬ (a4 = none) → (a7 = none → F (-2 : Int32) σ6) ∧ (¬ (a7 = none) → (am_ar σ6 1001 p0 (4 : Int32)) ∧ k_Co_isDay nl Ln xs d (am_aL σ6 (p0.getD 0) (4 : Int32).toNatClampNeg) σ6 (fun a12 σ11 => am_ext σ6 σ11 → (a12 = true → (am_is σ11 a4 9) ∧ (((am_fI σ11 9001 (a4.getD 0)) = (6 : Int32)) → am_ar σ11 1001 p0 (2 : Int32)) ∧ (((am_fI σ11 9001 (a4.getD 0)) = (6 : Int32)) → ¬ ((am_aL σ11 (p0.getD 0) (2 : Int32).toNatClampNeg) < (0 : Int64)) → am_ar σ11 1001 p0 (2 : Int32)) ∧ (¬ ((am_fI σ11 9001 (a4.getD 0)) = (6 : Int32)) → am_ar σ11 1001 p0 (2 : Int32)) ∧ c_Bk_makeCase_86 nl Ln xs (d + 1) this p0 a4 a7 (if (((am_fI σ11 9001 (a4.getD 0)) = (6 : Int32)) ∧ (¬ ((am_aL σ11 (p0.getD 0) (2 : Int32).toNatClampNeg) < (0 : Int64)) ∧ ((am_aL σ11 (p0.getD 0) (2 : Int32).toNatClampNeg) < (4 : Int64)))) ∨ (¬ ((am_fI σ11 9001 (a4.getD 0)) = (6 : Int32)) ∧ ((am_aL σ11 (p0.getD 0) (2 : Int32).toNatClampNeg) = (-1 : Int64))) then (1 : Int32) else 0) σ11 F) ∧ (¬ (a12 = true) → F (-2 : Int32) σ11))))))) : k_Bk_makeCase nl Ln xs (d + 1) this p0 σ F := by
  obtain ⟨j0, j1, j2, j3, j4, j7, j8, j9, j10, j11, j12, j15, j16, j17, j20, j21, j24, j25, j26, j27, j30, j33, j35, j36, j37, j40, j42, j45, j46, j47, j48, j49, j50, j53, j54, j55, j56, j59, j60, j63, j64, j67, j68, j71, j72, j73, j74, j77, j78, j81, j82, j85, -⟩ := P_Bk_makeCase nl Ln xs
  have elo : am_lo 6 [am_ov (some this), am_ov p0] = [some (am_ov (some this)), some (am_ov p0), none, none, none, none] := by simp only [am_lo, am_in_ov, am_in_int, am_in_long, am_in_nil]; rfl
  unfold k_Bk_makeCase
  rw [elo]
  refine s_aload_n j0 rfl rfl ?_
  refine s_aload_n j1 rfl rfl ?_
  refine s_iconst j2 rfl kc_ic_1 ?_
  obtain ⟨ho1, h⟩ := h
  refine s_laload j3 rfl ho1 ?_
  obtain ⟨ho2, h⟩ := h
  refine s_virt j4 rfl rfl rfl rfl ho2 (by decide) (in_Bk_policyAt _ _) (am_r8 rfl) (am_bR h (fun a4 σ3 h hx3 => ?_))
  replace h := h hx3
  refine s_astore_n j7 rfl (n := 6) (L' := [some (am_ov (some this)), some (am_ov p0), some (am_ov a4), none, none, none]) rfl (by decide) (am_st1_R [_] _ _ _ _) ?_
  refine s_aload_n j8 rfl rfl ?_
  refine s_aload_n j9 rfl rfl ?_
  refine s_iconst j10 rfl kc_ic_3 ?_
  obtain ⟨ho5, h⟩ := h
  refine s_laload j11 rfl ho5 ?_
  refine s_virt j12 rfl rfl rfl rfl (am_is_ext hx3 ho2) (by decide) (in_Bk_lossAt _ _) (am_r8 rfl) (am_bR h (fun a7 σ6 h hx6 => ?_))
  replace h := h hx6
  refine s_astore_n j15 rfl (n := 6) (L' := [some (am_ov (some this)), some (am_ov p0), some (am_ov a4), some (am_ov a7), none, none]) rfl (by decide) (am_st1_R [_, _] _ _ _ _) ?_
  refine s_aload_n j16 rfl rfl ?_
  refine s_ifnull j17 rfl rfl (fun hc8 => ?_) (fun hc8 => ?_)
  · replace h := h.1 hc8
    refine s_bipush j33 rfl kc_bi_m2 ?_
    exact s_retI j35 rfl h
  · replace h := h.2 hc8
    refine s_aload_n j20 rfl rfl ?_
    refine s_ifnull j21 rfl rfl (fun hc9 => ?_) (fun hc9 => ?_)
    · replace h := h.1 hc9
      refine s_bipush j33 rfl kc_bi_m2 ?_
      exact s_retI j35 rfl h
    · replace h := h.2 hc9
      refine s_aload_n j24 rfl rfl ?_
      refine s_iconst j25 rfl kc_ic_4 ?_
      obtain ⟨ho10, h⟩ := h
      refine s_laload j26 rfl ho10 ?_
      refine s_stat j27 rfl rfl rfl rfl (by decide) (in_Co_isDay _) (am_r8 rfl) (am_bB h (fun a12 σ11 h hx11 => ?_))
      replace h := h hx11
      refine s_if j30 rfl rfl am_cb_ne (fun hc13 => ?_) (fun hc13 => ?_)
      · replace h := h.1 hc13
        refine s_aload_n j36 rfl rfl ?_
        obtain ⟨ho14, h⟩ := h
        refine s_gfI j37 rfl ho14 ?_
        refine s_bipush j40 rfl kc_bi_6 ?_
        obtain ⟨ho16, h⟩ := h
        obtain ⟨ho18, h⟩ := h
        obtain ⟨ho20, h⟩ := h
        have K22 : ∀ (w23 : Int32), w23 = (if (((am_fI σ11 9001 (a4.getD 0)) = (6 : Int32)) ∧ (¬ ((am_aL σ11 (p0.getD 0) (2 : Int32).toNatClampNeg) < (0 : Int64)) ∧ ((am_aL σ11 (p0.getD 0) (2 : Int32).toNatClampNeg) < (4 : Int64)))) ∨ (¬ ((am_fI σ11 9001 (a4.getD 0)) = (6 : Int32)) ∧ ((am_aL σ11 (p0.getD 0) (2 : Int32).toNatClampNeg) = (-1 : Int64))) then (1 : Int32) else 0) → am_C (TT nl Ln xs) (d + 1) 124 86 [some (am_ov (some this)), some (am_ov p0), some (am_ov a4), some (am_ov a7), none, none] [.int w23] σ11 (am_qI F) := by
          intro w23 hw24
          subst hw24
          exact h
        refine s_icn j42 rfl rfl am_cc_ne (fun hc15 => ?_) (fun hc15 => ?_)
        · refine s_aload_n j71 rfl rfl ?_
          refine s_iconst j72 rfl kc_ic_2 ?_
          refine s_laload j73 rfl (ho20 hc15) ?_
          refine s_ldc2 j74 rfl kc_ll_m1 ?_
          refine s_g j77 rfl rfl rfl rfl rfl rfl ?_
          refine s_ifn j78 rfl rfl am_cl_ne (fun hc21 => ?_) (fun hc21 => ?_)
          · refine s_iconst j85 rfl kc_ic_0 ?_
            exact K22 _ (am_e0 (am_p14 hc15 (Iff.trans Iff.rfl (am_p10 hc21))))
          · refine s_iconst j81 rfl kc_ic_1 ?_
            refine s_goto j82 rfl rfl ?_
            exact K22 _ (am_e1 (am_p14 hc15 (Iff.trans Iff.rfl (am_p9 hc21))))
        · refine s_aload_n j45 rfl rfl ?_
          refine s_iconst j46 rfl kc_ic_2 ?_
          refine s_laload j47 rfl (ho16 hc15) ?_
          refine s_lconst j48 rfl rfl ?_
          refine s_g j49 rfl rfl rfl rfl rfl rfl ?_
          refine s_if j50 rfl rfl am_cl_lt (fun hc17 => ?_) (fun hc17 => ?_)
          · refine s_iconst j67 rfl kc_ic_0 ?_
            refine s_goto j68 rfl rfl ?_
            exact K22 _ (am_e0 (am_p13 hc15 (Iff.trans Iff.rfl (am_p6 hc17))))
          · refine s_aload_n j53 rfl rfl ?_
            refine s_iconst j54 rfl kc_ic_2 ?_
            refine s_laload j55 rfl (ho18 hc15 hc17) ?_
            refine s_ldc2 j56 rfl kc_ll_4 ?_
            refine s_g j59 rfl rfl rfl rfl rfl rfl ?_
            refine s_ifn j60 rfl rfl am_cl_ge (fun hc19 => ?_) (fun hc19 => ?_)
            · refine s_iconst j67 rfl kc_ic_0 ?_
              refine s_goto j68 rfl rfl ?_
              exact K22 _ (am_e0 (am_p13 hc15 (am_p5 hc17 (Iff.trans Iff.rfl (am_p10 hc19)))))
            · refine s_iconst j63 rfl kc_ic_1 ?_
              refine s_goto j64 rfl rfl ?_
              exact K22 _ (am_e1 (am_p13 hc15 (am_p5 hc17 (Iff.trans Iff.rfl (am_p9 hc19)))))
      · replace h := h.2 hc13
        refine s_bipush j33 rfl kc_bi_m2 ?_
        exact s_retI j35 rfl h
theorem P_Bk_makeCase_86 (nl : Bool) (Ln : Nat) (xs : Nat → Int32) : am_Jl (TT nl Ln xs) 124 [(86, .istore 4, 88, []), (88, .iload 4, 90, []), (90, .ifCond .ne 6, 93, []), (93, .bipush (-2), 95, []), (95, .ireturn, 96, [1]), (96, .aload_n 1, 97, []), (97, .iconst 4, 98, []), (98, .laload, 99, []), (99, .l2i, 100, []), (100, .istore 5, 102, []), (102, .iload 5, 104, []), (104, .aload_n 3, 105, []), (105, .getfield 312, 108, [9, 10, 2, 0]), (108, .if_icmp .lt 29, 111, []), (111, .aload_n 0, 112, []), (112, .getfield 79, 115, [9, 6, 14, 0]), (115, .ifCond .le 25, 118, []), (118, .iload 5, 120, []), (120, .aload_n 0, 121, []), (121, .getfield 32, 124, [9, 6, 6, 2]), (124, .aload_n 0, 125, []), (125, .getfield 79, 128, [9, 6, 14, 0]), (128, .iconst 1, 129, []), (129, .isub, 130, []), (130, .aaload, 131, []), (131, .getfield 332, 134, [9, 11, 3, 0]), (134, .if_icmp .ge 6, 137, []), (137, .bipush (-4), 139, []), (139, .ireturn, 140, [1])] := dk_ck (by decide +kernel)
set_option maxRecDepth 4096 in
theorem w_Bk_makeCase_86 {nl : Bool} {Ln : Nat} {xs : Nat → Int32} {d : Nat} {this : Nat} {x1 : Option Nat} {x2 : Option Nat} {x3 : Option Nat} {y0 : Int32} {σ : am_S} {F : Int32 → am_S → Prop} (h : (y0 = 0 → F (-2 : Int32) σ) ∧ (¬ (y0 = 0) → (am_ar σ 1001 x1 (4 : Int32)) ∧ ∀ v3 : Int32, v3 = (am_aL σ (x1.getD 0) (4 : Int32).toNatClampNeg).toInt32 → (am_is σ x3 10) ∧ (v3 < (am_fI σ 10002 (x3.getD 0)) → F (-4 : Int32) σ) ∧ (¬ (v3 < (am_fI σ 10002 (x3.getD 0))) → (am_is σ (some this) 6) ∧ (0 < (am_fI σ 6014 this) → (am_ar σ 2011 (am_fR σ 6006 this) ((am_fI σ 6014 this) - (1 : Int32))) ∧ (am_is σ (am_aR σ ((am_fR σ 6006 this).getD 0) ((am_fI σ 6014 this) - (1 : Int32)).toNatClampNeg) 11) ∧ (v3 < (am_fI σ 11003 ((am_aR σ ((am_fR σ 6006 this).getD 0) ((am_fI σ 6014 this) - (1 : Int32)).toNatClampNeg).getD 0)) → F (-4 : Int32) σ) ∧ (¬ (v3 < (am_fI σ 11003 ((am_aR σ ((am_fR σ 6006 this).getD 0) ((am_fI σ 6014 this) - (1 : Int32)).toNatClampNeg).getD 0))) → c_Bk_makeCase_140 nl Ln xs (d + 1) this x1 x2 x3 y0 v3 σ F)) ∧ (¬ (0 < (am_fI σ 6014 this)) → c_Bk_makeCase_140 nl Ln xs (d + 1) this x1 x2 x3 y0 v3 σ F)))) : c_Bk_makeCase_86 nl Ln xs (d + 1) this x1 x2 x3 y0 σ F := by
  obtain ⟨j86, j88, j90, j93, j95, j96, j97, j98, j99, j100, j102, j104, j105, j108, j111, j112, j115, j118, j120, j121, j124, j125, j128, j129, j130, j131, j134, j137, j139, -⟩ := P_Bk_makeCase_86 nl Ln xs
  unfold c_Bk_makeCase_86
  refine s_istore j86 rfl (n := 6) (L' := [some (am_ov (some this)), some (am_ov x1), some (am_ov x2), some (am_ov x3), some (.int y0), none]) rfl (by decide) (am_st1_R [_, _, _] _ _ _ _) ?_
  refine s_iload j88 rfl rfl ?_
  refine s_ifn j90 rfl rfl am_cc_ne (fun hc1 => ?_) (fun hc1 => ?_)
  · replace h := h.2 hc1
    refine s_aload_n j96 rfl rfl ?_
    refine s_iconst j97 rfl kc_ic_4 ?_
    obtain ⟨ho2, h⟩ := h
    refine s_laload j98 rfl ho2 ?_
    refine s_g j99 rfl rfl rfl rfl rfl rfl ?_
    refine s_istoreV j100 rfl (n := 6) (L' := fun w => [some (am_ov (some this)), some (am_ov x1), some (am_ov x2), some (am_ov x3), some (.int y0), some (.int w)]) rfl (by decide) (fun _ => rfl) (fun v3 hv4 => ?_)
    replace h := h v3 hv4
    refine s_iload j102 rfl rfl ?_
    refine s_aload_n j104 rfl rfl ?_
    obtain ⟨ho5, h⟩ := h
    refine s_gfI j105 rfl ho5 ?_
    refine s_ic j108 rfl rfl am_cc_lt (fun hc6 => ?_) (fun hc6 => ?_)
    · replace h := h.1 hc6
      refine s_bipush j137 rfl kc_bi_m4 ?_
      exact s_retI j139 rfl h
    · replace h := h.2 hc6
      refine s_aload_n j111 rfl rfl ?_
      obtain ⟨ho7, h⟩ := h
      refine s_gfI j112 rfl ho7 ?_
      refine s_ifn j115 rfl rfl am_cc_le (fun hc8 => ?_) (fun hc8 => ?_)
      · replace h := h.2 hc8
        exact h
      · replace h := h.1 hc8
        refine s_iload j118 rfl rfl ?_
        refine s_aload_n j120 rfl rfl ?_
        refine s_gfR j121 rfl ho7 ?_
        refine s_aload_n j124 rfl rfl ?_
        refine s_gfI j125 rfl ho7 ?_
        refine s_iconst j128 rfl kc_ic_1 ?_
        refine s_g j129 rfl rfl rfl rfl rfl rfl ?_
        obtain ⟨ho9, h⟩ := h
        refine s_aaload (k := 2011) (by decide) kq_2011 j130 rfl ho9 ?_
        obtain ⟨ho10, h⟩ := h
        refine s_gfI j131 rfl ho10 ?_
        refine s_icn j134 rfl rfl am_cc_ge (fun hc11 => ?_) (fun hc11 => ?_)
        · replace h := h.2 hc11
          exact h
        · replace h := h.1 hc11
          refine s_bipush j137 rfl kc_bi_m4 ?_
          exact s_retI j139 rfl h
  · replace h := h.1 hc1
    refine s_bipush j93 rfl kc_bi_m2 ?_
    exact s_retI j95 rfl h
theorem P_Bk_makeCase_140 (nl : Bool) (Ln : Nat) (xs : Nat → Int32) : am_Jl (TT nl Ln xs) 124 [(140, .aload_n 0, 141, []), (141, .getfield 79, 144, [9, 6, 14, 0]), (144, .bipush 100, 146, []), (146, .if_icmp .lt 6, 149, []), (149, .bipush (-7), 151, []), (151, .ireturn, 152, [1]), (152, .aload_n 3, 153, []), (153, .invokevirtual 335, 156, [10, 17, 11, 3, 1]), (156, .iconst 1, 157, []), (157, .putfield 320, 160, [9, 10, 8, 3]), (160, .aload_n 0, 161, []), (161, .getfield 32, 164, [9, 6, 6, 2]), (164, .aload_n 0, 165, []), (165, .getfield 79, 168, [9, 6, 14, 0]), (168, .aload_n 0, 169, []), (169, .getfield 58, 172, [9, 6, 2, 2]), (172, .aload_n 2, 173, []), (173, .aload_n 1, 174, []), (174, .iconst 2, 175, []), (175, .laload, 176, []), (176, .l2i, 177, []), (177, .aload_n 3, 178, []), (178, .iload 5, 180, []), (180, .aload_n 0, 181, []), (181, .getfield 82, 184, [9, 6, 15, 0]), (184, .iconst 1, 185, []), (185, .iadd, 186, []), (186, .invokevirtual 339, 189, [10, 125, 6, 7, 6]), (189, .aastore, 190, []), (190, .aload_n 0, 191, []), (191, .dup, 192, []), (192, .getfield 79, 195, [9, 6, 14, 0]), (195, .iconst 1, 196, []), (196, .iadd, 197, []), (197, .putfield 79, 200, [9, 6, 14, 0]), (200, .aload_n 0, 201, []), (201, .getfield 79, 204, [9, 6, 14, 0]), (204, .iconst 1, 205, []), (205, .isub, 206, []), (206, .ireturn, 207, [1])] := dk_ck (by decide +kernel)
set_option maxRecDepth 4096 in
theorem w_Bk_makeCase_140 {nl : Bool} {Ln : Nat} {xs : Nat → Int32} {d : Nat} {this : Nat} {x1 : Option Nat} {x2 : Option Nat} {x3 : Option Nat} {x4 : Int32} {x5 : Int32} {σ : am_S} {F : Int32 → am_S → Prop} (h : (am_is σ (some this) 6) ∧ ((am_fI σ 6014 this) < (100 : Int32) → (am_is σ x3 10) ∧ k_Ls_base nl Ln xs d (x3.getD 0) σ (fun a5 σ4 => am_ext σ σ4 → (am_is σ4 a5 10) ∧ ∀ σ7, σ7 = am_sfI σ4 10008 (a5.getD 0) (1 : Int32) → (am_ar σ7 1001 x1 (2 : Int32)) ∧ (am_is σ7 (am_fR σ7 6002 this) 5) ∧ k_Sk_drawCase nl Ln xs d ((am_fR σ7 6002 this).getD 0) x2 ((am_aL σ7 (x1.getD 0) (2 : Int32).toNatClampNeg).toInt32) x3 x5 ((am_fI σ7 6015 this) + (1 : Int32)) σ7 (fun a13 σ12 => am_ext σ7 σ12 → (am_ar σ12 2011 (am_fR σ7 6006 this) (am_fI σ7 6014 this)) ∧ (∀ n, a13 = some n → (am_kd σ12 n).1 = 12) ∧ ∀ σ16, σ16 = am_saR σ12 ((am_fR σ7 6006 this).getD 0) (am_fI σ7 6014 this).toNatClampNeg a13 → ∀ σ19, σ19 = am_sfI σ16 6014 this ((am_fI σ16 6014 this) + (1 : Int32)) → F ((am_fI σ19 6014 this) - (1 : Int32)) σ19))) ∧ (¬ ((am_fI σ 6014 this) < (100 : Int32)) → F (-7 : Int32) σ)) : c_Bk_makeCase_140 nl Ln xs (d + 1) this x1 x2 x3 x4 x5 σ F := by
  obtain ⟨j140, j141, j144, j146, j149, j151, j152, j153, j156, j157, j160, j161, j164, j165, j168, j169, j172, j173, j174, j175, j176, j177, j178, j180, j181, j184, j185, j186, j189, j190, j191, j192, j195, j196, j197, j200, j201, j204, j205, j206, -⟩ := P_Bk_makeCase_140 nl Ln xs
  unfold c_Bk_makeCase_140
  refine s_aload_n j140 rfl rfl ?_
  obtain ⟨ho1, h⟩ := h
  refine s_gfI j141 rfl ho1 ?_
  refine s_bipush j144 rfl kc_bi_100 ?_
  refine s_ic j146 rfl rfl am_cc_lt (fun hc2 => ?_) (fun hc2 => ?_)
  · replace h := h.1 hc2
    refine s_aload_n j152 rfl rfl ?_
    obtain ⟨ho3, h⟩ := h
    refine s_virt j153 rfl rfl rfl rfl ho3 (by decide) (in_Ls_base _) (am_r8 rfl) (am_bR h (fun a5 σ4 h hx4 => ?_))
    replace h := h hx4
    refine s_iconst j156 rfl kc_ic_1 ?_
    obtain ⟨ho6, h⟩ := h
    refine s_pfZ j157 rfl ho6 (Or.inr rfl) (fun σ7 e8 => ?_)
    replace h := h σ7 e8
    have ek9 : am_kd σ7 = am_kd σ4 := by rw [e8]
    refine s_aload_n j160 rfl rfl ?_
    refine s_gfR j161 rfl (am_is_kd ek9 (am_is_ext hx4 ho1)) ?_
    refine s_aload_n j164 rfl rfl ?_
    refine s_gfI j165 rfl (am_is_kd ek9 (am_is_ext hx4 ho1)) ?_
    refine s_aload_n j168 rfl rfl ?_
    refine s_gfR j169 rfl (am_is_kd ek9 (am_is_ext hx4 ho1)) ?_
    refine s_aload_n j172 rfl rfl ?_
    refine s_aload_n j173 rfl rfl ?_
    refine s_iconst j174 rfl kc_ic_2 ?_
    obtain ⟨ho10, h⟩ := h
    refine s_laload j175 rfl ho10 ?_
    refine s_g j176 rfl rfl rfl rfl rfl rfl ?_
    refine s_aload_n j177 rfl rfl ?_
    refine s_iload j178 rfl rfl ?_
    refine s_aload_n j180 rfl rfl ?_
    refine s_gfI j181 rfl (am_is_kd ek9 (am_is_ext hx4 ho1)) ?_
    refine s_iconst j184 rfl kc_ic_1 ?_
    refine s_g j185 rfl rfl rfl rfl rfl rfl ?_
    obtain ⟨ho11, h⟩ := h
    refine s_virt j186 rfl rfl rfl rfl ho11 (by decide) (in_Sk_drawCase _ _ _ _ _ _) (am_r8 rfl) (am_bR h (fun a13 σ12 h hx12 => ?_))
    replace h := h hx12
    obtain ⟨ho14, h⟩ := h
    obtain ⟨ho15, h⟩ := h
    refine s_aastoreN (k := 2011) (by decide) kq1_2011 ho15 j189 rfl ho14 (fun σ16 e17 => ?_)
    replace h := h σ16 e17
    have ek18 : am_kd σ16 = am_kd σ12 := by rw [e17]
    refine s_aload_n j190 rfl rfl ?_
    refine s_dup j191 rfl (am_cov _) ?_
    refine s_gfI j192 rfl (am_is_kd ek18 (am_is_ext hx12 (am_is_kd ek9 (am_is_ext hx4 ho1)))) ?_
    refine s_iconst j195 rfl kc_ic_1 ?_
    refine s_g j196 rfl rfl rfl rfl rfl rfl ?_
    refine s_pfI j197 rfl (am_is_kd ek18 (am_is_ext hx12 (am_is_kd ek9 (am_is_ext hx4 ho1)))) (fun σ19 e20 => ?_)
    replace h := h σ19 e20
    have ek21 : am_kd σ19 = am_kd σ16 := by rw [e20]
    refine s_aload_n j200 rfl rfl ?_
    refine s_gfI j201 rfl (am_is_kd ek21 (am_is_kd ek18 (am_is_ext hx12 (am_is_kd ek9 (am_is_ext hx4 ho1))))) ?_
    refine s_iconst j204 rfl kc_ic_1 ?_
    refine s_g j205 rfl rfl rfl rfl rfl rfl ?_
    exact s_retI j206 rfl h
  · replace h := h.2 hc2
    refine s_bipush j149 rfl kc_bi_m7 ?_
    exact s_retI j151 rfl h
theorem P_Sk_drawCase (nl : Bool) (Ln : Nat) (xs : Nat → Int32) : am_Jl (TT nl Ln xs) 125 [(0, .aload_n 0, 1, []), (1, .getfield 106, 4, [9, 5, 3, 2]), (4, .ifnonnull 13, 7, []), (7, .new 110, 10, [2, 11, 8]), (10, .dup, 11, []), (11, .invokespecial 112, 14, [11, 126, 12, 1, 1]), (14, .goto 7, 17, []), (17, .aload_n 0, 18, []), (18, .getfield 106, 21, [9, 5, 3, 2])] := dk_ck (by decide +kernel)
set_option maxRecDepth 4096 in
theorem w_Sk_drawCase {nl : Bool} {Ln : Nat} {xs : Nat → Int32} {d : Nat} {this : Nat} {p0 : Option Nat} {p1 : Int32} {p2 : Option Nat} {p3 : Int32} {p4 : Int32} {σ : am_S} {F : Option Nat → am_S → Prop} (h : (am_is σ (some this) 5) ∧ ((am_fR σ 5003 this) = none → ∀ σ3, σ3 = am_new σ 12 0 8 → am_ext σ σ3 → am_fz σ3 (am_nx σ) → k_Cs_init nl Ln xs d (am_nx σ) σ3 (fun σ5 => am_ext σ3 σ5 → c_Sk_drawCase_21 nl Ln xs (d + 1) this p0 p1 p2 p3 p4 (some (am_nx σ)) σ5 F)) ∧ (¬ ((am_fR σ 5003 this) = none) → c_Sk_drawCase_21 nl Ln xs (d + 1) this p0 p1 p2 p3 p4 (am_fR σ 5003 this) σ F)) : k_Sk_drawCase nl Ln xs (d + 1) this p0 p1 p2 p3 p4 σ F := by
  obtain ⟨j0, j1, j4, j7, j10, j11, j14, j17, j18, -⟩ := P_Sk_drawCase nl Ln xs
  have elo : am_lo 7 [am_ov (some this), am_ov p0, .int p1, am_ov p2, .int p3, .int p4] = [some (am_ov (some this)), some (am_ov p0), some (.int p1), some (am_ov p2), some (.int p3), some (.int p4), none] := by simp only [am_lo, am_in_ov, am_in_int, am_in_long, am_in_nil]; rfl
  unfold k_Sk_drawCase
  rw [elo]
  refine s_aload_n j0 rfl rfl ?_
  obtain ⟨ho1, h⟩ := h
  refine s_gfR j1 rfl ho1 ?_
  refine s_ifnonnull j4 rfl rfl (fun hc2 => ?_) (fun hc2 => ?_)
  · replace h := h.2 hc2
    refine s_aload_n j17 rfl rfl ?_
    refine s_gfR j18 rfl ho1 ?_
    exact h
  · replace h := h.1 hc2
    refine s_new j7 rfl (fun σ3 e4 e4x e4z => ?_)
    replace h := h σ3 e4 e4x e4z
    refine s_dup j10 rfl (am_cov _) ?_
    refine s_spec j11 rfl rfl rfl rfl (by decide) (in_Cs_init _) (am_r8 rfl) (am_bV h (fun σ5 h hx5 => ?_))
    replace h := h hx5
    refine s_goto j14 rfl rfl ?_
    exact h
theorem P_Sk_drawCase_21 (nl : Bool) (Ln : Nat) (xs : Nat → Int32) : am_Jl (TT nl Ln xs) 125 [(21, .astore 6, 23, []), (23, .aload_n 0, 24, []), (24, .aload 6, 26, []), (26, .getfield 113, 29, [9, 11, 7, 2]), (29, .putfield 106, 32, [9, 5, 3, 2]), (32, .aload 6, 34, []), (34, .aload_n 1, 35, []), (35, .putfield 115, 38, [9, 11, 0, 2]), (38, .aload 6, 40, []), (40, .iload_n 2, 41, []), (41, .putfield 118, 44, [9, 11, 1, 0]), (44, .aload 6, 46, []), (46, .aload_n 3, 47, []), (47, .putfield 121, 50, [9, 11, 2, 2]), (50, .aload 6, 52, []), (52, .iload 4, 54, []), (54, .putfield 124, 57, [9, 11, 3, 0]), (57, .aload 6, 59, []), (59, .iload 5, 61, []), (61, .putfield 127, 64, [9, 11, 4, 0]), (64, .aload 6, 66, []), (66, .aconst_null, 67, []), (67, .putfield 128, 70, [9, 11, 5, 2]), (70, .aload 6, 72, []), (72, .iconst 0, 73, []), (73, .putfield 131, 76, [9, 11, 6, 0]), (76, .aload 6, 78, []), (78, .areturn, 79, [3])] := dk_ck (by decide +kernel)
set_option maxRecDepth 4096 in
theorem w_Sk_drawCase_21 {nl : Bool} {Ln : Nat} {xs : Nat → Int32} {d : Nat} {this : Nat} {x1 : Option Nat} {x2 : Int32} {x3 : Option Nat} {x4 : Int32} {x5 : Int32} {y0 : Option Nat} {σ : am_S} {F : Option Nat → am_S → Prop} (h : (am_is σ y0 11) ∧ (am_is σ (some this) 5) ∧ ∀ σ3, σ3 = am_sfR σ 5003 this (am_fR σ 11007 (y0.getD 0)) → ∀ σ6, σ6 = am_sfR σ3 11000 (y0.getD 0) x1 → ∀ σ9, σ9 = am_sfI σ6 11001 (y0.getD 0) x2 → ∀ σ12, σ12 = am_sfR σ9 11002 (y0.getD 0) x3 → ∀ σ15, σ15 = am_sfI σ12 11003 (y0.getD 0) x4 → ∀ σ18, σ18 = am_sfI σ15 11004 (y0.getD 0) x5 → ∀ σ21, σ21 = am_sfR σ18 11005 (y0.getD 0) none → ∀ σ24, σ24 = am_sfI σ21 11006 (y0.getD 0) (0 : Int32) → F y0 σ24) : c_Sk_drawCase_21 nl Ln xs (d + 1) this x1 x2 x3 x4 x5 y0 σ F := by
  obtain ⟨j21, j23, j24, j26, j29, j32, j34, j35, j38, j40, j41, j44, j46, j47, j50, j52, j54, j57, j59, j61, j64, j66, j67, j70, j72, j73, j76, j78, -⟩ := P_Sk_drawCase_21 nl Ln xs
  unfold c_Sk_drawCase_21
  refine s_astore j21 rfl (n := 7) (L' := [some (am_ov (some this)), some (am_ov x1), some (.int x2), some (am_ov x3), some (.int x4), some (.int x5), some (am_ov y0)]) rfl (by decide) rfl ?_
  refine s_aload_n j23 rfl rfl ?_
  refine s_aload j24 rfl rfl ?_
  obtain ⟨ho1, h⟩ := h
  refine s_gfR j26 rfl ho1 ?_
  obtain ⟨ho2, h⟩ := h
  refine s_pfR j29 rfl ho2 (fun σ3 e4 => ?_)
  replace h := h σ3 e4
  have ek5 : am_kd σ3 = am_kd σ := by rw [e4]
  refine s_aload j32 rfl rfl ?_
  refine s_aload_n j34 rfl rfl ?_
  refine s_pfR j35 rfl (am_is_kd ek5 ho1) (fun σ6 e7 => ?_)
  replace h := h σ6 e7
  have ek8 : am_kd σ6 = am_kd σ3 := by rw [e7]
  refine s_aload j38 rfl rfl ?_
  refine s_iload_n j40 rfl rfl ?_
  refine s_pfI j41 rfl (am_is_kd ek8 (am_is_kd ek5 ho1)) (fun σ9 e10 => ?_)
  replace h := h σ9 e10
  have ek11 : am_kd σ9 = am_kd σ6 := by rw [e10]
  refine s_aload j44 rfl rfl ?_
  refine s_aload_n j46 rfl rfl ?_
  refine s_pfR j47 rfl (am_is_kd ek11 (am_is_kd ek8 (am_is_kd ek5 ho1))) (fun σ12 e13 => ?_)
  replace h := h σ12 e13
  have ek14 : am_kd σ12 = am_kd σ9 := by rw [e13]
  refine s_aload j50 rfl rfl ?_
  refine s_iload j52 rfl rfl ?_
  refine s_pfI j54 rfl (am_is_kd ek14 (am_is_kd ek11 (am_is_kd ek8 (am_is_kd ek5 ho1)))) (fun σ15 e16 => ?_)
  replace h := h σ15 e16
  have ek17 : am_kd σ15 = am_kd σ12 := by rw [e16]
  refine s_aload j57 rfl rfl ?_
  refine s_iload j59 rfl rfl ?_
  refine s_pfI j61 rfl (am_is_kd ek17 (am_is_kd ek14 (am_is_kd ek11 (am_is_kd ek8 (am_is_kd ek5 ho1))))) (fun σ18 e19 => ?_)
  replace h := h σ18 e19
  have ek20 : am_kd σ18 = am_kd σ15 := by rw [e19]
  refine s_aload j64 rfl rfl ?_
  refine s_null j66 rfl ?_
  refine s_pfR j67 rfl (am_is_kd ek20 (am_is_kd ek17 (am_is_kd ek14 (am_is_kd ek11 (am_is_kd ek8 (am_is_kd ek5 ho1)))))) (fun σ21 e22 => ?_)
  replace h := h σ21 e22
  have ek23 : am_kd σ21 = am_kd σ18 := by rw [e22]
  refine s_aload j70 rfl rfl ?_
  refine s_iconst j72 rfl kc_ic_0 ?_
  refine s_pfI j73 rfl (am_is_kd ek23 (am_is_kd ek20 (am_is_kd ek17 (am_is_kd ek14 (am_is_kd ek11 (am_is_kd ek8 (am_is_kd ek5 ho1))))))) (fun σ24 e25 => ?_)
  replace h := h σ24 e25
  have ek26 : am_kd σ24 = am_kd σ21 := by rw [e25]
  refine s_aload j76 rfl rfl ?_
  exact s_retR j78 rfl h
theorem P_Cs_init (nl : Bool) (Ln : Nat) (xs : Nat → Int32) : am_Jl (TT nl Ln xs) 126 [(0, .aload_n 0, 1, []), (1, .invokespecial 3, 4, [13]), (4, .return_, 5, [0])] := dk_ck (by decide +kernel)
set_option maxRecDepth 4096 in
theorem w_Cs_init {nl : Bool} {Ln : Nat} {xs : Nat → Int32} {d : Nat} {this : Nat} {σ : am_S} {F : am_S → Prop} (h : F σ) : k_Cs_init nl Ln xs (d + 1) this σ F := by
  obtain ⟨j0, j1, j4, -⟩ := P_Cs_init nl Ln xs
  have elo : am_lo 1 [am_ov (some this)] = [some (am_ov (some this))] := by simp only [am_lo, am_in_ov, am_in_int, am_in_long, am_in_nil]; rfl
  unfold k_Cs_init
  rw [elo]
  refine s_aload_n j0 rfl rfl ?_
  refine s_obj j1 rfl (am_r8 rfl) ?_
  exact s_retV j4 rfl h
theorem P_Co_rank (nl : Bool) (Ln : Nat) (xs : Nat → Int32) : am_Jl (TT nl Ln xs) 127 [(0, .aload_n 0, 1, []), (1, .iconst 2, 2, []), (2, .iload_n 1, 3, []), (3, .i2l, 4, []), (4, .iload_n 2, 5, []), (5, .i2l, 6, []), (6, .lconst 0, 7, []), (7, .lconst 0, 8, []), (8, .invokevirtual 67, 11, [10, 8, 1, 10, 6]), (11, .aload_n 0, 12, []), (12, .getfield 56, 15, [9, 0, 7, 2]), (15, .aload_n 0, 16, []), (16, .getfield 24, 19, [9, 0, 3, 2]), (19, .aload_n 0, 20, []), (20, .getfield 18, 23, [9, 0, 1, 2]), (23, .invokevirtual 71, 26, [10, 9, 7, 7, 3]), (26, .ireturn, 27, [1])] := dk_ck (by decide +kernel)
set_option maxRecDepth 4096 in
theorem w_Co_rank {nl : Bool} {Ln : Nat} {xs : Nat → Int32} {d : Nat} {this : Nat} {p0 : Int32} {p1 : Int32} {σ : am_S} {F : Int32 → am_S → Prop} (h : (am_is σ (some this) 0) ∧ k_Co_fill nl Ln xs d this (2 : Int32) p0.toInt64 p1.toInt64 (0 : Int64) (0 : Int64) σ (fun σ2 => am_ext σ σ2 → (am_is σ2 (am_fR σ2 7 this) 6) ∧ k_Bk_perform nl Ln xs d ((am_fR σ2 7 this).getD 0) (am_fR σ2 3 this) (am_fR σ2 1 this) σ2 (fun a6 σ5 => am_ext σ2 σ5 → F a6 σ5))) : k_Co_rank nl Ln xs (d + 1) this p0 p1 σ F := by
  obtain ⟨j0, j1, j2, j3, j4, j5, j6, j7, j8, j11, j12, j15, j16, j19, j20, j23, j26, -⟩ := P_Co_rank nl Ln xs
  have elo : am_lo 3 [am_ov (some this), .int p0, .int p1] = [some (am_ov (some this)), some (.int p0), some (.int p1)] := by simp only [am_lo, am_in_ov, am_in_int, am_in_long, am_in_nil]; rfl
  unfold k_Co_rank
  rw [elo]
  refine s_aload_n j0 rfl rfl ?_
  refine s_iconst j1 rfl kc_ic_2 ?_
  refine s_iload_n j2 rfl rfl ?_
  refine s_g j3 rfl rfl rfl rfl rfl rfl ?_
  refine s_iload_n j4 rfl rfl ?_
  refine s_g j5 rfl rfl rfl rfl rfl rfl ?_
  refine s_lconst j6 rfl rfl ?_
  refine s_lconst j7 rfl rfl ?_
  obtain ⟨ho1, h⟩ := h
  refine s_virt j8 rfl rfl rfl rfl ho1 (by decide) (in_Co_fill _ _ _ _ _ _) (am_r8 rfl) (am_bV h (fun σ2 h hx2 => ?_))
  replace h := h hx2
  refine s_aload_n j11 rfl rfl ?_
  refine s_gfR j12 rfl (am_is_ext hx2 ho1) ?_
  refine s_aload_n j15 rfl rfl ?_
  refine s_gfR j16 rfl (am_is_ext hx2 ho1) ?_
  refine s_aload_n j19 rfl rfl ?_
  refine s_gfR j20 rfl (am_is_ext hx2 ho1) ?_
  obtain ⟨ho4, h⟩ := h
  refine s_virt j23 rfl rfl rfl rfl ho4 (by decide) (in_Bk_perform _ _ _) (am_r8 rfl) (am_bI h (fun a6 σ5 h hx5 => ?_))
  replace h := h hx5
  exact s_retI j26 rfl h
theorem P_Co_policy (nl : Bool) (Ln : Nat) (xs : Nat → Int32) : am_Jl (TT nl Ln xs) 128 [(0, .aload_n 0, 1, []), (1, .iconst 3, 2, []), (2, .iload_n 1, 3, []), (3, .i2l, 4, []), (4, .iload_n 2, 5, []), (5, .i2l, 6, []), (6, .iload_n 3, 7, []), (7, .i2l, 8, []), (8, .iload 4, 10, []), (10, .i2l, 11, []), (11, .invokevirtual 67, 14, [10, 8, 1, 10, 6]), (14, .aload_n 0, 15, []), (15, .getfield 56, 18, [9, 0, 7, 2]), (18, .aload_n 0, 19, []), (19, .getfield 24, 22, [9, 0, 3, 2]), (22, .aload_n 0, 23, []), (23, .getfield 18, 26, [9, 0, 1, 2]), (26, .invokevirtual 71, 29, [10, 9, 7, 7, 3]), (29, .ireturn, 30, [1])] := dk_ck (by decide +kernel)
set_option maxRecDepth 4096 in
theorem w_Co_policy {nl : Bool} {Ln : Nat} {xs : Nat → Int32} {d : Nat} {this : Nat} {p0 : Int32} {p1 : Int32} {p2 : Int32} {p3 : Int32} {σ : am_S} {F : Int32 → am_S → Prop} (h : (am_is σ (some this) 0) ∧ k_Co_fill nl Ln xs d this (3 : Int32) p0.toInt64 p1.toInt64 p2.toInt64 p3.toInt64 σ (fun σ2 => am_ext σ σ2 → (am_is σ2 (am_fR σ2 7 this) 6) ∧ k_Bk_perform nl Ln xs d ((am_fR σ2 7 this).getD 0) (am_fR σ2 3 this) (am_fR σ2 1 this) σ2 (fun a6 σ5 => am_ext σ2 σ5 → F a6 σ5))) : k_Co_policy nl Ln xs (d + 1) this p0 p1 p2 p3 σ F := by
  obtain ⟨j0, j1, j2, j3, j4, j5, j6, j7, j8, j10, j11, j14, j15, j18, j19, j22, j23, j26, j29, -⟩ := P_Co_policy nl Ln xs
  have elo : am_lo 5 [am_ov (some this), .int p0, .int p1, .int p2, .int p3] = [some (am_ov (some this)), some (.int p0), some (.int p1), some (.int p2), some (.int p3)] := by simp only [am_lo, am_in_ov, am_in_int, am_in_long, am_in_nil]; rfl
  unfold k_Co_policy
  rw [elo]
  refine s_aload_n j0 rfl rfl ?_
  refine s_iconst j1 rfl kc_ic_3 ?_
  refine s_iload_n j2 rfl rfl ?_
  refine s_g j3 rfl rfl rfl rfl rfl rfl ?_
  refine s_iload_n j4 rfl rfl ?_
  refine s_g j5 rfl rfl rfl rfl rfl rfl ?_
  refine s_iload_n j6 rfl rfl ?_
  refine s_g j7 rfl rfl rfl rfl rfl rfl ?_
  refine s_iload j8 rfl rfl ?_
  refine s_g j10 rfl rfl rfl rfl rfl rfl ?_
  obtain ⟨ho1, h⟩ := h
  refine s_virt j11 rfl rfl rfl rfl ho1 (by decide) (in_Co_fill _ _ _ _ _ _) (am_r8 rfl) (am_bV h (fun σ2 h hx2 => ?_))
  replace h := h hx2
  refine s_aload_n j14 rfl rfl ?_
  refine s_gfR j15 rfl (am_is_ext hx2 ho1) ?_
  refine s_aload_n j18 rfl rfl ?_
  refine s_gfR j19 rfl (am_is_ext hx2 ho1) ?_
  refine s_aload_n j22 rfl rfl ?_
  refine s_gfR j23 rfl (am_is_ext hx2 ho1) ?_
  obtain ⟨ho4, h⟩ := h
  refine s_virt j26 rfl rfl rfl rfl ho4 (by decide) (in_Bk_perform _ _ _) (am_r8 rfl) (am_bI h (fun a6 σ5 h hx5 => ?_))
  replace h := h hx5
  exact s_retI j29 rfl h
theorem P_Co_bundle (nl : Bool) (Ln : Nat) (xs : Nat → Int32) : am_Jl (TT nl Ln xs) 129 [(0, .aload_n 0, 1, []), (1, .iconst 4, 2, []), (2, .iload_n 1, 3, []), (3, .i2l, 4, []), (4, .iload_n 2, 5, []), (5, .i2l, 6, []), (6, .iload_n 3, 7, []), (7, .i2l, 8, []), (8, .lconst 0, 9, []), (9, .invokevirtual 67, 12, [10, 8, 1, 10, 6]), (12, .aload_n 0, 13, []), (13, .getfield 56, 16, [9, 0, 7, 2]), (16, .aload_n 0, 17, []), (17, .getfield 24, 20, [9, 0, 3, 2]), (20, .aload_n 0, 21, []), (21, .getfield 18, 24, [9, 0, 1, 2]), (24, .invokevirtual 71, 27, [10, 9, 7, 7, 3]), (27, .ireturn, 28, [1])] := dk_ck (by decide +kernel)
set_option maxRecDepth 4096 in
theorem w_Co_bundle {nl : Bool} {Ln : Nat} {xs : Nat → Int32} {d : Nat} {this : Nat} {p0 : Int32} {p1 : Int32} {p2 : Int32} {σ : am_S} {F : Int32 → am_S → Prop} (h : (am_is σ (some this) 0) ∧ k_Co_fill nl Ln xs d this (4 : Int32) p0.toInt64 p1.toInt64 p2.toInt64 (0 : Int64) σ (fun σ2 => am_ext σ σ2 → (am_is σ2 (am_fR σ2 7 this) 6) ∧ k_Bk_perform nl Ln xs d ((am_fR σ2 7 this).getD 0) (am_fR σ2 3 this) (am_fR σ2 1 this) σ2 (fun a6 σ5 => am_ext σ2 σ5 → F a6 σ5))) : k_Co_bundle nl Ln xs (d + 1) this p0 p1 p2 σ F := by
  obtain ⟨j0, j1, j2, j3, j4, j5, j6, j7, j8, j9, j12, j13, j16, j17, j20, j21, j24, j27, -⟩ := P_Co_bundle nl Ln xs
  have elo : am_lo 4 [am_ov (some this), .int p0, .int p1, .int p2] = [some (am_ov (some this)), some (.int p0), some (.int p1), some (.int p2)] := by simp only [am_lo, am_in_ov, am_in_int, am_in_long, am_in_nil]; rfl
  unfold k_Co_bundle
  rw [elo]
  refine s_aload_n j0 rfl rfl ?_
  refine s_iconst j1 rfl kc_ic_4 ?_
  refine s_iload_n j2 rfl rfl ?_
  refine s_g j3 rfl rfl rfl rfl rfl rfl ?_
  refine s_iload_n j4 rfl rfl ?_
  refine s_g j5 rfl rfl rfl rfl rfl rfl ?_
  refine s_iload_n j6 rfl rfl ?_
  refine s_g j7 rfl rfl rfl rfl rfl rfl ?_
  refine s_lconst j8 rfl rfl ?_
  obtain ⟨ho1, h⟩ := h
  refine s_virt j9 rfl rfl rfl rfl ho1 (by decide) (in_Co_fill _ _ _ _ _ _) (am_r8 rfl) (am_bV h (fun σ2 h hx2 => ?_))
  replace h := h hx2
  refine s_aload_n j12 rfl rfl ?_
  refine s_gfR j13 rfl (am_is_ext hx2 ho1) ?_
  refine s_aload_n j16 rfl rfl ?_
  refine s_gfR j17 rfl (am_is_ext hx2 ho1) ?_
  refine s_aload_n j20 rfl rfl ?_
  refine s_gfR j21 rfl (am_is_ext hx2 ho1) ?_
  obtain ⟨ho4, h⟩ := h
  refine s_virt j24 rfl rfl rfl rfl ho4 (by decide) (in_Bk_perform _ _ _) (am_r8 rfl) (am_bI h (fun a6 σ5 h hx5 => ?_))
  replace h := h hx5
  exact s_retI j27 rfl h
theorem P_Co_period (nl : Bool) (Ln : Nat) (xs : Nat → Int32) : am_Jl (TT nl Ln xs) 130 [(0, .aload_n 0, 1, []), (1, .iconst 5, 2, []), (2, .iload_n 1, 3, []), (3, .i2l, 4, []), (4, .iload_n 2, 5, []), (5, .i2l, 6, []), (6, .lload_n 3, 7, []), (7, .lconst 0, 8, []), (8, .invokevirtual 67, 11, [10, 8, 1, 10, 6]), (11, .aload_n 0, 12, []), (12, .getfield 56, 15, [9, 0, 7, 2]), (15, .aload_n 0, 16, []), (16, .getfield 24, 19, [9, 0, 3, 2]), (19, .aload_n 0, 20, []), (20, .getfield 18, 23, [9, 0, 1, 2]), (23, .invokevirtual 71, 26, [10, 9, 7, 7, 3]), (26, .ireturn, 27, [1])] := dk_ck (by decide +kernel)
set_option maxRecDepth 4096 in
theorem w_Co_period {nl : Bool} {Ln : Nat} {xs : Nat → Int32} {d : Nat} {this : Nat} {p0 : Int32} {p1 : Int32} {p2 : Int64} {σ : am_S} {F : Int32 → am_S → Prop} (h : (am_is σ (some this) 0) ∧ k_Co_fill nl Ln xs d this (5 : Int32) p0.toInt64 p1.toInt64 p2 (0 : Int64) σ (fun σ2 => am_ext σ σ2 → (am_is σ2 (am_fR σ2 7 this) 6) ∧ k_Bk_perform nl Ln xs d ((am_fR σ2 7 this).getD 0) (am_fR σ2 3 this) (am_fR σ2 1 this) σ2 (fun a6 σ5 => am_ext σ2 σ5 → F a6 σ5))) : k_Co_period nl Ln xs (d + 1) this p0 p1 p2 σ F := by
  obtain ⟨j0, j1, j2, j3, j4, j5, j6, j7, j8, j11, j12, j15, j16, j19, j20, j23, j26, -⟩ := P_Co_period nl Ln xs
  have elo : am_lo 5 [am_ov (some this), .int p0, .int p1, .long p2] = [some (am_ov (some this)), some (.int p0), some (.int p1), some (.long p2), none] := by simp only [am_lo, am_in_ov, am_in_int, am_in_long, am_in_nil]; rfl
  unfold k_Co_period
  rw [elo]
  refine s_aload_n j0 rfl rfl ?_
  refine s_iconst j1 rfl kc_ic_5 ?_
  refine s_iload_n j2 rfl rfl ?_
  refine s_g j3 rfl rfl rfl rfl rfl rfl ?_
  refine s_iload_n j4 rfl rfl ?_
  refine s_g j5 rfl rfl rfl rfl rfl rfl ?_
  refine s_lload_n j6 rfl rfl ?_
  refine s_lconst j7 rfl rfl ?_
  obtain ⟨ho1, h⟩ := h
  refine s_virt j8 rfl rfl rfl rfl ho1 (by decide) (in_Co_fill _ _ _ _ _ _) (am_r8 rfl) (am_bV h (fun σ2 h hx2 => ?_))
  replace h := h hx2
  refine s_aload_n j11 rfl rfl ?_
  refine s_gfR j12 rfl (am_is_ext hx2 ho1) ?_
  refine s_aload_n j15 rfl rfl ?_
  refine s_gfR j16 rfl (am_is_ext hx2 ho1) ?_
  refine s_aload_n j19 rfl rfl ?_
  refine s_gfR j20 rfl (am_is_ext hx2 ho1) ?_
  obtain ⟨ho4, h⟩ := h
  refine s_virt j23 rfl rfl rfl rfl ho4 (by decide) (in_Bk_perform _ _ _) (am_r8 rfl) (am_bI h (fun a6 σ5 h hx5 => ?_))
  replace h := h hx5
  exact s_retI j26 rfl h
theorem P_Co_type (nl : Bool) (Ln : Nat) (xs : Nat → Int32) : am_Jl (TT nl Ln xs) 131 [(0, .iload_n 3, 1, []), (1, .ifCond .lt 9, 4, []), (4, .iload_n 3, 5, []), (5, .bipush 8, 7, []), (7, .if_icmp .le 6, 10, []), (10, .bipush (-2), 12, []), (12, .ireturn, 13, [1]), (13, .iload_n 3, 14, []), (14, .ifCond .ne 10, 17, []), (17, .aload_n 0, 18, []), (18, .getfield 12, 21, [9, 0, 0, 2]), (21, .invokevirtual 75, 24, [10, 132, 2, 1, 1]), (24, .aload_n 0, 25, []), (25, .getfield 12, 28, [9, 0, 0, 2]), (28, .getfield 78, 31, [9, 1, 1, 0]), (31, .iload_n 3, 32, []), (32, .iadd, 33, []), (33, .sipush 6000, 36, []), (36, .if_icmp .le 6, 39, []), (39, .bipush (-7), 41, []), (41, .ireturn, 42, [1]), (42, .iload_n 3, 43, []), (43, .iconst 1, 44, []), (44, .isub, 45, []), (45, .istore 4, 47, [])] := dk_ck (by decide +kernel)
set_option maxRecDepth 4096 in
theorem w_Co_type {nl : Bool} {Ln : Nat} {xs : Nat → Int32} {d : Nat} {this : Nat} {p0 : Int64} {p1 : Int32} {σ : am_S} {F : Int32 → am_S → Prop} (h : (p1 < 0 → F (-2 : Int32) σ) ∧ (¬ (p1 < 0) → ((8 : Int32) < p1 → F (-2 : Int32) σ) ∧ (¬ ((8 : Int32) < p1) → (p1 = 0 → (am_is σ (some this) 0) ∧ (am_is σ (am_fR σ 0 this) 1) ∧ k_By_clear nl Ln xs d ((am_fR σ 0 this).getD 0) σ (fun σ6 => am_ext σ σ6 → (am_is σ6 (am_fR σ6 0 this) 1) ∧ ((6000 : Int32) < ((am_fI σ6 1001 ((am_fR σ6 0 this).getD 0)) + p1) → F (-7 : Int32) σ6) ∧ (¬ ((6000 : Int32) < ((am_fI σ6 1001 ((am_fR σ6 0 this).getD 0)) + p1)) → ∀ v10 : Int32, v10 = (p1 - (1 : Int32)) → c_Co_type_47 nl Ln xs (d + 1) this p0 p1 v10 σ6 F))) ∧ (¬ (p1 = 0) → (am_is σ (some this) 0) ∧ (am_is σ (am_fR σ 0 this) 1) ∧ ((6000 : Int32) < ((am_fI σ 1001 ((am_fR σ 0 this).getD 0)) + p1) → F (-7 : Int32) σ) ∧ (¬ ((6000 : Int32) < ((am_fI σ 1001 ((am_fR σ 0 this).getD 0)) + p1)) → ∀ v15 : Int32, v15 = (p1 - (1 : Int32)) → c_Co_type_47 nl Ln xs (d + 1) this p0 p1 v15 σ F))))) : k_Co_type nl Ln xs (d + 1) this p0 p1 σ F := by
  obtain ⟨j0, j1, j4, j5, j7, j10, j12, j13, j14, j17, j18, j21, j24, j25, j28, j31, j32, j33, j36, j39, j41, j42, j43, j44, j45, -⟩ := P_Co_type nl Ln xs
  have elo : am_lo 5 [am_ov (some this), .long p0, .int p1] = [some (am_ov (some this)), some (.long p0), none, some (.int p1), none] := by simp only [am_lo, am_in_ov, am_in_int, am_in_long, am_in_nil]; rfl
  unfold k_Co_type
  rw [elo]
  refine s_iload_n j0 rfl rfl ?_
  refine s_if j1 rfl rfl am_cc_lt (fun hc1 => ?_) (fun hc1 => ?_)
  · replace h := h.1 hc1
    refine s_bipush j10 rfl kc_bi_m2 ?_
    exact s_retI j12 rfl h
  · replace h := h.2 hc1
    refine s_iload_n j4 rfl rfl ?_
    refine s_bipush j5 rfl kc_bi_8 ?_
    refine s_icn j7 rfl rfl am_cc_le (fun hc2 => ?_) (fun hc2 => ?_)
    · replace h := h.2 hc2
      refine s_iload_n j13 rfl rfl ?_
      refine s_ifn j14 rfl rfl am_cc_ne (fun hc3 => ?_) (fun hc3 => ?_)
      · replace h := h.2 hc3
        refine s_aload_n j24 rfl rfl ?_
        obtain ⟨ho12, h⟩ := h
        refine s_gfR j25 rfl ho12 ?_
        obtain ⟨ho13, h⟩ := h
        refine s_gfI j28 rfl ho13 ?_
        refine s_iload_n j31 rfl rfl ?_
        refine s_g j32 rfl rfl rfl rfl rfl rfl ?_
        refine s_sipush j33 rfl kc_si_6000 ?_
        refine s_icn j36 rfl rfl am_cc_le (fun hc14 => ?_) (fun hc14 => ?_)
        · replace h := h.2 hc14
          refine s_iload_n j42 rfl rfl ?_
          refine s_iconst j43 rfl kc_ic_1 ?_
          refine s_g j44 rfl rfl rfl rfl rfl rfl ?_
          refine s_istoreV j45 rfl (n := 5) (L' := fun w => [some (am_ov (some this)), some (.long p0), none, some (.int p1), some (.int w)]) rfl (by decide) (fun _ => rfl) (fun v15 hv16 => ?_)
          replace h := h v15 hv16
          exact h
        · replace h := h.1 hc14
          refine s_bipush j39 rfl kc_bi_m7 ?_
          exact s_retI j41 rfl h
      · replace h := h.1 hc3
        refine s_aload_n j17 rfl rfl ?_
        obtain ⟨ho4, h⟩ := h
        refine s_gfR j18 rfl ho4 ?_
        obtain ⟨ho5, h⟩ := h
        refine s_virt j21 rfl rfl rfl rfl ho5 (by decide) (in_By_clear _) (am_r8 rfl) (am_bV h (fun σ6 h hx6 => ?_))
        replace h := h hx6
        refine s_aload_n j24 rfl rfl ?_
        refine s_gfR j25 rfl (am_is_ext hx6 ho4) ?_
        obtain ⟨ho8, h⟩ := h
        refine s_gfI j28 rfl ho8 ?_
        refine s_iload_n j31 rfl rfl ?_
        refine s_g j32 rfl rfl rfl rfl rfl rfl ?_
        refine s_sipush j33 rfl kc_si_6000 ?_
        refine s_icn j36 rfl rfl am_cc_le (fun hc9 => ?_) (fun hc9 => ?_)
        · replace h := h.2 hc9
          refine s_iload_n j42 rfl rfl ?_
          refine s_iconst j43 rfl kc_ic_1 ?_
          refine s_g j44 rfl rfl rfl rfl rfl rfl ?_
          refine s_istoreV j45 rfl (n := 5) (L' := fun w => [some (am_ov (some this)), some (.long p0), none, some (.int p1), some (.int w)]) rfl (by decide) (fun _ => rfl) (fun v10 hv11 => ?_)
          replace h := h v10 hv11
          exact h
        · replace h := h.1 hc9
          refine s_bipush j39 rfl kc_bi_m7 ?_
          exact s_retI j41 rfl h
    · replace h := h.1 hc2
      refine s_bipush j10 rfl kc_bi_m2 ?_
      exact s_retI j12 rfl h
theorem P_Co_type_47 (nl : Bool) (Ln : Nat) (xs : Nat → Int32) : am_Jl (TT nl Ln xs) 131 [(47, .iload 4, 49, []), (49, .ifCond .lt 28, 52, []), (52, .aload_n 0, 53, []), (53, .getfield 12, 56, [9, 0, 0, 2]), (56, .lload_n 1, 57, []), (57, .bipush 8, 59, []), (59, .iload 4, 61, []), (61, .imul, 62, []), (62, .lushr, 63, []), (63, .l2i, 64, []), (64, .sipush 255, 67, []), (67, .iand, 68, []), (68, .invokevirtual 82, 71, [10, 75, 2, 2, 2]), (71, .iinc 4 (-1), 74, []), (74, .goto (-27), 77, []), (77, .aload_n 0, 78, []), (78, .getfield 12, 81, [9, 0, 0, 2]), (81, .getfield 78, 84, [9, 1, 1, 0]), (84, .ireturn, 85, [1])] := dk_ck (by decide +kernel)
set_option maxRecDepth 4096 in
theorem w_Co_type_47 {nl : Bool} {Ln : Nat} {xs : Nat → Int32} {d : Nat} {this : Nat} {x1 : Int64} {x3 : Int32} {x4 : Int32} {σ : am_S} {F : Int32 → am_S → Prop} (h : (x4 < 0 → (am_is σ (some this) 0) ∧ (am_is σ (am_fR σ 0 this) 1) ∧ F (am_fI σ 1001 ((am_fR σ 0 this).getD 0)) σ) ∧ (¬ (x4 < 0) → (am_is σ (some this) 0) ∧ (am_is σ (am_fR σ 0 this) 1) ∧ k_By_put nl Ln xs d ((am_fR σ 0 this).getD 0) (((x1.toUInt64 >>> (((8 : Int32) * x4).toInt64.toUInt64 &&& Int64.toUInt64 63)).toInt64).toInt32 &&& (255 : Int32)) σ (fun σ6 => am_ext σ σ6 → c_Co_type_47 nl Ln xs (d + 1) this x1 x3 (x4 + (-1 : Int32)) σ6 F))) : c_Co_type_47 nl Ln xs (d + 1) this x1 x3 x4 σ F := by
  obtain ⟨j47, j49, j52, j53, j56, j57, j59, j61, j62, j63, j64, j67, j68, j71, j74, j77, j78, j81, j84, -⟩ := P_Co_type_47 nl Ln xs
  unfold c_Co_type_47
  refine s_iload j47 rfl rfl ?_
  refine s_if j49 rfl rfl am_cc_lt (fun hc1 => ?_) (fun hc1 => ?_)
  · replace h := h.1 hc1
    refine s_aload_n j77 rfl rfl ?_
    obtain ⟨ho2, h⟩ := h
    refine s_gfR j78 rfl ho2 ?_
    obtain ⟨ho3, h⟩ := h
    refine s_gfI j81 rfl ho3 ?_
    exact s_retI j84 rfl h
  · replace h := h.2 hc1
    refine s_aload_n j52 rfl rfl ?_
    obtain ⟨ho4, h⟩ := h
    refine s_gfR j53 rfl ho4 ?_
    refine s_lload_n j56 rfl rfl ?_
    refine s_bipush j57 rfl kc_bi_8 ?_
    refine s_iload j59 rfl rfl ?_
    refine s_g j61 rfl rfl rfl rfl rfl rfl ?_
    refine s_g j62 rfl rfl rfl rfl rfl rfl ?_
    refine s_g j63 rfl rfl rfl rfl rfl rfl ?_
    refine s_sipush j64 rfl kc_si_255 ?_
    refine s_g j67 rfl rfl rfl rfl rfl rfl ?_
    obtain ⟨ho5, h⟩ := h
    refine s_virt j68 rfl rfl rfl rfl ho5 (by decide) (in_By_put _ _) (am_r8 rfl) (am_bV h (fun σ6 h hx6 => ?_))
    replace h := h hx6
    refine s_iinc (L' := [some (am_ov (some this)), some (.long x1), none, some (.int x3), some (.int (x4 + (-1 : Int32)))]) j71 rfl rfl kc_ic_m1 rfl ?_
    refine s_goto j74 rfl rfl ?_
    exact h
theorem P_By_clear (nl : Bool) (Ln : Nat) (xs : Nat → Int32) : am_Jl (TT nl Ln xs) 132 [(0, .aload_n 0, 1, []), (1, .iconst 0, 2, []), (2, .putfield 15, 5, [9, 1, 1, 0]), (5, .return_, 6, [0])] := dk_ck (by decide +kernel)
set_option maxRecDepth 4096 in
theorem w_By_clear {nl : Bool} {Ln : Nat} {xs : Nat → Int32} {d : Nat} {this : Nat} {σ : am_S} {F : am_S → Prop} (h : (am_is σ (some this) 1) ∧ ∀ σ2, σ2 = am_sfI σ 1001 this (0 : Int32) → F σ2) : k_By_clear nl Ln xs (d + 1) this σ F := by
  obtain ⟨j0, j1, j2, j5, -⟩ := P_By_clear nl Ln xs
  have elo : am_lo 1 [am_ov (some this)] = [some (am_ov (some this))] := by simp only [am_lo, am_in_ov, am_in_int, am_in_long, am_in_nil]; rfl
  unfold k_By_clear
  rw [elo]
  refine s_aload_n j0 rfl rfl ?_
  refine s_iconst j1 rfl kc_ic_0 ?_
  obtain ⟨ho1, h⟩ := h
  refine s_pfI j2 rfl ho1 (fun σ2 e3 => ?_)
  replace h := h σ2 e3
  have ek4 : am_kd σ2 = am_kd σ := by rw [e3]
  exact s_retV j5 rfl h
theorem P_Co_clauses (nl : Bool) (Ln : Nat) (xs : Nat → Int32) : am_Jl (TT nl Ln xs) 133 [(0, .aload_n 0, 1, []), (1, .bipush 6, 3, []), (3, .iload_n 1, 4, []), (4, .i2l, 5, []), (5, .lconst 0, 6, []), (6, .lconst 0, 7, []), (7, .lconst 0, 8, []), (8, .invokevirtual 67, 11, [10, 8, 1, 10, 6]), (11, .aload_n 0, 12, []), (12, .getfield 56, 15, [9, 0, 7, 2]), (15, .aload_n 0, 16, []), (16, .getfield 24, 19, [9, 0, 3, 2]), (19, .aload_n 0, 20, []), (20, .getfield 12, 23, [9, 0, 0, 2]), (23, .invokevirtual 71, 26, [10, 9, 7, 7, 3]), (26, .istore_n 2, 27, []), (27, .iload_n 2, 28, []), (28, .ifCond .lt 10, 31, []), (31, .aload_n 0, 32, []), (32, .getfield 12, 35, [9, 0, 0, 2]), (35, .invokevirtual 75, 38, [10, 132, 2, 1, 1]), (38, .iload_n 2, 39, []), (39, .ireturn, 40, [1])] := dk_ck (by decide +kernel)
set_option maxRecDepth 4096 in
theorem w_Co_clauses {nl : Bool} {Ln : Nat} {xs : Nat → Int32} {d : Nat} {this : Nat} {p0 : Int32} {σ : am_S} {F : Int32 → am_S → Prop} (h : (am_is σ (some this) 0) ∧ k_Co_fill nl Ln xs d this (6 : Int32) p0.toInt64 (0 : Int64) (0 : Int64) (0 : Int64) σ (fun σ2 => am_ext σ σ2 → (am_is σ2 (am_fR σ2 7 this) 6) ∧ k_Bk_perform nl Ln xs d ((am_fR σ2 7 this).getD 0) (am_fR σ2 3 this) (am_fR σ2 0 this) σ2 (fun a6 σ5 => am_ext σ2 σ5 → (a6 < 0 → F a6 σ5) ∧ (¬ (a6 < 0) → (am_is σ5 (am_fR σ5 0 this) 1) ∧ k_By_clear nl Ln xs d ((am_fR σ5 0 this).getD 0) σ5 (fun σ9 => am_ext σ5 σ9 → F a6 σ9))))) : k_Co_clauses nl Ln xs (d + 1) this p0 σ F := by
  obtain ⟨j0, j1, j3, j4, j5, j6, j7, j8, j11, j12, j15, j16, j19, j20, j23, j26, j27, j28, j31, j32, j35, j38, j39, -⟩ := P_Co_clauses nl Ln xs
  have elo : am_lo 3 [am_ov (some this), .int p0] = [some (am_ov (some this)), some (.int p0), none] := by simp only [am_lo, am_in_ov, am_in_int, am_in_long, am_in_nil]; rfl
  unfold k_Co_clauses
  rw [elo]
  refine s_aload_n j0 rfl rfl ?_
  refine s_bipush j1 rfl kc_bi_6 ?_
  refine s_iload_n j3 rfl rfl ?_
  refine s_g j4 rfl rfl rfl rfl rfl rfl ?_
  refine s_lconst j5 rfl rfl ?_
  refine s_lconst j6 rfl rfl ?_
  refine s_lconst j7 rfl rfl ?_
  obtain ⟨ho1, h⟩ := h
  refine s_virt j8 rfl rfl rfl rfl ho1 (by decide) (in_Co_fill _ _ _ _ _ _) (am_r8 rfl) (am_bV h (fun σ2 h hx2 => ?_))
  replace h := h hx2
  refine s_aload_n j11 rfl rfl ?_
  refine s_gfR j12 rfl (am_is_ext hx2 ho1) ?_
  refine s_aload_n j15 rfl rfl ?_
  refine s_gfR j16 rfl (am_is_ext hx2 ho1) ?_
  refine s_aload_n j19 rfl rfl ?_
  refine s_gfR j20 rfl (am_is_ext hx2 ho1) ?_
  obtain ⟨ho4, h⟩ := h
  refine s_virt j23 rfl rfl rfl rfl ho4 (by decide) (in_Bk_perform _ _ _) (am_r8 rfl) (am_bI h (fun a6 σ5 h hx5 => ?_))
  replace h := h hx5
  refine s_istore_n j26 rfl (n := 3) (L' := [some (am_ov (some this)), some (.int p0), some (.int a6)]) rfl (by decide) rfl ?_
  refine s_iload_n j27 rfl rfl ?_
  refine s_if j28 rfl rfl am_cc_lt (fun hc7 => ?_) (fun hc7 => ?_)
  · replace h := h.1 hc7
    refine s_iload_n j38 rfl rfl ?_
    exact s_retI j39 rfl h
  · replace h := h.2 hc7
    refine s_aload_n j31 rfl rfl ?_
    refine s_gfR j32 rfl (am_is_ext hx5 (am_is_ext hx2 ho1)) ?_
    obtain ⟨ho8, h⟩ := h
    refine s_virt j35 rfl rfl rfl rfl ho8 (by decide) (in_By_clear _) (am_r8 rfl) (am_bV h (fun σ9 h hx9 => ?_))
    replace h := h hx9
    refine s_iload_n j38 rfl rfl ?_
    exact s_retI j39 rfl h
theorem P_Co_shareRule (nl : Bool) (Ln : Nat) (xs : Nat → Int32) : am_Jl (TT nl Ln xs) 134 [(0, .aload_n 0, 1, []), (1, .bipush 7, 3, []), (3, .iload_n 1, 4, []), (4, .i2l, 5, []), (5, .iload_n 2, 6, []), (6, .i2l, 7, []), (7, .lconst 0, 8, []), (8, .lconst 0, 9, []), (9, .invokevirtual 67, 12, [10, 8, 1, 10, 6]), (12, .aload_n 0, 13, []), (13, .getfield 56, 16, [9, 0, 7, 2]), (16, .aload_n 0, 17, []), (17, .getfield 24, 20, [9, 0, 3, 2]), (20, .aload_n 0, 21, []), (21, .getfield 18, 24, [9, 0, 1, 2]), (24, .invokevirtual 71, 27, [10, 9, 7, 7, 3]), (27, .ireturn, 28, [1])] := dk_ck (by decide +kernel)
set_option maxRecDepth 4096 in
theorem w_Co_shareRule {nl : Bool} {Ln : Nat} {xs : Nat → Int32} {d : Nat} {this : Nat} {p0 : Int32} {p1 : Int32} {σ : am_S} {F : Int32 → am_S → Prop} (h : (am_is σ (some this) 0) ∧ k_Co_fill nl Ln xs d this (7 : Int32) p0.toInt64 p1.toInt64 (0 : Int64) (0 : Int64) σ (fun σ2 => am_ext σ σ2 → (am_is σ2 (am_fR σ2 7 this) 6) ∧ k_Bk_perform nl Ln xs d ((am_fR σ2 7 this).getD 0) (am_fR σ2 3 this) (am_fR σ2 1 this) σ2 (fun a6 σ5 => am_ext σ2 σ5 → F a6 σ5))) : k_Co_shareRule nl Ln xs (d + 1) this p0 p1 σ F := by
  obtain ⟨j0, j1, j3, j4, j5, j6, j7, j8, j9, j12, j13, j16, j17, j20, j21, j24, j27, -⟩ := P_Co_shareRule nl Ln xs
  have elo : am_lo 3 [am_ov (some this), .int p0, .int p1] = [some (am_ov (some this)), some (.int p0), some (.int p1)] := by simp only [am_lo, am_in_ov, am_in_int, am_in_long, am_in_nil]; rfl
  unfold k_Co_shareRule
  rw [elo]
  refine s_aload_n j0 rfl rfl ?_
  refine s_bipush j1 rfl kc_bi_7 ?_
  refine s_iload_n j3 rfl rfl ?_
  refine s_g j4 rfl rfl rfl rfl rfl rfl ?_
  refine s_iload_n j5 rfl rfl ?_
  refine s_g j6 rfl rfl rfl rfl rfl rfl ?_
  refine s_lconst j7 rfl rfl ?_
  refine s_lconst j8 rfl rfl ?_
  obtain ⟨ho1, h⟩ := h
  refine s_virt j9 rfl rfl rfl rfl ho1 (by decide) (in_Co_fill _ _ _ _ _ _) (am_r8 rfl) (am_bV h (fun σ2 h hx2 => ?_))
  replace h := h hx2
  refine s_aload_n j12 rfl rfl ?_
  refine s_gfR j13 rfl (am_is_ext hx2 ho1) ?_
  refine s_aload_n j16 rfl rfl ?_
  refine s_gfR j17 rfl (am_is_ext hx2 ho1) ?_
  refine s_aload_n j20 rfl rfl ?_
  refine s_gfR j21 rfl (am_is_ext hx2 ho1) ?_
  obtain ⟨ho4, h⟩ := h
  refine s_virt j24 rfl rfl rfl rfl ho4 (by decide) (in_Bk_perform _ _ _) (am_r8 rfl) (am_bI h (fun a6 σ5 h hx5 => ?_))
  replace h := h hx5
  exact s_retI j27 rfl h
theorem P_Co_loss (nl : Bool) (Ln : Nat) (xs : Nat → Int32) : am_Jl (TT nl Ln xs) 135 [(0, .aload_n 0, 1, []), (1, .bipush 8, 3, []), (3, .iload_n 1, 4, []), (4, .i2l, 5, []), (5, .iload_n 2, 6, []), (6, .i2l, 7, []), (7, .lconst 0, 8, []), (8, .lconst 0, 9, []), (9, .invokevirtual 67, 12, [10, 8, 1, 10, 6]), (12, .aload_n 0, 13, []), (13, .getfield 56, 16, [9, 0, 7, 2]), (16, .aload_n 0, 17, []), (17, .getfield 24, 20, [9, 0, 3, 2]), (20, .aload_n 0, 21, []), (21, .getfield 18, 24, [9, 0, 1, 2]), (24, .invokevirtual 71, 27, [10, 9, 7, 7, 3]), (27, .ireturn, 28, [1])] := dk_ck (by decide +kernel)
set_option maxRecDepth 4096 in
theorem w_Co_loss {nl : Bool} {Ln : Nat} {xs : Nat → Int32} {d : Nat} {this : Nat} {p0 : Int32} {p1 : Int32} {σ : am_S} {F : Int32 → am_S → Prop} (h : (am_is σ (some this) 0) ∧ k_Co_fill nl Ln xs d this (8 : Int32) p0.toInt64 p1.toInt64 (0 : Int64) (0 : Int64) σ (fun σ2 => am_ext σ σ2 → (am_is σ2 (am_fR σ2 7 this) 6) ∧ k_Bk_perform nl Ln xs d ((am_fR σ2 7 this).getD 0) (am_fR σ2 3 this) (am_fR σ2 1 this) σ2 (fun a6 σ5 => am_ext σ2 σ5 → F a6 σ5))) : k_Co_loss nl Ln xs (d + 1) this p0 p1 σ F := by
  obtain ⟨j0, j1, j3, j4, j5, j6, j7, j8, j9, j12, j13, j16, j17, j20, j21, j24, j27, -⟩ := P_Co_loss nl Ln xs
  have elo : am_lo 3 [am_ov (some this), .int p0, .int p1] = [some (am_ov (some this)), some (.int p0), some (.int p1)] := by simp only [am_lo, am_in_ov, am_in_int, am_in_long, am_in_nil]; rfl
  unfold k_Co_loss
  rw [elo]
  refine s_aload_n j0 rfl rfl ?_
  refine s_bipush j1 rfl kc_bi_8 ?_
  refine s_iload_n j3 rfl rfl ?_
  refine s_g j4 rfl rfl rfl rfl rfl rfl ?_
  refine s_iload_n j5 rfl rfl ?_
  refine s_g j6 rfl rfl rfl rfl rfl rfl ?_
  refine s_lconst j7 rfl rfl ?_
  refine s_lconst j8 rfl rfl ?_
  obtain ⟨ho1, h⟩ := h
  refine s_virt j9 rfl rfl rfl rfl ho1 (by decide) (in_Co_fill _ _ _ _ _ _) (am_r8 rfl) (am_bV h (fun σ2 h hx2 => ?_))
  replace h := h hx2
  refine s_aload_n j12 rfl rfl ?_
  refine s_gfR j13 rfl (am_is_ext hx2 ho1) ?_
  refine s_aload_n j16 rfl rfl ?_
  refine s_gfR j17 rfl (am_is_ext hx2 ho1) ?_
  refine s_aload_n j20 rfl rfl ?_
  refine s_gfR j21 rfl (am_is_ext hx2 ho1) ?_
  obtain ⟨ho4, h⟩ := h
  refine s_virt j24 rfl rfl rfl rfl ho4 (by decide) (in_Bk_perform _ _ _) (am_r8 rfl) (am_bI h (fun a6 σ5 h hx5 => ?_))
  replace h := h hx5
  exact s_retI j27 rfl h
theorem P_Co_part (nl : Bool) (Ln : Nat) (xs : Nat → Int32) : am_Jl (TT nl Ln xs) 136 [(0, .aload_n 0, 1, []), (1, .bipush 9, 3, []), (3, .iload_n 1, 4, []), (4, .i2l, 5, []), (5, .iload_n 2, 6, []), (6, .i2l, 7, []), (7, .lconst 0, 8, []), (8, .lconst 0, 9, []), (9, .invokevirtual 67, 12, [10, 8, 1, 10, 6]), (12, .aload_n 0, 13, []), (13, .getfield 56, 16, [9, 0, 7, 2]), (16, .aload_n 0, 17, []), (17, .getfield 24, 20, [9, 0, 3, 2]), (20, .aload_n 0, 21, []), (21, .getfield 18, 24, [9, 0, 1, 2]), (24, .invokevirtual 71, 27, [10, 9, 7, 7, 3]), (27, .ireturn, 28, [1])] := dk_ck (by decide +kernel)
set_option maxRecDepth 4096 in
theorem w_Co_part {nl : Bool} {Ln : Nat} {xs : Nat → Int32} {d : Nat} {this : Nat} {p0 : Int32} {p1 : Int32} {σ : am_S} {F : Int32 → am_S → Prop} (h : (am_is σ (some this) 0) ∧ k_Co_fill nl Ln xs d this (9 : Int32) p0.toInt64 p1.toInt64 (0 : Int64) (0 : Int64) σ (fun σ2 => am_ext σ σ2 → (am_is σ2 (am_fR σ2 7 this) 6) ∧ k_Bk_perform nl Ln xs d ((am_fR σ2 7 this).getD 0) (am_fR σ2 3 this) (am_fR σ2 1 this) σ2 (fun a6 σ5 => am_ext σ2 σ5 → F a6 σ5))) : k_Co_part nl Ln xs (d + 1) this p0 p1 σ F := by
  obtain ⟨j0, j1, j3, j4, j5, j6, j7, j8, j9, j12, j13, j16, j17, j20, j21, j24, j27, -⟩ := P_Co_part nl Ln xs
  have elo : am_lo 3 [am_ov (some this), .int p0, .int p1] = [some (am_ov (some this)), some (.int p0), some (.int p1)] := by simp only [am_lo, am_in_ov, am_in_int, am_in_long, am_in_nil]; rfl
  unfold k_Co_part
  rw [elo]
  refine s_aload_n j0 rfl rfl ?_
  refine s_bipush j1 rfl kc_bi_9 ?_
  refine s_iload_n j3 rfl rfl ?_
  refine s_g j4 rfl rfl rfl rfl rfl rfl ?_
  refine s_iload_n j5 rfl rfl ?_
  refine s_g j6 rfl rfl rfl rfl rfl rfl ?_
  refine s_lconst j7 rfl rfl ?_
  refine s_lconst j8 rfl rfl ?_
  obtain ⟨ho1, h⟩ := h
  refine s_virt j9 rfl rfl rfl rfl ho1 (by decide) (in_Co_fill _ _ _ _ _ _) (am_r8 rfl) (am_bV h (fun σ2 h hx2 => ?_))
  replace h := h hx2
  refine s_aload_n j12 rfl rfl ?_
  refine s_gfR j13 rfl (am_is_ext hx2 ho1) ?_
  refine s_aload_n j16 rfl rfl ?_
  refine s_gfR j17 rfl (am_is_ext hx2 ho1) ?_
  refine s_aload_n j20 rfl rfl ?_
  refine s_gfR j21 rfl (am_is_ext hx2 ho1) ?_
  obtain ⟨ho4, h⟩ := h
  refine s_virt j24 rfl rfl rfl rfl ho4 (by decide) (in_Bk_perform _ _ _) (am_r8 rfl) (am_bI h (fun a6 σ5 h hx5 => ?_))
  replace h := h hx5
  exact s_retI j27 rfl h
theorem P_Co_item (nl : Bool) (Ln : Nat) (xs : Nat → Int32) : am_Jl (TT nl Ln xs) 137 [(0, .aload_n 0, 1, []), (1, .bipush 10, 3, []), (3, .iload_n 1, 4, []), (4, .i2l, 5, []), (5, .iload_n 2, 6, []), (6, .i2l, 7, []), (7, .lload_n 3, 8, []), (8, .lload 5, 10, []), (10, .invokevirtual 67, 13, [10, 8, 1, 10, 6]), (13, .aload_n 0, 14, []), (14, .getfield 56, 17, [9, 0, 7, 2]), (17, .aload_n 0, 18, []), (18, .getfield 24, 21, [9, 0, 3, 2]), (21, .aload_n 0, 22, []), (22, .getfield 18, 25, [9, 0, 1, 2]), (25, .invokevirtual 71, 28, [10, 9, 7, 7, 3]), (28, .ireturn, 29, [1])] := dk_ck (by decide +kernel)
set_option maxRecDepth 4096 in
theorem w_Co_item {nl : Bool} {Ln : Nat} {xs : Nat → Int32} {d : Nat} {this : Nat} {p0 : Int32} {p1 : Int32} {p2 : Int64} {p3 : Int64} {σ : am_S} {F : Int32 → am_S → Prop} (h : (am_is σ (some this) 0) ∧ k_Co_fill nl Ln xs d this (10 : Int32) p0.toInt64 p1.toInt64 p2 p3 σ (fun σ2 => am_ext σ σ2 → (am_is σ2 (am_fR σ2 7 this) 6) ∧ k_Bk_perform nl Ln xs d ((am_fR σ2 7 this).getD 0) (am_fR σ2 3 this) (am_fR σ2 1 this) σ2 (fun a6 σ5 => am_ext σ2 σ5 → F a6 σ5))) : k_Co_item nl Ln xs (d + 1) this p0 p1 p2 p3 σ F := by
  obtain ⟨j0, j1, j3, j4, j5, j6, j7, j8, j10, j13, j14, j17, j18, j21, j22, j25, j28, -⟩ := P_Co_item nl Ln xs
  have elo : am_lo 7 [am_ov (some this), .int p0, .int p1, .long p2, .long p3] = [some (am_ov (some this)), some (.int p0), some (.int p1), some (.long p2), none, some (.long p3), none] := by simp only [am_lo, am_in_ov, am_in_int, am_in_long, am_in_nil]; rfl
  unfold k_Co_item
  rw [elo]
  refine s_aload_n j0 rfl rfl ?_
  refine s_bipush j1 rfl kc_bi_10 ?_
  refine s_iload_n j3 rfl rfl ?_
  refine s_g j4 rfl rfl rfl rfl rfl rfl ?_
  refine s_iload_n j5 rfl rfl ?_
  refine s_g j6 rfl rfl rfl rfl rfl rfl ?_
  refine s_lload_n j7 rfl rfl ?_
  refine s_lload j8 rfl rfl ?_
  obtain ⟨ho1, h⟩ := h
  refine s_virt j10 rfl rfl rfl rfl ho1 (by decide) (in_Co_fill _ _ _ _ _ _) (am_r8 rfl) (am_bV h (fun σ2 h hx2 => ?_))
  replace h := h hx2
  refine s_aload_n j13 rfl rfl ?_
  refine s_gfR j14 rfl (am_is_ext hx2 ho1) ?_
  refine s_aload_n j17 rfl rfl ?_
  refine s_gfR j18 rfl (am_is_ext hx2 ho1) ?_
  refine s_aload_n j21 rfl rfl ?_
  refine s_gfR j22 rfl (am_is_ext hx2 ho1) ?_
  obtain ⟨ho4, h⟩ := h
  refine s_virt j25 rfl rfl rfl rfl ho4 (by decide) (in_Bk_perform _ _ _) (am_r8 rfl) (am_bI h (fun a6 σ5 h hx5 => ?_))
  replace h := h hx5
  exact s_retI j28 rfl h
theorem P_Co_notify (nl : Bool) (Ln : Nat) (xs : Nat → Int32) : am_Jl (TT nl Ln xs) 138 [(0, .aload_n 0, 1, []), (1, .bipush 11, 3, []), (3, .iload_n 1, 4, []), (4, .i2l, 5, []), (5, .iload_n 2, 6, []), (6, .i2l, 7, []), (7, .iload_n 3, 8, []), (8, .i2l, 9, []), (9, .iload 4, 11, []), (11, .i2l, 12, []), (12, .invokevirtual 67, 15, [10, 8, 1, 10, 6]), (15, .aload_n 0, 16, []), (16, .getfield 56, 19, [9, 0, 7, 2]), (19, .aload_n 0, 20, []), (20, .getfield 24, 23, [9, 0, 3, 2]), (23, .aload_n 0, 24, []), (24, .getfield 18, 27, [9, 0, 1, 2]), (27, .invokevirtual 71, 30, [10, 9, 7, 7, 3]), (30, .ireturn, 31, [1])] := dk_ck (by decide +kernel)
set_option maxRecDepth 4096 in
theorem w_Co_notify {nl : Bool} {Ln : Nat} {xs : Nat → Int32} {d : Nat} {this : Nat} {p0 : Int32} {p1 : Int32} {p2 : Int32} {p3 : Int32} {σ : am_S} {F : Int32 → am_S → Prop} (h : (am_is σ (some this) 0) ∧ k_Co_fill nl Ln xs d this (11 : Int32) p0.toInt64 p1.toInt64 p2.toInt64 p3.toInt64 σ (fun σ2 => am_ext σ σ2 → (am_is σ2 (am_fR σ2 7 this) 6) ∧ k_Bk_perform nl Ln xs d ((am_fR σ2 7 this).getD 0) (am_fR σ2 3 this) (am_fR σ2 1 this) σ2 (fun a6 σ5 => am_ext σ2 σ5 → F a6 σ5))) : k_Co_notify nl Ln xs (d + 1) this p0 p1 p2 p3 σ F := by
  obtain ⟨j0, j1, j3, j4, j5, j6, j7, j8, j9, j11, j12, j15, j16, j19, j20, j23, j24, j27, j30, -⟩ := P_Co_notify nl Ln xs
  have elo : am_lo 5 [am_ov (some this), .int p0, .int p1, .int p2, .int p3] = [some (am_ov (some this)), some (.int p0), some (.int p1), some (.int p2), some (.int p3)] := by simp only [am_lo, am_in_ov, am_in_int, am_in_long, am_in_nil]; rfl
  unfold k_Co_notify
  rw [elo]
  refine s_aload_n j0 rfl rfl ?_
  refine s_bipush j1 rfl kc_bi_11 ?_
  refine s_iload_n j3 rfl rfl ?_
  refine s_g j4 rfl rfl rfl rfl rfl rfl ?_
  refine s_iload_n j5 rfl rfl ?_
  refine s_g j6 rfl rfl rfl rfl rfl rfl ?_
  refine s_iload_n j7 rfl rfl ?_
  refine s_g j8 rfl rfl rfl rfl rfl rfl ?_
  refine s_iload j9 rfl rfl ?_
  refine s_g j11 rfl rfl rfl rfl rfl rfl ?_
  obtain ⟨ho1, h⟩ := h
  refine s_virt j12 rfl rfl rfl rfl ho1 (by decide) (in_Co_fill _ _ _ _ _ _) (am_r8 rfl) (am_bV h (fun σ2 h hx2 => ?_))
  replace h := h hx2
  refine s_aload_n j15 rfl rfl ?_
  refine s_gfR j16 rfl (am_is_ext hx2 ho1) ?_
  refine s_aload_n j19 rfl rfl ?_
  refine s_gfR j20 rfl (am_is_ext hx2 ho1) ?_
  refine s_aload_n j23 rfl rfl ?_
  refine s_gfR j24 rfl (am_is_ext hx2 ho1) ?_
  obtain ⟨ho4, h⟩ := h
  refine s_virt j27 rfl rfl rfl rfl ho4 (by decide) (in_Bk_perform _ _ _) (am_r8 rfl) (am_bI h (fun a6 σ5 h hx5 => ?_))
  replace h := h hx5
  exact s_retI j30 rfl h
theorem P_Co_reserve (nl : Bool) (Ln : Nat) (xs : Nat → Int32) : am_Jl (TT nl Ln xs) 139 [(0, .aload_n 0, 1, []), (1, .bipush 12, 3, []), (3, .iload_n 1, 4, []), (4, .i2l, 5, []), (5, .iload_n 2, 6, []), (6, .i2l, 7, []), (7, .iload_n 3, 8, []), (8, .i2l, 9, []), (9, .lload 4, 11, []), (11, .invokevirtual 67, 14, [10, 8, 1, 10, 6]), (14, .aload_n 0, 15, []), (15, .getfield 56, 18, [9, 0, 7, 2]), (18, .aload_n 0, 19, []), (19, .getfield 24, 22, [9, 0, 3, 2]), (22, .aload_n 0, 23, []), (23, .getfield 18, 26, [9, 0, 1, 2]), (26, .invokevirtual 71, 29, [10, 9, 7, 7, 3]), (29, .ireturn, 30, [1])] := dk_ck (by decide +kernel)
set_option maxRecDepth 4096 in
theorem w_Co_reserve {nl : Bool} {Ln : Nat} {xs : Nat → Int32} {d : Nat} {this : Nat} {p0 : Int32} {p1 : Int32} {p2 : Int32} {p3 : Int64} {σ : am_S} {F : Int32 → am_S → Prop} (h : (am_is σ (some this) 0) ∧ k_Co_fill nl Ln xs d this (12 : Int32) p0.toInt64 p1.toInt64 p2.toInt64 p3 σ (fun σ2 => am_ext σ σ2 → (am_is σ2 (am_fR σ2 7 this) 6) ∧ k_Bk_perform nl Ln xs d ((am_fR σ2 7 this).getD 0) (am_fR σ2 3 this) (am_fR σ2 1 this) σ2 (fun a6 σ5 => am_ext σ2 σ5 → F a6 σ5))) : k_Co_reserve nl Ln xs (d + 1) this p0 p1 p2 p3 σ F := by
  obtain ⟨j0, j1, j3, j4, j5, j6, j7, j8, j9, j11, j14, j15, j18, j19, j22, j23, j26, j29, -⟩ := P_Co_reserve nl Ln xs
  have elo : am_lo 6 [am_ov (some this), .int p0, .int p1, .int p2, .long p3] = [some (am_ov (some this)), some (.int p0), some (.int p1), some (.int p2), some (.long p3), none] := by simp only [am_lo, am_in_ov, am_in_int, am_in_long, am_in_nil]; rfl
  unfold k_Co_reserve
  rw [elo]
  refine s_aload_n j0 rfl rfl ?_
  refine s_bipush j1 rfl kc_bi_12 ?_
  refine s_iload_n j3 rfl rfl ?_
  refine s_g j4 rfl rfl rfl rfl rfl rfl ?_
  refine s_iload_n j5 rfl rfl ?_
  refine s_g j6 rfl rfl rfl rfl rfl rfl ?_
  refine s_iload_n j7 rfl rfl ?_
  refine s_g j8 rfl rfl rfl rfl rfl rfl ?_
  refine s_lload j9 rfl rfl ?_
  obtain ⟨ho1, h⟩ := h
  refine s_virt j11 rfl rfl rfl rfl ho1 (by decide) (in_Co_fill _ _ _ _ _ _) (am_r8 rfl) (am_bV h (fun σ2 h hx2 => ?_))
  replace h := h hx2
  refine s_aload_n j14 rfl rfl ?_
  refine s_gfR j15 rfl (am_is_ext hx2 ho1) ?_
  refine s_aload_n j18 rfl rfl ?_
  refine s_gfR j19 rfl (am_is_ext hx2 ho1) ?_
  refine s_aload_n j22 rfl rfl ?_
  refine s_gfR j23 rfl (am_is_ext hx2 ho1) ?_
  obtain ⟨ho4, h⟩ := h
  refine s_virt j26 rfl rfl rfl rfl ho4 (by decide) (in_Bk_perform _ _ _) (am_r8 rfl) (am_bI h (fun a6 σ5 h hx5 => ?_))
  replace h := h hx5
  exact s_retI j29 rfl h
theorem P_Co_pay (nl : Bool) (Ln : Nat) (xs : Nat → Int32) : am_Jl (TT nl Ln xs) 140 [(0, .aload_n 0, 1, []), (1, .bipush 13, 3, []), (3, .iload_n 1, 4, []), (4, .i2l, 5, []), (5, .iload_n 2, 6, []), (6, .i2l, 7, []), (7, .lload_n 3, 8, []), (8, .lconst 0, 9, []), (9, .invokevirtual 67, 12, [10, 8, 1, 10, 6]), (12, .aload_n 0, 13, []), (13, .getfield 56, 16, [9, 0, 7, 2]), (16, .aload_n 0, 17, []), (17, .getfield 24, 20, [9, 0, 3, 2]), (20, .aload_n 0, 21, []), (21, .getfield 18, 24, [9, 0, 1, 2]), (24, .invokevirtual 71, 27, [10, 9, 7, 7, 3]), (27, .ireturn, 28, [1])] := dk_ck (by decide +kernel)
set_option maxRecDepth 4096 in
theorem w_Co_pay {nl : Bool} {Ln : Nat} {xs : Nat → Int32} {d : Nat} {this : Nat} {p0 : Int32} {p1 : Int32} {p2 : Int64} {σ : am_S} {F : Int32 → am_S → Prop} (h : (am_is σ (some this) 0) ∧ k_Co_fill nl Ln xs d this (13 : Int32) p0.toInt64 p1.toInt64 p2 (0 : Int64) σ (fun σ2 => am_ext σ σ2 → (am_is σ2 (am_fR σ2 7 this) 6) ∧ k_Bk_perform nl Ln xs d ((am_fR σ2 7 this).getD 0) (am_fR σ2 3 this) (am_fR σ2 1 this) σ2 (fun a6 σ5 => am_ext σ2 σ5 → F a6 σ5))) : k_Co_pay nl Ln xs (d + 1) this p0 p1 p2 σ F := by
  obtain ⟨j0, j1, j3, j4, j5, j6, j7, j8, j9, j12, j13, j16, j17, j20, j21, j24, j27, -⟩ := P_Co_pay nl Ln xs
  have elo : am_lo 5 [am_ov (some this), .int p0, .int p1, .long p2] = [some (am_ov (some this)), some (.int p0), some (.int p1), some (.long p2), none] := by simp only [am_lo, am_in_ov, am_in_int, am_in_long, am_in_nil]; rfl
  unfold k_Co_pay
  rw [elo]
  refine s_aload_n j0 rfl rfl ?_
  refine s_bipush j1 rfl kc_bi_13 ?_
  refine s_iload_n j3 rfl rfl ?_
  refine s_g j4 rfl rfl rfl rfl rfl rfl ?_
  refine s_iload_n j5 rfl rfl ?_
  refine s_g j6 rfl rfl rfl rfl rfl rfl ?_
  refine s_lload_n j7 rfl rfl ?_
  refine s_lconst j8 rfl rfl ?_
  obtain ⟨ho1, h⟩ := h
  refine s_virt j9 rfl rfl rfl rfl ho1 (by decide) (in_Co_fill _ _ _ _ _ _) (am_r8 rfl) (am_bV h (fun σ2 h hx2 => ?_))
  replace h := h hx2
  refine s_aload_n j12 rfl rfl ?_
  refine s_gfR j13 rfl (am_is_ext hx2 ho1) ?_
  refine s_aload_n j16 rfl rfl ?_
  refine s_gfR j17 rfl (am_is_ext hx2 ho1) ?_
  refine s_aload_n j20 rfl rfl ?_
  refine s_gfR j21 rfl (am_is_ext hx2 ho1) ?_
  obtain ⟨ho4, h⟩ := h
  refine s_virt j24 rfl rfl rfl rfl ho4 (by decide) (in_Bk_perform _ _ _) (am_r8 rfl) (am_bI h (fun a6 σ5 h hx5 => ?_))
  replace h := h hx5
  exact s_retI j27 rfl h
theorem P_Co_close (nl : Bool) (Ln : Nat) (xs : Nat → Int32) : am_Jl (TT nl Ln xs) 141 [(0, .aload_n 0, 1, []), (1, .bipush 14, 3, []), (3, .iload_n 1, 4, []), (4, .i2l, 5, []), (5, .iload_n 2, 6, []), (6, .i2l, 7, []), (7, .lconst 0, 8, []), (8, .lconst 0, 9, []), (9, .invokevirtual 67, 12, [10, 8, 1, 10, 6]), (12, .aload_n 0, 13, []), (13, .getfield 56, 16, [9, 0, 7, 2]), (16, .aload_n 0, 17, []), (17, .getfield 24, 20, [9, 0, 3, 2]), (20, .aload_n 0, 21, []), (21, .getfield 18, 24, [9, 0, 1, 2]), (24, .invokevirtual 71, 27, [10, 9, 7, 7, 3]), (27, .ireturn, 28, [1])] := dk_ck (by decide +kernel)
set_option maxRecDepth 4096 in
theorem w_Co_close {nl : Bool} {Ln : Nat} {xs : Nat → Int32} {d : Nat} {this : Nat} {p0 : Int32} {p1 : Int32} {σ : am_S} {F : Int32 → am_S → Prop} (h : (am_is σ (some this) 0) ∧ k_Co_fill nl Ln xs d this (14 : Int32) p0.toInt64 p1.toInt64 (0 : Int64) (0 : Int64) σ (fun σ2 => am_ext σ σ2 → (am_is σ2 (am_fR σ2 7 this) 6) ∧ k_Bk_perform nl Ln xs d ((am_fR σ2 7 this).getD 0) (am_fR σ2 3 this) (am_fR σ2 1 this) σ2 (fun a6 σ5 => am_ext σ2 σ5 → F a6 σ5))) : k_Co_close nl Ln xs (d + 1) this p0 p1 σ F := by
  obtain ⟨j0, j1, j3, j4, j5, j6, j7, j8, j9, j12, j13, j16, j17, j20, j21, j24, j27, -⟩ := P_Co_close nl Ln xs
  have elo : am_lo 3 [am_ov (some this), .int p0, .int p1] = [some (am_ov (some this)), some (.int p0), some (.int p1)] := by simp only [am_lo, am_in_ov, am_in_int, am_in_long, am_in_nil]; rfl
  unfold k_Co_close
  rw [elo]
  refine s_aload_n j0 rfl rfl ?_
  refine s_bipush j1 rfl kc_bi_14 ?_
  refine s_iload_n j3 rfl rfl ?_
  refine s_g j4 rfl rfl rfl rfl rfl rfl ?_
  refine s_iload_n j5 rfl rfl ?_
  refine s_g j6 rfl rfl rfl rfl rfl rfl ?_
  refine s_lconst j7 rfl rfl ?_
  refine s_lconst j8 rfl rfl ?_
  obtain ⟨ho1, h⟩ := h
  refine s_virt j9 rfl rfl rfl rfl ho1 (by decide) (in_Co_fill _ _ _ _ _ _) (am_r8 rfl) (am_bV h (fun σ2 h hx2 => ?_))
  replace h := h hx2
  refine s_aload_n j12 rfl rfl ?_
  refine s_gfR j13 rfl (am_is_ext hx2 ho1) ?_
  refine s_aload_n j16 rfl rfl ?_
  refine s_gfR j17 rfl (am_is_ext hx2 ho1) ?_
  refine s_aload_n j20 rfl rfl ?_
  refine s_gfR j21 rfl (am_is_ext hx2 ho1) ?_
  obtain ⟨ho4, h⟩ := h
  refine s_virt j24 rfl rfl rfl rfl ho4 (by decide) (in_Bk_perform _ _ _) (am_r8 rfl) (am_bI h (fun a6 σ5 h hx5 => ?_))
  replace h := h hx5
  exact s_retI j27 rfl h
theorem P_Co_reopen (nl : Bool) (Ln : Nat) (xs : Nat → Int32) : am_Jl (TT nl Ln xs) 142 [(0, .aload_n 0, 1, []), (1, .bipush 15, 3, []), (3, .iload_n 1, 4, []), (4, .i2l, 5, []), (5, .iload_n 2, 6, []), (6, .i2l, 7, []), (7, .iload_n 3, 8, []), (8, .i2l, 9, []), (9, .lconst 0, 10, []), (10, .invokevirtual 67, 13, [10, 8, 1, 10, 6]), (13, .aload_n 0, 14, []), (14, .getfield 56, 17, [9, 0, 7, 2]), (17, .aload_n 0, 18, []), (18, .getfield 24, 21, [9, 0, 3, 2]), (21, .aload_n 0, 22, []), (22, .getfield 18, 25, [9, 0, 1, 2]), (25, .invokevirtual 71, 28, [10, 9, 7, 7, 3]), (28, .ireturn, 29, [1])] := dk_ck (by decide +kernel)
set_option maxRecDepth 4096 in
theorem w_Co_reopen {nl : Bool} {Ln : Nat} {xs : Nat → Int32} {d : Nat} {this : Nat} {p0 : Int32} {p1 : Int32} {p2 : Int32} {σ : am_S} {F : Int32 → am_S → Prop} (h : (am_is σ (some this) 0) ∧ k_Co_fill nl Ln xs d this (15 : Int32) p0.toInt64 p1.toInt64 p2.toInt64 (0 : Int64) σ (fun σ2 => am_ext σ σ2 → (am_is σ2 (am_fR σ2 7 this) 6) ∧ k_Bk_perform nl Ln xs d ((am_fR σ2 7 this).getD 0) (am_fR σ2 3 this) (am_fR σ2 1 this) σ2 (fun a6 σ5 => am_ext σ2 σ5 → F a6 σ5))) : k_Co_reopen nl Ln xs (d + 1) this p0 p1 p2 σ F := by
  obtain ⟨j0, j1, j3, j4, j5, j6, j7, j8, j9, j10, j13, j14, j17, j18, j21, j22, j25, j28, -⟩ := P_Co_reopen nl Ln xs
  have elo : am_lo 4 [am_ov (some this), .int p0, .int p1, .int p2] = [some (am_ov (some this)), some (.int p0), some (.int p1), some (.int p2)] := by simp only [am_lo, am_in_ov, am_in_int, am_in_long, am_in_nil]; rfl
  unfold k_Co_reopen
  rw [elo]
  refine s_aload_n j0 rfl rfl ?_
  refine s_bipush j1 rfl kc_bi_15 ?_
  refine s_iload_n j3 rfl rfl ?_
  refine s_g j4 rfl rfl rfl rfl rfl rfl ?_
  refine s_iload_n j5 rfl rfl ?_
  refine s_g j6 rfl rfl rfl rfl rfl rfl ?_
  refine s_iload_n j7 rfl rfl ?_
  refine s_g j8 rfl rfl rfl rfl rfl rfl ?_
  refine s_lconst j9 rfl rfl ?_
  obtain ⟨ho1, h⟩ := h
  refine s_virt j10 rfl rfl rfl rfl ho1 (by decide) (in_Co_fill _ _ _ _ _ _) (am_r8 rfl) (am_bV h (fun σ2 h hx2 => ?_))
  replace h := h hx2
  refine s_aload_n j13 rfl rfl ?_
  refine s_gfR j14 rfl (am_is_ext hx2 ho1) ?_
  refine s_aload_n j17 rfl rfl ?_
  refine s_gfR j18 rfl (am_is_ext hx2 ho1) ?_
  refine s_aload_n j21 rfl rfl ?_
  refine s_gfR j22 rfl (am_is_ext hx2 ho1) ?_
  obtain ⟨ho4, h⟩ := h
  refine s_virt j25 rfl rfl rfl rfl ho4 (by decide) (in_Bk_perform _ _ _) (am_r8 rfl) (am_bI h (fun a6 σ5 h hx5 => ?_))
  replace h := h hx5
  exact s_retI j28 rfl h
theorem P_Co_correct (nl : Bool) (Ln : Nat) (xs : Nat → Int32) : am_Jl (TT nl Ln xs) 143 [(0, .aload_n 0, 1, []), (1, .bipush 16, 3, []), (3, .iload_n 1, 4, []), (4, .i2l, 5, []), (5, .iload_n 2, 6, []), (6, .i2l, 7, []), (7, .iload_n 3, 8, []), (8, .i2l, 9, []), (9, .iload 4, 11, []), (11, .i2l, 12, []), (12, .invokevirtual 67, 15, [10, 8, 1, 10, 6]), (15, .aload_n 0, 16, []), (16, .getfield 24, 19, [9, 0, 3, 2]), (19, .iconst 5, 20, []), (20, .lload 5, 22, []), (22, .lastore, 23, []), (23, .aload_n 0, 24, []), (24, .getfield 24, 27, [9, 0, 3, 2]), (27, .bipush 6, 29, []), (29, .iload 7, 31, []), (31, .i2l, 32, []), (32, .lastore, 33, []), (33, .aload_n 0, 34, []), (34, .getfield 56, 37, [9, 0, 7, 2]), (37, .aload_n 0, 38, []), (38, .getfield 24, 41, [9, 0, 3, 2]), (41, .aload_n 0, 42, []), (42, .getfield 18, 45, [9, 0, 1, 2]), (45, .invokevirtual 71, 48, [10, 9, 7, 7, 3]), (48, .ireturn, 49, [1])] := dk_ck (by decide +kernel)
set_option maxRecDepth 4096 in
theorem w_Co_correct {nl : Bool} {Ln : Nat} {xs : Nat → Int32} {d : Nat} {this : Nat} {p0 : Int32} {p1 : Int32} {p2 : Int32} {p3 : Int32} {p4 : Int64} {p5 : Int32} {σ : am_S} {F : Int32 → am_S → Prop} (h : (am_is σ (some this) 0) ∧ k_Co_fill nl Ln xs d this (16 : Int32) p0.toInt64 p1.toInt64 p2.toInt64 p3.toInt64 σ (fun σ2 => am_ext σ σ2 → (am_ar σ2 1001 (am_fR σ2 3 this) (5 : Int32)) ∧ ∀ σ5, σ5 = am_saL σ2 ((am_fR σ2 3 this).getD 0) (5 : Int32).toNatClampNeg p4 → (am_ar σ5 1001 (am_fR σ5 3 this) (6 : Int32)) ∧ ∀ σ9, σ9 = am_saL σ5 ((am_fR σ5 3 this).getD 0) (6 : Int32).toNatClampNeg p5.toInt64 → (am_is σ9 (am_fR σ9 7 this) 6) ∧ k_Bk_perform nl Ln xs d ((am_fR σ9 7 this).getD 0) (am_fR σ9 3 this) (am_fR σ9 1 this) σ9 (fun a14 σ13 => am_ext σ9 σ13 → F a14 σ13))) : k_Co_correct nl Ln xs (d + 1) this p0 p1 p2 p3 p4 p5 σ F := by
  obtain ⟨j0, j1, j3, j4, j5, j6, j7, j8, j9, j11, j12, j15, j16, j19, j20, j22, j23, j24, j27, j29, j31, j32, j33, j34, j37, j38, j41, j42, j45, j48, -⟩ := P_Co_correct nl Ln xs
  have elo : am_lo 8 [am_ov (some this), .int p0, .int p1, .int p2, .int p3, .long p4, .int p5] = [some (am_ov (some this)), some (.int p0), some (.int p1), some (.int p2), some (.int p3), some (.long p4), none, some (.int p5)] := by simp only [am_lo, am_in_ov, am_in_int, am_in_long, am_in_nil]; rfl
  unfold k_Co_correct
  rw [elo]
  refine s_aload_n j0 rfl rfl ?_
  refine s_bipush j1 rfl kc_bi_16 ?_
  refine s_iload_n j3 rfl rfl ?_
  refine s_g j4 rfl rfl rfl rfl rfl rfl ?_
  refine s_iload_n j5 rfl rfl ?_
  refine s_g j6 rfl rfl rfl rfl rfl rfl ?_
  refine s_iload_n j7 rfl rfl ?_
  refine s_g j8 rfl rfl rfl rfl rfl rfl ?_
  refine s_iload j9 rfl rfl ?_
  refine s_g j11 rfl rfl rfl rfl rfl rfl ?_
  obtain ⟨ho1, h⟩ := h
  refine s_virt j12 rfl rfl rfl rfl ho1 (by decide) (in_Co_fill _ _ _ _ _ _) (am_r8 rfl) (am_bV h (fun σ2 h hx2 => ?_))
  replace h := h hx2
  refine s_aload_n j15 rfl rfl ?_
  refine s_gfR j16 rfl (am_is_ext hx2 ho1) ?_
  refine s_iconst j19 rfl kc_ic_5 ?_
  refine s_lload j20 rfl rfl ?_
  obtain ⟨ho4, h⟩ := h
  refine s_lastore j22 rfl ho4 (fun σ5 e6 => ?_)
  replace h := h σ5 e6
  have ek7 : am_kd σ5 = am_kd σ2 := by rw [e6]
  refine s_aload_n j23 rfl rfl ?_
  refine s_gfR j24 rfl (am_is_kd ek7 (am_is_ext hx2 ho1)) ?_
  refine s_bipush j27 rfl kc_bi_6 ?_
  refine s_iload j29 rfl rfl ?_
  refine s_g j31 rfl rfl rfl rfl rfl rfl ?_
  obtain ⟨ho8, h⟩ := h
  refine s_lastore j32 rfl ho8 (fun σ9 e10 => ?_)
  replace h := h σ9 e10
  have ek11 : am_kd σ9 = am_kd σ5 := by rw [e10]
  refine s_aload_n j33 rfl rfl ?_
  refine s_gfR j34 rfl (am_is_kd ek11 (am_is_kd ek7 (am_is_ext hx2 ho1))) ?_
  refine s_aload_n j37 rfl rfl ?_
  refine s_gfR j38 rfl (am_is_kd ek11 (am_is_kd ek7 (am_is_ext hx2 ho1))) ?_
  refine s_aload_n j41 rfl rfl ?_
  refine s_gfR j42 rfl (am_is_kd ek11 (am_is_kd ek7 (am_is_ext hx2 ho1))) ?_
  obtain ⟨ho12, h⟩ := h
  refine s_virt j45 rfl rfl rfl rfl ho12 (by decide) (in_Bk_perform _ _ _) (am_r8 rfl) (am_bI h (fun a14 σ13 h hx13 => ?_))
  replace h := h hx13
  exact s_retI j48 rfl h
theorem P_Co_share (nl : Bool) (Ln : Nat) (xs : Nat → Int32) : am_Jl (TT nl Ln xs) 144 [(0, .aload_n 0, 1, []), (1, .bipush 17, 3, []), (3, .iload_n 1, 4, []), (4, .i2l, 5, []), (5, .iload_n 2, 6, []), (6, .i2l, 7, []), (7, .iload_n 3, 8, []), (8, .i2l, 9, []), (9, .lload 4, 11, []), (11, .invokevirtual 67, 14, [10, 8, 1, 10, 6]), (14, .aload_n 0, 15, []), (15, .getfield 56, 18, [9, 0, 7, 2]), (18, .aload_n 0, 19, []), (19, .getfield 24, 22, [9, 0, 3, 2]), (22, .aload_n 0, 23, []), (23, .getfield 18, 26, [9, 0, 1, 2]), (26, .invokevirtual 71, 29, [10, 9, 7, 7, 3]), (29, .ireturn, 30, [1])] := dk_ck (by decide +kernel)
set_option maxRecDepth 4096 in
theorem w_Co_share {nl : Bool} {Ln : Nat} {xs : Nat → Int32} {d : Nat} {this : Nat} {p0 : Int32} {p1 : Int32} {p2 : Int32} {p3 : Int64} {σ : am_S} {F : Int32 → am_S → Prop} (h : (am_is σ (some this) 0) ∧ k_Co_fill nl Ln xs d this (17 : Int32) p0.toInt64 p1.toInt64 p2.toInt64 p3 σ (fun σ2 => am_ext σ σ2 → (am_is σ2 (am_fR σ2 7 this) 6) ∧ k_Bk_perform nl Ln xs d ((am_fR σ2 7 this).getD 0) (am_fR σ2 3 this) (am_fR σ2 1 this) σ2 (fun a6 σ5 => am_ext σ2 σ5 → F a6 σ5))) : k_Co_share nl Ln xs (d + 1) this p0 p1 p2 p3 σ F := by
  obtain ⟨j0, j1, j3, j4, j5, j6, j7, j8, j9, j11, j14, j15, j18, j19, j22, j23, j26, j29, -⟩ := P_Co_share nl Ln xs
  have elo : am_lo 6 [am_ov (some this), .int p0, .int p1, .int p2, .long p3] = [some (am_ov (some this)), some (.int p0), some (.int p1), some (.int p2), some (.long p3), none] := by simp only [am_lo, am_in_ov, am_in_int, am_in_long, am_in_nil]; rfl
  unfold k_Co_share
  rw [elo]
  refine s_aload_n j0 rfl rfl ?_
  refine s_bipush j1 rfl kc_bi_17 ?_
  refine s_iload_n j3 rfl rfl ?_
  refine s_g j4 rfl rfl rfl rfl rfl rfl ?_
  refine s_iload_n j5 rfl rfl ?_
  refine s_g j6 rfl rfl rfl rfl rfl rfl ?_
  refine s_iload_n j7 rfl rfl ?_
  refine s_g j8 rfl rfl rfl rfl rfl rfl ?_
  refine s_lload j9 rfl rfl ?_
  obtain ⟨ho1, h⟩ := h
  refine s_virt j11 rfl rfl rfl rfl ho1 (by decide) (in_Co_fill _ _ _ _ _ _) (am_r8 rfl) (am_bV h (fun σ2 h hx2 => ?_))
  replace h := h hx2
  refine s_aload_n j14 rfl rfl ?_
  refine s_gfR j15 rfl (am_is_ext hx2 ho1) ?_
  refine s_aload_n j18 rfl rfl ?_
  refine s_gfR j19 rfl (am_is_ext hx2 ho1) ?_
  refine s_aload_n j22 rfl rfl ?_
  refine s_gfR j23 rfl (am_is_ext hx2 ho1) ?_
  obtain ⟨ho4, h⟩ := h
  refine s_virt j26 rfl rfl rfl rfl ho4 (by decide) (in_Bk_perform _ _ _) (am_r8 rfl) (am_bI h (fun a6 σ5 h hx5 => ?_))
  replace h := h hx5
  exact s_retI j29 rfl h
theorem P_Co_salvage (nl : Bool) (Ln : Nat) (xs : Nat → Int32) : am_Jl (TT nl Ln xs) 145 [(0, .aload_n 0, 1, []), (1, .bipush 18, 3, []), (3, .iload_n 1, 4, []), (4, .i2l, 5, []), (5, .iload_n 2, 6, []), (6, .i2l, 7, []), (7, .lload_n 3, 8, []), (8, .lconst 0, 9, []), (9, .invokevirtual 67, 12, [10, 8, 1, 10, 6]), (12, .aload_n 0, 13, []), (13, .getfield 56, 16, [9, 0, 7, 2]), (16, .aload_n 0, 17, []), (17, .getfield 24, 20, [9, 0, 3, 2]), (20, .aload_n 0, 21, []), (21, .getfield 18, 24, [9, 0, 1, 2]), (24, .invokevirtual 71, 27, [10, 9, 7, 7, 3]), (27, .ireturn, 28, [1])] := dk_ck (by decide +kernel)
set_option maxRecDepth 4096 in
theorem w_Co_salvage {nl : Bool} {Ln : Nat} {xs : Nat → Int32} {d : Nat} {this : Nat} {p0 : Int32} {p1 : Int32} {p2 : Int64} {σ : am_S} {F : Int32 → am_S → Prop} (h : (am_is σ (some this) 0) ∧ k_Co_fill nl Ln xs d this (18 : Int32) p0.toInt64 p1.toInt64 p2 (0 : Int64) σ (fun σ2 => am_ext σ σ2 → (am_is σ2 (am_fR σ2 7 this) 6) ∧ k_Bk_perform nl Ln xs d ((am_fR σ2 7 this).getD 0) (am_fR σ2 3 this) (am_fR σ2 1 this) σ2 (fun a6 σ5 => am_ext σ2 σ5 → F a6 σ5))) : k_Co_salvage nl Ln xs (d + 1) this p0 p1 p2 σ F := by
  obtain ⟨j0, j1, j3, j4, j5, j6, j7, j8, j9, j12, j13, j16, j17, j20, j21, j24, j27, -⟩ := P_Co_salvage nl Ln xs
  have elo : am_lo 5 [am_ov (some this), .int p0, .int p1, .long p2] = [some (am_ov (some this)), some (.int p0), some (.int p1), some (.long p2), none] := by simp only [am_lo, am_in_ov, am_in_int, am_in_long, am_in_nil]; rfl
  unfold k_Co_salvage
  rw [elo]
  refine s_aload_n j0 rfl rfl ?_
  refine s_bipush j1 rfl kc_bi_18 ?_
  refine s_iload_n j3 rfl rfl ?_
  refine s_g j4 rfl rfl rfl rfl rfl rfl ?_
  refine s_iload_n j5 rfl rfl ?_
  refine s_g j6 rfl rfl rfl rfl rfl rfl ?_
  refine s_lload_n j7 rfl rfl ?_
  refine s_lconst j8 rfl rfl ?_
  obtain ⟨ho1, h⟩ := h
  refine s_virt j9 rfl rfl rfl rfl ho1 (by decide) (in_Co_fill _ _ _ _ _ _) (am_r8 rfl) (am_bV h (fun σ2 h hx2 => ?_))
  replace h := h hx2
  refine s_aload_n j12 rfl rfl ?_
  refine s_gfR j13 rfl (am_is_ext hx2 ho1) ?_
  refine s_aload_n j16 rfl rfl ?_
  refine s_gfR j17 rfl (am_is_ext hx2 ho1) ?_
  refine s_aload_n j20 rfl rfl ?_
  refine s_gfR j21 rfl (am_is_ext hx2 ho1) ?_
  obtain ⟨ho4, h⟩ := h
  refine s_virt j24 rfl rfl rfl rfl ho4 (by decide) (in_Bk_perform _ _ _) (am_r8 rfl) (am_bI h (fun a6 σ5 h hx5 => ?_))
  replace h := h hx5
  exact s_retI j27 rfl h
theorem P_Co_recourse (nl : Bool) (Ln : Nat) (xs : Nat → Int32) : am_Jl (TT nl Ln xs) 146 [(0, .aload_n 0, 1, []), (1, .bipush 19, 3, []), (3, .iload_n 1, 4, []), (4, .i2l, 5, []), (5, .iload_n 2, 6, []), (6, .i2l, 7, []), (7, .lload_n 3, 8, []), (8, .lconst 0, 9, []), (9, .invokevirtual 67, 12, [10, 8, 1, 10, 6]), (12, .aload_n 0, 13, []), (13, .getfield 56, 16, [9, 0, 7, 2]), (16, .aload_n 0, 17, []), (17, .getfield 24, 20, [9, 0, 3, 2]), (20, .aload_n 0, 21, []), (21, .getfield 18, 24, [9, 0, 1, 2]), (24, .invokevirtual 71, 27, [10, 9, 7, 7, 3]), (27, .ireturn, 28, [1])] := dk_ck (by decide +kernel)
set_option maxRecDepth 4096 in
theorem w_Co_recourse {nl : Bool} {Ln : Nat} {xs : Nat → Int32} {d : Nat} {this : Nat} {p0 : Int32} {p1 : Int32} {p2 : Int64} {σ : am_S} {F : Int32 → am_S → Prop} (h : (am_is σ (some this) 0) ∧ k_Co_fill nl Ln xs d this (19 : Int32) p0.toInt64 p1.toInt64 p2 (0 : Int64) σ (fun σ2 => am_ext σ σ2 → (am_is σ2 (am_fR σ2 7 this) 6) ∧ k_Bk_perform nl Ln xs d ((am_fR σ2 7 this).getD 0) (am_fR σ2 3 this) (am_fR σ2 1 this) σ2 (fun a6 σ5 => am_ext σ2 σ5 → F a6 σ5))) : k_Co_recourse nl Ln xs (d + 1) this p0 p1 p2 σ F := by
  obtain ⟨j0, j1, j3, j4, j5, j6, j7, j8, j9, j12, j13, j16, j17, j20, j21, j24, j27, -⟩ := P_Co_recourse nl Ln xs
  have elo : am_lo 5 [am_ov (some this), .int p0, .int p1, .long p2] = [some (am_ov (some this)), some (.int p0), some (.int p1), some (.long p2), none] := by simp only [am_lo, am_in_ov, am_in_int, am_in_long, am_in_nil]; rfl
  unfold k_Co_recourse
  rw [elo]
  refine s_aload_n j0 rfl rfl ?_
  refine s_bipush j1 rfl kc_bi_19 ?_
  refine s_iload_n j3 rfl rfl ?_
  refine s_g j4 rfl rfl rfl rfl rfl rfl ?_
  refine s_iload_n j5 rfl rfl ?_
  refine s_g j6 rfl rfl rfl rfl rfl rfl ?_
  refine s_lload_n j7 rfl rfl ?_
  refine s_lconst j8 rfl rfl ?_
  obtain ⟨ho1, h⟩ := h
  refine s_virt j9 rfl rfl rfl rfl ho1 (by decide) (in_Co_fill _ _ _ _ _ _) (am_r8 rfl) (am_bV h (fun σ2 h hx2 => ?_))
  replace h := h hx2
  refine s_aload_n j12 rfl rfl ?_
  refine s_gfR j13 rfl (am_is_ext hx2 ho1) ?_
  refine s_aload_n j16 rfl rfl ?_
  refine s_gfR j17 rfl (am_is_ext hx2 ho1) ?_
  refine s_aload_n j20 rfl rfl ?_
  refine s_gfR j21 rfl (am_is_ext hx2 ho1) ?_
  obtain ⟨ho4, h⟩ := h
  refine s_virt j24 rfl rfl rfl rfl ho4 (by decide) (in_Bk_perform _ _ _) (am_r8 rfl) (am_bI h (fun a6 σ5 h hx5 => ?_))
  replace h := h hx5
  exact s_retI j27 rfl h
theorem P_Co_batch (nl : Bool) (Ln : Nat) (xs : Nat → Int32) : am_Jl (TT nl Ln xs) 147 [(0, .aload_n 0, 1, []), (1, .bipush 20, 3, []), (3, .lconst 0, 4, []), (4, .lconst 0, 5, []), (5, .lconst 0, 6, []), (6, .lconst 0, 7, []), (7, .invokevirtual 67, 10, [10, 8, 1, 10, 6]), (10, .aload_n 0, 11, []), (11, .getfield 56, 14, [9, 0, 7, 2]), (14, .aload_n 0, 15, []), (15, .getfield 24, 18, [9, 0, 3, 2]), (18, .aload_n 0, 19, []), (19, .getfield 18, 22, [9, 0, 1, 2]), (22, .invokevirtual 71, 25, [10, 9, 7, 7, 3]), (25, .ireturn, 26, [1])] := dk_ck (by decide +kernel)
set_option maxRecDepth 4096 in
theorem w_Co_batch {nl : Bool} {Ln : Nat} {xs : Nat → Int32} {d : Nat} {this : Nat} {σ : am_S} {F : Int32 → am_S → Prop} (h : (am_is σ (some this) 0) ∧ k_Co_fill nl Ln xs d this (20 : Int32) (0 : Int64) (0 : Int64) (0 : Int64) (0 : Int64) σ (fun σ2 => am_ext σ σ2 → (am_is σ2 (am_fR σ2 7 this) 6) ∧ k_Bk_perform nl Ln xs d ((am_fR σ2 7 this).getD 0) (am_fR σ2 3 this) (am_fR σ2 1 this) σ2 (fun a6 σ5 => am_ext σ2 σ5 → F a6 σ5))) : k_Co_batch nl Ln xs (d + 1) this σ F := by
  obtain ⟨j0, j1, j3, j4, j5, j6, j7, j10, j11, j14, j15, j18, j19, j22, j25, -⟩ := P_Co_batch nl Ln xs
  have elo : am_lo 1 [am_ov (some this)] = [some (am_ov (some this))] := by simp only [am_lo, am_in_ov, am_in_int, am_in_long, am_in_nil]; rfl
  unfold k_Co_batch
  rw [elo]
  refine s_aload_n j0 rfl rfl ?_
  refine s_bipush j1 rfl kc_bi_20 ?_
  refine s_lconst j3 rfl rfl ?_
  refine s_lconst j4 rfl rfl ?_
  refine s_lconst j5 rfl rfl ?_
  refine s_lconst j6 rfl rfl ?_
  obtain ⟨ho1, h⟩ := h
  refine s_virt j7 rfl rfl rfl rfl ho1 (by decide) (in_Co_fill _ _ _ _ _ _) (am_r8 rfl) (am_bV h (fun σ2 h hx2 => ?_))
  replace h := h hx2
  refine s_aload_n j10 rfl rfl ?_
  refine s_gfR j11 rfl (am_is_ext hx2 ho1) ?_
  refine s_aload_n j14 rfl rfl ?_
  refine s_gfR j15 rfl (am_is_ext hx2 ho1) ?_
  refine s_aload_n j18 rfl rfl ?_
  refine s_gfR j19 rfl (am_is_ext hx2 ho1) ?_
  obtain ⟨ho4, h⟩ := h
  refine s_virt j22 rfl rfl rfl rfl ho4 (by decide) (in_Bk_perform _ _ _) (am_r8 rfl) (am_bI h (fun a6 σ5 h hx5 => ?_))
  replace h := h hx5
  exact s_retI j25 rfl h
theorem P_Co_end (nl : Bool) (Ln : Nat) (xs : Nat → Int32) : am_Jl (TT nl Ln xs) 148 [(0, .aload_n 0, 1, []), (1, .bipush 21, 3, []), (3, .lconst 0, 4, []), (4, .lconst 0, 5, []), (5, .lconst 0, 6, []), (6, .lconst 0, 7, []), (7, .invokevirtual 67, 10, [10, 8, 1, 10, 6]), (10, .aload_n 0, 11, []), (11, .getfield 56, 14, [9, 0, 7, 2]), (14, .aload_n 0, 15, []), (15, .getfield 24, 18, [9, 0, 3, 2]), (18, .aload_n 0, 19, []), (19, .getfield 18, 22, [9, 0, 1, 2]), (22, .invokevirtual 71, 25, [10, 9, 7, 7, 3]), (25, .ireturn, 26, [1])] := dk_ck (by decide +kernel)
set_option maxRecDepth 4096 in
theorem w_Co_end {nl : Bool} {Ln : Nat} {xs : Nat → Int32} {d : Nat} {this : Nat} {σ : am_S} {F : Int32 → am_S → Prop} (h : (am_is σ (some this) 0) ∧ k_Co_fill nl Ln xs d this (21 : Int32) (0 : Int64) (0 : Int64) (0 : Int64) (0 : Int64) σ (fun σ2 => am_ext σ σ2 → (am_is σ2 (am_fR σ2 7 this) 6) ∧ k_Bk_perform nl Ln xs d ((am_fR σ2 7 this).getD 0) (am_fR σ2 3 this) (am_fR σ2 1 this) σ2 (fun a6 σ5 => am_ext σ2 σ5 → F a6 σ5))) : k_Co_end nl Ln xs (d + 1) this σ F := by
  obtain ⟨j0, j1, j3, j4, j5, j6, j7, j10, j11, j14, j15, j18, j19, j22, j25, -⟩ := P_Co_end nl Ln xs
  have elo : am_lo 1 [am_ov (some this)] = [some (am_ov (some this))] := by simp only [am_lo, am_in_ov, am_in_int, am_in_long, am_in_nil]; rfl
  unfold k_Co_end
  rw [elo]
  refine s_aload_n j0 rfl rfl ?_
  refine s_bipush j1 rfl kc_bi_21 ?_
  refine s_lconst j3 rfl rfl ?_
  refine s_lconst j4 rfl rfl ?_
  refine s_lconst j5 rfl rfl ?_
  refine s_lconst j6 rfl rfl ?_
  obtain ⟨ho1, h⟩ := h
  refine s_virt j7 rfl rfl rfl rfl ho1 (by decide) (in_Co_fill _ _ _ _ _ _) (am_r8 rfl) (am_bV h (fun σ2 h hx2 => ?_))
  replace h := h hx2
  refine s_aload_n j10 rfl rfl ?_
  refine s_gfR j11 rfl (am_is_ext hx2 ho1) ?_
  refine s_aload_n j14 rfl rfl ?_
  refine s_gfR j15 rfl (am_is_ext hx2 ho1) ?_
  refine s_aload_n j18 rfl rfl ?_
  refine s_gfR j19 rfl (am_is_ext hx2 ho1) ?_
  obtain ⟨ho4, h⟩ := h
  refine s_virt j22 rfl rfl rfl rfl ho4 (by decide) (in_Bk_perform _ _ _) (am_r8 rfl) (am_bI h (fun a6 σ5 h hx5 => ?_))
  replace h := h hx5
  exact s_retI j25 rfl h
