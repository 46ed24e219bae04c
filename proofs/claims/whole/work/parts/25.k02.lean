/-! statements of methods, 2 (by wip/whole/gensteps.py) -/
theorem P_Wk_lossIs (nl : Bool) (Ln : Nat) (xs : Nat → Int32) : am_Jl (TT nl Ln xs) 37 [(0, .aload_n 0, 1, []), (1, .iconst 5, 2, []), (2, .getstatic 134, 5, [7, 502, 0]), (5, .aload_n 0, 6, []), (6, .getfield 124, 9, [9, 2, 5, 2]), (9, .getfield 137, 12, [9, 10, 1, 0]), (12, .iaload, 13, []), (13, .aload_n 0, 14, []), (14, .getfield 124, 17, [9, 2, 5, 2]), (17, .iload_n 1, 18, []), (18, .i2l, 19, []), (19, .iload_n 2, 20, []), (20, .invokevirtual 144, 23, [10, 36, 3, 15, 6]), (23, .lconst 1, 24, []), (24, .lcmp, 25, []), (25, .ifCond .ne 7, 28, []), (28, .iconst 1, 29, []), (29, .goto 4, 32, []), (32, .iconst 0, 33, []), (33, .ireturn, 34, [4])] := dk_ck (by decide +kernel)
set_option maxRecDepth 4096 in
theorem w_Wk_lossIs {nl : Bool} {Ln : Nat} {xs : Nat → Int32} {d : Nat} {this : Nat} {p0 : Int32} {p1 : Int32} {σ : am_S} {F : Bool → am_S → Prop} (h : (am_is σ (some this) 2) ∧ (am_is σ (am_fR σ 2005 this) 10) ∧ ((am_kd σ 502).1 = 0) ∧ (0 ≤ (am_fI σ 10001 ((am_fR σ 2005 this).getD 0)).toInt) ∧ ((am_fI σ 10001 ((am_fR σ 2005 this).getD 0)).toInt < am_rl (am_tz (TT nl Ln xs)) 502) ∧ k_Wk_ask nl Ln xs d this (5 : Int32) (am_rv (am_tz (TT nl Ln xs)) 502 (am_fI σ 10001 ((am_fR σ 2005 this).getD 0)).toNatClampNeg) (am_fR σ 2005 this) p0.toInt64 p1 σ (fun a7 σ6 => am_ext σ σ6 → F (decide (a7 = (1 : Int64))) σ6)) : k_Wk_lossIs nl Ln xs (d + 1) this p0 p1 σ F := by
  obtain ⟨j0, j1, j2, j5, j6, j9, j12, j13, j14, j17, j18, j19, j20, j23, j24, j25, j28, j29, j32, j33, -⟩ := P_Wk_lossIs nl Ln xs
  have elo : am_lo 3 [am_ov (some this), .int p0, .int p1] = [some (am_ov (some this)), some (.int p0), some (.int p1)] := by simp only [am_lo, am_in_ov, am_in_int, am_in_long, am_in_nil]; rfl
  unfold k_Wk_lossIs
  rw [elo]
  refine s_aload_n j0 rfl rfl ?_
  refine s_iconst j1 rfl kc_ic_5 ?_
  refine s_static j2 rfl ?_
  refine s_aload_n j5 rfl rfl ?_
  obtain ⟨ho1, h⟩ := h
  refine s_gfR j6 rfl ho1 ?_
  obtain ⟨ho2, h⟩ := h
  refine s_gfI j9 rfl ho2 ?_
  obtain ⟨ho3, h⟩ := h
  obtain ⟨ho4, h⟩ := h
  obtain ⟨ho5, h⟩ := h
  refine s_ialoadR j12 rfl (by decide) ho3 rfl ho4 ho5 ?_
  refine s_aload_n j13 rfl rfl ?_
  refine s_gfR j14 rfl ho1 ?_
  refine s_iload_n j17 rfl rfl ?_
  refine s_g j18 rfl rfl rfl rfl rfl rfl ?_
  refine s_iload_n j19 rfl rfl ?_
  refine s_virt j20 rfl rfl rfl rfl ho1 (by decide) (in_Wk_ask _ _ _ _ _ _) (am_r8 rfl) (am_bL h (fun a7 σ6 h hx6 => ?_))
  replace h := h hx6
  refine s_lconst j23 rfl rfl ?_
  refine s_g j24 rfl rfl rfl rfl rfl rfl ?_
  have K9 : ∀ (w10 : Int32), w10 = (if a7 = (1 : Int64) then (1 : Int32) else 0) → am_C (TT nl Ln xs) (d + 1) 37 33 [some (am_ov (some this)), some (.int p0), some (.int p1)] [.int w10] σ6 (am_qB F) := by
    intro w10 hw11
    subst hw11
    exact s_retZ j33 rfl h
  refine s_ifn j25 rfl rfl am_cl_ne (fun hc8 => ?_) (fun hc8 => ?_)
  · refine s_iconst j32 rfl kc_ic_0 ?_
    exact K9 _ (am_e0 (Iff.trans Iff.rfl (am_p10 hc8)))
  · refine s_iconst j28 rfl kc_ic_1 ?_
    refine s_goto j29 rfl rfl ?_
    exact K9 _ (am_e1 (Iff.trans Iff.rfl (am_p9 hc8)))
theorem P_Wk_addRow (nl : Bool) (Ln : Nat) (xs : Nat → Int32) : am_Jl (TT nl Ln xs) 38 [(0, .aload_n 0, 1, []), (1, .dup, 2, []), (2, .getfield 83, 5, [9, 2, 11, 1]), (5, .lload_n 3, 6, []), (6, .ladd, 7, []), (7, .putfield 83, 10, [9, 2, 11, 1]), (10, .lload_n 3, 11, []), (11, .lconst 0, 12, []), (12, .lcmp, 13, []), (13, .ifCond .ne 8, 16, []), (16, .iload_n 1, 17, []), (17, .iconst 2, 18, []), (18, .if_icmp .gt 13, 21, []), (31, .return_, 32, [0])] := dk_ck (by decide +kernel)
set_option maxRecDepth 4096 in
theorem w_Wk_addRow {nl : Bool} {Ln : Nat} {xs : Nat → Int32} {d : Nat} {this : Nat} {p0 : Int32} {p1 : Int32} {p2 : Int64} {σ : am_S} {F : am_S → Prop} (h : (am_is σ (some this) 2) ∧ ∀ σ2, σ2 = am_sfL σ 2011 this ((am_fL σ 2011 this) + p2) → (p2 = (0 : Int64) → ((2 : Int32) < p0 → F σ2) ∧ (¬ ((2 : Int32) < p0) → c_Wk_addRow_21 nl Ln xs (d + 1) this p0 p1 p2 σ2 F)) ∧ (¬ (p2 = (0 : Int64)) → c_Wk_addRow_21 nl Ln xs (d + 1) this p0 p1 p2 σ2 F)) : k_Wk_addRow nl Ln xs (d + 1) this p0 p1 p2 σ F := by
  obtain ⟨j0, j1, j2, j5, j6, j7, j10, j11, j12, j13, j16, j17, j18, j31, -⟩ := P_Wk_addRow nl Ln xs
  have elo : am_lo 5 [am_ov (some this), .int p0, .int p1, .long p2] = [some (am_ov (some this)), some (.int p0), some (.int p1), some (.long p2), none] := by simp only [am_lo, am_in_ov, am_in_int, am_in_long, am_in_nil]; rfl
  unfold k_Wk_addRow
  rw [elo]
  refine s_aload_n j0 rfl rfl ?_
  refine s_dup j1 rfl (am_cov _) ?_
  obtain ⟨ho1, h⟩ := h
  refine s_gfL j2 rfl ho1 ?_
  refine s_lload_n j5 rfl rfl ?_
  refine s_g j6 rfl rfl rfl rfl rfl rfl ?_
  refine s_pfL j7 rfl ho1 (fun σ2 e3 => ?_)
  replace h := h σ2 e3
  have ek4 : am_kd σ2 = am_kd σ := by rw [e3]
  refine s_lload_n j10 rfl rfl ?_
  refine s_lconst j11 rfl rfl ?_
  refine s_g j12 rfl rfl rfl rfl rfl rfl ?_
  refine s_ifn j13 rfl rfl am_cl_ne (fun hc5 => ?_) (fun hc5 => ?_)
  · replace h := h.2 hc5
    exact h
  · replace h := h.1 hc5
    refine s_iload_n j16 rfl rfl ?_
    refine s_iconst j17 rfl kc_ic_2 ?_
    refine s_ic j18 rfl rfl am_cc_gt (fun hc6 => ?_) (fun hc6 => ?_)
    · replace h := h.1 hc6
      exact s_retV j31 rfl h
    · replace h := h.2 hc6
      exact h
theorem P_Wk_addRow_21 (nl : Bool) (Ln : Nat) (xs : Nat → Int32) : am_Jl (TT nl Ln xs) 38 [(21, .aload_n 0, 22, []), (22, .getfield 12, 25, [9, 2, 2, 2]), (25, .iload_n 1, 26, []), (26, .iload_n 2, 27, []), (27, .lload_n 3, 28, []), (28, .invokevirtual 192, 31, [10, 39, 4, 5, 4]), (31, .return_, 32, [0])] := dk_ck (by decide +kernel)
set_option maxRecDepth 4096 in
theorem w_Wk_addRow_21 {nl : Bool} {Ln : Nat} {xs : Nat → Int32} {d : Nat} {this : Nat} {x1 : Int32} {x2 : Int32} {x3 : Int64} {σ : am_S} {F : am_S → Prop} (h : (am_is σ (some this) 2) ∧ (am_is σ (am_fR σ 2002 this) 3) ∧ k_Vw_addRow nl Ln xs d ((am_fR σ 2002 this).getD 0) x1 x2 x3 σ (fun σ3 => am_ext σ σ3 → F σ3)) : c_Wk_addRow_21 nl Ln xs (d + 1) this x1 x2 x3 σ F := by
  obtain ⟨j21, j22, j25, j26, j27, j28, j31, -⟩ := P_Wk_addRow_21 nl Ln xs
  unfold c_Wk_addRow_21
  refine s_aload_n j21 rfl rfl ?_
  obtain ⟨ho1, h⟩ := h
  refine s_gfR j22 rfl ho1 ?_
  refine s_iload_n j25 rfl rfl ?_
  refine s_iload_n j26 rfl rfl ?_
  refine s_lload_n j27 rfl rfl ?_
  obtain ⟨ho2, h⟩ := h
  refine s_virt j28 rfl rfl rfl rfl ho2 (by decide) (in_Vw_addRow _ _ _ _) (am_r8 rfl) (am_bV h (fun σ3 h hx3 => ?_))
  replace h := h hx3
  exact s_retV j31 rfl h
theorem P_Vw_addRow (nl : Bool) (Ln : Nat) (xs : Nat → Int32) : am_Jl (TT nl Ln xs) 39 [(0, .aload_n 0, 1, []), (1, .getfield 25, 4, [9, 3, 4, 0]), (4, .bipush 13, 6, []), (6, .if_icmp .lt 4, 9, []), (9, .return_, 10, [0]), (10, .aload_n 0, 11, []), (11, .getfield 9, 14, [9, 3, 0, 2]), (14, .aload_n 0, 15, []), (15, .getfield 25, 18, [9, 3, 4, 0]), (18, .iload_n 1, 19, []), (19, .iastore, 20, []), (20, .aload_n 0, 21, []), (21, .getfield 15, 24, [9, 3, 1, 2]), (24, .aload_n 0, 25, []), (25, .getfield 25, 28, [9, 3, 4, 0]), (28, .iload_n 2, 29, []), (29, .iastore, 30, []), (30, .aload_n 0, 31, []), (31, .getfield 18, 34, [9, 3, 2, 2]), (34, .aload_n 0, 35, []), (35, .getfield 25, 38, [9, 3, 4, 0]), (38, .lload_n 3, 39, []), (39, .lastore, 40, []), (40, .aload_n 0, 41, []), (41, .dup, 42, []), (42, .getfield 25, 45, [9, 3, 4, 0]), (45, .iconst 1, 46, []), (46, .iadd, 47, []), (47, .putfield 25, 50, [9, 3, 4, 0]), (50, .return_, 51, [0])] := dk_ck (by decide +kernel)
set_option maxRecDepth 4096 in
theorem w_Vw_addRow {nl : Bool} {Ln : Nat} {xs : Nat → Int32} {d : Nat} {this : Nat} {p0 : Int32} {p1 : Int32} {p2 : Int64} {σ : am_S} {F : am_S → Prop} (h : (am_is σ (some this) 3) ∧ ((am_fI σ 3004 this) < (13 : Int32) → (am_ar σ 1000 (am_fR σ 3000 this) (am_fI σ 3004 this)) ∧ ∀ σ4, σ4 = am_saI σ ((am_fR σ 3000 this).getD 0) (am_fI σ 3004 this).toNatClampNeg p0 → (am_ar σ4 1000 (am_fR σ4 3001 this) (am_fI σ4 3004 this)) ∧ ∀ σ8, σ8 = am_saI σ4 ((am_fR σ4 3001 this).getD 0) (am_fI σ4 3004 this).toNatClampNeg p1 → (am_ar σ8 1001 (am_fR σ8 3002 this) (am_fI σ8 3004 this)) ∧ ∀ σ12, σ12 = am_saL σ8 ((am_fR σ8 3002 this).getD 0) (am_fI σ8 3004 this).toNatClampNeg p2 → ∀ σ15, σ15 = am_sfI σ12 3004 this ((am_fI σ12 3004 this) + (1 : Int32)) → F σ15) ∧ (¬ ((am_fI σ 3004 this) < (13 : Int32)) → F σ)) : k_Vw_addRow nl Ln xs (d + 1) this p0 p1 p2 σ F := by
  obtain ⟨j0, j1, j4, j6, j9, j10, j11, j14, j15, j18, j19, j20, j21, j24, j25, j28, j29, j30, j31, j34, j35, j38, j39, j40, j41, j42, j45, j46, j47, j50, -⟩ := P_Vw_addRow nl Ln xs
  have elo : am_lo 5 [am_ov (some this), .int p0, .int p1, .long p2] = [some (am_ov (some this)), some (.int p0), some (.int p1), some (.long p2), none] := by simp only [am_lo, am_in_ov, am_in_int, am_in_long, am_in_nil]; rfl
  unfold k_Vw_addRow
  rw [elo]
  refine s_aload_n j0 rfl rfl ?_
  obtain ⟨ho1, h⟩ := h
  refine s_gfI j1 rfl ho1 ?_
  refine s_bipush j4 rfl kc_bi_13 ?_
  refine s_ic j6 rfl rfl am_cc_lt (fun hc2 => ?_) (fun hc2 => ?_)
  · replace h := h.1 hc2
    refine s_aload_n j10 rfl rfl ?_
    refine s_gfR j11 rfl ho1 ?_
    refine s_aload_n j14 rfl rfl ?_
    refine s_gfI j15 rfl ho1 ?_
    refine s_iload_n j18 rfl rfl ?_
    obtain ⟨ho3, h⟩ := h
    refine s_iastore j19 rfl ho3 (fun σ4 e5 => ?_)
    replace h := h σ4 e5
    have ek6 : am_kd σ4 = am_kd σ := by rw [e5]
    refine s_aload_n j20 rfl rfl ?_
    refine s_gfR j21 rfl (am_is_kd ek6 ho1) ?_
    refine s_aload_n j24 rfl rfl ?_
    refine s_gfI j25 rfl (am_is_kd ek6 ho1) ?_
    refine s_iload_n j28 rfl rfl ?_
    obtain ⟨ho7, h⟩ := h
    refine s_iastore j29 rfl ho7 (fun σ8 e9 => ?_)
    replace h := h σ8 e9
    have ek10 : am_kd σ8 = am_kd σ4 := by rw [e9]
    refine s_aload_n j30 rfl rfl ?_
    refine s_gfR j31 rfl (am_is_kd ek10 (am_is_kd ek6 ho1)) ?_
    refine s_aload_n j34 rfl rfl ?_
    refine s_gfI j35 rfl (am_is_kd ek10 (am_is_kd ek6 ho1)) ?_
    refine s_lload_n j38 rfl rfl ?_
    obtain ⟨ho11, h⟩ := h
    refine s_lastore j39 rfl ho11 (fun σ12 e13 => ?_)
    replace h := h σ12 e13
    have ek14 : am_kd σ12 = am_kd σ8 := by rw [e13]
    refine s_aload_n j40 rfl rfl ?_
    refine s_dup j41 rfl (am_cov _) ?_
    refine s_gfI j42 rfl (am_is_kd ek14 (am_is_kd ek10 (am_is_kd ek6 ho1))) ?_
    refine s_iconst j45 rfl kc_ic_1 ?_
    refine s_g j46 rfl rfl rfl rfl rfl rfl ?_
    refine s_pfI j47 rfl (am_is_kd ek14 (am_is_kd ek10 (am_is_kd ek6 ho1))) (fun σ15 e16 => ?_)
    replace h := h σ15 e16
    have ek17 : am_kd σ15 = am_kd σ12 := by rw [e16]
    exact s_retV j50 rfl h
  · replace h := h.2 hc2
    exact s_retV j9 rfl h
theorem P_Wk_outRow (nl : Bool) (Ln : Nat) (xs : Nat → Int32) : am_Jl (TT nl Ln xs) 40 [(0, .aload_n 0, 1, []), (1, .getfield 124, 4, [9, 2, 5, 2]), (4, .getfield 200, 7, [9, 10, 2, 0]), (7, .aload_n 0, 8, []), (8, .getfield 163, 11, [9, 2, 6, 2]), (11, .getfield 287, 14, [9, 9, 2, 0]), (14, .if_icmp .lt 20, 17, []), (17, .aload_n 0, 18, []), (18, .getfield 124, 21, [9, 2, 5, 2]), (21, .getfield 200, 24, [9, 10, 2, 0]), (24, .aload_n 0, 25, []), (25, .getfield 163, 28, [9, 2, 6, 2]), (28, .getfield 290, 31, [9, 9, 3, 0]), (31, .if_icmp .le 11, 34, []), (42, .aload_n 0, 43, []), (43, .iconst 0, 44, []), (44, .getstatic 160, 47, [7, 505, 0]), (47, .aload_n 0, 48, []), (48, .getfield 163, 51, [9, 2, 6, 2]), (51, .getfield 167, 54, [9, 9, 1, 0]), (54, .iaload, 55, []), (55, .aload_n 0, 56, []), (56, .getfield 124, 59, [9, 2, 5, 2]), (59, .lconst 0, 60, []), (60, .iconst 0, 61, []), (61, .invokevirtual 144, 64, [10, 36, 3, 15, 6]), (64, .lconst 1, 65, []), (65, .lcmp, 66, []), (66, .ifCond .ne 7, 69, []), (69, .iconst 1, 70, []), (70, .goto 4, 73, []), (73, .iconst 0, 74, []), (74, .istore_n 1, 75, []), (75, .aload_n 0, 76, []), (76, .getfield 12, 79, [9, 2, 2, 2]), (79, .getfield 49, 82, [9, 3, 7, 3]), (82, .ifCond .eq 4, 85, []), (85, .return_, 86, [0]), (86, .iconst (-1), 87, []), (87, .istore_n 2, 88, []), (88, .iconst 0, 89, []), (89, .istore_n 3, 90, []), (90, .aload_n 0, 91, []), (91, .getfield 181, 94, [9, 2, 7, 2]), (94, .astore 4, 96, [])] := dk_ck (by decide +kernel)
set_option maxRecDepth 4096 in
theorem w_Wk_outRow {nl : Bool} {Ln : Nat} {xs : Nat → Int32} {d : Nat} {this : Nat} {σ : am_S} {F : am_S → Prop} (h : (am_is σ (some this) 2) ∧ (am_is σ (am_fR σ 2005 this) 10) ∧ (am_is σ (am_fR σ 2006 this) 9) ∧ ((am_fI σ 10002 ((am_fR σ 2005 this).getD 0)) < (am_fI σ 9002 ((am_fR σ 2006 this).getD 0)) → c_Wk_outRow_34 nl Ln xs (d + 1) this σ F) ∧ (¬ ((am_fI σ 10002 ((am_fR σ 2005 this).getD 0)) < (am_fI σ 9002 ((am_fR σ 2006 this).getD 0))) → ((am_fI σ 9003 ((am_fR σ 2006 this).getD 0)) < (am_fI σ 10002 ((am_fR σ 2005 this).getD 0)) → c_Wk_outRow_34 nl Ln xs (d + 1) this σ F) ∧ (¬ ((am_fI σ 9003 ((am_fR σ 2006 this).getD 0)) < (am_fI σ 10002 ((am_fR σ 2005 this).getD 0))) → ((am_kd σ 505).1 = 0) ∧ (0 ≤ (am_fI σ 9001 ((am_fR σ 2006 this).getD 0)).toInt) ∧ ((am_fI σ 9001 ((am_fR σ 2006 this).getD 0)).toInt < am_rl (am_tz (TT nl Ln xs)) 505) ∧ k_Wk_ask nl Ln xs d this (0 : Int32) (am_rv (am_tz (TT nl Ln xs)) 505 (am_fI σ 9001 ((am_fR σ 2006 this).getD 0)).toNatClampNeg) (am_fR σ 2005 this) (0 : Int64) (0 : Int32) σ (fun a10 σ9 => am_ext σ σ9 → (am_is σ9 (am_fR σ9 2002 this) 3) ∧ ((am_fI σ9 3007 ((am_fR σ9 2002 this).getD 0)) = 0 → ∀ v17 : Option Nat, v17 = (am_fR σ9 2007 this) → c_Wk_outRow_96 nl Ln xs (d + 1) this (if a10 = (1 : Int64) then (1 : Int32) else 0) (-1 : Int32) (0 : Int32) v17 none σ9 F) ∧ (¬ ((am_fI σ9 3007 ((am_fR σ9 2002 this).getD 0)) = 0) → F σ9))))) : k_Wk_outRow nl Ln xs (d + 1) this σ F := by
  obtain ⟨j0, j1, j4, j7, j8, j11, j14, j17, j18, j21, j24, j25, j28, j31, j42, j43, j44, j47, j48, j51, j54, j55, j56, j59, j60, j61, j64, j65, j66, j69, j70, j73, j74, j75, j76, j79, j82, j85, j86, j87, j88, j89, j90, j91, j94, -⟩ := P_Wk_outRow nl Ln xs
  have elo : am_lo 6 [am_ov (some this)] = [some (am_ov (some this)), none, none, none, none, none] := by simp only [am_lo, am_in_ov, am_in_int, am_in_long, am_in_nil]; rfl
  unfold k_Wk_outRow
  rw [elo]
  refine s_aload_n j0 rfl rfl ?_
  obtain ⟨ho1, h⟩ := h
  refine s_gfR j1 rfl ho1 ?_
  obtain ⟨ho2, h⟩ := h
  refine s_gfI j4 rfl ho2 ?_
  refine s_aload_n j7 rfl rfl ?_
  refine s_gfR j8 rfl ho1 ?_
  obtain ⟨ho3, h⟩ := h
  refine s_gfI j11 rfl ho3 ?_
  refine s_ic j14 rfl rfl am_cc_lt (fun hc4 => ?_) (fun hc4 => ?_)
  · replace h := h.1 hc4
    exact h
  · replace h := h.2 hc4
    refine s_aload_n j17 rfl rfl ?_
    refine s_gfR j18 rfl ho1 ?_
    refine s_gfI j21 rfl ho2 ?_
    refine s_aload_n j24 rfl rfl ?_
    refine s_gfR j25 rfl ho1 ?_
    refine s_gfI j28 rfl ho3 ?_
    refine s_icn j31 rfl rfl am_cc_le (fun hc5 => ?_) (fun hc5 => ?_)
    · replace h := h.2 hc5
      refine s_aload_n j42 rfl rfl ?_
      refine s_iconst j43 rfl kc_ic_0 ?_
      refine s_static j44 rfl ?_
      refine s_aload_n j47 rfl rfl ?_
      refine s_gfR j48 rfl ho1 ?_
      refine s_gfI j51 rfl ho3 ?_
      obtain ⟨ho6, h⟩ := h
      obtain ⟨ho7, h⟩ := h
      obtain ⟨ho8, h⟩ := h
      refine s_ialoadR j54 rfl (by decide) ho6 rfl ho7 ho8 ?_
      refine s_aload_n j55 rfl rfl ?_
      refine s_gfR j56 rfl ho1 ?_
      refine s_lconst j59 rfl rfl ?_
      refine s_iconst j60 rfl kc_ic_0 ?_
      refine s_virt j61 rfl rfl rfl rfl ho1 (by decide) (in_Wk_ask _ _ _ _ _ _) (am_r8 rfl) (am_bL h (fun a10 σ9 h hx9 => ?_))
      replace h := h hx9
      refine s_lconst j64 rfl rfl ?_
      refine s_g j65 rfl rfl rfl rfl rfl rfl ?_
      have K12 : ∀ (w13 : Int32), w13 = (if a10 = (1 : Int64) then (1 : Int32) else 0) → am_C (TT nl Ln xs) (d + 1) 40 74 [some (am_ov (some this)), none, none, none, none, none] [.int w13] σ9 (am_qV F) := by
        intro w13 hw14
        subst hw14
        refine s_istore_n j74 rfl (n := 6) (L' := [some (am_ov (some this)), some (.int (if a10 = (1 : Int64) then (1 : Int32) else 0)), none, none, none, none]) rfl (by decide) (am_st1_R [] _ _ _ _) ?_
        refine s_aload_n j75 rfl rfl ?_
        refine s_gfR j76 rfl (am_is_ext hx9 ho1) ?_
        obtain ⟨ho15, h⟩ := h
        refine s_gfZ j79 rfl ho15 ?_
        refine s_if j82 rfl rfl am_cc_eq (fun hc16 => ?_) (fun hc16 => ?_)
        · replace h := h.1 hc16
          refine s_iconst j86 rfl kc_ic_m1 ?_
          refine s_istore_n j87 rfl (n := 6) (L' := [some (am_ov (some this)), some (.int (if a10 = (1 : Int64) then (1 : Int32) else 0)), some (.int (-1 : Int32)), none, none, none]) rfl (by decide) rfl ?_
          refine s_iconst j88 rfl kc_ic_0 ?_
          refine s_istore_n j89 rfl (n := 6) (L' := [some (am_ov (some this)), some (.int (if a10 = (1 : Int64) then (1 : Int32) else 0)), some (.int (-1 : Int32)), some (.int (0 : Int32)), none, none]) rfl (by decide) rfl ?_
          refine s_aload_n j90 rfl rfl ?_
          refine s_gfR j91 rfl (am_is_ext hx9 ho1) ?_
          refine s_astoreV j94 rfl (n := 6) (L' := fun w => [some (am_ov (some this)), some (.int (if a10 = (1 : Int64) then (1 : Int32) else 0)), some (.int (-1 : Int32)), some (.int (0 : Int32)), some (am_ov w), none]) rfl (by decide) (fun _ => rfl) (fun v17 hv18 => ?_)
          replace h := h v17 hv18
          exact h
        · replace h := h.2 hc16
          exact s_retV j85 rfl h
      refine s_ifn j66 rfl rfl am_cl_ne (fun hc11 => ?_) (fun hc11 => ?_)
      · refine s_iconst j73 rfl kc_ic_0 ?_
        exact K12 _ (am_e0 (Iff.trans Iff.rfl (am_p10 hc11)))
      · refine s_iconst j69 rfl kc_ic_1 ?_
        refine s_goto j70 rfl rfl ?_
        exact K12 _ (am_e1 (Iff.trans Iff.rfl (am_p9 hc11)))
    · replace h := h.1 hc5
      exact h
theorem P_Wk_outRow_34 (nl : Bool) (Ln : Nat) (xs : Nat → Int32) : am_Jl (TT nl Ln xs) 40 [(34, .aload_n 0, 35, []), (35, .iconst 1, 36, []), (36, .bipush (-2), 38, []), (38, .invokevirtual 293, 41, [10, 41, 3, 3, 3]), (41, .return_, 42, [0])] := dk_ck (by decide +kernel)
set_option maxRecDepth 4096 in
theorem w_Wk_outRow_34 {nl : Bool} {Ln : Nat} {xs : Nat → Int32} {d : Nat} {this : Nat} {σ : am_S} {F : am_S → Prop} (h : (am_is σ (some this) 2) ∧ k_Wk_endWith nl Ln xs d this (1 : Int32) (-2 : Int32) σ (fun σ2 => am_ext σ σ2 → F σ2)) : c_Wk_outRow_34 nl Ln xs (d + 1) this σ F := by
  obtain ⟨j34, j35, j36, j38, j41, -⟩ := P_Wk_outRow_34 nl Ln xs
  unfold c_Wk_outRow_34
  refine s_aload_n j34 rfl rfl ?_
  refine s_iconst j35 rfl kc_ic_1 ?_
  refine s_bipush j36 rfl kc_bi_m2 ?_
  obtain ⟨ho1, h⟩ := h
  refine s_virt j38 rfl rfl rfl rfl ho1 (by decide) (in_Wk_endWith _ _ _) (am_r8 rfl) (am_bV h (fun σ2 h hx2 => ?_))
  replace h := h hx2
  exact s_retV j41 rfl h
theorem P_Wk_outRow_96 (nl : Bool) (Ln : Nat) (xs : Nat → Int32) : am_Jl (TT nl Ln xs) 40 [(96, .aload 4, 98, []), (98, .ifnull 108, 101, []), (101, .aload 4, 103, []), (103, .getfield 297, 106, [9, 8, 0, 0]), (106, .ifCond .eq 12, 109, []), (109, .aload 4, 111, []), (111, .getfield 297, 114, [9, 8, 0, 0]), (114, .iconst 1, 115, []), (115, .if_icmp .ne 33, 118, []), (206, .iload_n 1, 207, []), (207, .ifCond .ne 9, 210, []), (210, .aload_n 0, 211, []), (211, .iconst 1, 212, []), (212, .iload_n 2, 213, []), (213, .invokevirtual 293, 216, [10, 41, 3, 3, 3]), (216, .return_, 217, [0])] := dk_ck (by decide +kernel)
set_option maxRecDepth 4096 in
theorem w_Wk_outRow_96 {nl : Bool} {Ln : Nat} {xs : Nat → Int32} {d : Nat} {this : Nat} {x1 : Int32} {x2 : Int32} {x3 : Int32} {x4 : Option Nat} {x5 : Option Value} {σ : am_S} {F : am_S → Prop} (h : (x4 = none → (x1 = 0 → (am_is σ (some this) 2) ∧ k_Wk_endWith nl Ln xs d this (1 : Int32) x2 σ (fun σ4 => am_ext σ σ4 → F σ4)) ∧ (¬ (x1 = 0) → F σ)) ∧ (¬ (x4 = none) → (am_is σ x4 8) ∧ ((am_fI σ 8000 (x4.getD 0)) = 0 → c_Wk_outRow_118 nl Ln xs (d + 1) this x1 x2 x3 x4 x5 σ F) ∧ (¬ ((am_fI σ 8000 (x4.getD 0)) = 0) → ((am_fI σ 8000 (x4.getD 0)) = (1 : Int32) → c_Wk_outRow_118 nl Ln xs (d + 1) this x1 x2 x3 x4 x5 σ F) ∧ (¬ ((am_fI σ 8000 (x4.getD 0)) = (1 : Int32)) → c_Wk_outRow_148 nl Ln xs (d + 1) this x1 x2 x3 x4 x5 σ F)))) : c_Wk_outRow_96 nl Ln xs (d + 1) this x1 x2 x3 x4 x5 σ F := by
  obtain ⟨j96, j98, j101, j103, j106, j109, j111, j114, j115, j206, j207, j210, j211, j212, j213, j216, -⟩ := P_Wk_outRow_96 nl Ln xs
  unfold c_Wk_outRow_96
  refine s_aload j96 rfl rfl ?_
  refine s_ifnull j98 rfl rfl (fun hc1 => ?_) (fun hc1 => ?_)
  · replace h := h.1 hc1
    refine s_iload_n j206 rfl rfl ?_
    refine s_ifn j207 rfl rfl am_cc_ne (fun hc2 => ?_) (fun hc2 => ?_)
    · replace h := h.2 hc2
      exact s_retV j216 rfl h
    · replace h := h.1 hc2
      refine s_aload_n j210 rfl rfl ?_
      refine s_iconst j211 rfl kc_ic_1 ?_
      refine s_iload_n j212 rfl rfl ?_
      obtain ⟨ho3, h⟩ := h
      refine s_virt j213 rfl rfl rfl rfl ho3 (by decide) (in_Wk_endWith _ _ _) (am_r8 rfl) (am_bV h (fun σ4 h hx4 => ?_))
      replace h := h hx4
      exact s_retV j216 rfl h
  · replace h := h.2 hc1
    refine s_aload j101 rfl rfl ?_
    obtain ⟨ho6, h⟩ := h
    refine s_gfI j103 rfl ho6 ?_
    refine s_if j106 rfl rfl am_cc_eq (fun hc7 => ?_) (fun hc7 => ?_)
    · replace h := h.1 hc7
      exact h
    · replace h := h.2 hc7
      refine s_aload j109 rfl rfl ?_
      refine s_gfI j111 rfl ho6 ?_
      refine s_iconst j114 rfl kc_ic_1 ?_
      refine s_icn j115 rfl rfl am_cc_ne (fun hc8 => ?_) (fun hc8 => ?_)
      · replace h := h.2 hc8
        exact h
      · replace h := h.1 hc8
        exact h
theorem P_Wk_outRow_118 (nl : Bool) (Ln : Nat) (xs : Nat → Int32) : am_Jl (TT nl Ln xs) 40 [(118, .aload 4, 120, []), (120, .getfield 189, 123, [9, 8, 1, 0]), (123, .bipush 25, 125, []), (125, .if_icmp .eq 19, 128, []), (128, .aload_n 0, 129, []), (129, .aload 4, 131, []), (131, .getfield 189, 134, [9, 8, 1, 0]), (134, .bipush 20, 136, []), (136, .isub, 137, []), (137, .iconst 0, 138, []), (138, .invokevirtual 264, 141, [10, 37, 3, 3, 3]), (141, .ifCond .eq 7, 144, []), (144, .iconst 1, 145, []), (145, .goto 4, 148, []), (148, .iconst 0, 149, [])] := dk_ck (by decide +kernel)
set_option maxRecDepth 4096 in
theorem w_Wk_outRow_118 {nl : Bool} {Ln : Nat} {xs : Nat → Int32} {d : Nat} {this : Nat} {x1 : Int32} {x2 : Int32} {x3 : Int32} {x4 : Option Nat} {x5 : Option Value} {σ : am_S} {F : am_S → Prop} (h : (am_is σ x4 8) ∧ ((am_fI σ 8001 (x4.getD 0)) = (25 : Int32) → c_Wk_outRow_144 nl Ln xs (d + 1) this x1 x2 x3 x4 x5 σ F) ∧ (¬ ((am_fI σ 8001 (x4.getD 0)) = (25 : Int32)) → (am_is σ (some this) 2) ∧ k_Wk_lossIs nl Ln xs d this ((am_fI σ 8001 (x4.getD 0)) - (20 : Int32)) (0 : Int32) σ (fun a5 σ4 => am_ext σ σ4 → c_Wk_outRow_149 nl Ln xs (d + 1) this x1 x2 x3 x4 x5 (if a5 = true then (1 : Int32) else 0) σ4 F))) : c_Wk_outRow_118 nl Ln xs (d + 1) this x1 x2 x3 x4 x5 σ F := by
  obtain ⟨j118, j120, j123, j125, j128, j129, j131, j134, j136, j137, j138, j141, j144, j145, j148, -⟩ := P_Wk_outRow_118 nl Ln xs
  unfold c_Wk_outRow_118
  refine s_aload j118 rfl rfl ?_
  obtain ⟨ho1, h⟩ := h
  refine s_gfI j120 rfl ho1 ?_
  refine s_bipush j123 rfl kc_bi_25 ?_
  refine s_ic j125 rfl rfl am_cc_eq (fun hc2 => ?_) (fun hc2 => ?_)
  · replace h := h.1 hc2
    exact h
  · replace h := h.2 hc2
    refine s_aload_n j128 rfl rfl ?_
    refine s_aload j129 rfl rfl ?_
    refine s_gfI j131 rfl ho1 ?_
    refine s_bipush j134 rfl kc_bi_20 ?_
    refine s_g j136 rfl rfl rfl rfl rfl rfl ?_
    refine s_iconst j137 rfl kc_ic_0 ?_
    obtain ⟨ho3, h⟩ := h
    refine s_virt j138 rfl rfl rfl rfl ho3 (by decide) (in_Wk_lossIs _ _ _) (am_r8 rfl) (am_bB h (fun a5 σ4 h hx4 => ?_))
    replace h := h hx4
    have K7 : ∀ (w8 : Int32), w8 = (if a5 = true then (1 : Int32) else 0) → am_C (TT nl Ln xs) (d + 1) 40 149 [some (am_ov (some this)), some (.int x1), some (.int x2), some (.int x3), some (am_ov x4), x5] [.int w8] σ4 (am_qV F) := by
      intro w8 hw9
      subst hw9
      exact h
    refine s_ifn j141 rfl rfl am_cb_eq (fun hc6 => ?_) (fun hc6 => ?_)
    · refine s_iconst j148 rfl kc_ic_0 ?_
      exact K7 _ (am_e0 (Iff.trans Iff.rfl (am_p10 hc6)))
    · refine s_iconst j144 rfl kc_ic_1 ?_
      refine s_goto j145 rfl rfl ?_
      exact K7 _ (am_e1 (Iff.trans Iff.rfl (am_p9 hc6)))
theorem P_Wk_outRow_144 (nl : Bool) (Ln : Nat) (xs : Nat → Int32) : am_Jl (TT nl Ln xs) 40 [(144, .iconst 1, 145, []), (145, .goto 4, 148, [])] := dk_ck (by decide +kernel)
set_option maxRecDepth 4096 in
theorem w_Wk_outRow_144 {nl : Bool} {Ln : Nat} {xs : Nat → Int32} {d : Nat} {this : Nat} {x1 : Int32} {x2 : Int32} {x3 : Int32} {x4 : Option Nat} {x5 : Option Value} {σ : am_S} {F : am_S → Prop} (h : c_Wk_outRow_149 nl Ln xs (d + 1) this x1 x2 x3 x4 x5 (1 : Int32) σ F) : c_Wk_outRow_144 nl Ln xs (d + 1) this x1 x2 x3 x4 x5 σ F := by
  obtain ⟨j144, j145, -⟩ := P_Wk_outRow_144 nl Ln xs
  unfold c_Wk_outRow_144
  refine s_iconst j144 rfl kc_ic_1 ?_
  refine s_goto j145 rfl rfl ?_
  exact h
theorem P_Wk_outRow_148 (nl : Bool) (Ln : Nat) (xs : Nat → Int32) : am_Jl (TT nl Ln xs) 40 [(148, .iconst 0, 149, [])] := dk_ck (by decide +kernel)
set_option maxRecDepth 4096 in
theorem w_Wk_outRow_148 {nl : Bool} {Ln : Nat} {xs : Nat → Int32} {d : Nat} {this : Nat} {x1 : Int32} {x2 : Int32} {x3 : Int32} {x4 : Option Nat} {x5 : Option Value} {σ : am_S} {F : am_S → Prop} (h : c_Wk_outRow_149 nl Ln xs (d + 1) this x1 x2 x3 x4 x5 (0 : Int32) σ F) : c_Wk_outRow_148 nl Ln xs (d + 1) this x1 x2 x3 x4 x5 σ F := by
  obtain ⟨j148, -⟩ := P_Wk_outRow_148 nl Ln xs
  unfold c_Wk_outRow_148
  refine s_iconst j148 rfl kc_ic_0 ?_
  exact h
theorem P_Wk_outRow_149 (nl : Bool) (Ln : Nat) (xs : Nat → Int32) : am_Jl (TT nl Ln xs) 40 [(149, .istore 5, 151, []), (151, .iload 5, 153, []), (153, .ifCond .eq 40, 156, []), (156, .aload 4, 158, []), (158, .getfield 300, 161, [9, 8, 2, 2]), (161, .ifnull 16, 164, []), (164, .aload_n 0, 165, []), (165, .aload 4, 167, []), (167, .getfield 300, 170, [9, 8, 2, 2]), (170, .iconst 0, 171, []), (171, .invokevirtual 302, 174, [10, 42, 3, 4, 3]), (174, .ifCond .ne 19, 177, []), (177, .aload 4, 179, []), (179, .getfield 297, 182, [9, 8, 0, 0]), (182, .ifCond .ne 7, 185, []), (185, .iconst 1, 186, []), (186, .goto 4, 189, []), (189, .iconst 0, 190, []), (190, .istore_n 1, 191, []), (191, .iload_n 3, 192, []), (192, .istore_n 2, 193, []), (193, .iinc 3 1, 196, []), (196, .aload 4, 198, []), (198, .getfield 306, 201, [9, 8, 3, 2]), (201, .astore 4, 203, []), (203, .goto (-107), 206, [])] := dk_ck (by decide +kernel)
set_option maxRecDepth 4096 in
theorem w_Wk_outRow_149 {nl : Bool} {Ln : Nat} {xs : Nat → Int32} {d : Nat} {this : Nat} {x1 : Int32} {x2 : Int32} {x3 : Int32} {x4 : Option Nat} {x5 : Option Value} {y0 : Int32} {σ : am_S} {F : am_S → Prop} (h : (y0 = 0 → (am_is σ x4 8) ∧ ∀ v3 : Option Nat, v3 = (am_fR σ 8003 (x4.getD 0)) → c_Wk_outRow_96 nl Ln xs (d + 1) this x1 x2 (x3 + (1 : Int32)) v3 (some (.int y0)) σ F) ∧ (¬ (y0 = 0) → (am_is σ x4 8) ∧ ((am_fR σ 8002 (x4.getD 0)) = none → c_Wk_outRow_177 nl Ln xs (d + 1) this x1 x2 x3 x4 y0 σ F) ∧ (¬ ((am_fR σ 8002 (x4.getD 0)) = none) → (am_is σ (some this) 2) ∧ k_Wk_holds nl Ln xs d this (am_fR σ 8002 (x4.getD 0)) (0 : Int32) σ (fun a9 σ8 => am_ext σ σ8 → ∀ w13 : Int32, w13 = (if a9 = true then x1 else (if (am_fI σ8 8000 (x4.getD 0)) = 0 then (1 : Int32) else (0 : Int32))) → ∀ w14 : Int32, w14 = (if a9 = true then x2 else x3) → ∀ v17 : Option Nat, v17 = (am_fR σ8 8003 (x4.getD 0)) → c_Wk_outRow_96 nl Ln xs (d + 1) this w13 w14 (x3 + (1 : Int32)) v17 (some (.int y0)) σ8 F)))) : c_Wk_outRow_149 nl Ln xs (d + 1) this x1 x2 x3 x4 x5 y0 σ F := by
  obtain ⟨j149, j151, j153, j156, j158, j161, j164, j165, j167, j170, j171, j174, j177, j179, j182, j185, j186, j189, j190, j191, j192, j193, j196, j198, j201, j203, -⟩ := P_Wk_outRow_149 nl Ln xs
  unfold c_Wk_outRow_149
  refine s_istore j149 rfl (n := 6) (L' := [some (am_ov (some this)), some (.int x1), some (.int x2), some (.int x3), some (am_ov x4), some (.int y0)]) rfl (by decide) (am_st1_R [_, _, _, _] _ _ _ _) ?_
  refine s_iload j151 rfl rfl ?_
  refine s_if j153 rfl rfl am_cc_eq (fun hc1 => ?_) (fun hc1 => ?_)
  · replace h := h.1 hc1
    refine s_iinc (L' := [some (am_ov (some this)), some (.int x1), some (.int x2), some (.int (x3 + (1 : Int32))), some (am_ov x4), some (.int y0)]) j193 rfl rfl kc_ic_1 rfl ?_
    refine s_aload j196 rfl rfl ?_
    obtain ⟨ho2, h⟩ := h
    refine s_gfR j198 rfl ho2 ?_
    refine s_astoreV j201 rfl (n := 6) (L' := fun w => [some (am_ov (some this)), some (.int x1), some (.int x2), some (.int (x3 + (1 : Int32))), some (am_ov w), some (.int y0)]) rfl (by decide) (fun _ => rfl) (fun v3 hv4 => ?_)
    replace h := h v3 hv4
    refine s_goto j203 rfl rfl ?_
    exact h
  · replace h := h.2 hc1
    refine s_aload j156 rfl rfl ?_
    obtain ⟨ho5, h⟩ := h
    refine s_gfR j158 rfl ho5 ?_
    refine s_ifnull j161 rfl rfl (fun hc6 => ?_) (fun hc6 => ?_)
    · replace h := h.1 hc6
      exact h
    · replace h := h.2 hc6
      refine s_aload_n j164 rfl rfl ?_
      refine s_aload j165 rfl rfl ?_
      refine s_gfR j167 rfl ho5 ?_
      refine s_iconst j170 rfl kc_ic_0 ?_
      obtain ⟨ho7, h⟩ := h
      refine s_virt j171 rfl rfl rfl rfl ho7 (by decide) (in_Wk_holds _ _ _) (am_r8 rfl) (am_bB h (fun a9 σ8 h hx8 => ?_))
      replace h := h hx8
      have K12 : ∀ (w13 : Int32) (w14 : Int32), w13 = (if a9 = true then x1 else (if (am_fI σ8 8000 (x4.getD 0)) = 0 then (1 : Int32) else (0 : Int32))) → w14 = (if a9 = true then x2 else x3) → am_C (TT nl Ln xs) (d + 1) 40 193 [some (am_ov (some this)), some (.int w13), some (.int w14), some (.int x3), some (am_ov x4), some (.int y0)] [] σ8 (am_qV F) := by
        intro w13 w14 hw15 hw16
        replace h := h w13 hw15
        replace h := h w14 hw16
        refine s_iinc (L' := [some (am_ov (some this)), some (.int w13), some (.int w14), some (.int (x3 + (1 : Int32))), some (am_ov x4), some (.int y0)]) j193 rfl rfl kc_ic_1 rfl ?_
        refine s_aload j196 rfl rfl ?_
        refine s_gfR j198 rfl (am_is_ext hx8 ho5) ?_
        refine s_astoreV j201 rfl (n := 6) (L' := fun w => [some (am_ov (some this)), some (.int w13), some (.int w14), some (.int (x3 + (1 : Int32))), some (am_ov w), some (.int y0)]) rfl (by decide) (fun _ => rfl) (fun v17 hv18 => ?_)
        replace h := h v17 hv18
        refine s_goto j203 rfl rfl ?_
        exact h
      refine s_if j174 rfl rfl am_cb_ne (fun hc10 => ?_) (fun hc10 => ?_)
      · exact K12 _ _ (am_t1 hc10 rfl) (am_t1 hc10 rfl)
      · refine s_aload j177 rfl rfl ?_
        refine s_gfI j179 rfl (am_is_ext hx8 ho5) ?_
        refine s_ifn j182 rfl rfl am_cc_ne (fun hc11 => ?_) (fun hc11 => ?_)
        · refine s_iconst j189 rfl kc_ic_0 ?_
          refine s_istore_n j190 rfl (n := 6) (L' := [some (am_ov (some this)), some (.int (0 : Int32)), some (.int x2), some (.int x3), some (am_ov x4), some (.int y0)]) rfl (by decide) (am_st1_R [] _ _ _ _) ?_
          refine s_iload_n j191 rfl rfl ?_
          refine s_istore_n j192 rfl (n := 6) (L' := [some (am_ov (some this)), some (.int (0 : Int32)), some (.int x3), some (.int x3), some (am_ov x4), some (.int y0)]) rfl (by decide) rfl ?_
          exact K12 _ _ (am_t2 hc10 (am_t2 hc11 rfl)) (am_t2 hc10 rfl)
        · refine s_iconst j185 rfl kc_ic_1 ?_
          refine s_goto j186 rfl rfl ?_
          refine s_istore_n j190 rfl (n := 6) (L' := [some (am_ov (some this)), some (.int (1 : Int32)), some (.int x2), some (.int x3), some (am_ov x4), some (.int y0)]) rfl (by decide) (am_st1_R [] _ _ _ _) ?_
          refine s_iload_n j191 rfl rfl ?_
          refine s_istore_n j192 rfl (n := 6) (L' := [some (am_ov (some this)), some (.int (1 : Int32)), some (.int x3), some (.int x3), some (am_ov x4), some (.int y0)]) rfl (by decide) rfl ?_
          exact K12 _ _ (am_t2 hc10 (am_t1 hc11 rfl)) (am_t2 hc10 rfl)
theorem P_Wk_outRow_177 (nl : Bool) (Ln : Nat) (xs : Nat → Int32) : am_Jl (TT nl Ln xs) 40 [(177, .aload 4, 179, []), (179, .getfield 297, 182, [9, 8, 0, 0]), (182, .ifCond .ne 7, 185, []), (185, .iconst 1, 186, []), (186, .goto 4, 189, []), (189, .iconst 0, 190, []), (190, .istore_n 1, 191, []), (191, .iload_n 3, 192, []), (192, .istore_n 2, 193, []), (193, .iinc 3 1, 196, []), (196, .aload 4, 198, []), (198, .getfield 306, 201, [9, 8, 3, 2]), (201, .astore 4, 203, []), (203, .goto (-107), 206, [])] := dk_ck (by decide +kernel)
set_option maxRecDepth 4096 in
theorem w_Wk_outRow_177 {nl : Bool} {Ln : Nat} {xs : Nat → Int32} {d : Nat} {this : Nat} {x1 : Int32} {x2 : Int32} {x3 : Int32} {x4 : Option Nat} {x5 : Int32} {σ : am_S} {F : am_S → Prop} (h : (am_is σ x4 8) ∧ ∀ v6 : Option Nat, v6 = (am_fR σ 8003 (x4.getD 0)) → c_Wk_outRow_96 nl Ln xs (d + 1) this (if (am_fI σ 8000 (x4.getD 0)) = 0 then (1 : Int32) else 0) x3 (x3 + (1 : Int32)) v6 (some (.int x5)) σ F) : c_Wk_outRow_177 nl Ln xs (d + 1) this x1 x2 x3 x4 x5 σ F := by
  obtain ⟨j177, j179, j182, j185, j186, j189, j190, j191, j192, j193, j196, j198, j201, j203, -⟩ := P_Wk_outRow_177 nl Ln xs
  unfold c_Wk_outRow_177
  refine s_aload j177 rfl rfl ?_
  obtain ⟨ho1, h⟩ := h
  refine s_gfI j179 rfl ho1 ?_
  have K3 : ∀ (w4 : Int32), w4 = (if (am_fI σ 8000 (x4.getD 0)) = 0 then (1 : Int32) else 0) → am_C (TT nl Ln xs) (d + 1) 40 190 [some (am_ov (some this)), some (.int x1), some (.int x2), some (.int x3), some (am_ov x4), some (.int x5)] [.int w4] σ (am_qV F) := by
    intro w4 hw5
    subst hw5
    refine s_istore_n j190 rfl (n := 6) (L' := [some (am_ov (some this)), some (.int (if (am_fI σ 8000 (x4.getD 0)) = 0 then (1 : Int32) else 0)), some (.int x2), some (.int x3), some (am_ov x4), some (.int x5)]) rfl (by decide) (am_st1_R [] _ _ _ _) ?_
    refine s_iload_n j191 rfl rfl ?_
    refine s_istore_n j192 rfl (n := 6) (L' := [some (am_ov (some this)), some (.int (if (am_fI σ 8000 (x4.getD 0)) = 0 then (1 : Int32) else 0)), some (.int x3), some (.int x3), some (am_ov x4), some (.int x5)]) rfl (by decide) rfl ?_
    refine s_iinc (L' := [some (am_ov (some this)), some (.int (if (am_fI σ 8000 (x4.getD 0)) = 0 then (1 : Int32) else 0)), some (.int x3), some (.int (x3 + (1 : Int32))), some (am_ov x4), some (.int x5)]) j193 rfl rfl kc_ic_1 rfl ?_
    refine s_aload j196 rfl rfl ?_
    refine s_gfR j198 rfl ho1 ?_
    refine s_astoreV j201 rfl (n := 6) (L' := fun w => [some (am_ov (some this)), some (.int (if (am_fI σ 8000 (x4.getD 0)) = 0 then (1 : Int32) else 0)), some (.int x3), some (.int (x3 + (1 : Int32))), some (am_ov w), some (.int x5)]) rfl (by decide) (fun _ => rfl) (fun v6 hv7 => ?_)
    replace h := h v6 hv7
    refine s_goto j203 rfl rfl ?_
    exact h
  refine s_ifn j182 rfl rfl am_cc_ne (fun hc2 => ?_) (fun hc2 => ?_)
  · refine s_iconst j189 rfl kc_ic_0 ?_
    exact K3 _ (am_e0 (Iff.trans Iff.rfl (am_p10 hc2)))
  · refine s_iconst j185 rfl kc_ic_1 ?_
    refine s_goto j186 rfl rfl ?_
    exact K3 _ (am_e1 (Iff.trans Iff.rfl (am_p9 hc2)))
theorem P_Wk_endWith (nl : Bool) (Ln : Nat) (xs : Nat → Int32) : am_Jl (TT nl Ln xs) 41 [(0, .aload_n 0, 1, []), (1, .getfield 12, 4, [9, 2, 2, 2]), (4, .iload_n 1, 5, []), (5, .iload_n 2, 6, []), (6, .aload_n 0, 7, []), (7, .getfield 83, 10, [9, 2, 11, 1]), (10, .lneg, 11, []), (11, .invokevirtual 192, 14, [10, 39, 4, 5, 4]), (14, .aload_n 0, 15, []), (15, .getfield 12, 18, [9, 2, 2, 2]), (18, .iconst 1, 19, []), (19, .putfield 49, 22, [9, 3, 7, 3]), (22, .aload_n 0, 23, []), (23, .lconst 0, 24, []), (24, .putfield 83, 27, [9, 2, 11, 1]), (27, .return_, 28, [0])] := dk_ck (by decide +kernel)
set_option maxRecDepth 4096 in
theorem w_Wk_endWith {nl : Bool} {Ln : Nat} {xs : Nat → Int32} {d : Nat} {this : Nat} {p0 : Int32} {p1 : Int32} {σ : am_S} {F : am_S → Prop} (h : (am_is σ (some this) 2) ∧ (am_is σ (am_fR σ 2002 this) 3) ∧ k_Vw_addRow nl Ln xs d ((am_fR σ 2002 this).getD 0) p0 p1 (-(am_fL σ 2011 this)) σ (fun σ3 => am_ext σ σ3 → (am_is σ3 (am_fR σ3 2002 this) 3) ∧ ∀ σ6, σ6 = am_sfI σ3 3007 ((am_fR σ3 2002 this).getD 0) (1 : Int32) → ∀ σ9, σ9 = am_sfL σ6 2011 this (0 : Int64) → F σ9)) : k_Wk_endWith nl Ln xs (d + 1) this p0 p1 σ F := by
  obtain ⟨j0, j1, j4, j5, j6, j7, j10, j11, j14, j15, j18, j19, j22, j23, j24, j27, -⟩ := P_Wk_endWith nl Ln xs
  have elo : am_lo 3 [am_ov (some this), .int p0, .int p1] = [some (am_ov (some this)), some (.int p0), some (.int p1)] := by simp only [am_lo, am_in_ov, am_in_int, am_in_long, am_in_nil]; rfl
  unfold k_Wk_endWith
  rw [elo]
  refine s_aload_n j0 rfl rfl ?_
  obtain ⟨ho1, h⟩ := h
  refine s_gfR j1 rfl ho1 ?_
  refine s_iload_n j4 rfl rfl ?_
  refine s_iload_n j5 rfl rfl ?_
  refine s_aload_n j6 rfl rfl ?_
  refine s_gfL j7 rfl ho1 ?_
  refine s_g j10 rfl rfl rfl rfl rfl rfl ?_
  obtain ⟨ho2, h⟩ := h
  refine s_virt j11 rfl rfl rfl rfl ho2 (by decide) (in_Vw_addRow _ _ _ _) (am_r8 rfl) (am_bV h (fun σ3 h hx3 => ?_))
  replace h := h hx3
  refine s_aload_n j14 rfl rfl ?_
  refine s_gfR j15 rfl (am_is_ext hx3 ho1) ?_
  refine s_iconst j18 rfl kc_ic_1 ?_
  obtain ⟨ho5, h⟩ := h
  refine s_pfZ j19 rfl ho5 (Or.inr rfl) (fun σ6 e7 => ?_)
  replace h := h σ6 e7
  have ek8 : am_kd σ6 = am_kd σ3 := by rw [e7]
  refine s_aload_n j22 rfl rfl ?_
  refine s_lconst j23 rfl rfl ?_
  refine s_pfL j24 rfl (am_is_kd ek8 (am_is_ext hx3 ho1)) (fun σ9 e10 => ?_)
  replace h := h σ9 e10
  have ek11 : am_kd σ9 = am_kd σ6 := by rw [e10]
  exact s_retV j27 rfl h
theorem P_Wk_holds (nl : Bool) (Ln : Nat) (xs : Nat → Int32) : am_Jl (TT nl Ln xs) 42 [(0, .aload_n 1, 1, []), (1, .ifnull 9, 4, []), (4, .iload_n 2, 5, []), (5, .bipush 64, 7, []), (7, .if_icmp .le 5, 10, []), (10, .iconst 0, 11, []), (11, .ireturn, 12, [4]), (12, .aload_n 1, 13, []), (13, .getfield 297, 16, [9, 8, 0, 0]), (16, .tableswitch 222 12 18 #[44, 44, 116, 136, 156, 179, 207], 60, []), (60, .aload_n 1, 61, []), (61, .getfield 300, 64, [9, 8, 2, 2]), (64, .astore_n 3, 65, []), (132, .aload_n 0, 133, []), (133, .aload_n 1, 134, []), (134, .getfield 300, 137, [9, 8, 2, 2]), (137, .iload_n 2, 138, []), (138, .iconst 1, 139, []), (139, .iadd, 140, []), (140, .invokevirtual 302, 143, [10, 42, 3, 4, 3]), (143, .ifCond .ne 7, 146, []), (146, .iconst 1, 147, []), (147, .goto 4, 150, []), (150, .iconst 0, 151, []), (151, .ireturn, 152, [4]), (152, .aload_n 0, 153, []), (153, .iconst 0, 154, []), (154, .invokevirtual 309, 157, [10, 43, 3, 5, 2]), (157, .aload_n 1, 158, []), (158, .getfield 189, 161, [9, 8, 1, 0]), (161, .i2l, 162, []), (162, .lcmp, 163, []), (163, .ifCond .le 7, 166, []), (166, .iconst 1, 167, []), (167, .goto 4, 170, []), (170, .iconst 0, 171, []), (171, .ireturn, 172, [4]), (172, .aload_n 0, 173, []), (173, .getfield 124, 176, [9, 2, 5, 2]), (176, .invokevirtual 225, 179, [10, 17, 11, 3, 1]), (179, .getfield 268, 182, [9, 10, 7, 0]), (182, .aload_n 1, 183, []), (183, .getfield 189, 186, [9, 8, 1, 0]), (186, .if_icmp .le 7, 189, []), (189, .iconst 1, 190, []), (190, .goto 4, 193, []), (193, .iconst 0, 194, []), (194, .ireturn, 195, [4]), (195, .aload_n 0, 196, []), (196, .getfield 87, 199, [9, 2, 4, 2]), (199, .getfield 313, 202, [9, 11, 3, 0]), (202, .aload_n 0, 203, []), (203, .getfield 124, 206, [9, 2, 5, 2]), (206, .getfield 200, 209, [9, 10, 2, 0]), (209, .isub, 210, []), (210, .aload_n 1, 211, []), (211, .getfield 189, 214, [9, 8, 1, 0]), (214, .if_icmp .le 7, 217, []), (217, .iconst 1, 218, []), (218, .goto 4, 221, []), (221, .iconst 0, 222, []), (222, .ireturn, 223, [4]), (223, .aload_n 0, 224, []), (224, .getfield 124, 227, [9, 2, 5, 2]), (227, .invokevirtual 225, 230, [10, 17, 11, 3, 1]), (230, .aload_n 1, 231, []), (231, .getfield 189, 234, [9, 8, 1, 0]), (234, .invokestatic 316, 237, [12, 44, 3, 2]), (237, .ireturn, 238, [4]), (238, .aload_n 1, 239, []), (239, .getfield 189, 242, [9, 8, 1, 0]), (242, .bipush 25, 244, []), (244, .if_icmp .eq 18, 247, []), (247, .aload_n 0, 248, []), (248, .aload_n 1, 249, []), (249, .getfield 189, 252, [9, 8, 1, 0]), (252, .bipush 20, 254, []), (254, .isub, 255, []), (255, .iconst 0, 256, []), (256, .invokevirtual 264, 259, [10, 37, 3, 3, 3]), (259, .ifCond .eq 7, 262, []), (262, .iconst 1, 263, []), (263, .goto 4, 266, []), (266, .iconst 0, 267, []), (267, .ireturn, 268, [4])] := dk_ck (by decide +kernel)
set_option maxRecDepth 4096 in
theorem w_Wk_holds {nl : Bool} {Ln : Nat} {xs : Nat → Int32} {d : Nat} {this : Nat} {p0 : Option Nat} {p1 : Int32} {σ : am_S} {F : Bool → am_S → Prop} (h : (p0 = none → F false σ) ∧ (¬ (p0 = none) → ((64 : Int32) < p1 → F false σ) ∧ (¬ ((64 : Int32) < p1) → (am_is σ p0 8) ∧ ((am_fI σ 8000 (p0.getD 0)) = (12 : Int32) ∨ (am_fI σ 8000 (p0.getD 0)) = (13 : Int32) → ∀ v4 : Option Nat, v4 = (am_fR σ 8002 (p0.getD 0)) → c_Wk_holds_65 nl Ln xs (d + 1) this p0 p1 v4 σ F) ∧ ((am_fI σ 8000 (p0.getD 0)) = (14 : Int32) → (am_is σ (some this) 2) ∧ k_Wk_holds nl Ln xs d this (am_fR σ 8002 (p0.getD 0)) (p1 + (1 : Int32)) σ (fun a8 σ7 => am_ext σ σ7 → F (decide (¬ (a8 = true))) σ7)) ∧ ((am_fI σ 8000 (p0.getD 0)) = (15 : Int32) → (am_is σ (some this) 2) ∧ k_Wk_sumOfMoney nl Ln xs d this (0 : Int32) σ (fun a15 σ14 => am_ext σ σ14 → F (decide ((am_fI σ14 8001 (p0.getD 0)).toInt64 < a15)) σ14)) ∧ ((am_fI σ 8000 (p0.getD 0)) = (16 : Int32) → (am_is σ (some this) 2) ∧ (am_is σ (am_fR σ 2005 this) 10) ∧ k_Ls_base nl Ln xs d ((am_fR σ 2005 this).getD 0) σ (fun a23 σ22 => am_ext σ σ22 → (am_is σ22 a23 10) ∧ F (decide ((am_fI σ22 8001 (p0.getD 0)) < (am_fI σ22 10007 (a23.getD 0)))) σ22)) ∧ ((am_fI σ 8000 (p0.getD 0)) = (17 : Int32) → (am_is σ (some this) 2) ∧ (am_is σ (am_fR σ 2004 this) 11) ∧ (am_is σ (am_fR σ 2005 this) 10) ∧ F (decide ((am_fI σ 8001 (p0.getD 0)) < ((am_fI σ 11003 ((am_fR σ 2004 this).getD 0)) - (am_fI σ 10002 ((am_fR σ 2005 this).getD 0))))) σ) ∧ ((am_fI σ 8000 (p0.getD 0)) = (18 : Int32) → (am_is σ (some this) 2) ∧ (am_is σ (am_fR σ 2005 this) 10) ∧ k_Ls_base nl Ln xs d ((am_fR σ 2005 this).getD 0) σ (fun a39 σ38 => am_ext σ σ38 → k_Wk_hasSort nl Ln xs d a39 (am_fI σ38 8001 (p0.getD 0)) σ38 (fun a41 σ40 => am_ext σ38 σ40 → F (decide (a41 = true)) σ40))) ∧ (((am_fI σ 8000 (p0.getD 0)).toInt < 12 ∨ 18 < (am_fI σ 8000 (p0.getD 0)).toInt) → ((am_fI σ 8001 (p0.getD 0)) = (25 : Int32) → F true σ) ∧ (¬ ((am_fI σ 8001 (p0.getD 0)) = (25 : Int32)) → (am_is σ (some this) 2) ∧ k_Wk_lossIs nl Ln xs d this ((am_fI σ 8001 (p0.getD 0)) - (20 : Int32)) (0 : Int32) σ (fun a45 σ44 => am_ext σ σ44 → F (decide (a45 = true)) σ44)))))) : k_Wk_holds nl Ln xs (d + 1) this p0 p1 σ F := by
  obtain ⟨j0, j1, j4, j5, j7, j10, j11, j12, j13, j16, j60, j61, j64, j132, j133, j134, j137, j138, j139, j140, j143, j146, j147, j150, j151, j152, j153, j154, j157, j158, j161, j162, j163, j166, j167, j170, j171, j172, j173, j176, j179, j182, j183, j186, j189, j190, j193, j194, j195, j196, j199, j202, j203, j206, j209, j210, j211, j214, j217, j218, j221, j222, j223, j224, j227, j230, j231, j234, j237, j238, j239, j242, j244, j247, j248, j249, j252, j254, j255, j256, j259, j262, j263, j266, j267, -⟩ := P_Wk_holds nl Ln xs
  have elo : am_lo 4 [am_ov (some this), am_ov p0, .int p1] = [some (am_ov (some this)), some (am_ov p0), some (.int p1), none] := by simp only [am_lo, am_in_ov, am_in_int, am_in_long, am_in_nil]; rfl
  unfold k_Wk_holds
  rw [elo]
  refine s_aload_n j0 rfl rfl ?_
  refine s_ifnull j1 rfl rfl (fun hc1 => ?_) (fun hc1 => ?_)
  · replace h := h.1 hc1
    refine s_iconst j10 rfl kc_ic_0 ?_
    exact s_retZ0 j11 rfl h
  · replace h := h.2 hc1
    refine s_iload_n j4 rfl rfl ?_
    refine s_bipush j5 rfl kc_bi_64 ?_
    refine s_icn j7 rfl rfl am_cc_le (fun hc2 => ?_) (fun hc2 => ?_)
    · replace h := h.2 hc2
      refine s_aload_n j12 rfl rfl ?_
      obtain ⟨ho3, h⟩ := h
      refine s_gfI j13 rfl ho3 ?_
      by_cases hr50 : (am_fI σ 8000 (p0.getD 0)).toInt < 12 ∨ 18 < (am_fI σ 8000 (p0.getD 0)).toInt
      · refine s_tsw j16 (t := 238) ((am_sw_out hr50).trans rfl) ?_
        replace h := h.2.2.2.2.2.2 hr50
        refine s_aload_n j238 rfl rfl ?_
        refine s_gfI j239 rfl ho3 ?_
        refine s_bipush j242 rfl kc_bi_25 ?_
        refine s_ic j244 rfl rfl am_cc_eq (fun hc42 => ?_) (fun hc42 => ?_)
        · replace h := h.1 hc42
          refine s_iconst j262 rfl kc_ic_1 ?_
          refine s_goto j263 rfl rfl ?_
          exact s_retZ1 j267 rfl h
        · replace h := h.2 hc42
          refine s_aload_n j247 rfl rfl ?_
          refine s_aload_n j248 rfl rfl ?_
          refine s_gfI j249 rfl ho3 ?_
          refine s_bipush j252 rfl kc_bi_20 ?_
          refine s_g j254 rfl rfl rfl rfl rfl rfl ?_
          refine s_iconst j255 rfl kc_ic_0 ?_
          obtain ⟨ho43, h⟩ := h
          refine s_virt j256 rfl rfl rfl rfl ho43 (by decide) (in_Wk_lossIs _ _ _) (am_r8 rfl) (am_bB h (fun a45 σ44 h hx44 => ?_))
          replace h := h hx44
          have K47 : ∀ (w48 : Int32), w48 = (if a45 = true then (1 : Int32) else 0) → am_C (TT nl Ln xs) (d + 1) 42 267 [some (am_ov (some this)), some (am_ov p0), some (.int p1), none] [.int w48] σ44 (am_qB F) := by
            intro w48 hw49
            subst hw49
            exact s_retZ j267 rfl h
          refine s_ifn j259 rfl rfl am_cb_eq (fun hc46 => ?_) (fun hc46 => ?_)
          · refine s_iconst j266 rfl kc_ic_0 ?_
            exact K47 _ (am_e0 (Iff.trans Iff.rfl (am_p10 hc46)))
          · refine s_iconst j262 rfl kc_ic_1 ?_
            refine s_goto j263 rfl rfl ?_
            exact K47 _ (am_e1 (Iff.trans Iff.rfl (am_p9 hc46)))
      · obtain ⟨k51, hk52, hv53⟩ := am_sw_in hr50
        have hk522 : k51 < 7 := by omega
        clear hk52
        match k51, hk522, hv53 with
        | 0, _, hv53 =>
          have hs : (am_fI σ 8000 (p0.getD 0)) = (12 : Int32) := am_te hv53 (by decide)
          refine s_tsw j16 (t := 60) (by show am_sw 16 222 12 18 #[44, 44, 116, 136, 156, 179, 207] (am_fI σ 8000 (p0.getD 0)).toInt = _; rw [hv53]; rfl) ?_
          replace h := h.1 (Or.inl hs)
          refine s_aload_n j60 rfl rfl ?_
          refine s_gfR j61 rfl ho3 ?_
          refine s_astore_nV j64 rfl (n := 4) (L' := fun w => [some (am_ov (some this)), some (am_ov p0), some (.int p1), some (am_ov w)]) rfl (by decide) (fun _ => rfl) (fun v4 hv5 => ?_)
          replace h := h v4 hv5
          exact h
        | 1, _, hv53 =>
          have hs : (am_fI σ 8000 (p0.getD 0)) = (13 : Int32) := am_te hv53 (by decide)
          refine s_tsw j16 (t := 60) (by show am_sw 16 222 12 18 #[44, 44, 116, 136, 156, 179, 207] (am_fI σ 8000 (p0.getD 0)).toInt = _; rw [hv53]; rfl) ?_
          replace h := h.1 (Or.inr hs)
          refine s_aload_n j60 rfl rfl ?_
          refine s_gfR j61 rfl ho3 ?_
          refine s_astore_nV j64 rfl (n := 4) (L' := fun w => [some (am_ov (some this)), some (am_ov p0), some (.int p1), some (am_ov w)]) rfl (by decide) (fun _ => rfl) (fun v4 hv5 => ?_)
          replace h := h v4 hv5
          exact h
        | 2, _, hv53 =>
          have hs : (am_fI σ 8000 (p0.getD 0)) = (14 : Int32) := am_te hv53 (by decide)
          refine s_tsw j16 (t := 132) (by show am_sw 16 222 12 18 #[44, 44, 116, 136, 156, 179, 207] (am_fI σ 8000 (p0.getD 0)).toInt = _; rw [hv53]; rfl) ?_
          replace h := h.2.1 hs
          refine s_aload_n j132 rfl rfl ?_
          refine s_aload_n j133 rfl rfl ?_
          refine s_gfR j134 rfl ho3 ?_
          refine s_iload_n j137 rfl rfl ?_
          refine s_iconst j138 rfl kc_ic_1 ?_
          refine s_g j139 rfl rfl rfl rfl rfl rfl ?_
          obtain ⟨ho6, h⟩ := h
          refine s_virt j140 rfl rfl rfl rfl ho6 (by decide) (in_Wk_holds _ _ _) (am_r8 rfl) (am_bB h (fun a8 σ7 h hx7 => ?_))
          replace h := h hx7
          have K10 : ∀ (w11 : Int32), w11 = (if ¬ (a8 = true) then (1 : Int32) else 0) → am_C (TT nl Ln xs) (d + 1) 42 151 [some (am_ov (some this)), some (am_ov p0), some (.int p1), none] [.int w11] σ7 (am_qB F) := by
            intro w11 hw12
            subst hw12
            exact s_retZ j151 rfl h
          refine s_if j143 rfl rfl am_cb_ne (fun hc9 => ?_) (fun hc9 => ?_)
          · refine s_iconst j150 rfl kc_ic_0 ?_
            exact K10 _ (am_e0 (Iff.trans Iff.rfl (am_p11 hc9)))
          · refine s_iconst j146 rfl kc_ic_1 ?_
            refine s_goto j147 rfl rfl ?_
            exact K10 _ (am_e1 (Iff.trans Iff.rfl (am_p12 hc9)))
        | 3, _, hv53 =>
          have hs : (am_fI σ 8000 (p0.getD 0)) = (15 : Int32) := am_te hv53 (by decide)
          refine s_tsw j16 (t := 152) (by show am_sw 16 222 12 18 #[44, 44, 116, 136, 156, 179, 207] (am_fI σ 8000 (p0.getD 0)).toInt = _; rw [hv53]; rfl) ?_
          replace h := h.2.2.1 hs
          refine s_aload_n j152 rfl rfl ?_
          refine s_iconst j153 rfl kc_ic_0 ?_
          obtain ⟨ho13, h⟩ := h
          refine s_virt j154 rfl rfl rfl rfl ho13 (by decide) (in_Wk_sumOfMoney _ _) (am_r8 rfl) (am_bL h (fun a15 σ14 h hx14 => ?_))
          replace h := h hx14
          refine s_aload_n j157 rfl rfl ?_
          refine s_gfI j158 rfl (am_is_ext hx14 ho3) ?_
          refine s_g j161 rfl rfl rfl rfl rfl rfl ?_
          refine s_g j162 rfl rfl rfl rfl rfl rfl ?_
          have K17 : ∀ (w18 : Int32), w18 = (if (am_fI σ14 8001 (p0.getD 0)).toInt64 < a15 then (1 : Int32) else 0) → am_C (TT nl Ln xs) (d + 1) 42 171 [some (am_ov (some this)), some (am_ov p0), some (.int p1), none] [.int w18] σ14 (am_qB F) := by
            intro w18 hw19
            subst hw19
            exact s_retZ j171 rfl h
          refine s_ifn j163 rfl rfl am_cl_le (fun hc16 => ?_) (fun hc16 => ?_)
          · refine s_iconst j170 rfl kc_ic_0 ?_
            exact K17 _ (am_e0 (Iff.trans Iff.rfl (am_p10 hc16)))
          · refine s_iconst j166 rfl kc_ic_1 ?_
            refine s_goto j167 rfl rfl ?_
            exact K17 _ (am_e1 (Iff.trans Iff.rfl (am_p9 hc16)))
        | 4, _, hv53 =>
          have hs : (am_fI σ 8000 (p0.getD 0)) = (16 : Int32) := am_te hv53 (by decide)
          refine s_tsw j16 (t := 172) (by show am_sw 16 222 12 18 #[44, 44, 116, 136, 156, 179, 207] (am_fI σ 8000 (p0.getD 0)).toInt = _; rw [hv53]; rfl) ?_
          replace h := h.2.2.2.1 hs
          refine s_aload_n j172 rfl rfl ?_
          obtain ⟨ho20, h⟩ := h
          refine s_gfR j173 rfl ho20 ?_
          obtain ⟨ho21, h⟩ := h
          refine s_virt j176 rfl rfl rfl rfl ho21 (by decide) (in_Ls_base _) (am_r8 rfl) (am_bR h (fun a23 σ22 h hx22 => ?_))
          replace h := h hx22
          obtain ⟨ho24, h⟩ := h
          refine s_gfI j179 rfl ho24 ?_
          refine s_aload_n j182 rfl rfl ?_
          refine s_gfI j183 rfl (am_is_ext hx22 ho3) ?_
          have K26 : ∀ (w27 : Int32), w27 = (if (am_fI σ22 8001 (p0.getD 0)) < (am_fI σ22 10007 (a23.getD 0)) then (1 : Int32) else 0) → am_C (TT nl Ln xs) (d + 1) 42 194 [some (am_ov (some this)), some (am_ov p0), some (.int p1), none] [.int w27] σ22 (am_qB F) := by
            intro w27 hw28
            subst hw28
            exact s_retZ j194 rfl h
          refine s_icn j186 rfl rfl am_cc_le (fun hc25 => ?_) (fun hc25 => ?_)
          · refine s_iconst j193 rfl kc_ic_0 ?_
            exact K26 _ (am_e0 (Iff.trans Iff.rfl (am_p10 hc25)))
          · refine s_iconst j189 rfl kc_ic_1 ?_
            refine s_goto j190 rfl rfl ?_
            exact K26 _ (am_e1 (Iff.trans Iff.rfl (am_p9 hc25)))
        | 5, _, hv53 =>
          have hs : (am_fI σ 8000 (p0.getD 0)) = (17 : Int32) := am_te hv53 (by decide)
          refine s_tsw j16 (t := 195) (by show am_sw 16 222 12 18 #[44, 44, 116, 136, 156, 179, 207] (am_fI σ 8000 (p0.getD 0)).toInt = _; rw [hv53]; rfl) ?_
          replace h := h.2.2.2.2.1 hs
          refine s_aload_n j195 rfl rfl ?_
          obtain ⟨ho29, h⟩ := h
          refine s_gfR j196 rfl ho29 ?_
          obtain ⟨ho30, h⟩ := h
          refine s_gfI j199 rfl ho30 ?_
          refine s_aload_n j202 rfl rfl ?_
          refine s_gfR j203 rfl ho29 ?_
          obtain ⟨ho31, h⟩ := h
          refine s_gfI j206 rfl ho31 ?_
          refine s_g j209 rfl rfl rfl rfl rfl rfl ?_
          refine s_aload_n j210 rfl rfl ?_
          refine s_gfI j211 rfl ho3 ?_
          have K33 : ∀ (w34 : Int32), w34 = (if (am_fI σ 8001 (p0.getD 0)) < ((am_fI σ 11003 ((am_fR σ 2004 this).getD 0)) - (am_fI σ 10002 ((am_fR σ 2005 this).getD 0))) then (1 : Int32) else 0) → am_C (TT nl Ln xs) (d + 1) 42 222 [some (am_ov (some this)), some (am_ov p0), some (.int p1), none] [.int w34] σ (am_qB F) := by
            intro w34 hw35
            subst hw35
            exact s_retZ j222 rfl h
          refine s_icn j214 rfl rfl am_cc_le (fun hc32 => ?_) (fun hc32 => ?_)
          · refine s_iconst j221 rfl kc_ic_0 ?_
            exact K33 _ (am_e0 (Iff.trans Iff.rfl (am_p10 hc32)))
          · refine s_iconst j217 rfl kc_ic_1 ?_
            refine s_goto j218 rfl rfl ?_
            exact K33 _ (am_e1 (Iff.trans Iff.rfl (am_p9 hc32)))
        | 6, _, hv53 =>
          have hs : (am_fI σ 8000 (p0.getD 0)) = (18 : Int32) := am_te hv53 (by decide)
          refine s_tsw j16 (t := 223) (by show am_sw 16 222 12 18 #[44, 44, 116, 136, 156, 179, 207] (am_fI σ 8000 (p0.getD 0)).toInt = _; rw [hv53]; rfl) ?_
          replace h := h.2.2.2.2.2.1 hs
          refine s_aload_n j223 rfl rfl ?_
          obtain ⟨ho36, h⟩ := h
          refine s_gfR j224 rfl ho36 ?_
          obtain ⟨ho37, h⟩ := h
          refine s_virt j227 rfl rfl rfl rfl ho37 (by decide) (in_Ls_base _) (am_r8 rfl) (am_bR h (fun a39 σ38 h hx38 => ?_))
          replace h := h hx38
          refine s_aload_n j230 rfl rfl ?_
          refine s_gfI j231 rfl (am_is_ext hx38 ho3) ?_
          refine s_stat j234 rfl rfl rfl rfl (by decide) (in_Wk_hasSort _ _) (am_r8 rfl) (am_bB h (fun a41 σ40 h hx40 => ?_))
          replace h := h hx40
          exact s_retZ j237 rfl h
        | n + 7, hk522, _ => exact absurd hk522 (by omega)
    · replace h := h.1 hc2
      refine s_iconst j10 rfl kc_ic_0 ?_
      exact s_retZ0 j11 rfl h
theorem P_Wk_holds_65 (nl : Bool) (Ln : Nat) (xs : Nat → Int32) : am_Jl (TT nl Ln xs) 42 [(65, .aload_n 3, 66, []), (66, .ifnull 51, 69, []), (69, .aload_n 0, 70, []), (70, .aload_n 3, 71, []), (71, .iload_n 2, 72, []), (72, .iconst 1, 73, []), (73, .iadd, 74, []), (74, .invokevirtual 302, 77, [10, 42, 3, 4, 3]), (77, .aload_n 1, 78, []), (78, .getfield 297, 81, [9, 8, 0, 0]), (81, .bipush 12, 83, []), (83, .if_icmp .ne 7, 86, []), (86, .iconst 1, 87, []), (87, .goto 4, 90, []), (90, .iconst 0, 91, []), (91, .if_icmp .ne 18, 94, []), (94, .aload_n 1, 95, []), (95, .getfield 297, 98, [9, 8, 0, 0]), (98, .bipush 12, 100, []), (100, .if_icmp .ne 7, 103, []), (103, .iconst 1, 104, []), (104, .goto 4, 107, []), (107, .iconst 0, 108, []), (108, .ireturn, 109, [4]), (109, .aload_n 3, 110, []), (110, .getfield 306, 113, [9, 8, 3, 2]), (113, .astore_n 3, 114, []), (114, .goto (-49), 117, []), (117, .aload_n 1, 118, []), (118, .getfield 297, 121, [9, 8, 0, 0]), (121, .bipush 13, 123, []), (123, .if_icmp .ne 7, 126, []), (126, .iconst 1, 127, []), (127, .goto 4, 130, []), (130, .iconst 0, 131, []), (131, .ireturn, 132, [4])] := dk_ck (by decide +kernel)
set_option maxRecDepth 4096 in
theorem w_Wk_holds_65 {nl : Bool} {Ln : Nat} {xs : Nat → Int32} {d : Nat} {this : Nat} {x1 : Option Nat} {x2 : Int32} {x3 : Option Nat} {σ : am_S} {F : Bool → am_S → Prop} (h : (x3 = none → (am_is σ x1 8) ∧ F (decide ((am_fI σ 8000 (x1.getD 0)) = (13 : Int32))) σ) ∧ (¬ (x3 = none) → (am_is σ (some this) 2) ∧ k_Wk_holds nl Ln xs d this x3 (x2 + (1 : Int32)) σ (fun a9 σ8 => am_ext σ σ8 → (am_is σ8 x1 8) ∧ ((if a9 = true then (1 : Int32) else 0) = (if (am_fI σ8 8000 (x1.getD 0)) = (12 : Int32) then (1 : Int32) else 0) → F (decide ((am_fI σ8 8000 (x1.getD 0)) = (12 : Int32))) σ8) ∧ (¬ ((if a9 = true then (1 : Int32) else 0) = (if (am_fI σ8 8000 (x1.getD 0)) = (12 : Int32) then (1 : Int32) else 0)) → (am_is σ8 x3 8) ∧ ∀ v21 : Option Nat, v21 = (am_fR σ8 8003 (x3.getD 0)) → c_Wk_holds_65 nl Ln xs (d + 1) this x1 x2 v21 σ8 F)))) : c_Wk_holds_65 nl Ln xs (d + 1) this x1 x2 x3 σ F := by
  obtain ⟨j65, j66, j69, j70, j71, j72, j73, j74, j77, j78, j81, j83, j86, j87, j90, j91, j94, j95, j98, j100, j103, j104, j107, j108, j109, j110, j113, j114, j117, j118, j121, j123, j126, j127, j130, j131, -⟩ := P_Wk_holds_65 nl Ln xs
  unfold c_Wk_holds_65
  refine s_aload_n j65 rfl rfl ?_
  refine s_ifnull j66 rfl rfl (fun hc1 => ?_) (fun hc1 => ?_)
  · replace h := h.1 hc1
    refine s_aload_n j117 rfl rfl ?_
    obtain ⟨ho2, h⟩ := h
    refine s_gfI j118 rfl ho2 ?_
    refine s_bipush j121 rfl kc_bi_13 ?_
    have K4 : ∀ (w5 : Int32), w5 = (if (am_fI σ 8000 (x1.getD 0)) = (13 : Int32) then (1 : Int32) else 0) → am_C (TT nl Ln xs) (d + 1) 42 131 [some (am_ov (some this)), some (am_ov x1), some (.int x2), some (am_ov x3)] [.int w5] σ (am_qB F) := by
      intro w5 hw6
      subst hw6
      exact s_retZ j131 rfl h
    refine s_icn j123 rfl rfl am_cc_ne (fun hc3 => ?_) (fun hc3 => ?_)
    · refine s_iconst j130 rfl kc_ic_0 ?_
      exact K4 _ (am_e0 (Iff.trans Iff.rfl (am_p10 hc3)))
    · refine s_iconst j126 rfl kc_ic_1 ?_
      refine s_goto j127 rfl rfl ?_
      exact K4 _ (am_e1 (Iff.trans Iff.rfl (am_p9 hc3)))
  · replace h := h.2 hc1
    refine s_aload_n j69 rfl rfl ?_
    refine s_aload_n j70 rfl rfl ?_
    refine s_iload_n j71 rfl rfl ?_
    refine s_iconst j72 rfl kc_ic_1 ?_
    refine s_g j73 rfl rfl rfl rfl rfl rfl ?_
    obtain ⟨ho7, h⟩ := h
    refine s_virt j74 rfl rfl rfl rfl ho7 (by decide) (in_Wk_holds _ _ _) (am_r8 rfl) (am_bB h (fun a9 σ8 h hx8 => ?_))
    replace h := h hx8
    refine s_aload_n j77 rfl rfl ?_
    obtain ⟨ho10, h⟩ := h
    refine s_gfI j78 rfl ho10 ?_
    refine s_bipush j81 rfl kc_bi_12 ?_
    have K12 : ∀ (w13 : Int32), w13 = (if (am_fI σ8 8000 (x1.getD 0)) = (12 : Int32) then (1 : Int32) else 0) → am_C (TT nl Ln xs) (d + 1) 42 91 [some (am_ov (some this)), some (am_ov x1), some (.int x2), some (am_ov x3)] [.int w13, .int (if a9 = true then (1 : Int32) else 0)] σ8 (am_qB F) := by
      intro w13 hw14
      subst hw14
      refine s_icn j91 rfl rfl am_cc_ne (fun hc15 => ?_) (fun hc15 => ?_)
      · replace h := h.2 hc15
        refine s_aload_n j109 rfl rfl ?_
        obtain ⟨ho20, h⟩ := h
        refine s_gfR j110 rfl ho20 ?_
        refine s_astore_nV j113 rfl (n := 4) (L' := fun w => [some (am_ov (some this)), some (am_ov x1), some (.int x2), some (am_ov w)]) rfl (by decide) (fun _ => rfl) (fun v21 hv22 => ?_)
        replace h := h v21 hv22
        refine s_goto j114 rfl rfl ?_
        exact h
      · replace h := h.1 hc15
        refine s_aload_n j94 rfl rfl ?_
        refine s_gfI j95 rfl ho10 ?_
        refine s_bipush j98 rfl kc_bi_12 ?_
        have K17 : ∀ (w18 : Int32), w18 = (if (am_fI σ8 8000 (x1.getD 0)) = (12 : Int32) then (1 : Int32) else 0) → am_C (TT nl Ln xs) (d + 1) 42 108 [some (am_ov (some this)), some (am_ov x1), some (.int x2), some (am_ov x3)] [.int w18] σ8 (am_qB F) := by
          intro w18 hw19
          subst hw19
          exact s_retZ j108 rfl h
        refine s_icn j100 rfl rfl am_cc_ne (fun hc16 => ?_) (fun hc16 => ?_)
        · refine s_iconst j107 rfl kc_ic_0 ?_
          exact K17 _ (am_e0 (Iff.trans Iff.rfl (am_p10 hc16)))
        · refine s_iconst j103 rfl kc_ic_1 ?_
          refine s_goto j104 rfl rfl ?_
          exact K17 _ (am_e1 (Iff.trans Iff.rfl (am_p9 hc16)))
    refine s_icn j83 rfl rfl am_cc_ne (fun hc11 => ?_) (fun hc11 => ?_)
    · refine s_iconst j90 rfl kc_ic_0 ?_
      exact K12 _ (am_e0 (Iff.trans Iff.rfl (am_p10 hc11)))
    · refine s_iconst j86 rfl kc_ic_1 ?_
      refine s_goto j87 rfl rfl ?_
      exact K12 _ (am_e1 (Iff.trans Iff.rfl (am_p9 hc11)))
theorem P_Wk_sumOfMoney (nl : Bool) (Ln : Nat) (xs : Nat → Int32) : am_Jl (TT nl Ln xs) 43 [(0, .lconst 0, 1, []), (1, .lstore_n 2, 2, []), (2, .iload_n 1, 3, []), (3, .istore 4, 5, [])] := dk_ck (by decide +kernel)
set_option maxRecDepth 4096 in
theorem w_Wk_sumOfMoney {nl : Bool} {Ln : Nat} {xs : Nat → Int32} {d : Nat} {this : Nat} {p0 : Int32} {σ : am_S} {F : Int64 → am_S → Prop} (h : c_Wk_sumOfMoney_5 nl Ln xs (d + 1) this p0 (0 : Int64) p0 σ F) : k_Wk_sumOfMoney nl Ln xs (d + 1) this p0 σ F := by
  obtain ⟨j0, j1, j2, j3, -⟩ := P_Wk_sumOfMoney nl Ln xs
  have elo : am_lo 5 [am_ov (some this), .int p0] = [some (am_ov (some this)), some (.int p0), none, none, none] := by simp only [am_lo, am_in_ov, am_in_int, am_in_long, am_in_nil]; rfl
  unfold k_Wk_sumOfMoney
  rw [elo]
  refine s_lconst j0 rfl rfl ?_
  refine s_lstore_n j1 rfl (n := 5) (L' := [some (am_ov (some this)), some (.int p0), some (.long (0 : Int64)), none, none]) rfl (by decide) rfl ?_
  refine s_iload_n j2 rfl rfl ?_
  refine s_istore j3 rfl (n := 5) (L' := [some (am_ov (some this)), some (.int p0), some (.long (0 : Int64)), none, some (.int p0)]) rfl (by decide) rfl ?_
  exact h
theorem P_Wk_sumOfMoney_5 (nl : Bool) (Ln : Nat) (xs : Nat → Int32) : am_Jl (TT nl Ln xs) 43 [(5, .iload 4, 7, []), (7, .aload_n 0, 8, []), (8, .getfield 18, 11, [9, 2, 13, 2]), (11, .arraylength, 12, []), (12, .if_icmp .ge 19, 15, []), (15, .lload_n 2, 16, []), (16, .aload_n 0, 17, []), (17, .getfield 18, 20, [9, 2, 13, 2]), (20, .iload 4, 22, []), (22, .laload, 23, []), (23, .ladd, 24, []), (24, .lstore_n 2, 25, []), (25, .iinc 4 2, 28, []), (28, .goto (-23), 31, []), (31, .lload_n 2, 32, []), (32, .lreturn, 33, [2])] := dk_ck (by decide +kernel)
set_option maxRecDepth 4096 in
theorem w_Wk_sumOfMoney_5 {nl : Bool} {Ln : Nat} {xs : Nat → Int32} {d : Nat} {this : Nat} {x1 : Int32} {x2 : Int64} {x4 : Int32} {σ : am_S} {F : Int64 → am_S → Prop} (h : (am_is σ (some this) 2) ∧ (∃ n, (am_fR σ 2013 this) = some n ∧ (am_kd σ n).1 = 1001) ∧ (x4 < (Int32.ofNat (am_kd σ ((am_fR σ 2013 this).getD 0)).2) → (am_ar σ 1001 (am_fR σ 2013 this) x4) ∧ ∀ v5 : Int64, v5 = (x2 + (am_aL σ ((am_fR σ 2013 this).getD 0) x4.toNatClampNeg)) → c_Wk_sumOfMoney_5 nl Ln xs (d + 1) this x1 v5 (x4 + (2 : Int32)) σ F) ∧ (¬ (x4 < (Int32.ofNat (am_kd σ ((am_fR σ 2013 this).getD 0)).2)) → F x2 σ)) : c_Wk_sumOfMoney_5 nl Ln xs (d + 1) this x1 x2 x4 σ F := by
  obtain ⟨j5, j7, j8, j11, j12, j15, j16, j17, j20, j22, j23, j24, j25, j28, j31, j32, -⟩ := P_Wk_sumOfMoney_5 nl Ln xs
  unfold c_Wk_sumOfMoney_5
  refine s_iload j5 rfl rfl ?_
  refine s_aload_n j7 rfl rfl ?_
  obtain ⟨ho1, h⟩ := h
  refine s_gfR j8 rfl ho1 ?_
  obtain ⟨ho2, h⟩ := h
  refine s_len (k := 1001) kn_1001 (by decide) j11 rfl ho2 ?_
  refine s_icn j12 rfl rfl am_cc_ge (fun hc3 => ?_) (fun hc3 => ?_)
  · replace h := h.2 hc3
    refine s_lload_n j31 rfl rfl ?_
    exact s_retL j32 rfl h
  · replace h := h.1 hc3
    refine s_lload_n j15 rfl rfl ?_
    refine s_aload_n j16 rfl rfl ?_
    refine s_gfR j17 rfl ho1 ?_
    refine s_iload j20 rfl rfl ?_
    obtain ⟨ho4, h⟩ := h
    refine s_laload j22 rfl ho4 ?_
    refine s_g j23 rfl rfl rfl rfl rfl rfl ?_
    refine s_lstore_nV j24 rfl (n := 5) (L' := fun w => [some (am_ov (some this)), some (.int x1), some (.long w), none, some (.int x4)]) rfl (by decide) (fun _ => rfl) (fun v5 hv6 => ?_)
    replace h := h v5 hv6
    refine s_iinc (L' := [some (am_ov (some this)), some (.int x1), some (.long v5), none, some (.int (x4 + (2 : Int32)))]) j25 rfl rfl kc_ic_2 rfl ?_
    refine s_goto j28 rfl rfl ?_
    exact h
theorem P_Wk_hasSort (nl : Bool) (Ln : Nat) (xs : Nat → Int32) : am_Jl (TT nl Ln xs) 44 [(0, .iconst 0, 1, []), (1, .istore_n 2, 2, [])] := dk_ck (by decide +kernel)
set_option maxRecDepth 4096 in
theorem w_Wk_hasSort {nl : Bool} {Ln : Nat} {xs : Nat → Int32} {d : Nat} {p0 : Option Nat} {p1 : Int32} {σ : am_S} {F : Bool → am_S → Prop} (h : c_Wk_hasSort_2 nl Ln xs (d + 1) p0 p1 (0 : Int32) σ F) : k_Wk_hasSort nl Ln xs (d + 1) p0 p1 σ F := by
  obtain ⟨j0, j1, -⟩ := P_Wk_hasSort nl Ln xs
  have elo : am_lo 3 [am_ov p0, .int p1] = [some (am_ov p0), some (.int p1), none] := by simp only [am_lo, am_in_ov, am_in_int, am_in_long, am_in_nil]; rfl
  unfold k_Wk_hasSort
  rw [elo]
  refine s_iconst j0 rfl kc_ic_0 ?_
  refine s_istore_n j1 rfl (n := 3) (L' := [some (am_ov p0), some (.int p1), some (.int (0 : Int32))]) rfl (by decide) rfl ?_
  exact h
theorem P_Wk_hasSort_2 (nl : Bool) (Ln : Nat) (xs : Nat → Int32) : am_Jl (TT nl Ln xs) 44 [(2, .iload_n 2, 3, []), (3, .aload_n 0, 4, []), (4, .getfield 268, 7, [9, 10, 7, 0]), (7, .if_icmp .ge 21, 10, []), (10, .aload_n 0, 11, []), (11, .getfield 284, 14, [9, 10, 5, 2]), (14, .iload_n 2, 15, []), (15, .iaload, 16, []), (16, .iload_n 1, 17, []), (17, .if_icmp .ne 5, 20, []), (20, .iconst 1, 21, []), (21, .ireturn, 22, [4]), (22, .iinc 2 1, 25, []), (25, .goto (-23), 28, []), (28, .iconst 0, 29, []), (29, .ireturn, 30, [4])] := dk_ck (by decide +kernel)
set_option maxRecDepth 4096 in
theorem w_Wk_hasSort_2 {nl : Bool} {Ln : Nat} {xs : Nat → Int32} {d : Nat} {x0 : Option Nat} {x1 : Int32} {x2 : Int32} {σ : am_S} {F : Bool → am_S → Prop} (h : (am_is σ x0 10) ∧ (x2 < (am_fI σ 10007 (x0.getD 0)) → (am_ar σ 1000 (am_fR σ 10005 (x0.getD 0)) x2) ∧ ((am_aI σ ((am_fR σ 10005 (x0.getD 0)).getD 0) x2.toNatClampNeg) = x1 → F true σ) ∧ (¬ ((am_aI σ ((am_fR σ 10005 (x0.getD 0)).getD 0) x2.toNatClampNeg) = x1) → c_Wk_hasSort_2 nl Ln xs (d + 1) x0 x1 (x2 + (1 : Int32)) σ F)) ∧ (¬ (x2 < (am_fI σ 10007 (x0.getD 0))) → F false σ)) : c_Wk_hasSort_2 nl Ln xs (d + 1) x0 x1 x2 σ F := by
  obtain ⟨j2, j3, j4, j7, j10, j11, j14, j15, j16, j17, j20, j21, j22, j25, j28, j29, -⟩ := P_Wk_hasSort_2 nl Ln xs
  unfold c_Wk_hasSort_2
  refine s_iload_n j2 rfl rfl ?_
  refine s_aload_n j3 rfl rfl ?_
  obtain ⟨ho1, h⟩ := h
  refine s_gfI j4 rfl ho1 ?_
  refine s_icn j7 rfl rfl am_cc_ge (fun hc2 => ?_) (fun hc2 => ?_)
  · replace h := h.2 hc2
    refine s_iconst j28 rfl kc_ic_0 ?_
    exact s_retZ0 j29 rfl h
  · replace h := h.1 hc2
    refine s_aload_n j10 rfl rfl ?_
    refine s_gfR j11 rfl ho1 ?_
    refine s_iload_n j14 rfl rfl ?_
    obtain ⟨ho3, h⟩ := h
    refine s_iaload j15 rfl ho3 ?_
    refine s_iload_n j16 rfl rfl ?_
    refine s_icn j17 rfl rfl am_cc_ne (fun hc4 => ?_) (fun hc4 => ?_)
    · replace h := h.2 hc4
      refine s_iinc (L' := [some (am_ov x0), some (.int x1), some (.int (x2 + (1 : Int32)))]) j22 rfl rfl kc_ic_1 rfl ?_
      refine s_goto j25 rfl rfl ?_
      exact h
    · replace h := h.1 hc4
      refine s_iconst j20 rfl kc_ic_1 ?_
      exact s_retZ1 j21 rfl h
theorem P_Wk_waitRow (nl : Bool) (Ln : Nat) (xs : Nat → Int32) : am_Jl (TT nl Ln xs) 45 [(0, .aload_n 0, 1, []), (1, .iconst 1, 2, []), (2, .getstatic 160, 5, [7, 505, 0]), (5, .aload_n 0, 6, []), (6, .getfield 163, 9, [9, 2, 6, 2]), (9, .getfield 167, 12, [9, 9, 1, 0]), (12, .iaload, 13, []), (13, .aload_n 0, 14, []), (14, .getfield 124, 17, [9, 2, 5, 2]), (17, .lconst 0, 18, []), (18, .iconst 0, 19, []), (19, .invokevirtual 144, 22, [10, 36, 3, 15, 6]), (22, .lstore_n 1, 23, []), (23, .lload_n 1, 24, []), (24, .aload_n 0, 25, []), (25, .bipush 6, 27, []), (27, .lconst 0, 28, []), (28, .invokevirtual 57, 31, [10, 34, 3, 5, 3]), (31, .invokestatic 65, 34, [12, 46, 4, 2]), (34, .l2i, 35, []), (35, .istore_n 3, 36, []), (36, .aload_n 0, 37, []), (37, .getfield 124, 40, [9, 2, 5, 2]), (40, .getfield 200, 43, [9, 10, 2, 0]), (43, .aload_n 0, 44, []), (44, .getfield 163, 47, [9, 2, 6, 2]), (47, .getfield 287, 50, [9, 9, 2, 0]), (50, .iload_n 3, 51, []), (51, .iadd, 52, []), (52, .if_icmp .ge 9, 55, []), (55, .aload_n 0, 56, []), (56, .iconst 2, 57, []), (57, .iload_n 3, 58, []), (58, .invokevirtual 293, 61, [10, 41, 3, 3, 3]), (61, .return_, 62, [0])] := dk_ck (by decide +kernel)
set_option maxRecDepth 4096 in
theorem w_Wk_waitRow {nl : Bool} {Ln : Nat} {xs : Nat → Int32} {d : Nat} {this : Nat} {σ : am_S} {F : am_S → Prop} (h : (am_is σ (some this) 2) ∧ (am_is σ (am_fR σ 2006 this) 9) ∧ ((am_kd σ 505).1 = 0) ∧ (0 ≤ (am_fI σ 9001 ((am_fR σ 2006 this).getD 0)).toInt) ∧ ((am_fI σ 9001 ((am_fR σ 2006 this).getD 0)).toInt < am_rl (am_tz (TT nl Ln xs)) 505) ∧ k_Wk_ask nl Ln xs d this (1 : Int32) (am_rv (am_tz (TT nl Ln xs)) 505 (am_fI σ 9001 ((am_fR σ 2006 this).getD 0)).toNatClampNeg) (am_fR σ 2005 this) (0 : Int64) (0 : Int32) σ (fun a7 σ6 => am_ext σ σ6 → k_Wk_numberOf nl Ln xs d this (6 : Int32) (0 : Int64) σ6 (fun a9 σ8 => am_ext σ6 σ8 → k_Math_max nl Ln xs d a7 a9 σ8 (fun a11 σ10 => am_ext σ8 σ10 → ∀ v12 : Int32, v12 = a11.toInt32 → (am_is σ10 (am_fR σ10 2005 this) 10) ∧ (am_is σ10 (am_fR σ10 2006 this) 9) ∧ ((am_fI σ10 10002 ((am_fR σ10 2005 this).getD 0)) < ((am_fI σ10 9002 ((am_fR σ10 2006 this).getD 0)) + v12) → k_Wk_endWith nl Ln xs d this (2 : Int32) v12 σ10 (fun σ17 => am_ext σ10 σ17 → F σ17)) ∧ (¬ ((am_fI σ10 10002 ((am_fR σ10 2005 this).getD 0)) < ((am_fI σ10 9002 ((am_fR σ10 2006 this).getD 0)) + v12)) → F σ10))))) : k_Wk_waitRow nl Ln xs (d + 1) this σ F := by
  obtain ⟨j0, j1, j2, j5, j6, j9, j12, j13, j14, j17, j18, j19, j22, j23, j24, j25, j27, j28, j31, j34, j35, j36, j37, j40, j43, j44, j47, j50, j51, j52, j55, j56, j57, j58, j61, -⟩ := P_Wk_waitRow nl Ln xs
  have elo : am_lo 4 [am_ov (some this)] = [some (am_ov (some this)), none, none, none] := by simp only [am_lo, am_in_ov, am_in_int, am_in_long, am_in_nil]; rfl
  unfold k_Wk_waitRow
  rw [elo]
  refine s_aload_n j0 rfl rfl ?_
  refine s_iconst j1 rfl kc_ic_1 ?_
  refine s_static j2 rfl ?_
  refine s_aload_n j5 rfl rfl ?_
  obtain ⟨ho1, h⟩ := h
  refine s_gfR j6 rfl ho1 ?_
  obtain ⟨ho2, h⟩ := h
  refine s_gfI j9 rfl ho2 ?_
  obtain ⟨ho3, h⟩ := h
  obtain ⟨ho4, h⟩ := h
  obtain ⟨ho5, h⟩ := h
  refine s_ialoadR j12 rfl (by decide) ho3 rfl ho4 ho5 ?_
  refine s_aload_n j13 rfl rfl ?_
  refine s_gfR j14 rfl ho1 ?_
  refine s_lconst j17 rfl rfl ?_
  refine s_iconst j18 rfl kc_ic_0 ?_
  refine s_virt j19 rfl rfl rfl rfl ho1 (by decide) (in_Wk_ask _ _ _ _ _ _) (am_r8 rfl) (am_bL h (fun a7 σ6 h hx6 => ?_))
  replace h := h hx6
  refine s_lstore_n j22 rfl (n := 4) (L' := [some (am_ov (some this)), some (.long a7), none, none]) rfl (by decide) (am_st2_R [] _ _ _ _ _) ?_
  refine s_lload_n j23 rfl rfl ?_
  refine s_aload_n j24 rfl rfl ?_
  refine s_bipush j25 rfl kc_bi_6 ?_
  refine s_lconst j27 rfl rfl ?_
  refine s_virt j28 rfl rfl rfl rfl (am_is_ext hx6 ho1) (by decide) (in_Wk_numberOf _ _ _) (am_r8 rfl) (am_bL h (fun a9 σ8 h hx8 => ?_))
  replace h := h hx8
  refine s_stat j31 rfl rfl rfl rfl (by decide) (in_Math_max _ _) (am_r8 rfl) (am_bL h (fun a11 σ10 h hx10 => ?_))
  replace h := h hx10
  refine s_g j34 rfl rfl rfl rfl rfl rfl ?_
  refine s_istore_nV j35 rfl (n := 4) (L' := fun w => [some (am_ov (some this)), some (.long a7), none, some (.int w)]) rfl (by decide) (fun _ => rfl) (fun v12 hv13 => ?_)
  replace h := h v12 hv13
  refine s_aload_n j36 rfl rfl ?_
  refine s_gfR j37 rfl (am_is_ext hx10 (am_is_ext hx8 (am_is_ext hx6 ho1))) ?_
  obtain ⟨ho14, h⟩ := h
  refine s_gfI j40 rfl ho14 ?_
  refine s_aload_n j43 rfl rfl ?_
  refine s_gfR j44 rfl (am_is_ext hx10 (am_is_ext hx8 (am_is_ext hx6 ho1))) ?_
  obtain ⟨ho15, h⟩ := h
  refine s_gfI j47 rfl ho15 ?_
  refine s_iload_n j50 rfl rfl ?_
  refine s_g j51 rfl rfl rfl rfl rfl rfl ?_
  refine s_icn j52 rfl rfl am_cc_ge (fun hc16 => ?_) (fun hc16 => ?_)
  · replace h := h.2 hc16
    exact s_retV j61 rfl h
  · replace h := h.1 hc16
    refine s_aload_n j55 rfl rfl ?_
    refine s_iconst j56 rfl kc_ic_2 ?_
    refine s_iload_n j57 rfl rfl ?_
    refine s_virt j58 rfl rfl rfl rfl (am_is_ext hx10 (am_is_ext hx8 (am_is_ext hx6 ho1))) (by decide) (in_Wk_endWith _ _ _) (am_r8 rfl) (am_bV h (fun σ17 h hx17 => ?_))
    replace h := h hx17
    exact s_retV j61 rfl h
theorem P_Math_max (nl : Bool) (Ln : Nat) (xs : Nat → Int32) : am_Jl (TT nl Ln xs) 46 [(0, .lload_n 0, 1, []), (1, .lload_n 2, 2, []), (2, .lcmp, 3, []), (3, .ifCond .lt 7, 6, []), (6, .lload_n 0, 7, []), (7, .goto 4, 10, []), (10, .lload_n 2, 11, []), (11, .lreturn, 12, [2])] := dk_ck (by decide +kernel)
set_option maxRecDepth 4096 in
theorem w_Math_max {nl : Bool} {Ln : Nat} {xs : Nat → Int32} {d : Nat} {p0 : Int64} {p1 : Int64} {σ : am_S} {F : Int64 → am_S → Prop} (h : ∀ w3 : Int64, w3 = (if p0 < p1 then p1 else p0) → F w3 σ) : k_Math_max nl Ln xs (d + 1) p0 p1 σ F := by
  obtain ⟨j0, j1, j2, j3, j6, j7, j10, j11, -⟩ := P_Math_max nl Ln xs
  have elo : am_lo 4 [.long p0, .long p1] = [some (.long p0), none, some (.long p1), none] := by simp only [am_lo, am_in_ov, am_in_int, am_in_long, am_in_nil]; rfl
  unfold k_Math_max
  rw [elo]
  refine s_lload_n j0 rfl rfl ?_
  refine s_lload_n j1 rfl rfl ?_
  refine s_g j2 rfl rfl rfl rfl rfl rfl ?_
  have K2 : ∀ (w3 : Int64), w3 = (if p0 < p1 then p1 else p0) → am_C (TT nl Ln xs) (d + 1) 46 11 [some (.long p0), none, some (.long p1), none] [.long w3] σ (am_qL F) := by
    intro w3 hw4
    replace h := h w3 hw4
    exact s_retL j11 rfl h
  refine s_if j3 rfl rfl am_cl_lt (fun hc1 => ?_) (fun hc1 => ?_)
  · refine s_lload_n j10 rfl rfl ?_
    exact K2 _ (am_t1 hc1 rfl)
  · refine s_lload_n j6 rfl rfl ?_
    refine s_goto j7 rfl rfl ?_
    exact K2 _ (am_t2 hc1 rfl)
theorem P_Wk_averageRow (nl : Bool) (Ln : Nat) (xs : Nat → Int32) : am_Jl (TT nl Ln xs) 47 [(0, .aload_n 0, 1, []), (1, .iconst 2, 2, []), (2, .getstatic 160, 5, [7, 505, 0]), (5, .aload_n 0, 6, []), (6, .getfield 163, 9, [9, 2, 6, 2]), (9, .getfield 167, 12, [9, 9, 1, 0]), (12, .iaload, 13, []), (13, .aload_n 0, 14, []), (14, .getfield 124, 17, [9, 2, 5, 2]), (17, .lconst 0, 18, []), (18, .iconst 0, 19, []), (19, .invokevirtual 144, 22, [10, 36, 3, 15, 6]), (22, .lconst 1, 23, []), (23, .lcmp, 24, []), (24, .ifCond .ne 7, 27, []), (27, .iconst 1, 28, []), (28, .goto 4, 31, []), (31, .iconst 0, 32, [])] := dk_ck (by decide +kernel)
set_option maxRecDepth 4096 in
theorem w_Wk_averageRow {nl : Bool} {Ln : Nat} {xs : Nat → Int32} {d : Nat} {this : Nat} {σ : am_S} {F : am_S → Prop} (h : (am_is σ (some this) 2) ∧ (am_is σ (am_fR σ 2006 this) 9) ∧ ((am_kd σ 505).1 = 0) ∧ (0 ≤ (am_fI σ 9001 ((am_fR σ 2006 this).getD 0)).toInt) ∧ ((am_fI σ 9001 ((am_fR σ 2006 this).getD 0)).toInt < am_rl (am_tz (TT nl Ln xs)) 505) ∧ k_Wk_ask nl Ln xs d this (2 : Int32) (am_rv (am_tz (TT nl Ln xs)) 505 (am_fI σ 9001 ((am_fR σ 2006 this).getD 0)).toNatClampNeg) (am_fR σ 2005 this) (0 : Int64) (0 : Int32) σ (fun a7 σ6 => am_ext σ σ6 → c_Wk_averageRow_32 nl Ln xs (d + 1) this (if a7 = (1 : Int64) then (1 : Int32) else 0) σ6 F)) : k_Wk_averageRow nl Ln xs (d + 1) this σ F := by
  obtain ⟨j0, j1, j2, j5, j6, j9, j12, j13, j14, j17, j18, j19, j22, j23, j24, j27, j28, j31, -⟩ := P_Wk_averageRow nl Ln xs
  have elo : am_lo 6 [am_ov (some this)] = [some (am_ov (some this)), none, none, none, none, none] := by simp only [am_lo, am_in_ov, am_in_int, am_in_long, am_in_nil]; rfl
  unfold k_Wk_averageRow
  rw [elo]
  refine s_aload_n j0 rfl rfl ?_
  refine s_iconst j1 rfl kc_ic_2 ?_
  refine s_static j2 rfl ?_
  refine s_aload_n j5 rfl rfl ?_
  obtain ⟨ho1, h⟩ := h
  refine s_gfR j6 rfl ho1 ?_
  obtain ⟨ho2, h⟩ := h
  refine s_gfI j9 rfl ho2 ?_
  obtain ⟨ho3, h⟩ := h
  obtain ⟨ho4, h⟩ := h
  obtain ⟨ho5, h⟩ := h
  refine s_ialoadR j12 rfl (by decide) ho3 rfl ho4 ho5 ?_
  refine s_aload_n j13 rfl rfl ?_
  refine s_gfR j14 rfl ho1 ?_
  refine s_lconst j17 rfl rfl ?_
  refine s_iconst j18 rfl kc_ic_0 ?_
  refine s_virt j19 rfl rfl rfl rfl ho1 (by decide) (in_Wk_ask _ _ _ _ _ _) (am_r8 rfl) (am_bL h (fun a7 σ6 h hx6 => ?_))
  replace h := h hx6
  refine s_lconst j22 rfl rfl ?_
  refine s_g j23 rfl rfl rfl rfl rfl rfl ?_
  have K9 : ∀ (w10 : Int32), w10 = (if a7 = (1 : Int64) then (1 : Int32) else 0) → am_C (TT nl Ln xs) (d + 1) 47 32 [some (am_ov (some this)), none, none, none, none, none] [.int w10] σ6 (am_qV F) := by
    intro w10 hw11
    subst hw11
    exact h
  refine s_ifn j24 rfl rfl am_cl_ne (fun hc8 => ?_) (fun hc8 => ?_)
  · refine s_iconst j31 rfl kc_ic_0 ?_
    exact K9 _ (am_e0 (Iff.trans Iff.rfl (am_p10 hc8)))
  · refine s_iconst j27 rfl kc_ic_1 ?_
    refine s_goto j28 rfl rfl ?_
    exact K9 _ (am_e1 (Iff.trans Iff.rfl (am_p9 hc8)))
theorem P_Wk_averageRow_32 (nl : Bool) (Ln : Nat) (xs : Nat → Int32) : am_Jl (TT nl Ln xs) 47 [(32, .istore_n 1, 33, []), (33, .iload_n 1, 34, []), (34, .ifCond .ne 16, 37, []), (37, .aload_n 0, 38, []), (38, .getfield 181, 41, [9, 2, 7, 2]), (41, .bipush 7, 43, []), (43, .invokestatic 185, 46, [12, 35, 4, 2]), (46, .ifnonnull 4, 49, []), (49, .return_, 50, [0])] := dk_ck (by decide +kernel)
set_option maxRecDepth 4096 in
theorem w_Wk_averageRow_32 {nl : Bool} {Ln : Nat} {xs : Nat → Int32} {d : Nat} {this : Nat} {y0 : Int32} {σ : am_S} {F : am_S → Prop} (h : (y0 = 0 → (am_is σ (some this) 2) ∧ k_Nd_lastOf nl Ln xs d (am_fR σ 2007 this) (7 : Int32) σ (fun a4 σ3 => am_ext σ σ3 → (a4 = none → F σ3) ∧ (¬ (a4 = none) → c_Wk_averageRow_50 nl Ln xs (d + 1) this y0 σ3 F))) ∧ (¬ (y0 = 0) → c_Wk_averageRow_50 nl Ln xs (d + 1) this y0 σ F)) : c_Wk_averageRow_32 nl Ln xs (d + 1) this y0 σ F := by
  obtain ⟨j32, j33, j34, j37, j38, j41, j43, j46, j49, -⟩ := P_Wk_averageRow_32 nl Ln xs
  unfold c_Wk_averageRow_32
  refine s_istore_n j32 rfl (n := 6) (L' := [some (am_ov (some this)), some (.int y0), none, none, none, none]) rfl (by decide) (am_st1_R [] _ _ _ _) ?_
  refine s_iload_n j33 rfl rfl ?_
  refine s_ifn j34 rfl rfl am_cc_ne (fun hc1 => ?_) (fun hc1 => ?_)
  · replace h := h.2 hc1
    exact h
  · replace h := h.1 hc1
    refine s_aload_n j37 rfl rfl ?_
    obtain ⟨ho2, h⟩ := h
    refine s_gfR j38 rfl ho2 ?_
    refine s_bipush j41 rfl kc_bi_7 ?_
    refine s_stat j43 rfl rfl rfl rfl (by decide) (in_Nd_lastOf _ _) (am_r8 rfl) (am_bR h (fun a4 σ3 h hx3 => ?_))
    replace h := h hx3
    refine s_ifnonnull j46 rfl rfl (fun hc5 => ?_) (fun hc5 => ?_)
    · replace h := h.2 hc5
      exact h
    · replace h := h.1 hc5
      exact s_retV j49 rfl h
theorem P_Wk_averageRow_50 (nl : Bool) (Ln : Nat) (xs : Nat → Int32) : am_Jl (TT nl Ln xs) 47 [(50, .aload_n 0, 51, []), (51, .aload_n 0, 52, []), (52, .getfield 83, 55, [9, 2, 11, 1]), (55, .aload_n 0, 56, []), (56, .getfield 218, 59, [9, 2, 10, 1]), (59, .invokevirtual 320, 62, [10, 48, 3, 5, 3]), (62, .lstore_n 2, 63, []), (63, .aload_n 0, 64, []), (64, .iconst 1, 65, []), (65, .invokevirtual 309, 68, [10, 43, 3, 5, 2]), (68, .lstore 4, 70, []), (70, .aload_n 0, 71, []), (71, .getfield 12, 74, [9, 2, 2, 2]), (74, .getfield 49, 77, [9, 3, 7, 3]), (77, .ifCond .ne 18, 80, []), (80, .lload 4, 82, []), (82, .lconst 0, 83, []), (83, .lcmp, 84, []), (84, .ifCond .ne 11, 87, []), (87, .aload_n 0, 88, []), (88, .getfield 12, 91, [9, 2, 2, 2]), (91, .iconst 4, 92, []), (92, .invokevirtual 197, 95, [10, 30, 4, 2, 2])] := dk_ck (by decide +kernel)
set_option maxRecDepth 4096 in
theorem w_Wk_averageRow_50 {nl : Bool} {Ln : Nat} {xs : Nat → Int32} {d : Nat} {this : Nat} {x1 : Int32} {σ : am_S} {F : am_S → Prop} (h : (am_is σ (some this) 2) ∧ k_Wk_times nl Ln xs d this (am_fL σ 2011 this) (am_fL σ 2010 this) σ (fun a3 σ2 => am_ext σ σ2 → k_Wk_sumOfMoney nl Ln xs d this (1 : Int32) σ2 (fun a5 σ4 => am_ext σ2 σ4 → (am_is σ4 (am_fR σ4 2002 this) 3) ∧ ((am_fI σ4 3007 ((am_fR σ4 2002 this).getD 0)) = 0 → (a5 = (0 : Int64) → k_Vw_fail nl Ln xs d ((am_fR σ4 2002 this).getD 0) (4 : Int32) σ4 (fun σ9 => am_ext σ4 σ9 → c_Wk_averageRow_95 nl Ln xs (d + 1) this x1 a3 a5 σ9 F)) ∧ (¬ (a5 = (0 : Int64)) → c_Wk_averageRow_95 nl Ln xs (d + 1) this x1 a3 a5 σ4 F)) ∧ (¬ ((am_fI σ4 3007 ((am_fR σ4 2002 this).getD 0)) = 0) → c_Wk_averageRow_95 nl Ln xs (d + 1) this x1 a3 a5 σ4 F)))) : c_Wk_averageRow_50 nl Ln xs (d + 1) this x1 σ F := by
  obtain ⟨j50, j51, j52, j55, j56, j59, j62, j63, j64, j65, j68, j70, j71, j74, j77, j80, j82, j83, j84, j87, j88, j91, j92, -⟩ := P_Wk_averageRow_50 nl Ln xs
  unfold c_Wk_averageRow_50
  refine s_aload_n j50 rfl rfl ?_
  refine s_aload_n j51 rfl rfl ?_
  obtain ⟨ho1, h⟩ := h
  refine s_gfL j52 rfl ho1 ?_
  refine s_aload_n j55 rfl rfl ?_
  refine s_gfL j56 rfl ho1 ?_
  refine s_virt j59 rfl rfl rfl rfl ho1 (by decide) (in_Wk_times _ _ _) (am_r8 rfl) (am_bL h (fun a3 σ2 h hx2 => ?_))
  replace h := h hx2
  refine s_lstore_n j62 rfl (n := 6) (L' := [some (am_ov (some this)), some (.int x1), some (.long a3), none, none, none]) rfl (by decide) rfl ?_
  refine s_aload_n j63 rfl rfl ?_
  refine s_iconst j64 rfl kc_ic_1 ?_
  refine s_virt j65 rfl rfl rfl rfl (am_is_ext hx2 ho1) (by decide) (in_Wk_sumOfMoney _ _) (am_r8 rfl) (am_bL h (fun a5 σ4 h hx4 => ?_))
  replace h := h hx4
  refine s_lstore j68 rfl (n := 6) (L' := [some (am_ov (some this)), some (.int x1), some (.long a3), none, some (.long a5), none]) rfl (by decide) rfl ?_
  refine s_aload_n j70 rfl rfl ?_
  refine s_gfR j71 rfl (am_is_ext hx4 (am_is_ext hx2 ho1)) ?_
  obtain ⟨ho6, h⟩ := h
  refine s_gfZ j74 rfl ho6 ?_
  refine s_ifn j77 rfl rfl am_cc_ne (fun hc7 => ?_) (fun hc7 => ?_)
  · replace h := h.2 hc7
    exact h
  · replace h := h.1 hc7
    refine s_lload j80 rfl rfl ?_
    refine s_lconst j82 rfl rfl ?_
    refine s_g j83 rfl rfl rfl rfl rfl rfl ?_
    refine s_ifn j84 rfl rfl am_cl_ne (fun hc8 => ?_) (fun hc8 => ?_)
    · replace h := h.2 hc8
      exact h
    · replace h := h.1 hc8
      refine s_aload_n j87 rfl rfl ?_
      refine s_gfR j88 rfl (am_is_ext hx4 (am_is_ext hx2 ho1)) ?_
      refine s_iconst j91 rfl kc_ic_4 ?_
      refine s_virt j92 rfl rfl rfl rfl ho6 (by decide) (in_Vw_fail _ _) (am_r8 rfl) (am_bV h (fun σ9 h hx9 => ?_))
      replace h := h hx9
      exact h
theorem P_Wk_averageRow_95 (nl : Bool) (Ln : Nat) (xs : Nat → Int32) : am_Jl (TT nl Ln xs) 47 [(95, .aload_n 0, 96, []), (96, .getfield 12, 99, [9, 2, 2, 2]), (99, .getfield 49, 102, [9, 3, 7, 3]), (102, .ifCond .ne 23, 105, []), (105, .aload_n 0, 106, []), (106, .iconst 3, 107, []), (107, .iconst 0, 108, []), (108, .aload_n 0, 109, []), (109, .getfield 83, 112, [9, 2, 11, 1]), (112, .lload_n 2, 113, []), (113, .lload 4, 115, []), (115, .ldiv, 116, []), (116, .lsub, 117, []), (117, .lconst 0, 118, []), (118, .invokestatic 65, 121, [12, 46, 4, 2]), (121, .lneg, 122, []), (122, .invokevirtual 107, 125, [10, 38, 3, 5, 4]), (125, .return_, 126, [0])] := dk_ck (by decide +kernel)
set_option maxRecDepth 4096 in
theorem w_Wk_averageRow_95 {nl : Bool} {Ln : Nat} {xs : Nat → Int32} {d : Nat} {this : Nat} {x1 : Int32} {x2 : Int64} {x4 : Int64} {σ : am_S} {F : am_S → Prop} (h : (am_is σ (some this) 2) ∧ (am_is σ (am_fR σ 2002 this) 3) ∧ ((am_fI σ 3007 ((am_fR σ 2002 this).getD 0)) = 0 → (x4 ≠ 0) ∧ k_Math_max nl Ln xs d ((am_fL σ 2011 this) - (x2 / x4)) (0 : Int64) σ (fun a6 σ5 => am_ext σ σ5 → k_Wk_addRow nl Ln xs d this (3 : Int32) (0 : Int32) (-a6) σ5 (fun σ7 => am_ext σ5 σ7 → F σ7))) ∧ (¬ ((am_fI σ 3007 ((am_fR σ 2002 this).getD 0)) = 0) → F σ)) : c_Wk_averageRow_95 nl Ln xs (d + 1) this x1 x2 x4 σ F := by
  obtain ⟨j95, j96, j99, j102, j105, j106, j107, j108, j109, j112, j113, j115, j116, j117, j118, j121, j122, j125, -⟩ := P_Wk_averageRow_95 nl Ln xs
  unfold c_Wk_averageRow_95
  refine s_aload_n j95 rfl rfl ?_
  obtain ⟨ho1, h⟩ := h
  refine s_gfR j96 rfl ho1 ?_
  obtain ⟨ho2, h⟩ := h
  refine s_gfZ j99 rfl ho2 ?_
  refine s_ifn j102 rfl rfl am_cc_ne (fun hc3 => ?_) (fun hc3 => ?_)
  · replace h := h.2 hc3
    exact s_retV j125 rfl h
  · replace h := h.1 hc3
    refine s_aload_n j105 rfl rfl ?_
    refine s_iconst j106 rfl kc_ic_3 ?_
    refine s_iconst j107 rfl kc_ic_0 ?_
    refine s_aload_n j108 rfl rfl ?_
    refine s_gfL j109 rfl ho1 ?_
    refine s_lload_n j112 rfl rfl ?_
    refine s_lload j113 rfl rfl ?_
    obtain ⟨ho4, h⟩ := h
    refine s_ldiv j115 rfl ho4 ?_
    refine s_g j116 rfl rfl rfl rfl rfl rfl ?_
    refine s_lconst j117 rfl rfl ?_
    refine s_stat j118 rfl rfl rfl rfl (by decide) (in_Math_max _ _) (am_r8 rfl) (am_bL h (fun a6 σ5 h hx5 => ?_))
    replace h := h hx5
    refine s_g j121 rfl rfl rfl rfl rfl rfl ?_
    refine s_virt j122 rfl rfl rfl rfl (am_is_ext hx5 ho1) (by decide) (in_Wk_addRow _ _ _ _) (am_r8 rfl) (am_bV h (fun σ7 h hx7 => ?_))
    replace h := h hx7
    exact s_retV j125 rfl h
theorem P_Wk_times (nl : Bool) (Ln : Nat) (xs : Nat → Int32) : am_Jl (TT nl Ln xs) 48 [(0, .lload_n 3, 1, []), (1, .lconst 0, 2, []), (2, .lcmp, 3, []), (3, .ifCond .eq 31, 6, []), (6, .lload_n 1, 7, []), (7, .ldc2_w 71, 10, [6, 4611686018427387904]), (10, .lload_n 3, 11, []), (11, .ldiv, 12, []), (12, .lcmp, 13, []), (13, .ifCond .le 21, 16, []), (16, .aload_n 0, 17, []), (17, .getfield 12, 20, [9, 2, 2, 2]), (20, .iconst 5, 21, []), (21, .putfield 101, 24, [9, 3, 6, 0]), (24, .aload_n 0, 25, []), (25, .getfield 12, 28, [9, 2, 2, 2]), (28, .iconst 1, 29, []), (29, .putfield 49, 32, [9, 3, 7, 3]), (32, .lconst 0, 33, []), (33, .lreturn, 34, [2]), (34, .lload_n 1, 35, []), (35, .lload_n 3, 36, []), (36, .lmul, 37, []), (37, .lreturn, 38, [2])] := dk_ck (by decide +kernel)
set_option maxRecDepth 4096 in
theorem w_Wk_times {nl : Bool} {Ln : Nat} {xs : Nat → Int32} {d : Nat} {this : Nat} {p0 : Int64} {p1 : Int64} {σ : am_S} {F : Int64 → am_S → Prop} (h : (p1 = (0 : Int64) → F (p0 * p1) σ) ∧ (¬ (p1 = (0 : Int64)) → (p1 ≠ 0) ∧ (((4611686018427387904 : Int64) / p1) < p0 → (am_is σ (some this) 2) ∧ (am_is σ (am_fR σ 2002 this) 3) ∧ ∀ σ6, σ6 = am_sfI σ 3006 ((am_fR σ 2002 this).getD 0) (5 : Int32) → (am_is σ6 (am_fR σ6 2002 this) 3) ∧ ∀ σ10, σ10 = am_sfI σ6 3007 ((am_fR σ6 2002 this).getD 0) (1 : Int32) → F (0 : Int64) σ10) ∧ (¬ (((4611686018427387904 : Int64) / p1) < p0) → F (p0 * p1) σ))) : k_Wk_times nl Ln xs (d + 1) this p0 p1 σ F := by
  obtain ⟨j0, j1, j2, j3, j6, j7, j10, j11, j12, j13, j16, j17, j20, j21, j24, j25, j28, j29, j32, j33, j34, j35, j36, j37, -⟩ := P_Wk_times nl Ln xs
  have elo : am_lo 5 [am_ov (some this), .long p0, .long p1] = [some (am_ov (some this)), some (.long p0), none, some (.long p1), none] := by simp only [am_lo, am_in_ov, am_in_int, am_in_long, am_in_nil]; rfl
  unfold k_Wk_times
  rw [elo]
  refine s_lload_n j0 rfl rfl ?_
  refine s_lconst j1 rfl rfl ?_
  refine s_g j2 rfl rfl rfl rfl rfl rfl ?_
  refine s_if j3 rfl rfl am_cl_eq (fun hc1 => ?_) (fun hc1 => ?_)
  · replace h := h.1 hc1
    refine s_lload_n j34 rfl rfl ?_
    refine s_lload_n j35 rfl rfl ?_
    refine s_g j36 rfl rfl rfl rfl rfl rfl ?_
    exact s_retL j37 rfl h
  · replace h := h.2 hc1
    refine s_lload_n j6 rfl rfl ?_
    refine s_ldc2 j7 rfl kc_ll_4611686018427387904 ?_
    refine s_lload_n j10 rfl rfl ?_
    obtain ⟨ho2, h⟩ := h
    refine s_ldiv j11 rfl ho2 ?_
    refine s_g j12 rfl rfl rfl rfl rfl rfl ?_
    refine s_ifn j13 rfl rfl am_cl_le (fun hc3 => ?_) (fun hc3 => ?_)
    · replace h := h.2 hc3
      refine s_lload_n j34 rfl rfl ?_
      refine s_lload_n j35 rfl rfl ?_
      refine s_g j36 rfl rfl rfl rfl rfl rfl ?_
      exact s_retL j37 rfl h
    · replace h := h.1 hc3
      refine s_aload_n j16 rfl rfl ?_
      obtain ⟨ho4, h⟩ := h
      refine s_gfR j17 rfl ho4 ?_
      refine s_iconst j20 rfl kc_ic_5 ?_
      obtain ⟨ho5, h⟩ := h
      refine s_pfI j21 rfl ho5 (fun σ6 e7 => ?_)
      replace h := h σ6 e7
      have ek8 : am_kd σ6 = am_kd σ := by rw [e7]
      refine s_aload_n j24 rfl rfl ?_
      refine s_gfR j25 rfl (am_is_kd ek8 ho4) ?_
      refine s_iconst j28 rfl kc_ic_1 ?_
      obtain ⟨ho9, h⟩ := h
      refine s_pfZ j29 rfl ho9 (Or.inr rfl) (fun σ10 e11 => ?_)
      replace h := h σ10 e11
      have ek12 : am_kd σ10 = am_kd σ6 := by rw [e11]
      refine s_lconst j32 rfl rfl ?_
      exact s_retL j33 rfl h
theorem P_Math_min (nl : Bool) (Ln : Nat) (xs : Nat → Int32) : am_Jl (TT nl Ln xs) 49 [(0, .lload_n 0, 1, []), (1, .lload_n 2, 2, []), (2, .lcmp, 3, []), (3, .ifCond .gt 7, 6, []), (6, .lload_n 0, 7, []), (7, .goto 4, 10, []), (10, .lload_n 2, 11, []), (11, .lreturn, 12, [2])] := dk_ck (by decide +kernel)
set_option maxRecDepth 4096 in
theorem w_Math_min {nl : Bool} {Ln : Nat} {xs : Nat → Int32} {d : Nat} {p0 : Int64} {p1 : Int64} {σ : am_S} {F : Int64 → am_S → Prop} (h : ∀ w3 : Int64, w3 = (if p1 < p0 then p1 else p0) → F w3 σ) : k_Math_min nl Ln xs (d + 1) p0 p1 σ F := by
  obtain ⟨j0, j1, j2, j3, j6, j7, j10, j11, -⟩ := P_Math_min nl Ln xs
  have elo : am_lo 4 [.long p0, .long p1] = [some (.long p0), none, some (.long p1), none] := by simp only [am_lo, am_in_ov, am_in_int, am_in_long, am_in_nil]; rfl
  unfold k_Math_min
  rw [elo]
  refine s_lload_n j0 rfl rfl ?_
  refine s_lload_n j1 rfl rfl ?_
  refine s_g j2 rfl rfl rfl rfl rfl rfl ?_
  have K2 : ∀ (w3 : Int64), w3 = (if p1 < p0 then p1 else p0) → am_C (TT nl Ln xs) (d + 1) 49 11 [some (.long p0), none, some (.long p1), none] [.long w3] σ (am_qL F) := by
    intro w3 hw4
    replace h := h w3 hw4
    exact s_retL j11 rfl h
  refine s_if j3 rfl rfl am_cl_gt (fun hc1 => ?_) (fun hc1 => ?_)
  · refine s_lload_n j10 rfl rfl ?_
    exact K2 _ (am_t1 hc1 rfl)
  · refine s_lload_n j6 rfl rfl ?_
    refine s_goto j7 rfl rfl ?_
    exact K2 _ (am_t2 hc1 rfl)
theorem P_Wk_takeAlone (nl : Bool) (Ln : Nat) (xs : Nat → Int32) : am_Jl (TT nl Ln xs) 50 [(0, .aload_n 0, 1, []), (1, .getfield 32, 4, [9, 2, 17, 2]), (4, .ldc2_w 55, 7, [6, 18446744073709551615]), (7, .invokestatic 360, 10, [12, 51, 5, 2]), (10, .aload_n 0, 11, []), (11, .getfield 35, 14, [9, 2, 18, 2]), (14, .lconst 0, 15, []), (15, .invokestatic 360, 18, [12, 51, 5, 2]), (18, .aload_n 0, 19, []), (19, .getfield 32, 22, [9, 2, 17, 2]), (22, .iconst 0, 23, []), (23, .aload_n 0, 24, []), (24, .getfield 83, 27, [9, 2, 11, 1]), (27, .lastore, 28, []), (28, .aload_n 0, 29, []), (29, .getfield 87, 32, [9, 2, 4, 2]), (32, .getfield 230, 35, [9, 11, 5, 2]), (35, .astore_n 1, 36, [])] := dk_ck (by decide +kernel)
set_option maxRecDepth 4096 in
theorem w_Wk_takeAlone {nl : Bool} {Ln : Nat} {xs : Nat → Int32} {d : Nat} {this : Nat} {σ : am_S} {F : Int32 → am_S → Prop} (h : (am_is σ (some this) 2) ∧ k_Arr_fill nl Ln xs d (am_fR σ 2017 this) (-1 : Int64) σ (fun σ2 => am_ext σ σ2 → k_Arr_fill nl Ln xs d (am_fR σ2 2018 this) (0 : Int64) σ2 (fun σ4 => am_ext σ2 σ4 → (am_ar σ4 1001 (am_fR σ4 2017 this) (0 : Int32)) ∧ ∀ σ7, σ7 = am_saL σ4 ((am_fR σ4 2017 this).getD 0) (0 : Int32).toNatClampNeg (am_fL σ4 2011 this) → (am_is σ7 (am_fR σ7 2004 this) 11) ∧ ∀ v11 : Option Nat, v11 = (am_fR σ7 11005 ((am_fR σ7 2004 this).getD 0)) → c_Wk_takeAlone_36 nl Ln xs (d + 1) this v11 none σ7 F))) : k_Wk_takeAlone nl Ln xs (d + 1) this σ F := by
  obtain ⟨j0, j1, j4, j7, j10, j11, j14, j15, j18, j19, j22, j23, j24, j27, j28, j29, j32, j35, -⟩ := P_Wk_takeAlone nl Ln xs
  have elo : am_lo 5 [am_ov (some this)] = [some (am_ov (some this)), none, none, none, none] := by simp only [am_lo, am_in_ov, am_in_int, am_in_long, am_in_nil]; rfl
  unfold k_Wk_takeAlone
  rw [elo]
  refine s_aload_n j0 rfl rfl ?_
  obtain ⟨ho1, h⟩ := h
  refine s_gfR j1 rfl ho1 ?_
  refine s_ldc2 j4 rfl kc_ll_m1 ?_
  refine s_stat j7 rfl rfl rfl rfl (by decide) (in_Arr_fill _ _) (am_r8 rfl) (am_bV h (fun σ2 h hx2 => ?_))
  replace h := h hx2
  refine s_aload_n j10 rfl rfl ?_
  refine s_gfR j11 rfl (am_is_ext hx2 ho1) ?_
  refine s_lconst j14 rfl rfl ?_
  refine s_stat j15 rfl rfl rfl rfl (by decide) (in_Arr_fill _ _) (am_r8 rfl) (am_bV h (fun σ4 h hx4 => ?_))
  replace h := h hx4
  refine s_aload_n j18 rfl rfl ?_
  refine s_gfR j19 rfl (am_is_ext hx4 (am_is_ext hx2 ho1)) ?_
  refine s_iconst j22 rfl kc_ic_0 ?_
  refine s_aload_n j23 rfl rfl ?_
  refine s_gfL j24 rfl (am_is_ext hx4 (am_is_ext hx2 ho1)) ?_
  obtain ⟨ho6, h⟩ := h
  refine s_lastore j27 rfl ho6 (fun σ7 e8 => ?_)
  replace h := h σ7 e8
  have ek9 : am_kd σ7 = am_kd σ4 := by rw [e8]
  refine s_aload_n j28 rfl rfl ?_
  refine s_gfR j29 rfl (am_is_kd ek9 (am_is_ext hx4 (am_is_ext hx2 ho1))) ?_
  obtain ⟨ho10, h⟩ := h
  refine s_gfR j32 rfl ho10 ?_
  refine s_astore_nV j35 rfl (n := 5) (L' := fun w => [some (am_ov (some this)), some (am_ov w), none, none, none]) rfl (by decide) (fun _ => am_st1_R [] _ _ _ _) (fun v11 hv12 => ?_)
  replace h := h v11 hv12
  exact h
theorem P_Wk_takeAlone_36 (nl : Bool) (Ln : Nat) (xs : Nat → Int32) : am_Jl (TT nl Ln xs) 50 [(36, .aload_n 1, 37, []), (37, .ifnull 70, 40, []), (40, .aload_n 1, 41, []), (41, .bipush 17, 43, []), (43, .aload_n 0, 44, []), (44, .getfield 95, 47, [9, 2, 9, 0]), (47, .aload_n 0, 48, []), (48, .getfield 91, 51, [9, 2, 8, 0]), (51, .invokevirtual 233, 54, [10, 20, 8, 4, 4]), (54, .ifCond .eq 10, 57, []), (57, .aload_n 1, 58, []), (58, .getfield 240, 61, [9, 7, 1, 0]), (61, .goto 4, 64, []), (64, .iconst (-1), 65, []), (107, .iconst 0, 108, []), (108, .istore_n 1, 109, []), (109, .iconst 0, 110, []), (110, .istore_n 2, 111, [])] := dk_ck (by decide +kernel)
set_option maxRecDepth 4096 in
theorem w_Wk_takeAlone_36 {nl : Bool} {Ln : Nat} {xs : Nat → Int32} {d : Nat} {this : Nat} {x1 : Option Nat} {x2 : Option Value} {σ : am_S} {F : Int32 → am_S → Prop} (h : (x1 = none → c_Wk_takeAlone_111 nl Ln xs (d + 1) this (0 : Int32) (0 : Int32) none none σ F) ∧ (¬ (x1 = none) → (am_is σ (some this) 2) ∧ (am_is σ x1 7) ∧ k_En_counts nl Ln xs d (x1.getD 0) (17 : Int32) (am_fI σ 2009 this) (am_fI σ 2008 this) σ (fun a5 σ4 => am_ext σ σ4 → ∀ w8 : Int32, w8 = (if a5 = true then (am_fI σ4 7001 (x1.getD 0)) else (-1 : Int32)) → c_Wk_takeAlone_65 nl Ln xs (d + 1) this x1 x2 w8 σ4 F))) : c_Wk_takeAlone_36 nl Ln xs (d + 1) this x1 x2 σ F := by
  obtain ⟨j36, j37, j40, j41, j43, j44, j47, j48, j51, j54, j57, j58, j61, j64, j107, j108, j109, j110, -⟩ := P_Wk_takeAlone_36 nl Ln xs
  unfold c_Wk_takeAlone_36
  refine s_aload_n j36 rfl rfl ?_
  refine s_ifnull j37 rfl rfl (fun hc1 => ?_) (fun hc1 => ?_)
  · replace h := h.1 hc1
    refine s_iconst j107 rfl kc_ic_0 ?_
    refine s_istore_n j108 rfl (n := 5) (L' := [some (am_ov (some this)), some (.int (0 : Int32)), x2, none, none]) rfl (by decide) (am_st1_R [] _ _ _ _) ?_
    refine s_iconst j109 rfl kc_ic_0 ?_
    refine s_istore_n j110 rfl (n := 5) (L' := [some (am_ov (some this)), some (.int (0 : Int32)), some (.int (0 : Int32)), none, none]) rfl (by decide) rfl ?_
    exact h
  · replace h := h.2 hc1
    refine s_aload_n j40 rfl rfl ?_
    refine s_bipush j41 rfl kc_bi_17 ?_
    refine s_aload_n j43 rfl rfl ?_
    obtain ⟨ho2, h⟩ := h
    refine s_gfI j44 rfl ho2 ?_
    refine s_aload_n j47 rfl rfl ?_
    refine s_gfI j48 rfl ho2 ?_
    obtain ⟨ho3, h⟩ := h
    refine s_virt j51 rfl rfl rfl rfl ho3 (by decide) (in_En_counts _ _ _ _) (am_r8 rfl) (am_bB h (fun a5 σ4 h hx4 => ?_))
    replace h := h hx4
    have K7 : ∀ (w8 : Int32), w8 = (if a5 = true then (am_fI σ4 7001 (x1.getD 0)) else (-1 : Int32)) → am_C (TT nl Ln xs) (d + 1) 50 65 [some (am_ov (some this)), some (am_ov x1), x2, none, none] [.int w8] σ4 (am_qI F) := by
      intro w8 hw9
      replace h := h w8 hw9
      exact h
    refine s_ifn j54 rfl rfl am_cb_eq (fun hc6 => ?_) (fun hc6 => ?_)
    · refine s_iconst j64 rfl kc_ic_m1 ?_
      exact K7 _ (am_t2 hc6 rfl)
    · refine s_aload_n j57 rfl rfl ?_
      refine s_gfI j58 rfl (am_is_ext hx4 ho3) ?_
      refine s_goto j61 rfl rfl ?_
      exact K7 _ (am_t1 hc6 rfl)
theorem P_Wk_takeAlone_65 (nl : Bool) (Ln : Nat) (xs : Nat → Int32) : am_Jl (TT nl Ln xs) 50 [(65, .istore_n 2, 66, []), (66, .iload_n 2, 67, []), (67, .ifCond .le 32, 70, []), (70, .iload_n 2, 71, []), (71, .bipush 6, 73, []), (73, .if_icmp .ge 26, 76, []), (76, .aload_n 0, 77, []), (77, .getfield 32, 80, [9, 2, 17, 2]), (80, .iload_n 2, 81, []), (81, .laload, 82, []), (82, .ldc2_w 55, 85, [6, 18446744073709551615]), (85, .lcmp, 86, []), (86, .ifCond .ne 13, 89, []), (89, .aload_n 0, 90, []), (90, .getfield 32, 93, [9, 2, 17, 2]), (93, .iload_n 2, 94, []), (94, .aload_n 1, 95, []), (95, .getfield 215, 98, [9, 7, 3, 1]), (98, .lastore, 99, []), (99, .aload_n 1, 100, []), (100, .getfield 246, 103, [9, 7, 5, 2]), (103, .astore_n 1, 104, []), (104, .goto (-68), 107, [])] := dk_ck (by decide +kernel)
set_option maxRecDepth 4096 in
theorem w_Wk_takeAlone_65 {nl : Bool} {Ln : Nat} {xs : Nat → Int32} {d : Nat} {this : Nat} {x1 : Option Nat} {x2 : Option Value} {y0 : Int32} {σ : am_S} {F : Int32 → am_S → Prop} (h : (0 < y0 → (y0 < (6 : Int32) → (am_is σ (some this) 2) ∧ (am_ar σ 1001 (am_fR σ 2017 this) y0) ∧ ((am_aL σ ((am_fR σ 2017 this).getD 0) y0.toNatClampNeg) = (-1 : Int64) → (am_is σ x1 7) ∧ (am_ar σ 1001 (am_fR σ 2017 this) y0) ∧ ∀ σ8, σ8 = am_saL σ ((am_fR σ 2017 this).getD 0) y0.toNatClampNeg (am_fL σ 7003 (x1.getD 0)) → ∀ v11 : Option Nat, v11 = (am_fR σ8 7005 (x1.getD 0)) → c_Wk_takeAlone_36 nl Ln xs (d + 1) this v11 (some (.int y0)) σ8 F) ∧ (¬ ((am_aL σ ((am_fR σ 2017 this).getD 0) y0.toNatClampNeg) = (-1 : Int64)) → (am_is σ x1 7) ∧ ∀ v14 : Option Nat, v14 = (am_fR σ 7005 (x1.getD 0)) → c_Wk_takeAlone_36 nl Ln xs (d + 1) this v14 (some (.int y0)) σ F)) ∧ (¬ (y0 < (6 : Int32)) → (am_is σ x1 7) ∧ ∀ v17 : Option Nat, v17 = (am_fR σ 7005 (x1.getD 0)) → c_Wk_takeAlone_36 nl Ln xs (d + 1) this v17 (some (.int y0)) σ F)) ∧ (¬ (0 < y0) → (am_is σ x1 7) ∧ ∀ v20 : Option Nat, v20 = (am_fR σ 7005 (x1.getD 0)) → c_Wk_takeAlone_36 nl Ln xs (d + 1) this v20 (some (.int y0)) σ F)) : c_Wk_takeAlone_65 nl Ln xs (d + 1) this x1 x2 y0 σ F := by
  obtain ⟨j65, j66, j67, j70, j71, j73, j76, j77, j80, j81, j82, j85, j86, j89, j90, j93, j94, j95, j98, j99, j100, j103, j104, -⟩ := P_Wk_takeAlone_65 nl Ln xs
  unfold c_Wk_takeAlone_65
  refine s_istore_n j65 rfl (n := 5) (L' := [some (am_ov (some this)), some (am_ov x1), some (.int y0), none, none]) rfl (by decide) (am_st1_R [_] _ _ _ _) ?_
  refine s_iload_n j66 rfl rfl ?_
  refine s_ifn j67 rfl rfl am_cc_le (fun hc1 => ?_) (fun hc1 => ?_)
  · replace h := h.2 hc1
    refine s_aload_n j99 rfl rfl ?_
    obtain ⟨ho19, h⟩ := h
    refine s_gfR j100 rfl ho19 ?_
    refine s_astore_nV j103 rfl (n := 5) (L' := fun w => [some (am_ov (some this)), some (am_ov w), some (.int y0), none, none]) rfl (by decide) (fun _ => am_st1_R [] _ _ _ _) (fun v20 hv21 => ?_)
    replace h := h v20 hv21
    refine s_goto j104 rfl rfl ?_
    exact h
  · replace h := h.1 hc1
    refine s_iload_n j70 rfl rfl ?_
    refine s_bipush j71 rfl kc_bi_6 ?_
    refine s_icn j73 rfl rfl am_cc_ge (fun hc2 => ?_) (fun hc2 => ?_)
    · replace h := h.2 hc2
      refine s_aload_n j99 rfl rfl ?_
      obtain ⟨ho16, h⟩ := h
      refine s_gfR j100 rfl ho16 ?_
      refine s_astore_nV j103 rfl (n := 5) (L' := fun w => [some (am_ov (some this)), some (am_ov w), some (.int y0), none, none]) rfl (by decide) (fun _ => am_st1_R [] _ _ _ _) (fun v17 hv18 => ?_)
      replace h := h v17 hv18
      refine s_goto j104 rfl rfl ?_
      exact h
    · replace h := h.1 hc2
      refine s_aload_n j76 rfl rfl ?_
      obtain ⟨ho3, h⟩ := h
      refine s_gfR j77 rfl ho3 ?_
      refine s_iload_n j80 rfl rfl ?_
      obtain ⟨ho4, h⟩ := h
      refine s_laload j81 rfl ho4 ?_
      refine s_ldc2 j82 rfl kc_ll_m1 ?_
      refine s_g j85 rfl rfl rfl rfl rfl rfl ?_
      refine s_ifn j86 rfl rfl am_cl_ne (fun hc5 => ?_) (fun hc5 => ?_)
      · replace h := h.2 hc5
        refine s_aload_n j99 rfl rfl ?_
        obtain ⟨ho13, h⟩ := h
        refine s_gfR j100 rfl ho13 ?_
        refine s_astore_nV j103 rfl (n := 5) (L' := fun w => [some (am_ov (some this)), some (am_ov w), some (.int y0), none, none]) rfl (by decide) (fun _ => am_st1_R [] _ _ _ _) (fun v14 hv15 => ?_)
        replace h := h v14 hv15
        refine s_goto j104 rfl rfl ?_
        exact h
      · replace h := h.1 hc5
        refine s_aload_n j89 rfl rfl ?_
        refine s_gfR j90 rfl ho3 ?_
        refine s_iload_n j93 rfl rfl ?_
        refine s_aload_n j94 rfl rfl ?_
        obtain ⟨ho6, h⟩ := h
        refine s_gfL j95 rfl ho6 ?_
        obtain ⟨ho7, h⟩ := h
        refine s_lastore j98 rfl ho7 (fun σ8 e9 => ?_)
        replace h := h σ8 e9
        have ek10 : am_kd σ8 = am_kd σ := by rw [e9]
        refine s_aload_n j99 rfl rfl ?_
        refine s_gfR j100 rfl (am_is_kd ek10 ho6) ?_
        refine s_astore_nV j103 rfl (n := 5) (L' := fun w => [some (am_ov (some this)), some (am_ov w), some (.int y0), none, none]) rfl (by decide) (fun _ => am_st1_R [] _ _ _ _) (fun v11 hv12 => ?_)
        replace h := h v11 hv12
        refine s_goto j104 rfl rfl ?_
        exact h
theorem P_Wk_takeAlone_111 (nl : Bool) (Ln : Nat) (xs : Nat → Int32) : am_Jl (TT nl Ln xs) 50 [(111, .iload_n 2, 112, []), (112, .bipush 6, 114, []), (114, .if_icmp .ge 99, 117, []), (117, .aload_n 0, 118, []), (118, .getfield 32, 121, [9, 2, 17, 2]), (121, .iload_n 2, 122, []), (122, .laload, 123, []), (123, .ldc2_w 55, 126, [6, 18446744073709551615]), (126, .lcmp, 127, []), (127, .ifCond .ne 6, 130, []), (130, .goto 77, 133, []), (133, .iload_n 1, 134, []), (134, .istore_n 3, 135, []), (135, .aload_n 0, 136, []), (136, .getfield 73, 139, [9, 2, 3, 2]), (139, .iload_n 2, 140, []), (140, .aload_n 0, 141, []), (141, .getfield 95, 144, [9, 2, 9, 0]), (144, .invokevirtual 366, 147, [10, 52, 7, 4, 3]), (147, .istore 4, 149, []), (207, .iinc 2 1, 210, []), (210, .goto (-99), 213, []), (213, .iload_n 1, 214, []), (214, .iconst 1, 215, []), (215, .isub, 216, []), (216, .ireturn, 217, [1])] := dk_ck (by decide +kernel)
set_option maxRecDepth 4096 in
theorem w_Wk_takeAlone_111 {nl : Bool} {Ln : Nat} {xs : Nat → Int32} {d : Nat} {this : Nat} {x1 : Int32} {x2 : Int32} {x3 : Option Value} {x4 : Option Value} {σ : am_S} {F : Int32 → am_S → Prop} (h : (x2 < (6 : Int32) → (am_is σ (some this) 2) ∧ (am_ar σ 1001 (am_fR σ 2017 this) x2) ∧ ((am_aL σ ((am_fR σ 2017 this).getD 0) x2.toNatClampNeg) = (-1 : Int64) → c_Wk_takeAlone_111 nl Ln xs (d + 1) this x1 (x2 + (1 : Int32)) x3 x4 σ F) ∧ (¬ ((am_aL σ ((am_fR σ 2017 this).getD 0) x2.toNatClampNeg) = (-1 : Int64)) → (am_is σ (am_fR σ 2003 this) 6) ∧ k_Bk_rankOf nl Ln xs d ((am_fR σ 2003 this).getD 0) x2 (am_fI σ 2009 this) σ (fun a7 σ6 => am_ext σ σ6 → c_Wk_takeAlone_149 nl Ln xs (d + 1) this x1 x2 x1 a7 σ6 F))) ∧ (¬ (x2 < (6 : Int32)) → F (x1 - (1 : Int32)) σ)) : c_Wk_takeAlone_111 nl Ln xs (d + 1) this x1 x2 x3 x4 σ F := by
  obtain ⟨j111, j112, j114, j117, j118, j121, j122, j123, j126, j127, j130, j133, j134, j135, j136, j139, j140, j141, j144, j147, j207, j210, j213, j214, j215, j216, -⟩ := P_Wk_takeAlone_111 nl Ln xs
  unfold c_Wk_takeAlone_111
  refine s_iload_n j111 rfl rfl ?_
  refine s_bipush j112 rfl kc_bi_6 ?_
  refine s_icn j114 rfl rfl am_cc_ge (fun hc1 => ?_) (fun hc1 => ?_)
  · replace h := h.2 hc1
    refine s_iload_n j213 rfl rfl ?_
    refine s_iconst j214 rfl kc_ic_1 ?_
    refine s_g j215 rfl rfl rfl rfl rfl rfl ?_
    exact s_retI j216 rfl h
  · replace h := h.1 hc1
    refine s_aload_n j117 rfl rfl ?_
    obtain ⟨ho2, h⟩ := h
    refine s_gfR j118 rfl ho2 ?_
    refine s_iload_n j121 rfl rfl ?_
    obtain ⟨ho3, h⟩ := h
    refine s_laload j122 rfl ho3 ?_
    refine s_ldc2 j123 rfl kc_ll_m1 ?_
    refine s_g j126 rfl rfl rfl rfl rfl rfl ?_
    refine s_ifn j127 rfl rfl am_cl_ne (fun hc4 => ?_) (fun hc4 => ?_)
    · replace h := h.2 hc4
      refine s_iload_n j133 rfl rfl ?_
      refine s_istore_n j134 rfl (n := 5) (L' := [some (am_ov (some this)), some (.int x1), some (.int x2), some (.int x1), x4]) rfl (by decide) rfl ?_
      refine s_aload_n j135 rfl rfl ?_
      refine s_gfR j136 rfl ho2 ?_
      refine s_iload_n j139 rfl rfl ?_
      refine s_aload_n j140 rfl rfl ?_
      refine s_gfI j141 rfl ho2 ?_
      obtain ⟨ho5, h⟩ := h
      refine s_virt j144 rfl rfl rfl rfl ho5 (by decide) (in_Bk_rankOf _ _ _) (am_r8 rfl) (am_bI h (fun a7 σ6 h hx6 => ?_))
      replace h := h hx6
      refine s_istore j147 rfl (n := 5) (L' := [some (am_ov (some this)), some (.int x1), some (.int x2), some (.int x1), some (.int a7)]) rfl (by decide) rfl ?_
      exact h
    · replace h := h.1 hc4
      refine s_goto j130 rfl rfl ?_
      refine s_iinc (L' := [some (am_ov (some this)), some (.int x1), some (.int (x2 + (1 : Int32))), x3, x4]) j207 rfl rfl kc_ic_1 rfl ?_
      refine s_goto j210 rfl rfl ?_
      exact h
theorem P_Wk_takeAlone_149 (nl : Bool) (Ln : Nat) (xs : Nat → Int32) : am_Jl (TT nl Ln xs) 50 [(149, .iload_n 3, 150, []), (150, .ifCond .le 47, 153, []), (153, .aload_n 0, 154, []), (154, .getfield 73, 157, [9, 2, 3, 2]), (157, .aload_n 0, 158, []), (158, .getfield 38, 161, [9, 2, 19, 2]), (161, .iload_n 3, 162, []), (162, .iconst 1, 163, []), (163, .isub, 164, []), (164, .iaload, 165, []), (165, .aload_n 0, 166, []), (166, .getfield 95, 169, [9, 2, 9, 0]), (169, .invokevirtual 366, 172, [10, 52, 7, 4, 3]), (172, .iload 4, 174, []), (174, .if_icmp .le 23, 177, []), (177, .aload_n 0, 178, []), (178, .getfield 38, 181, [9, 2, 19, 2]), (181, .iload_n 3, 182, []), (182, .aload_n 0, 183, []), (183, .getfield 38, 186, [9, 2, 19, 2]), (186, .iload_n 3, 187, []), (187, .iconst 1, 188, []), (188, .isub, 189, []), (189, .iaload, 190, []), (190, .iastore, 191, []), (191, .iinc 3 (-1), 194, []), (194, .goto (-45), 197, []), (197, .aload_n 0, 198, []), (198, .getfield 38, 201, [9, 2, 19, 2]), (201, .iload_n 3, 202, []), (202, .iload_n 2, 203, []), (203, .iastore, 204, []), (204, .iinc 1 1, 207, []), (207, .iinc 2 1, 210, []), (210, .goto (-99), 213, [])] := dk_ck (by decide +kernel)
set_option maxRecDepth 4096 in
theorem w_Wk_takeAlone_149 {nl : Bool} {Ln : Nat} {xs : Nat → Int32} {d : Nat} {this : Nat} {x1 : Int32} {x2 : Int32} {x3 : Int32} {x4 : Int32} {σ : am_S} {F : Int32 → am_S → Prop} (h : (0 < x3 → (am_is σ (some this) 2) ∧ (am_ar σ 1000 (am_fR σ 2019 this) (x3 - (1 : Int32))) ∧ (am_is σ (am_fR σ 2003 this) 6) ∧ k_Bk_rankOf nl Ln xs d ((am_fR σ 2003 this).getD 0) (am_aI σ ((am_fR σ 2019 this).getD 0) (x3 - (1 : Int32)).toNatClampNeg) (am_fI σ 2009 this) σ (fun a6 σ5 => am_ext σ σ5 → (x4 < a6 → (am_ar σ5 1000 (am_fR σ5 2019 this) (x3 - (1 : Int32))) ∧ (am_ar σ5 1000 (am_fR σ5 2019 this) x3) ∧ ∀ σ10, σ10 = am_saI σ5 ((am_fR σ5 2019 this).getD 0) x3.toNatClampNeg (am_aI σ5 ((am_fR σ5 2019 this).getD 0) (x3 - (1 : Int32)).toNatClampNeg) → c_Wk_takeAlone_149 nl Ln xs (d + 1) this x1 x2 (x3 + (-1 : Int32)) x4 σ10 F) ∧ (¬ (x4 < a6) → (am_ar σ5 1000 (am_fR σ5 2019 this) x3) ∧ ∀ σ14, σ14 = am_saI σ5 ((am_fR σ5 2019 this).getD 0) x3.toNatClampNeg x2 → c_Wk_takeAlone_111 nl Ln xs (d + 1) this (x1 + (1 : Int32)) (x2 + (1 : Int32)) (some (.int x3)) (some (.int x4)) σ14 F))) ∧ (¬ (0 < x3) → (am_is σ (some this) 2) ∧ (am_ar σ 1000 (am_fR σ 2019 this) x3) ∧ ∀ σ19, σ19 = am_saI σ ((am_fR σ 2019 this).getD 0) x3.toNatClampNeg x2 → c_Wk_takeAlone_111 nl Ln xs (d + 1) this (x1 + (1 : Int32)) (x2 + (1 : Int32)) (some (.int x3)) (some (.int x4)) σ19 F)) : c_Wk_takeAlone_149 nl Ln xs (d + 1) this x1 x2 x3 x4 σ F := by
  obtain ⟨j149, j150, j153, j154, j157, j158, j161, j162, j163, j164, j165, j166, j169, j172, j174, j177, j178, j181, j182, j183, j186, j187, j188, j189, j190, j191, j194, j197, j198, j201, j202, j203, j204, j207, j210, -⟩ := P_Wk_takeAlone_149 nl Ln xs
  unfold c_Wk_takeAlone_149
  refine s_iload_n j149 rfl rfl ?_
  refine s_ifn j150 rfl rfl am_cc_le (fun hc1 => ?_) (fun hc1 => ?_)
  · replace h := h.2 hc1
    refine s_aload_n j197 rfl rfl ?_
    obtain ⟨ho17, h⟩ := h
    refine s_gfR j198 rfl ho17 ?_
    refine s_iload_n j201 rfl rfl ?_
    refine s_iload_n j202 rfl rfl ?_
    obtain ⟨ho18, h⟩ := h
    refine s_iastore j203 rfl ho18 (fun σ19 e20 => ?_)
    replace h := h σ19 e20
    have ek21 : am_kd σ19 = am_kd σ := by rw [e20]
    refine s_iinc (L' := [some (am_ov (some this)), some (.int (x1 + (1 : Int32))), some (.int x2), some (.int x3), some (.int x4)]) j204 rfl rfl kc_ic_1 (am_st1_R [] _ _ _ _) ?_
    refine s_iinc (L' := [some (am_ov (some this)), some (.int (x1 + (1 : Int32))), some (.int (x2 + (1 : Int32))), some (.int x3), some (.int x4)]) j207 rfl rfl kc_ic_1 rfl ?_
    refine s_goto j210 rfl rfl ?_
    exact h
  · replace h := h.1 hc1
    refine s_aload_n j153 rfl rfl ?_
    obtain ⟨ho2, h⟩ := h
    refine s_gfR j154 rfl ho2 ?_
    refine s_aload_n j157 rfl rfl ?_
    refine s_gfR j158 rfl ho2 ?_
    refine s_iload_n j161 rfl rfl ?_
    refine s_iconst j162 rfl kc_ic_1 ?_
    refine s_g j163 rfl rfl rfl rfl rfl rfl ?_
    obtain ⟨ho3, h⟩ := h
    refine s_iaload j164 rfl ho3 ?_
    refine s_aload_n j165 rfl rfl ?_
    refine s_gfI j166 rfl ho2 ?_
    obtain ⟨ho4, h⟩ := h
    refine s_virt j169 rfl rfl rfl rfl ho4 (by decide) (in_Bk_rankOf _ _ _) (am_r8 rfl) (am_bI h (fun a6 σ5 h hx5 => ?_))
    replace h := h hx5
    refine s_iload j172 rfl rfl ?_
    refine s_icn j174 rfl rfl am_cc_le (fun hc7 => ?_) (fun hc7 => ?_)
    · replace h := h.2 hc7
      refine s_aload_n j197 rfl rfl ?_
      refine s_gfR j198 rfl (am_is_ext hx5 ho2) ?_
      refine s_iload_n j201 rfl rfl ?_
      refine s_iload_n j202 rfl rfl ?_
      obtain ⟨ho13, h⟩ := h
      refine s_iastore j203 rfl ho13 (fun σ14 e15 => ?_)
      replace h := h σ14 e15
      have ek16 : am_kd σ14 = am_kd σ5 := by rw [e15]
      refine s_iinc (L' := [some (am_ov (some this)), some (.int (x1 + (1 : Int32))), some (.int x2), some (.int x3), some (.int x4)]) j204 rfl rfl kc_ic_1 (am_st1_R [] _ _ _ _) ?_
      refine s_iinc (L' := [some (am_ov (some this)), some (.int (x1 + (1 : Int32))), some (.int (x2 + (1 : Int32))), some (.int x3), some (.int x4)]) j207 rfl rfl kc_ic_1 rfl ?_
      refine s_goto j210 rfl rfl ?_
      exact h
    · replace h := h.1 hc7
      refine s_aload_n j177 rfl rfl ?_
      refine s_gfR j178 rfl (am_is_ext hx5 ho2) ?_
      refine s_iload_n j181 rfl rfl ?_
      refine s_aload_n j182 rfl rfl ?_
      refine s_gfR j183 rfl (am_is_ext hx5 ho2) ?_
      refine s_iload_n j186 rfl rfl ?_
      refine s_iconst j187 rfl kc_ic_1 ?_
      refine s_g j188 rfl rfl rfl rfl rfl rfl ?_
      obtain ⟨ho8, h⟩ := h
      refine s_iaload j189 rfl ho8 ?_
      obtain ⟨ho9, h⟩ := h
      refine s_iastore j190 rfl ho9 (fun σ10 e11 => ?_)
      replace h := h σ10 e11
      have ek12 : am_kd σ10 = am_kd σ5 := by rw [e11]
      refine s_iinc (L' := [some (am_ov (some this)), some (.int x1), some (.int x2), some (.int (x3 + (-1 : Int32))), some (.int x4)]) j191 rfl rfl kc_ic_m1 rfl ?_
      refine s_goto j194 rfl rfl ?_
      exact h
theorem P_Arr_fill (nl : Bool) (Ln : Nat) (xs : Nat → Int32) : am_Jl (TT nl Ln xs) 51 [(0, .iconst 0, 1, []), (1, .istore_n 3, 2, []), (2, .aload_n 0, 3, []), (3, .arraylength, 4, []), (4, .istore 4, 6, [])] := dk_ck (by decide +kernel)
set_option maxRecDepth 4096 in
theorem w_Arr_fill {nl : Bool} {Ln : Nat} {xs : Nat → Int32} {d : Nat} {p0 : Option Nat} {p1 : Int64} {σ : am_S} {F : am_S → Prop} (h : (∃ n, p0 = some n ∧ (am_kd σ n).1 = 1001) ∧ ∀ v2 : Int32, v2 = (Int32.ofNat (am_kd σ (p0.getD 0)).2) → c_Arr_fill_6 nl Ln xs (d + 1) p0 p1 (0 : Int32) v2 σ F) : k_Arr_fill nl Ln xs (d + 1) p0 p1 σ F := by
  obtain ⟨j0, j1, j2, j3, j4, -⟩ := P_Arr_fill nl Ln xs
  have elo : am_lo 5 [am_ov p0, .long p1] = [some (am_ov p0), some (.long p1), none, none, none] := by simp only [am_lo, am_in_ov, am_in_int, am_in_long, am_in_nil]; rfl
  unfold k_Arr_fill
  rw [elo]
  refine s_iconst j0 rfl kc_ic_0 ?_
  refine s_istore_n j1 rfl (n := 5) (L' := [some (am_ov p0), some (.long p1), none, some (.int (0 : Int32)), none]) rfl (by decide) rfl ?_
  refine s_aload_n j2 rfl rfl ?_
  obtain ⟨ho1, h⟩ := h
  refine s_len (k := 1001) kn_1001 (by decide) j3 rfl ho1 ?_
  refine s_istoreV j4 rfl (n := 5) (L' := fun w => [some (am_ov p0), some (.long p1), none, some (.int (0 : Int32)), some (.int w)]) rfl (by decide) (fun _ => rfl) (fun v2 hv3 => ?_)
  replace h := h v2 hv3
  exact h
theorem P_Arr_fill_6 (nl : Bool) (Ln : Nat) (xs : Nat → Int32) : am_Jl (TT nl Ln xs) 51 [(6, .iload_n 3, 7, []), (7, .iload 4, 9, []), (9, .if_icmp .ge 13, 12, []), (12, .aload_n 0, 13, []), (13, .iload_n 3, 14, []), (14, .lload_n 1, 15, []), (15, .lastore, 16, []), (16, .iinc 3 1, 19, []), (19, .goto (-13), 22, []), (22, .return_, 23, [0])] := dk_ck (by decide +kernel)
set_option maxRecDepth 4096 in
theorem w_Arr_fill_6 {nl : Bool} {Ln : Nat} {xs : Nat → Int32} {d : Nat} {x0 : Option Nat} {x1 : Int64} {x3 : Int32} {x4 : Int32} {σ : am_S} {F : am_S → Prop} (h : (x3 < x4 → (am_ar σ 1001 x0 x3) ∧ ∀ σ3, σ3 = am_saL σ (x0.getD 0) x3.toNatClampNeg x1 → c_Arr_fill_6 nl Ln xs (d + 1) x0 x1 (x3 + (1 : Int32)) x4 σ3 F) ∧ (¬ (x3 < x4) → F σ)) : c_Arr_fill_6 nl Ln xs (d + 1) x0 x1 x3 x4 σ F := by
  obtain ⟨j6, j7, j9, j12, j13, j14, j15, j16, j19, j22, -⟩ := P_Arr_fill_6 nl Ln xs
  unfold c_Arr_fill_6
  refine s_iload_n j6 rfl rfl ?_
  refine s_iload j7 rfl rfl ?_
  refine s_icn j9 rfl rfl am_cc_ge (fun hc1 => ?_) (fun hc1 => ?_)
  · replace h := h.2 hc1
    exact s_retV j22 rfl h
  · replace h := h.1 hc1
    refine s_aload_n j12 rfl rfl ?_
    refine s_iload_n j13 rfl rfl ?_
    refine s_lload_n j14 rfl rfl ?_
    obtain ⟨ho2, h⟩ := h
    refine s_lastore j15 rfl ho2 (fun σ3 e4 => ?_)
    replace h := h σ3 e4
    have ek5 : am_kd σ3 = am_kd σ := by rw [e4]
    refine s_iinc (L' := [some (am_ov x0), some (.long x1), none, some (.int (x3 + (1 : Int32))), some (.int x4)]) j16 rfl rfl kc_ic_1 rfl ?_
    refine s_goto j19 rfl rfl ?_
    exact h
theorem P_Bk_rankOf (nl : Bool) (Ln : Nat) (xs : Nat → Int32) : am_Jl (TT nl Ln xs) 52 [(0, .aload_n 0, 1, []), (1, .getfield 65, 4, [9, 6, 10, 2]), (4, .iconst 2, 5, []), (5, .iload_n 1, 6, []), (6, .iload_n 2, 7, []), (7, .invokestatic 274, 10, [12, 28, 5, 4]), (10, .astore_n 3, 11, []), (11, .aload_n 3, 12, []), (12, .ifnonnull 7, 15, []), (15, .iload_n 1, 16, []), (16, .goto 8, 19, []), (19, .aload_n 3, 20, []), (20, .getfield 278, 23, [9, 7, 3, 1]), (23, .l2i, 24, []), (24, .ireturn, 25, [1])] := dk_ck (by decide +kernel)
set_option maxRecDepth 4096 in
theorem w_Bk_rankOf {nl : Bool} {Ln : Nat} {xs : Nat → Int32} {d : Nat} {this : Nat} {p0 : Int32} {p1 : Int32} {σ : am_S} {F : Int32 → am_S → Prop} (h : (am_is σ (some this) 6) ∧ k_En_known nl Ln xs d (am_fR σ 6010 this) (2 : Int32) p0 p1 σ (fun a3 σ2 => am_ext σ σ2 → (¬ (a3 = none) → am_is σ2 a3 7) ∧ ∀ w7 : Int32, w7 = (if a3 = none then p0 else (am_fL σ2 7003 (a3.getD 0)).toInt32) → F w7 σ2)) : k_Bk_rankOf nl Ln xs (d + 1) this p0 p1 σ F := by
  obtain ⟨j0, j1, j4, j5, j6, j7, j10, j11, j12, j15, j16, j19, j20, j23, j24, -⟩ := P_Bk_rankOf nl Ln xs
  have elo : am_lo 4 [am_ov (some this), .int p0, .int p1] = [some (am_ov (some this)), some (.int p0), some (.int p1), none] := by simp only [am_lo, am_in_ov, am_in_int, am_in_long, am_in_nil]; rfl
  unfold k_Bk_rankOf
  rw [elo]
  refine s_aload_n j0 rfl rfl ?_
  obtain ⟨ho1, h⟩ := h
  refine s_gfR j1 rfl ho1 ?_
  refine s_iconst j4 rfl kc_ic_2 ?_
  refine s_iload_n j5 rfl rfl ?_
  refine s_iload_n j6 rfl rfl ?_
  refine s_stat j7 rfl rfl rfl rfl (by decide) (in_En_known _ _ _ _) (am_r8 rfl) (am_bR h (fun a3 σ2 h hx2 => ?_))
  replace h := h hx2
  refine s_astore_n j10 rfl (n := 4) (L' := [some (am_ov (some this)), some (.int p0), some (.int p1), some (am_ov a3)]) rfl (by decide) rfl ?_
  refine s_aload_n j11 rfl rfl ?_
  obtain ⟨ho5, h⟩ := h
  have K6 : ∀ (w7 : Int32), w7 = (if a3 = none then p0 else (am_fL σ2 7003 (a3.getD 0)).toInt32) → am_C (TT nl Ln xs) (d + 1) 52 24 [some (am_ov (some this)), some (.int p0), some (.int p1), some (am_ov a3)] [.int w7] σ2 (am_qI F) := by
    intro w7 hw8
    replace h := h w7 hw8
    exact s_retI j24 rfl h
  refine s_ifnonnull j12 rfl rfl (fun hc4 => ?_) (fun hc4 => ?_)
  · refine s_aload_n j19 rfl rfl ?_
    refine s_gfL j20 rfl (ho5 hc4) ?_
    refine s_g j23 rfl rfl rfl rfl rfl rfl ?_
    exact K6 _ (am_t2 hc4 rfl)
  · refine s_iload_n j15 rfl rfl ?_
    refine s_goto j16 rfl rfl ?_
    exact K6 _ (am_t1 hc4 rfl)
theorem P_Wk_sharedRow (nl : Bool) (Ln : Nat) (xs : Nat → Int32) : am_Jl (TT nl Ln xs) 53 [(0, .iload_n 1, 1, []), (1, .ifCond .ne 4, 4, []), (4, .return_, 5, [0]), (5, .lconst 0, 6, []), (6, .lstore_n 2, 7, []), (7, .iconst 0, 8, []), (8, .istore 4, 10, [])] := dk_ck (by decide +kernel)
set_option maxRecDepth 4096 in
theorem w_Wk_sharedRow {nl : Bool} {Ln : Nat} {xs : Nat → Int32} {d : Nat} {this : Nat} {p0 : Int32} {σ : am_S} {F : am_S → Prop} (h : (p0 = 0 → F σ) ∧ (¬ (p0 = 0) → c_Wk_sharedRow_10 nl Ln xs (d + 1) this p0 (0 : Int64) (0 : Int32) σ F)) : k_Wk_sharedRow nl Ln xs (d + 1) this p0 σ F := by
  obtain ⟨j0, j1, j4, j5, j6, j7, j8, -⟩ := P_Wk_sharedRow nl Ln xs
  have elo : am_lo 8 [am_ov (some this), .int p0] = [some (am_ov (some this)), some (.int p0), none, none, none, none, none, none] := by simp only [am_lo, am_in_ov, am_in_int, am_in_long, am_in_nil]; rfl
  unfold k_Wk_sharedRow
  rw [elo]
  refine s_iload_n j0 rfl rfl ?_
  refine s_ifn j1 rfl rfl am_cc_ne (fun hc1 => ?_) (fun hc1 => ?_)
  · replace h := h.2 hc1
    refine s_lconst j5 rfl rfl ?_
    refine s_lstore_n j6 rfl (n := 8) (L' := [some (am_ov (some this)), some (.int p0), some (.long (0 : Int64)), none, none, none, none, none]) rfl (by decide) rfl ?_
    refine s_iconst j7 rfl kc_ic_0 ?_
    refine s_istore j8 rfl (n := 8) (L' := [some (am_ov (some this)), some (.int p0), some (.long (0 : Int64)), none, some (.int (0 : Int32)), none, none, none]) rfl (by decide) rfl ?_
    exact h
  · replace h := h.1 hc1
    exact s_retV j4 rfl h
theorem P_Wk_sharedRow_10 (nl : Bool) (Ln : Nat) (xs : Nat → Int32) : am_Jl (TT nl Ln xs) 53 [(10, .iload 4, 12, []), (12, .iload_n 1, 13, []), (13, .if_icmp .gt 24, 16, []), (16, .lload_n 2, 17, []), (17, .aload_n 0, 18, []), (18, .getfield 32, 21, [9, 2, 17, 2]), (21, .aload_n 0, 22, []), (22, .getfield 38, 25, [9, 2, 19, 2]), (25, .iload 4, 27, []), (27, .iaload, 28, []), (28, .laload, 29, []), (29, .ladd, 30, []), (30, .lstore_n 2, 31, []), (31, .iinc 4 1, 34, []), (34, .goto (-24), 37, []), (37, .aload_n 0, 38, []), (38, .getfield 148, 41, [9, 2, 12, 1]), (41, .lload_n 2, 42, []), (42, .invokestatic 104, 45, [12, 49, 4, 2]), (45, .lstore 4, 47, []), (47, .aload_n 0, 48, []), (48, .getfield 163, 51, [9, 2, 6, 2]), (51, .getfield 205, 54, [9, 9, 4, 2]), (54, .bipush 7, 56, []), (56, .iconst 0, 57, []), (57, .aload_n 0, 58, []), (58, .getfield 95, 61, [9, 2, 9, 0]), (61, .invokestatic 209, 64, [12, 28, 5, 4]), (64, .astore 6, 66, []), (66, .aload 6, 68, []), (68, .ifnonnull 7, 71, []), (71, .iconst 0, 72, []), (72, .goto 9, 75, []), (75, .aload 6, 77, []), (77, .getfield 215, 80, [9, 7, 3, 1]), (80, .l2i, 81, [])] := dk_ck (by decide +kernel)
set_option maxRecDepth 4096 in
theorem w_Wk_sharedRow_10 {nl : Bool} {Ln : Nat} {xs : Nat → Int32} {d : Nat} {this : Nat} {x1 : Int32} {x2 : Int64} {x4 : Int32} {σ : am_S} {F : am_S → Prop} (h : (x1 < x4 → (am_is σ (some this) 2) ∧ k_Math_min nl Ln xs d (am_fL σ 2012 this) x2 σ (fun a4 σ3 => am_ext σ σ3 → (am_is σ3 (am_fR σ3 2006 this) 9) ∧ k_En_known nl Ln xs d (am_fR σ3 9004 ((am_fR σ3 2006 this).getD 0)) (7 : Int32) (0 : Int32) (am_fI σ3 2009 this) σ3 (fun a7 σ6 => am_ext σ3 σ6 → (¬ (a7 = none) → am_is σ6 a7 7) ∧ ∀ w11 : Int32, w11 = (if a7 = none then (0 : Int32) else (am_fL σ6 7003 (a7.getD 0)).toInt32) → c_Wk_sharedRow_81 nl Ln xs (d + 1) this x1 x2 a4 a7 w11 σ6 F))) ∧ (¬ (x1 < x4) → (am_is σ (some this) 2) ∧ (am_ar σ 1000 (am_fR σ 2019 this) x4) ∧ (am_ar σ 1001 (am_fR σ 2017 this) (am_aI σ ((am_fR σ 2019 this).getD 0) x4.toNatClampNeg)) ∧ ∀ v16 : Int64, v16 = (x2 + (am_aL σ ((am_fR σ 2017 this).getD 0) (am_aI σ ((am_fR σ 2019 this).getD 0) x4.toNatClampNeg).toNatClampNeg)) → c_Wk_sharedRow_10 nl Ln xs (d + 1) this x1 v16 (x4 + (1 : Int32)) σ F)) : c_Wk_sharedRow_10 nl Ln xs (d + 1) this x1 x2 x4 σ F := by
  obtain ⟨j10, j12, j13, j16, j17, j18, j21, j22, j25, j27, j28, j29, j30, j31, j34, j37, j38, j41, j42, j45, j47, j48, j51, j54, j56, j57, j58, j61, j64, j66, j68, j71, j72, j75, j77, j80, -⟩ := P_Wk_sharedRow_10 nl Ln xs
  unfold c_Wk_sharedRow_10
  refine s_iload j10 rfl rfl ?_
  refine s_iload_n j12 rfl rfl ?_
  refine s_ic j13 rfl rfl am_cc_gt (fun hc1 => ?_) (fun hc1 => ?_)
  · replace h := h.1 hc1
    refine s_aload_n j37 rfl rfl ?_
    obtain ⟨ho2, h⟩ := h
    refine s_gfL j38 rfl ho2 ?_
    refine s_lload_n j41 rfl rfl ?_
    refine s_stat j42 rfl rfl rfl rfl (by decide) (in_Math_min _ _) (am_r8 rfl) (am_bL h (fun a4 σ3 h hx3 => ?_))
    replace h := h hx3
    refine s_lstore j45 rfl (n := 8) (L' := [some (am_ov (some this)), some (.int x1), some (.long x2), none, some (.long a4), none, none, none]) rfl (by decide) rfl ?_
    refine s_aload_n j47 rfl rfl ?_
    refine s_gfR j48 rfl (am_is_ext hx3 ho2) ?_
    obtain ⟨ho5, h⟩ := h
    refine s_gfR j51 rfl ho5 ?_
    refine s_bipush j54 rfl kc_bi_7 ?_
    refine s_iconst j56 rfl kc_ic_0 ?_
    refine s_aload_n j57 rfl rfl ?_
    refine s_gfI j58 rfl (am_is_ext hx3 ho2) ?_
    refine s_stat j61 rfl rfl rfl rfl (by decide) (in_En_known _ _ _ _) (am_r8 rfl) (am_bR h (fun a7 σ6 h hx6 => ?_))
    replace h := h hx6
    refine s_astore j64 rfl (n := 8) (L' := [some (am_ov (some this)), some (.int x1), some (.long x2), none, some (.long a4), none, some (am_ov a7), none]) rfl (by decide) rfl ?_
    refine s_aload j66 rfl rfl ?_
    obtain ⟨ho9, h⟩ := h
    have K10 : ∀ (w11 : Int32), w11 = (if a7 = none then (0 : Int32) else (am_fL σ6 7003 (a7.getD 0)).toInt32) → am_C (TT nl Ln xs) (d + 1) 53 81 [some (am_ov (some this)), some (.int x1), some (.long x2), none, some (.long a4), none, some (am_ov a7), none] [.int w11] σ6 (am_qV F) := by
      intro w11 hw12
      replace h := h w11 hw12
      exact h
    refine s_ifnonnull j68 rfl rfl (fun hc8 => ?_) (fun hc8 => ?_)
    · refine s_aload j75 rfl rfl ?_
      refine s_gfL j77 rfl (ho9 hc8) ?_
      refine s_g j80 rfl rfl rfl rfl rfl rfl ?_
      exact K10 _ (am_t2 hc8 rfl)
    · refine s_iconst j71 rfl kc_ic_0 ?_
      refine s_goto j72 rfl rfl ?_
      exact K10 _ (am_t1 hc8 rfl)
  · replace h := h.2 hc1
    refine s_lload_n j16 rfl rfl ?_
    refine s_aload_n j17 rfl rfl ?_
    obtain ⟨ho13, h⟩ := h
    refine s_gfR j18 rfl ho13 ?_
    refine s_aload_n j21 rfl rfl ?_
    refine s_gfR j22 rfl ho13 ?_
    refine s_iload j25 rfl rfl ?_
    obtain ⟨ho14, h⟩ := h
    refine s_iaload j27 rfl ho14 ?_
    obtain ⟨ho15, h⟩ := h
    refine s_laload j28 rfl ho15 ?_
    refine s_g j29 rfl rfl rfl rfl rfl rfl ?_
    refine s_lstore_nV j30 rfl (n := 8) (L' := fun w => [some (am_ov (some this)), some (.int x1), some (.long w), none, some (.int x4), none, none, none]) rfl (by decide) (fun _ => rfl) (fun v16 hv17 => ?_)
    replace h := h v16 hv17
    refine s_iinc (L' := [some (am_ov (some this)), some (.int x1), some (.long v16), none, some (.int (x4 + (1 : Int32))), none, none, none]) j31 rfl rfl kc_ic_1 rfl ?_
    refine s_goto j34 rfl rfl ?_
    exact h
theorem P_Wk_sharedRow_81 (nl : Bool) (Ln : Nat) (xs : Nat → Int32) : am_Jl (TT nl Ln xs) 53 [(81, .istore 7, 83, []), (83, .iload 7, 85, []), (85, .ifCond .ne 16, 88, []), (88, .aload_n 0, 89, []), (89, .lload 4, 91, []), (91, .lload_n 2, 92, []), (92, .iload_n 1, 93, []), (93, .iconst 1, 94, []), (94, .iadd, 95, []), (95, .invokevirtual 349, 98, [10, 54, 3, 10, 4]), (98, .goto 30, 101, []), (101, .iload 7, 103, []), (103, .iconst 1, 104, []), (104, .if_icmp .ne 15, 107, []), (107, .aload_n 0, 108, []), (108, .lload 4, 110, []), (110, .iload_n 1, 111, []), (111, .iconst 1, 112, []), (112, .iadd, 113, []), (113, .invokevirtual 353, 116, [10, 56, 3, 13, 3]), (116, .goto 12, 119, []), (119, .aload_n 0, 120, []), (120, .lload 4, 122, []), (122, .iload_n 1, 123, []), (123, .iconst 1, 124, []), (124, .iadd, 125, []), (125, .invokevirtual 357, 128, [10, 57, 3, 7, 3])] := dk_ck (by decide +kernel)
set_option maxRecDepth 4096 in
theorem w_Wk_sharedRow_81 {nl : Bool} {Ln : Nat} {xs : Nat → Int32} {d : Nat} {this : Nat} {x1 : Int32} {x2 : Int64} {x4 : Int64} {x6 : Option Nat} {y0 : Int32} {σ : am_S} {F : am_S → Prop} (h : (y0 = 0 → (am_is σ (some this) 2) ∧ k_Wk_shareByAlone nl Ln xs d this x4 x2 (x1 + (1 : Int32)) σ (fun σ3 => am_ext σ σ3 → c_Wk_sharedRow_128 nl Ln xs (d + 1) this x1 x2 x4 x6 y0 σ3 F)) ∧ (¬ (y0 = 0) → (y0 = (1 : Int32) → (am_is σ (some this) 2) ∧ k_Wk_shareByRounds nl Ln xs d this x4 (x1 + (1 : Int32)) σ (fun σ7 => am_ext σ σ7 → c_Wk_sharedRow_128 nl Ln xs (d + 1) this x1 x2 x4 x6 y0 σ7 F)) ∧ (¬ (y0 = (1 : Int32)) → (am_is σ (some this) 2) ∧ k_Wk_shareByRanks nl Ln xs d this x4 (x1 + (1 : Int32)) σ (fun σ10 => am_ext σ σ10 → c_Wk_sharedRow_128 nl Ln xs (d + 1) this x1 x2 x4 x6 y0 σ10 F)))) : c_Wk_sharedRow_81 nl Ln xs (d + 1) this x1 x2 x4 x6 y0 σ F := by
  obtain ⟨j81, j83, j85, j88, j89, j91, j92, j93, j94, j95, j98, j101, j103, j104, j107, j108, j110, j111, j112, j113, j116, j119, j120, j122, j123, j124, j125, -⟩ := P_Wk_sharedRow_81 nl Ln xs
  unfold c_Wk_sharedRow_81
  refine s_istore j81 rfl (n := 8) (L' := [some (am_ov (some this)), some (.int x1), some (.long x2), none, some (.long x4), none, some (am_ov x6), some (.int y0)]) rfl (by decide) (am_st1_R [_, _, _, _, _, _] _ _ _ _) ?_
  refine s_iload j83 rfl rfl ?_
  refine s_ifn j85 rfl rfl am_cc_ne (fun hc1 => ?_) (fun hc1 => ?_)
  · replace h := h.2 hc1
    refine s_iload j101 rfl rfl ?_
    refine s_iconst j103 rfl kc_ic_1 ?_
    refine s_icn j104 rfl rfl am_cc_ne (fun hc5 => ?_) (fun hc5 => ?_)
    · replace h := h.2 hc5
      refine s_aload_n j119 rfl rfl ?_
      refine s_lload j120 rfl rfl ?_
      refine s_iload_n j122 rfl rfl ?_
      refine s_iconst j123 rfl kc_ic_1 ?_
      refine s_g j124 rfl rfl rfl rfl rfl rfl ?_
      obtain ⟨ho9, h⟩ := h
      refine s_virt j125 rfl rfl rfl rfl ho9 (by decide) (in_Wk_shareByRanks _ _ _) (am_r8 rfl) (am_bV h (fun σ10 h hx10 => ?_))
      replace h := h hx10
      exact h
    · replace h := h.1 hc5
      refine s_aload_n j107 rfl rfl ?_
      refine s_lload j108 rfl rfl ?_
      refine s_iload_n j110 rfl rfl ?_
      refine s_iconst j111 rfl kc_ic_1 ?_
      refine s_g j112 rfl rfl rfl rfl rfl rfl ?_
      obtain ⟨ho6, h⟩ := h
      refine s_virt j113 rfl rfl rfl rfl ho6 (by decide) (in_Wk_shareByRounds _ _ _) (am_r8 rfl) (am_bV h (fun σ7 h hx7 => ?_))
      replace h := h hx7
      refine s_goto j116 rfl rfl ?_
      exact h
  · replace h := h.1 hc1
    refine s_aload_n j88 rfl rfl ?_
    refine s_lload j89 rfl rfl ?_
    refine s_lload_n j91 rfl rfl ?_
    refine s_iload_n j92 rfl rfl ?_
    refine s_iconst j93 rfl kc_ic_1 ?_
    refine s_g j94 rfl rfl rfl rfl rfl rfl ?_
    obtain ⟨ho2, h⟩ := h
    refine s_virt j95 rfl rfl rfl rfl ho2 (by decide) (in_Wk_shareByAlone _ _ _ _) (am_r8 rfl) (am_bV h (fun σ3 h hx3 => ?_))
    replace h := h hx3
    refine s_goto j98 rfl rfl ?_
    exact h
theorem P_Wk_sharedRow_128 (nl : Bool) (Ln : Nat) (xs : Nat → Int32) : am_Jl (TT nl Ln xs) 53 [(128, .aload_n 0, 129, []), (129, .getfield 12, 132, [9, 2, 2, 2]), (132, .getfield 49, 135, [9, 3, 7, 3]), (135, .ifCond .ne 21, 138, []), (138, .aload_n 0, 139, []), (139, .bipush 7, 141, []), (141, .iload_n 1, 142, []), (142, .aload_n 0, 143, []), (143, .getfield 35, 146, [9, 2, 18, 2]), (146, .iconst 0, 147, []), (147, .laload, 148, []), (148, .aload_n 0, 149, []), (149, .getfield 83, 152, [9, 2, 11, 1]), (152, .lsub, 153, []), (153, .invokevirtual 107, 156, [10, 38, 3, 5, 4]), (156, .return_, 157, [0])] := dk_ck (by decide +kernel)
set_option maxRecDepth 4096 in
theorem w_Wk_sharedRow_128 {nl : Bool} {Ln : Nat} {xs : Nat → Int32} {d : Nat} {this : Nat} {x1 : Int32} {x2 : Int64} {x4 : Int64} {x6 : Option Nat} {x7 : Int32} {σ : am_S} {F : am_S → Prop} (h : (am_is σ (some this) 2) ∧ (am_is σ (am_fR σ 2002 this) 3) ∧ ((am_fI σ 3007 ((am_fR σ 2002 this).getD 0)) = 0 → (am_ar σ 1001 (am_fR σ 2018 this) (0 : Int32)) ∧ k_Wk_addRow nl Ln xs d this (7 : Int32) x1 ((am_aL σ ((am_fR σ 2018 this).getD 0) (0 : Int32).toNatClampNeg) - (am_fL σ 2011 this)) σ (fun σ5 => am_ext σ σ5 → F σ5)) ∧ (¬ ((am_fI σ 3007 ((am_fR σ 2002 this).getD 0)) = 0) → F σ)) : c_Wk_sharedRow_128 nl Ln xs (d + 1) this x1 x2 x4 x6 x7 σ F := by
  obtain ⟨j128, j129, j132, j135, j138, j139, j141, j142, j143, j146, j147, j148, j149, j152, j153, j156, -⟩ := P_Wk_sharedRow_128 nl Ln xs
  unfold c_Wk_sharedRow_128
  refine s_aload_n j128 rfl rfl ?_
  obtain ⟨ho1, h⟩ := h
  refine s_gfR j129 rfl ho1 ?_
  obtain ⟨ho2, h⟩ := h
  refine s_gfZ j132 rfl ho2 ?_
  refine s_ifn j135 rfl rfl am_cc_ne (fun hc3 => ?_) (fun hc3 => ?_)
  · replace h := h.2 hc3
    exact s_retV j156 rfl h
  · replace h := h.1 hc3
    refine s_aload_n j138 rfl rfl ?_
    refine s_bipush j139 rfl kc_bi_7 ?_
    refine s_iload_n j141 rfl rfl ?_
    refine s_aload_n j142 rfl rfl ?_
    refine s_gfR j143 rfl ho1 ?_
    refine s_iconst j146 rfl kc_ic_0 ?_
    obtain ⟨ho4, h⟩ := h
    refine s_laload j147 rfl ho4 ?_
    refine s_aload_n j148 rfl rfl ?_
    refine s_gfL j149 rfl ho1 ?_
    refine s_g j152 rfl rfl rfl rfl rfl rfl ?_
    refine s_virt j153 rfl rfl rfl rfl ho1 (by decide) (in_Wk_addRow _ _ _ _) (am_r8 rfl) (am_bV h (fun σ5 h hx5 => ?_))
    replace h := h hx5
    exact s_retV j156 rfl h
theorem P_Wk_shareByAlone (nl : Bool) (Ln : Nat) (xs : Nat → Int32) : am_Jl (TT nl Ln xs) 54 [(0, .lload_n 3, 1, []), (1, .lconst 0, 2, []), (2, .lcmp, 3, []), (3, .ifCond .ne 12, 6, []), (6, .aload_n 0, 7, []), (7, .getfield 12, 10, [9, 2, 2, 2]), (10, .iconst 4, 11, []), (11, .invokevirtual 197, 14, [10, 30, 4, 2, 2]), (14, .return_, 15, [0]), (15, .lload_n 1, 16, []), (16, .lstore 6, 18, []), (18, .iconst 0, 19, []), (19, .istore 8, 21, [])] := dk_ck (by decide +kernel)
set_option maxRecDepth 4096 in
theorem w_Wk_shareByAlone {nl : Bool} {Ln : Nat} {xs : Nat → Int32} {d : Nat} {this : Nat} {p0 : Int64} {p1 : Int64} {p2 : Int32} {σ : am_S} {F : am_S → Prop} (h : (p1 = (0 : Int64) → (am_is σ (some this) 2) ∧ (am_is σ (am_fR σ 2002 this) 3) ∧ k_Vw_fail nl Ln xs d ((am_fR σ 2002 this).getD 0) (4 : Int32) σ (fun σ4 => am_ext σ σ4 → F σ4)) ∧ (¬ (p1 = (0 : Int64)) → c_Wk_shareByAlone_21 nl Ln xs (d + 1) this p0 p1 p2 p0 (0 : Int32) none σ F)) : k_Wk_shareByAlone nl Ln xs (d + 1) this p0 p1 p2 σ F := by
  obtain ⟨j0, j1, j2, j3, j6, j7, j10, j11, j14, j15, j16, j18, j19, -⟩ := P_Wk_shareByAlone nl Ln xs
  have elo : am_lo 10 [am_ov (some this), .long p0, .long p1, .int p2] = [some (am_ov (some this)), some (.long p0), none, some (.long p1), none, some (.int p2), none, none, none, none] := by simp only [am_lo, am_in_ov, am_in_int, am_in_long, am_in_nil]; rfl
  unfold k_Wk_shareByAlone
  rw [elo]
  refine s_lload_n j0 rfl rfl ?_
  refine s_lconst j1 rfl rfl ?_
  refine s_g j2 rfl rfl rfl rfl rfl rfl ?_
  refine s_ifn j3 rfl rfl am_cl_ne (fun hc1 => ?_) (fun hc1 => ?_)
  · replace h := h.2 hc1
    refine s_lload_n j15 rfl rfl ?_
    refine s_lstore j16 rfl (n := 10) (L' := [some (am_ov (some this)), some (.long p0), none, some (.long p1), none, some (.int p2), some (.long p0), none, none, none]) rfl (by decide) rfl ?_
    refine s_iconst j18 rfl kc_ic_0 ?_
    refine s_istore j19 rfl (n := 10) (L' := [some (am_ov (some this)), some (.long p0), none, some (.long p1), none, some (.int p2), some (.long p0), none, some (.int (0 : Int32)), none]) rfl (by decide) rfl ?_
    exact h
  · replace h := h.1 hc1
    refine s_aload_n j6 rfl rfl ?_
    obtain ⟨ho2, h⟩ := h
    refine s_gfR j7 rfl ho2 ?_
    refine s_iconst j10 rfl kc_ic_4 ?_
    obtain ⟨ho3, h⟩ := h
    refine s_virt j11 rfl rfl rfl rfl ho3 (by decide) (in_Vw_fail _ _) (am_r8 rfl) (am_bV h (fun σ4 h hx4 => ?_))
    replace h := h hx4
    exact s_retV j14 rfl h
theorem P_Wk_shareByAlone_21 (nl : Bool) (Ln : Nat) (xs : Nat → Int32) : am_Jl (TT nl Ln xs) 54 [(21, .iload 8, 23, []), (23, .iload 5, 25, []), (25, .if_icmp .ge 51, 28, []), (28, .aload_n 0, 29, []), (29, .getfield 38, 32, [9, 2, 19, 2]), (32, .iload 8, 34, []), (34, .iaload, 35, []), (35, .istore 9, 37, []), (37, .aload_n 0, 38, []), (38, .getfield 35, 41, [9, 2, 18, 2]), (41, .iload 9, 43, []), (43, .aload_n 0, 44, []), (44, .lload_n 1, 45, []), (45, .aload_n 0, 46, []), (46, .getfield 32, 49, [9, 2, 17, 2]), (49, .iload 9, 51, []), (51, .laload, 52, []), (52, .invokevirtual 320, 55, [10, 48, 3, 5, 3]), (55, .lload_n 3, 56, []), (56, .ldiv, 57, []), (57, .lastore, 58, []), (58, .lload 6, 60, []), (60, .aload_n 0, 61, []), (61, .getfield 35, 64, [9, 2, 18, 2]), (64, .iload 9, 66, []), (66, .laload, 67, []), (67, .lsub, 68, []), (68, .lstore 6, 70, []), (70, .iinc 8 1, 73, []), (73, .goto (-52), 76, []), (76, .iconst 0, 77, []), (77, .istore 8, 79, [])] := dk_ck (by decide +kernel)
set_option maxRecDepth 4096 in
theorem w_Wk_shareByAlone_21 {nl : Bool} {Ln : Nat} {xs : Nat → Int32} {d : Nat} {this : Nat} {x1 : Int64} {x3 : Int64} {x5 : Int32} {x6 : Int64} {x8 : Int32} {x9 : Option Value} {σ : am_S} {F : am_S → Prop} (h : (x8 < x5 → (am_is σ (some this) 2) ∧ (am_ar σ 1000 (am_fR σ 2019 this) x8) ∧ ∀ v4 : Int32, v4 = (am_aI σ ((am_fR σ 2019 this).getD 0) x8.toNatClampNeg) → (am_ar σ 1001 (am_fR σ 2017 this) v4) ∧ k_Wk_times nl Ln xs d this x1 (am_aL σ ((am_fR σ 2017 this).getD 0) v4.toNatClampNeg) σ (fun a8 σ7 => am_ext σ σ7 → (x3 ≠ 0) ∧ (am_ar σ7 1001 (am_fR σ 2018 this) v4) ∧ ∀ σ11, σ11 = am_saL σ7 ((am_fR σ 2018 this).getD 0) v4.toNatClampNeg (a8 / x3) → (am_ar σ11 1001 (am_fR σ11 2018 this) v4) ∧ ∀ v15 : Int64, v15 = (x6 - (am_aL σ11 ((am_fR σ11 2018 this).getD 0) v4.toNatClampNeg)) → c_Wk_shareByAlone_21 nl Ln xs (d + 1) this x1 x3 x5 v15 (x8 + (1 : Int32)) (some (.int v4)) σ11 F)) ∧ (¬ (x8 < x5) → c_Wk_shareByAlone_79 nl Ln xs (d + 1) this x1 x3 x5 x6 (0 : Int32) x9 σ F)) : c_Wk_shareByAlone_21 nl Ln xs (d + 1) this x1 x3 x5 x6 x8 x9 σ F := by
  obtain ⟨j21, j23, j25, j28, j29, j32, j34, j35, j37, j38, j41, j43, j44, j45, j46, j49, j51, j52, j55, j56, j57, j58, j60, j61, j64, j66, j67, j68, j70, j73, j76, j77, -⟩ := P_Wk_shareByAlone_21 nl Ln xs
  unfold c_Wk_shareByAlone_21
  refine s_iload j21 rfl rfl ?_
  refine s_iload j23 rfl rfl ?_
  refine s_icn j25 rfl rfl am_cc_ge (fun hc1 => ?_) (fun hc1 => ?_)
  · replace h := h.2 hc1
    refine s_iconst j76 rfl kc_ic_0 ?_
    refine s_istore j77 rfl (n := 10) (L' := [some (am_ov (some this)), some (.long x1), none, some (.long x3), none, some (.int x5), some (.long x6), none, some (.int (0 : Int32)), x9]) rfl (by decide) rfl ?_
    exact h
  · replace h := h.1 hc1
    refine s_aload_n j28 rfl rfl ?_
    obtain ⟨ho2, h⟩ := h
    refine s_gfR j29 rfl ho2 ?_
    refine s_iload j32 rfl rfl ?_
    obtain ⟨ho3, h⟩ := h
    refine s_iaload j34 rfl ho3 ?_
    refine s_istoreV j35 rfl (n := 10) (L' := fun w => [some (am_ov (some this)), some (.long x1), none, some (.long x3), none, some (.int x5), some (.long x6), none, some (.int x8), some (.int w)]) rfl (by decide) (fun _ => rfl) (fun v4 hv5 => ?_)
    replace h := h v4 hv5
    refine s_aload_n j37 rfl rfl ?_
    refine s_gfR j38 rfl ho2 ?_
    refine s_iload j41 rfl rfl ?_
    refine s_aload_n j43 rfl rfl ?_
    refine s_lload_n j44 rfl rfl ?_
    refine s_aload_n j45 rfl rfl ?_
    refine s_gfR j46 rfl ho2 ?_
    refine s_iload j49 rfl rfl ?_
    obtain ⟨ho6, h⟩ := h
    refine s_laload j51 rfl ho6 ?_
    refine s_virt j52 rfl rfl rfl rfl ho2 (by decide) (in_Wk_times _ _ _) (am_r8 rfl) (am_bL h (fun a8 σ7 h hx7 => ?_))
    replace h := h hx7
    refine s_lload_n j55 rfl rfl ?_
    obtain ⟨ho9, h⟩ := h
    refine s_ldiv j56 rfl ho9 ?_
    obtain ⟨ho10, h⟩ := h
    refine s_lastore j57 rfl ho10 (fun σ11 e12 => ?_)
    replace h := h σ11 e12
    have ek13 : am_kd σ11 = am_kd σ7 := by rw [e12]
    refine s_lload j58 rfl rfl ?_
    refine s_aload_n j60 rfl rfl ?_
    refine s_gfR j61 rfl (am_is_kd ek13 (am_is_ext hx7 ho2)) ?_
    refine s_iload j64 rfl rfl ?_
    obtain ⟨ho14, h⟩ := h
    refine s_laload j66 rfl ho14 ?_
    refine s_g j67 rfl rfl rfl rfl rfl rfl ?_
    refine s_lstoreV j68 rfl (n := 10) (L' := fun w => [some (am_ov (some this)), some (.long x1), none, some (.long x3), none, some (.int x5), some (.long w), none, some (.int x8), some (.int v4)]) rfl (by decide) (fun _ => rfl) (fun v15 hv16 => ?_)
    replace h := h v15 hv16
    refine s_iinc (L' := [some (am_ov (some this)), some (.long x1), none, some (.long x3), none, some (.int x5), some (.long v15), none, some (.int (x8 + (1 : Int32))), some (.int v4)]) j70 rfl rfl kc_ic_1 rfl ?_
    refine s_goto j73 rfl rfl ?_
    exact h
theorem P_Wk_shareByAlone_79 (nl : Bool) (Ln : Nat) (xs : Nat → Int32) : am_Jl (TT nl Ln xs) 54 [(79, .iload 8, 81, []), (81, .bipush 6, 83, []), (83, .if_icmp .ge 36, 86, []), (86, .lload 6, 88, []), (88, .lconst 0, 89, []), (89, .lcmp, 90, []), (90, .ifCond .le 29, 93, []), (93, .aload_n 0, 94, []), (94, .getfield 12, 97, [9, 2, 2, 2]), (97, .getfield 49, 100, [9, 3, 7, 3]), (100, .ifCond .ne 19, 103, []), (103, .aload_n 0, 104, []), (104, .lload 6, 106, []), (106, .iload 5, 108, []), (108, .invokevirtual 369, 111, [10, 55, 3, 7, 3]), (111, .lstore 6, 113, []), (113, .iinc 8 1, 116, []), (116, .goto (-37), 119, []), (119, .return_, 120, [0])] := dk_ck (by decide +kernel)
set_option maxRecDepth 4096 in
theorem w_Wk_shareByAlone_79 {nl : Bool} {Ln : Nat} {xs : Nat → Int32} {d : Nat} {this : Nat} {x1 : Int64} {x3 : Int64} {x5 : Int32} {x6 : Int64} {x8 : Int32} {x9 : Option Value} {σ : am_S} {F : am_S → Prop} (h : (x8 < (6 : Int32) → ((0 : Int64) < x6 → (am_is σ (some this) 2) ∧ (am_is σ (am_fR σ 2002 this) 3) ∧ ((am_fI σ 3007 ((am_fR σ 2002 this).getD 0)) = 0 → k_Wk_giveCents nl Ln xs d this x6 x5 σ (fun a7 σ6 => am_ext σ σ6 → c_Wk_shareByAlone_79 nl Ln xs (d + 1) this x1 x3 x5 a7 (x8 + (1 : Int32)) x9 σ6 F)) ∧ (¬ ((am_fI σ 3007 ((am_fR σ 2002 this).getD 0)) = 0) → F σ)) ∧ (¬ ((0 : Int64) < x6) → F σ)) ∧ (¬ (x8 < (6 : Int32)) → F σ)) : c_Wk_shareByAlone_79 nl Ln xs (d + 1) this x1 x3 x5 x6 x8 x9 σ F := by
  obtain ⟨j79, j81, j83, j86, j88, j89, j90, j93, j94, j97, j100, j103, j104, j106, j108, j111, j113, j116, j119, -⟩ := P_Wk_shareByAlone_79 nl Ln xs
  unfold c_Wk_shareByAlone_79
  refine s_iload j79 rfl rfl ?_
  refine s_bipush j81 rfl kc_bi_6 ?_
  refine s_icn j83 rfl rfl am_cc_ge (fun hc1 => ?_) (fun hc1 => ?_)
  · replace h := h.2 hc1
    exact s_retV j119 rfl h
  · replace h := h.1 hc1
    refine s_lload j86 rfl rfl ?_
    refine s_lconst j88 rfl rfl ?_
    refine s_g j89 rfl rfl rfl rfl rfl rfl ?_
    refine s_ifn j90 rfl rfl am_cl_le (fun hc2 => ?_) (fun hc2 => ?_)
    · replace h := h.2 hc2
      exact s_retV j119 rfl h
    · replace h := h.1 hc2
      refine s_aload_n j93 rfl rfl ?_
      obtain ⟨ho3, h⟩ := h
      refine s_gfR j94 rfl ho3 ?_
      obtain ⟨ho4, h⟩ := h
      refine s_gfZ j97 rfl ho4 ?_
      refine s_ifn j100 rfl rfl am_cc_ne (fun hc5 => ?_) (fun hc5 => ?_)
      · replace h := h.2 hc5
        exact s_retV j119 rfl h
      · replace h := h.1 hc5
        refine s_aload_n j103 rfl rfl ?_
        refine s_lload j104 rfl rfl ?_
        refine s_iload j106 rfl rfl ?_
        refine s_virt j108 rfl rfl rfl rfl ho3 (by decide) (in_Wk_giveCents _ _ _) (am_r8 rfl) (am_bL h (fun a7 σ6 h hx6 => ?_))
        replace h := h hx6
        refine s_lstore j111 rfl (n := 10) (L' := [some (am_ov (some this)), some (.long x1), none, some (.long x3), none, some (.int x5), some (.long a7), none, some (.int x8), x9]) rfl (by decide) rfl ?_
        refine s_iinc (L' := [some (am_ov (some this)), some (.long x1), none, some (.long x3), none, some (.int x5), some (.long a7), none, some (.int (x8 + (1 : Int32))), x9]) j113 rfl rfl kc_ic_1 rfl ?_
        refine s_goto j116 rfl rfl ?_
        exact h
