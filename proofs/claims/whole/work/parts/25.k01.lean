/-! statements of methods, 1 (by wip/whole/gensteps.py) -/
theorem P_Wk_work (nl : Bool) (Ln : Nat) (xs : Nat → Int32) : am_Jl (TT nl Ln xs) 24 [(0, .aload_n 0, 1, []), (1, .aload_n 1, 2, []), (2, .putfield 73, 5, [9, 2, 3, 2]), (5, .aload_n 0, 6, []), (6, .aload_n 2, 7, []), (7, .putfield 87, 10, [9, 2, 4, 2]), (10, .aload_n 0, 11, []), (11, .aload_n 2, 12, []), (12, .getfield 120, 15, [9, 11, 2, 2]), (15, .putfield 124, 18, [9, 2, 5, 2]), (18, .aload_n 0, 19, []), (19, .iload_n 3, 20, []), (20, .putfield 91, 23, [9, 2, 8, 0]), (23, .aload_n 0, 24, []), (24, .iload 4, 26, []), (26, .putfield 95, 29, [9, 2, 9, 0]), (29, .aload_n 0, 30, []), (30, .lconst 0, 31, []), (31, .putfield 83, 34, [9, 2, 11, 1]), (34, .aload_n 0, 35, []), (35, .getfield 12, 38, [9, 2, 2, 2]), (38, .invokevirtual 125, 41, [10, 25, 4, 1, 1]), (41, .aload_n 0, 42, []), (42, .invokevirtual 128, 45, [10, 26, 3, 3, 1]), (45, .aload_n 0, 46, []), (46, .getfield 12, 49, [9, 2, 2, 2]), (49, .getfield 49, 52, [9, 3, 7, 3]), (52, .ifCond .eq 4, 55, []), (55, .return_, 56, [0]), (56, .aload_n 0, 57, []), (57, .invokevirtual 131, 60, [10, 33, 3, 5, 1]), (60, .aload_n 0, 61, []), (61, .aload_n 0, 62, []), (62, .iconst 4, 63, []), (63, .getstatic 134, 66, [7, 502, 0]), (66, .aload_n 0, 67, []), (67, .getfield 124, 70, [9, 2, 5, 2]), (70, .getfield 137, 73, [9, 10, 1, 0]), (73, .iaload, 74, []), (74, .aload_n 0, 75, []), (75, .getfield 124, 78, [9, 2, 5, 2]), (78, .aload_n 0, 79, []), (79, .iconst 2, 80, []), (80, .ldc2_w 142, 83, [6, 1000000000000]), (83, .invokevirtual 57, 86, [10, 34, 3, 5, 3]), (86, .iconst 0, 87, []), (87, .invokevirtual 144, 90, [10, 36, 3, 15, 6]), (90, .putfield 148, 93, [9, 2, 12, 1]), (93, .aload_n 0, 94, []), (94, .iconst 0, 95, []), (95, .iconst 0, 96, []), (96, .aload_n 0, 97, []), (97, .getfield 148, 100, [9, 2, 12, 1]), (100, .invokevirtual 107, 103, [10, 38, 3, 5, 4]), (103, .aload_n 0, 104, []), (104, .invokevirtual 151, 107, [10, 40, 3, 6, 1]), (107, .aload_n 0, 108, []), (108, .getfield 12, 111, [9, 2, 2, 2]), (111, .getfield 49, 114, [9, 3, 7, 3]), (114, .ifCond .ne 7, 117, []), (117, .aload_n 0, 118, []), (118, .invokevirtual 154, 121, [10, 45, 3, 4, 1])] := dk_ck (by decide +kernel)
set_option maxRecDepth 4096 in
theorem w_Wk_work {nl : Bool} {Ln : Nat} {xs : Nat → Int32} {d : Nat} {this : Nat} {p0 : Option Nat} {p1 : Option Nat} {p2 : Int32} {p3 : Int32} {σ : am_S} {F : am_S → Prop} (h : (am_is σ (some this) 2) ∧ ∀ σ2, σ2 = am_sfR σ 2003 this p0 → ∀ σ5, σ5 = am_sfR σ2 2004 this p1 → (am_is σ5 p1 11) ∧ ∀ σ9, σ9 = am_sfR σ5 2005 this (am_fR σ5 11002 (p1.getD 0)) → ∀ σ12, σ12 = am_sfI σ9 2008 this p2 → ∀ σ15, σ15 = am_sfI σ12 2009 this p3 → ∀ σ18, σ18 = am_sfL σ15 2011 this (0 : Int64) → (am_is σ18 (am_fR σ18 2002 this) 3) ∧ k_Vw_clear nl Ln xs d ((am_fR σ18 2002 this).getD 0) σ18 (fun σ22 => am_ext σ18 σ22 → k_Wk_findCover nl Ln xs d this σ22 (fun σ24 => am_ext σ22 σ24 → (am_is σ24 (am_fR σ24 2002 this) 3) ∧ ((am_fI σ24 3007 ((am_fR σ24 2002 this).getD 0)) = 0 → k_Wk_takeCorrections nl Ln xs d this σ24 (fun σ28 => am_ext σ24 σ28 → (am_is σ28 (am_fR σ28 2005 this) 10) ∧ ((am_kd σ28 502).1 = 0) ∧ (0 ≤ (am_fI σ28 10001 ((am_fR σ28 2005 this).getD 0)).toInt) ∧ ((am_fI σ28 10001 ((am_fR σ28 2005 this).getD 0)).toInt < am_rl (am_tz (TT nl Ln xs)) 502) ∧ k_Wk_numberOf nl Ln xs d this (2 : Int32) (1000000000000 : Int64) σ28 (fun a35 σ34 => am_ext σ28 σ34 → k_Wk_ask nl Ln xs d this (4 : Int32) (am_rv (am_tz (TT nl Ln xs)) 502 (am_fI σ28 10001 ((am_fR σ28 2005 this).getD 0)).toNatClampNeg) (am_fR σ28 2005 this) a35 (0 : Int32) σ34 (fun a37 σ36 => am_ext σ34 σ36 → ∀ σ38, σ38 = am_sfL σ36 2012 this a37 → k_Wk_addRow nl Ln xs d this (0 : Int32) (0 : Int32) (am_fL σ38 2012 this) σ38 (fun σ41 => am_ext σ38 σ41 → k_Wk_outRow nl Ln xs d this σ41 (fun σ43 => am_ext σ41 σ43 → (am_is σ43 (am_fR σ43 2002 this) 3) ∧ ((am_fI σ43 3007 ((am_fR σ43 2002 this).getD 0)) = 0 → k_Wk_waitRow nl Ln xs d this σ43 (fun σ47 => am_ext σ43 σ47 → c_Wk_work_121 nl Ln xs (d + 1) this p0 p1 p2 p3 σ47 F)) ∧ (¬ ((am_fI σ43 3007 ((am_fR σ43 2002 this).getD 0)) = 0) → c_Wk_work_121 nl Ln xs (d + 1) this p0 p1 p2 p3 σ43 F))))))) ∧ (¬ ((am_fI σ24 3007 ((am_fR σ24 2002 this).getD 0)) = 0) → F σ24)))) : k_Wk_work nl Ln xs (d + 1) this p0 p1 p2 p3 σ F := by
  obtain ⟨j0, j1, j2, j5, j6, j7, j10, j11, j12, j15, j18, j19, j20, j23, j24, j26, j29, j30, j31, j34, j35, j38, j41, j42, j45, j46, j49, j52, j55, j56, j57, j60, j61, j62, j63, j66, j67, j70, j73, j74, j75, j78, j79, j80, j83, j86, j87, j90, j93, j94, j95, j96, j97, j100, j103, j104, j107, j108, j111, j114, j117, j118, -⟩ := P_Wk_work nl Ln xs
  have elo : am_lo 6 [am_ov (some this), am_ov p0, am_ov p1, .int p2, .int p3] = [some (am_ov (some this)), some (am_ov p0), some (am_ov p1), some (.int p2), some (.int p3), none] := by simp only [am_lo, am_in_ov, am_in_int, am_in_long, am_in_nil]; rfl
  unfold k_Wk_work
  rw [elo]
  refine s_aload_n j0 rfl rfl ?_
  refine s_aload_n j1 rfl rfl ?_
  obtain ⟨ho1, h⟩ := h
  refine s_pfR j2 rfl ho1 (fun σ2 e3 => ?_)
  replace h := h σ2 e3
  have ek4 : am_kd σ2 = am_kd σ := by rw [e3]
  refine s_aload_n j5 rfl rfl ?_
  refine s_aload_n j6 rfl rfl ?_
  refine s_pfR j7 rfl (am_is_kd ek4 ho1) (fun σ5 e6 => ?_)
  replace h := h σ5 e6
  have ek7 : am_kd σ5 = am_kd σ2 := by rw [e6]
  refine s_aload_n j10 rfl rfl ?_
  refine s_aload_n j11 rfl rfl ?_
  obtain ⟨ho8, h⟩ := h
  refine s_gfR j12 rfl ho8 ?_
  refine s_pfR j15 rfl (am_is_kd ek7 (am_is_kd ek4 ho1)) (fun σ9 e10 => ?_)
  replace h := h σ9 e10
  have ek11 : am_kd σ9 = am_kd σ5 := by rw [e10]
  refine s_aload_n j18 rfl rfl ?_
  refine s_iload_n j19 rfl rfl ?_
  refine s_pfI j20 rfl (am_is_kd ek11 (am_is_kd ek7 (am_is_kd ek4 ho1))) (fun σ12 e13 => ?_)
  replace h := h σ12 e13
  have ek14 : am_kd σ12 = am_kd σ9 := by rw [e13]
  refine s_aload_n j23 rfl rfl ?_
  refine s_iload j24 rfl rfl ?_
  refine s_pfI j26 rfl (am_is_kd ek14 (am_is_kd ek11 (am_is_kd ek7 (am_is_kd ek4 ho1)))) (fun σ15 e16 => ?_)
  replace h := h σ15 e16
  have ek17 : am_kd σ15 = am_kd σ12 := by rw [e16]
  refine s_aload_n j29 rfl rfl ?_
  refine s_lconst j30 rfl rfl ?_
  refine s_pfL j31 rfl (am_is_kd ek17 (am_is_kd ek14 (am_is_kd ek11 (am_is_kd ek7 (am_is_kd ek4 ho1))))) (fun σ18 e19 => ?_)
  replace h := h σ18 e19
  have ek20 : am_kd σ18 = am_kd σ15 := by rw [e19]
  refine s_aload_n j34 rfl rfl ?_
  refine s_gfR j35 rfl (am_is_kd ek20 (am_is_kd ek17 (am_is_kd ek14 (am_is_kd ek11 (am_is_kd ek7 (am_is_kd ek4 ho1)))))) ?_
  obtain ⟨ho21, h⟩ := h
  refine s_virt j38 rfl rfl rfl rfl ho21 (by decide) (in_Vw_clear _) (am_r8 rfl) (am_bV h (fun σ22 h hx22 => ?_))
  replace h := h hx22
  refine s_aload_n j41 rfl rfl ?_
  refine s_virt j42 rfl rfl rfl rfl (am_is_ext hx22 (am_is_kd ek20 (am_is_kd ek17 (am_is_kd ek14 (am_is_kd ek11 (am_is_kd ek7 (am_is_kd ek4 ho1))))))) (by decide) (in_Wk_findCover _) (am_r8 rfl) (am_bV h (fun σ24 h hx24 => ?_))
  replace h := h hx24
  refine s_aload_n j45 rfl rfl ?_
  refine s_gfR j46 rfl (am_is_ext hx24 (am_is_ext hx22 (am_is_kd ek20 (am_is_kd ek17 (am_is_kd ek14 (am_is_kd ek11 (am_is_kd ek7 (am_is_kd ek4 ho1)))))))) ?_
  obtain ⟨ho26, h⟩ := h
  refine s_gfZ j49 rfl ho26 ?_
  refine s_if j52 rfl rfl am_cc_eq (fun hc27 => ?_) (fun hc27 => ?_)
  · replace h := h.1 hc27
    refine s_aload_n j56 rfl rfl ?_
    refine s_virt j57 rfl rfl rfl rfl (am_is_ext hx24 (am_is_ext hx22 (am_is_kd ek20 (am_is_kd ek17 (am_is_kd ek14 (am_is_kd ek11 (am_is_kd ek7 (am_is_kd ek4 ho1)))))))) (by decide) (in_Wk_takeCorrections _) (am_r8 rfl) (am_bV h (fun σ28 h hx28 => ?_))
    replace h := h hx28
    refine s_aload_n j60 rfl rfl ?_
    refine s_aload_n j61 rfl rfl ?_
    refine s_iconst j62 rfl kc_ic_4 ?_
    refine s_static j63 rfl ?_
    refine s_aload_n j66 rfl rfl ?_
    refine s_gfR j67 rfl (am_is_ext hx28 (am_is_ext hx24 (am_is_ext hx22 (am_is_kd ek20 (am_is_kd ek17 (am_is_kd ek14 (am_is_kd ek11 (am_is_kd ek7 (am_is_kd ek4 ho1))))))))) ?_
    obtain ⟨ho30, h⟩ := h
    refine s_gfI j70 rfl ho30 ?_
    obtain ⟨ho31, h⟩ := h
    obtain ⟨ho32, h⟩ := h
    obtain ⟨ho33, h⟩ := h
    refine s_ialoadR j73 rfl (by decide) ho31 rfl ho32 ho33 ?_
    refine s_aload_n j74 rfl rfl ?_
    refine s_gfR j75 rfl (am_is_ext hx28 (am_is_ext hx24 (am_is_ext hx22 (am_is_kd ek20 (am_is_kd ek17 (am_is_kd ek14 (am_is_kd ek11 (am_is_kd ek7 (am_is_kd ek4 ho1))))))))) ?_
    refine s_aload_n j78 rfl rfl ?_
    refine s_iconst j79 rfl kc_ic_2 ?_
    refine s_ldc2 j80 rfl kc_ll_1000000000000 ?_
    refine s_virt j83 rfl rfl rfl rfl (am_is_ext hx28 (am_is_ext hx24 (am_is_ext hx22 (am_is_kd ek20 (am_is_kd ek17 (am_is_kd ek14 (am_is_kd ek11 (am_is_kd ek7 (am_is_kd ek4 ho1))))))))) (by decide) (in_Wk_numberOf _ _ _) (am_r81 rfl ⟨am_cov _, rfl, rfl, am_cov _, am_cov _, trivial⟩) (am_bL h (fun a35 σ34 h hx34 => ?_))
    replace h := h hx34
    refine s_iconst j86 rfl kc_ic_0 ?_
    refine s_virt j87 rfl rfl rfl rfl (am_is_ext hx34 (am_is_ext hx28 (am_is_ext hx24 (am_is_ext hx22 (am_is_kd ek20 (am_is_kd ek17 (am_is_kd ek14 (am_is_kd ek11 (am_is_kd ek7 (am_is_kd ek4 ho1)))))))))) (by decide) (in_Wk_ask _ _ _ _ _ _) (am_r8 rfl) (am_bL h (fun a37 σ36 h hx36 => ?_))
    replace h := h hx36
    refine s_pfL j90 rfl (am_is_ext hx36 (am_is_ext hx34 (am_is_ext hx28 (am_is_ext hx24 (am_is_ext hx22 (am_is_kd ek20 (am_is_kd ek17 (am_is_kd ek14 (am_is_kd ek11 (am_is_kd ek7 (am_is_kd ek4 ho1))))))))))) (fun σ38 e39 => ?_)
    replace h := h σ38 e39
    have ek40 : am_kd σ38 = am_kd σ36 := by rw [e39]
    refine s_aload_n j93 rfl rfl ?_
    refine s_iconst j94 rfl kc_ic_0 ?_
    refine s_iconst j95 rfl kc_ic_0 ?_
    refine s_aload_n j96 rfl rfl ?_
    refine s_gfL j97 rfl (am_is_kd ek40 (am_is_ext hx36 (am_is_ext hx34 (am_is_ext hx28 (am_is_ext hx24 (am_is_ext hx22 (am_is_kd ek20 (am_is_kd ek17 (am_is_kd ek14 (am_is_kd ek11 (am_is_kd ek7 (am_is_kd ek4 ho1)))))))))))) ?_
    refine s_virt j100 rfl rfl rfl rfl (am_is_kd ek40 (am_is_ext hx36 (am_is_ext hx34 (am_is_ext hx28 (am_is_ext hx24 (am_is_ext hx22 (am_is_kd ek20 (am_is_kd ek17 (am_is_kd ek14 (am_is_kd ek11 (am_is_kd ek7 (am_is_kd ek4 ho1)))))))))))) (by decide) (in_Wk_addRow _ _ _ _) (am_r8 rfl) (am_bV h (fun σ41 h hx41 => ?_))
    replace h := h hx41
    refine s_aload_n j103 rfl rfl ?_
    refine s_virt j104 rfl rfl rfl rfl (am_is_ext hx41 (am_is_kd ek40 (am_is_ext hx36 (am_is_ext hx34 (am_is_ext hx28 (am_is_ext hx24 (am_is_ext hx22 (am_is_kd ek20 (am_is_kd ek17 (am_is_kd ek14 (am_is_kd ek11 (am_is_kd ek7 (am_is_kd ek4 ho1))))))))))))) (by decide) (in_Wk_outRow _) (am_r8 rfl) (am_bV h (fun σ43 h hx43 => ?_))
    replace h := h hx43
    refine s_aload_n j107 rfl rfl ?_
    refine s_gfR j108 rfl (am_is_ext hx43 (am_is_ext hx41 (am_is_kd ek40 (am_is_ext hx36 (am_is_ext hx34 (am_is_ext hx28 (am_is_ext hx24 (am_is_ext hx22 (am_is_kd ek20 (am_is_kd ek17 (am_is_kd ek14 (am_is_kd ek11 (am_is_kd ek7 (am_is_kd ek4 ho1)))))))))))))) ?_
    obtain ⟨ho45, h⟩ := h
    refine s_gfZ j111 rfl ho45 ?_
    refine s_ifn j114 rfl rfl am_cc_ne (fun hc46 => ?_) (fun hc46 => ?_)
    · replace h := h.2 hc46
      exact h
    · replace h := h.1 hc46
      refine s_aload_n j117 rfl rfl ?_
      refine s_virt j118 rfl rfl rfl rfl (am_is_ext hx43 (am_is_ext hx41 (am_is_kd ek40 (am_is_ext hx36 (am_is_ext hx34 (am_is_ext hx28 (am_is_ext hx24 (am_is_ext hx22 (am_is_kd ek20 (am_is_kd ek17 (am_is_kd ek14 (am_is_kd ek11 (am_is_kd ek7 (am_is_kd ek4 ho1)))))))))))))) (by decide) (in_Wk_waitRow _) (am_r8 rfl) (am_bV h (fun σ47 h hx47 => ?_))
      replace h := h hx47
      exact h
  · replace h := h.2 hc27
    exact s_retV j55 rfl h
theorem P_Wk_work_121 (nl : Bool) (Ln : Nat) (xs : Nat → Int32) : am_Jl (TT nl Ln xs) 24 [(121, .aload_n 0, 122, []), (122, .getfield 12, 125, [9, 2, 2, 2]), (125, .getfield 49, 128, [9, 3, 7, 3]), (128, .ifCond .ne 7, 131, []), (131, .aload_n 0, 132, []), (132, .invokevirtual 157, 135, [10, 47, 3, 6, 1])] := dk_ck (by decide +kernel)
set_option maxRecDepth 4096 in
theorem w_Wk_work_121 {nl : Bool} {Ln : Nat} {xs : Nat → Int32} {d : Nat} {this : Nat} {x1 : Option Nat} {x2 : Option Nat} {x3 : Int32} {x4 : Int32} {σ : am_S} {F : am_S → Prop} (h : (am_is σ (some this) 2) ∧ (am_is σ (am_fR σ 2002 this) 3) ∧ ((am_fI σ 3007 ((am_fR σ 2002 this).getD 0)) = 0 → k_Wk_averageRow nl Ln xs d this σ (fun σ4 => am_ext σ σ4 → c_Wk_work_135 nl Ln xs (d + 1) this x1 x2 x3 x4 σ4 F)) ∧ (¬ ((am_fI σ 3007 ((am_fR σ 2002 this).getD 0)) = 0) → c_Wk_work_135 nl Ln xs (d + 1) this x1 x2 x3 x4 σ F)) : c_Wk_work_121 nl Ln xs (d + 1) this x1 x2 x3 x4 σ F := by
  obtain ⟨j121, j122, j125, j128, j131, j132, -⟩ := P_Wk_work_121 nl Ln xs
  unfold c_Wk_work_121
  refine s_aload_n j121 rfl rfl ?_
  obtain ⟨ho1, h⟩ := h
  refine s_gfR j122 rfl ho1 ?_
  obtain ⟨ho2, h⟩ := h
  refine s_gfZ j125 rfl ho2 ?_
  refine s_ifn j128 rfl rfl am_cc_ne (fun hc3 => ?_) (fun hc3 => ?_)
  · replace h := h.2 hc3
    exact h
  · replace h := h.1 hc3
    refine s_aload_n j131 rfl rfl ?_
    refine s_virt j132 rfl rfl rfl rfl ho1 (by decide) (in_Wk_averageRow _) (am_r8 rfl) (am_bV h (fun σ4 h hx4 => ?_))
    replace h := h hx4
    exact h
theorem P_Wk_work_135 (nl : Bool) (Ln : Nat) (xs : Nat → Int32) : am_Jl (TT nl Ln xs) 24 [(135, .aload_n 0, 136, []), (136, .getfield 12, 139, [9, 2, 2, 2]), (139, .getfield 49, 142, [9, 3, 7, 3]), (142, .ifCond .ne 102, 145, []), (145, .aload_n 0, 146, []), (146, .iconst 3, 147, []), (147, .getstatic 160, 150, [7, 505, 0]), (150, .aload_n 0, 151, []), (151, .getfield 163, 154, [9, 2, 6, 2]), (154, .getfield 167, 157, [9, 9, 1, 0]), (157, .iaload, 158, []), (158, .aload_n 0, 159, []), (159, .getfield 124, 162, [9, 2, 5, 2]), (162, .lconst 0, 163, []), (163, .iconst 0, 164, []), (164, .invokevirtual 144, 167, [10, 36, 3, 15, 6]), (167, .l2i, 168, []), (168, .istore 5, 170, []), (170, .aload_n 0, 171, []), (171, .iconst 4, 172, []), (172, .iload 5, 174, []), (174, .aload_n 0, 175, []), (175, .getfield 83, 178, [9, 2, 11, 1]), (178, .iload 5, 180, []), (180, .i2l, 181, []), (181, .lmul, 182, []), (182, .ldc2_w 170, 185, [6, 100]), (185, .ldiv, 186, []), (186, .lneg, 187, []), (187, .invokevirtual 107, 190, [10, 38, 3, 5, 4]), (190, .aload_n 0, 191, []), (191, .iconst 5, 192, []), (192, .iconst 0, 193, []), (193, .aload_n 0, 194, []), (194, .bipush 32, 196, []), (196, .lconst 0, 197, []), (197, .invokevirtual 57, 200, [10, 34, 3, 5, 3]), (200, .aload_n 0, 201, []), (201, .getfield 83, 204, [9, 2, 11, 1]), (204, .invokestatic 104, 207, [12, 49, 4, 2]), (207, .lneg, 208, []), (208, .invokevirtual 107, 211, [10, 38, 3, 5, 4]), (211, .aload_n 0, 212, []), (212, .bipush 6, 214, []), (214, .iconst 0, 215, []), (215, .aload_n 0, 216, []), (216, .getfield 83, 219, [9, 2, 11, 1]), (219, .aload_n 0, 220, []), (220, .iconst 3, 221, []), (221, .ldc2_w 172, 224, [6, 6000000000000]), (224, .invokevirtual 57, 227, [10, 34, 3, 5, 3]), (227, .lsub, 228, []), (228, .lconst 0, 229, []), (229, .invokestatic 65, 232, [12, 46, 4, 2]), (232, .lneg, 233, []), (233, .invokevirtual 107, 236, [10, 38, 3, 5, 4]), (236, .aload_n 0, 237, []), (237, .aload_n 0, 238, []), (238, .invokevirtual 174, 241, [10, 50, 3, 5, 1]), (241, .invokevirtual 177, 244, [10, 53, 3, 8, 2]), (244, .return_, 245, [0])] := dk_ck (by decide +kernel)
set_option maxRecDepth 4096 in
theorem w_Wk_work_135 {nl : Bool} {Ln : Nat} {xs : Nat → Int32} {d : Nat} {this : Nat} {x1 : Option Nat} {x2 : Option Nat} {x3 : Int32} {x4 : Int32} {σ : am_S} {F : am_S → Prop} (h : (am_is σ (some this) 2) ∧ (am_is σ (am_fR σ 2002 this) 3) ∧ ((am_fI σ 3007 ((am_fR σ 2002 this).getD 0)) = 0 → (am_is σ (am_fR σ 2006 this) 9) ∧ ((am_kd σ 505).1 = 0) ∧ (0 ≤ (am_fI σ 9001 ((am_fR σ 2006 this).getD 0)).toInt) ∧ ((am_fI σ 9001 ((am_fR σ 2006 this).getD 0)).toInt < am_rl (am_tz (TT nl Ln xs)) 505) ∧ k_Wk_ask nl Ln xs d this (3 : Int32) (am_rv (am_tz (TT nl Ln xs)) 505 (am_fI σ 9001 ((am_fR σ 2006 this).getD 0)).toNatClampNeg) (am_fR σ 2005 this) (0 : Int64) (0 : Int32) σ (fun a9 σ8 => am_ext σ σ8 → ∀ v10 : Int32, v10 = a9.toInt32 → k_Wk_addRow nl Ln xs d this (4 : Int32) v10 (-(((am_fL σ8 2011 this) * v10.toInt64) / (100 : Int64))) σ8 (fun σ12 => am_ext σ8 σ12 → k_Wk_numberOf nl Ln xs d this (32 : Int32) (0 : Int64) σ12 (fun a15 σ14 => am_ext σ12 σ14 → k_Math_min nl Ln xs d a15 (am_fL σ14 2011 this) σ14 (fun a17 σ16 => am_ext σ14 σ16 → k_Wk_addRow nl Ln xs d this (5 : Int32) (0 : Int32) (-a17) σ16 (fun σ18 => am_ext σ16 σ18 → k_Wk_numberOf nl Ln xs d this (3 : Int32) (6000000000000 : Int64) σ18 (fun a21 σ20 => am_ext σ18 σ20 → k_Math_max nl Ln xs d ((am_fL σ18 2011 this) - a21) (0 : Int64) σ20 (fun a23 σ22 => am_ext σ20 σ22 → k_Wk_addRow nl Ln xs d this (6 : Int32) (0 : Int32) (-a23) σ22 (fun σ24 => am_ext σ22 σ24 → k_Wk_takeAlone nl Ln xs d this σ24 (fun a27 σ26 => am_ext σ24 σ26 → k_Wk_sharedRow nl Ln xs d this a27 σ26 (fun σ28 => am_ext σ26 σ28 → F σ28))))))))))) ∧ (¬ ((am_fI σ 3007 ((am_fR σ 2002 this).getD 0)) = 0) → F σ)) : c_Wk_work_135 nl Ln xs (d + 1) this x1 x2 x3 x4 σ F := by
  obtain ⟨j135, j136, j139, j142, j145, j146, j147, j150, j151, j154, j157, j158, j159, j162, j163, j164, j167, j168, j170, j171, j172, j174, j175, j178, j180, j181, j182, j185, j186, j187, j190, j191, j192, j193, j194, j196, j197, j200, j201, j204, j207, j208, j211, j212, j214, j215, j216, j219, j220, j221, j224, j227, j228, j229, j232, j233, j236, j237, j238, j241, j244, -⟩ := P_Wk_work_135 nl Ln xs
  unfold c_Wk_work_135
  refine s_aload_n j135 rfl rfl ?_
  obtain ⟨ho1, h⟩ := h
  refine s_gfR j136 rfl ho1 ?_
  obtain ⟨ho2, h⟩ := h
  refine s_gfZ j139 rfl ho2 ?_
  refine s_ifn j142 rfl rfl am_cc_ne (fun hc3 => ?_) (fun hc3 => ?_)
  · replace h := h.2 hc3
    exact s_retV j244 rfl h
  · replace h := h.1 hc3
    refine s_aload_n j145 rfl rfl ?_
    refine s_iconst j146 rfl kc_ic_3 ?_
    refine s_static j147 rfl ?_
    refine s_aload_n j150 rfl rfl ?_
    refine s_gfR j151 rfl ho1 ?_
    obtain ⟨ho4, h⟩ := h
    refine s_gfI j154 rfl ho4 ?_
    obtain ⟨ho5, h⟩ := h
    obtain ⟨ho6, h⟩ := h
    obtain ⟨ho7, h⟩ := h
    refine s_ialoadR j157 rfl (by decide) ho5 rfl ho6 ho7 ?_
    refine s_aload_n j158 rfl rfl ?_
    refine s_gfR j159 rfl ho1 ?_
    refine s_lconst j162 rfl rfl ?_
    refine s_iconst j163 rfl kc_ic_0 ?_
    refine s_virt j164 rfl rfl rfl rfl ho1 (by decide) (in_Wk_ask _ _ _ _ _ _) (am_r8 rfl) (am_bL h (fun a9 σ8 h hx8 => ?_))
    replace h := h hx8
    refine s_g j167 rfl rfl rfl rfl rfl rfl ?_
    refine s_istoreV j168 rfl (n := 6) (L' := fun w => [some (am_ov (some this)), some (am_ov x1), some (am_ov x2), some (.int x3), some (.int x4), some (.int w)]) rfl (by decide) (fun _ => rfl) (fun v10 hv11 => ?_)
    replace h := h v10 hv11
    refine s_aload_n j170 rfl rfl ?_
    refine s_iconst j171 rfl kc_ic_4 ?_
    refine s_iload j172 rfl rfl ?_
    refine s_aload_n j174 rfl rfl ?_
    refine s_gfL j175 rfl (am_is_ext hx8 ho1) ?_
    refine s_iload j178 rfl rfl ?_
    refine s_g j180 rfl rfl rfl rfl rfl rfl ?_
    refine s_g j181 rfl rfl rfl rfl rfl rfl ?_
    refine s_ldc2 j182 rfl kc_ll_100 ?_
    refine s_ldiv j185 rfl (by decide) ?_
    refine s_g j186 rfl rfl rfl rfl rfl rfl ?_
    refine s_virt j187 rfl rfl rfl rfl (am_is_ext hx8 ho1) (by decide) (in_Wk_addRow _ _ _ _) (am_r8 rfl) (am_bV h (fun σ12 h hx12 => ?_))
    replace h := h hx12
    refine s_aload_n j190 rfl rfl ?_
    refine s_iconst j191 rfl kc_ic_5 ?_
    refine s_iconst j192 rfl kc_ic_0 ?_
    refine s_aload_n j193 rfl rfl ?_
    refine s_bipush j194 rfl kc_bi_32 ?_
    refine s_lconst j196 rfl rfl ?_
    refine s_virt j197 rfl rfl rfl rfl (am_is_ext hx12 (am_is_ext hx8 ho1)) (by decide) (in_Wk_numberOf _ _ _) (am_r8 rfl) (am_bL h (fun a15 σ14 h hx14 => ?_))
    replace h := h hx14
    refine s_aload_n j200 rfl rfl ?_
    refine s_gfL j201 rfl (am_is_ext hx14 (am_is_ext hx12 (am_is_ext hx8 ho1))) ?_
    refine s_stat j204 rfl rfl rfl rfl (by decide) (in_Math_min _ _) (am_r8 rfl) (am_bL h (fun a17 σ16 h hx16 => ?_))
    replace h := h hx16
    refine s_g j207 rfl rfl rfl rfl rfl rfl ?_
    refine s_virt j208 rfl rfl rfl rfl (am_is_ext hx16 (am_is_ext hx14 (am_is_ext hx12 (am_is_ext hx8 ho1)))) (by decide) (in_Wk_addRow _ _ _ _) (am_r8 rfl) (am_bV h (fun σ18 h hx18 => ?_))
    replace h := h hx18
    refine s_aload_n j211 rfl rfl ?_
    refine s_bipush j212 rfl kc_bi_6 ?_
    refine s_iconst j214 rfl kc_ic_0 ?_
    refine s_aload_n j215 rfl rfl ?_
    refine s_gfL j216 rfl (am_is_ext hx18 (am_is_ext hx16 (am_is_ext hx14 (am_is_ext hx12 (am_is_ext hx8 ho1))))) ?_
    refine s_aload_n j219 rfl rfl ?_
    refine s_iconst j220 rfl kc_ic_3 ?_
    refine s_ldc2 j221 rfl kc_ll_6000000000000 ?_
    refine s_virt j224 rfl rfl rfl rfl (am_is_ext hx18 (am_is_ext hx16 (am_is_ext hx14 (am_is_ext hx12 (am_is_ext hx8 ho1))))) (by decide) (in_Wk_numberOf _ _ _) (am_r8 rfl) (am_bL h (fun a21 σ20 h hx20 => ?_))
    replace h := h hx20
    refine s_g j227 rfl rfl rfl rfl rfl rfl ?_
    refine s_lconst j228 rfl rfl ?_
    refine s_stat j229 rfl rfl rfl rfl (by decide) (in_Math_max _ _) (am_r8 rfl) (am_bL h (fun a23 σ22 h hx22 => ?_))
    replace h := h hx22
    refine s_g j232 rfl rfl rfl rfl rfl rfl ?_
    refine s_virt j233 rfl rfl rfl rfl (am_is_ext hx22 (am_is_ext hx20 (am_is_ext hx18 (am_is_ext hx16 (am_is_ext hx14 (am_is_ext hx12 (am_is_ext hx8 ho1))))))) (by decide) (in_Wk_addRow _ _ _ _) (am_r8 rfl) (am_bV h (fun σ24 h hx24 => ?_))
    replace h := h hx24
    refine s_aload_n j236 rfl rfl ?_
    refine s_aload_n j237 rfl rfl ?_
    refine s_virt j238 rfl rfl rfl rfl (am_is_ext hx24 (am_is_ext hx22 (am_is_ext hx20 (am_is_ext hx18 (am_is_ext hx16 (am_is_ext hx14 (am_is_ext hx12 (am_is_ext hx8 ho1)))))))) (by decide) (in_Wk_takeAlone _) (am_r8 rfl) (am_bI h (fun a27 σ26 h hx26 => ?_))
    replace h := h hx26
    refine s_virt j241 rfl rfl rfl rfl (am_is_ext hx26 (am_is_ext hx24 (am_is_ext hx22 (am_is_ext hx20 (am_is_ext hx18 (am_is_ext hx16 (am_is_ext hx14 (am_is_ext hx12 (am_is_ext hx8 ho1))))))))) (by decide) (in_Wk_sharedRow _ _) (am_r8 rfl) (am_bV h (fun σ28 h hx28 => ?_))
    replace h := h hx28
    exact s_retV j244 rfl h
theorem P_Vw_clear (nl : Bool) (Ln : Nat) (xs : Nat → Int32) : am_Jl (TT nl Ln xs) 25 [(0, .aload_n 0, 1, []), (1, .iconst 0, 2, []), (2, .putfield 25, 5, [9, 3, 4, 0]), (5, .aload_n 0, 6, []), (6, .iconst 0, 7, []), (7, .putfield 29, 10, [9, 3, 5, 0]), (10, .aload_n 0, 11, []), (11, .iconst 0, 12, []), (12, .putfield 32, 15, [9, 3, 6, 0]), (15, .aload_n 0, 16, []), (16, .iconst 0, 17, []), (17, .putfield 35, 20, [9, 3, 7, 3]), (20, .return_, 21, [0])] := dk_ck (by decide +kernel)
set_option maxRecDepth 4096 in
theorem w_Vw_clear {nl : Bool} {Ln : Nat} {xs : Nat → Int32} {d : Nat} {this : Nat} {σ : am_S} {F : am_S → Prop} (h : (am_is σ (some this) 3) ∧ ∀ σ2, σ2 = am_sfI σ 3004 this (0 : Int32) → ∀ σ5, σ5 = am_sfI σ2 3005 this (0 : Int32) → ∀ σ8, σ8 = am_sfI σ5 3006 this (0 : Int32) → ∀ σ11, σ11 = am_sfI σ8 3007 this (0 : Int32) → F σ11) : k_Vw_clear nl Ln xs (d + 1) this σ F := by
  obtain ⟨j0, j1, j2, j5, j6, j7, j10, j11, j12, j15, j16, j17, j20, -⟩ := P_Vw_clear nl Ln xs
  have elo : am_lo 1 [am_ov (some this)] = [some (am_ov (some this))] := by simp only [am_lo, am_in_ov, am_in_int, am_in_long, am_in_nil]; rfl
  unfold k_Vw_clear
  rw [elo]
  refine s_aload_n j0 rfl rfl ?_
  refine s_iconst j1 rfl kc_ic_0 ?_
  obtain ⟨ho1, h⟩ := h
  refine s_pfI j2 rfl ho1 (fun σ2 e3 => ?_)
  replace h := h σ2 e3
  have ek4 : am_kd σ2 = am_kd σ := by rw [e3]
  refine s_aload_n j5 rfl rfl ?_
  refine s_iconst j6 rfl kc_ic_0 ?_
  refine s_pfI j7 rfl (am_is_kd ek4 ho1) (fun σ5 e6 => ?_)
  replace h := h σ5 e6
  have ek7 : am_kd σ5 = am_kd σ2 := by rw [e6]
  refine s_aload_n j10 rfl rfl ?_
  refine s_iconst j11 rfl kc_ic_0 ?_
  refine s_pfI j12 rfl (am_is_kd ek7 (am_is_kd ek4 ho1)) (fun σ8 e9 => ?_)
  replace h := h σ8 e9
  have ek10 : am_kd σ8 = am_kd σ5 := by rw [e9]
  refine s_aload_n j15 rfl rfl ?_
  refine s_iconst j16 rfl kc_ic_0 ?_
  refine s_pfZ j17 rfl (am_is_kd ek10 (am_is_kd ek7 (am_is_kd ek4 ho1))) (Or.inl rfl) (fun σ11 e12 => ?_)
  replace h := h σ11 e12
  have ek13 : am_kd σ11 = am_kd σ8 := by rw [e12]
  exact s_retV j20 rfl h
theorem P_Wk_findCover (nl : Bool) (Ln : Nat) (xs : Nat → Int32) : am_Jl (TT nl Ln xs) 26 [(0, .aload_n 0, 1, []), (1, .aload_n 0, 2, []), (2, .getfield 73, 5, [9, 2, 3, 2]), (5, .aload_n 0, 6, []), (6, .getfield 87, 9, [9, 2, 4, 2]), (9, .aload_n 0, 10, []), (10, .getfield 95, 13, [9, 2, 9, 0]), (13, .invokevirtual 193, 16, [10, 27, 7, 7, 3]), (16, .putfield 163, 19, [9, 2, 6, 2]), (19, .aload_n 0, 20, []), (20, .getfield 163, 23, [9, 2, 6, 2]), (23, .ifnonnull 12, 26, []), (26, .aload_n 0, 27, []), (27, .getfield 12, 30, [9, 2, 2, 2]), (30, .iconst 1, 31, []), (31, .invokevirtual 197, 34, [10, 30, 4, 2, 2]), (34, .return_, 35, [0]), (35, .aload_n 0, 36, []), (36, .getfield 124, 39, [9, 2, 5, 2]), (39, .getfield 200, 42, [9, 10, 2, 0]), (42, .sipush 365, 45, []), (45, .idiv, 46, []), (46, .istore_n 1, 47, []), (47, .aload_n 0, 48, []), (48, .getfield 163, 51, [9, 2, 6, 2]), (51, .iload_n 1, 52, []), (52, .invokevirtual 201, 55, [10, 31, 10, 2, 2]), (55, .ifCond .ne 12, 58, []), (58, .aload_n 0, 59, []), (59, .getfield 12, 62, [9, 2, 2, 2]), (62, .iconst 3, 63, []), (63, .invokevirtual 197, 66, [10, 30, 4, 2, 2]), (66, .return_, 67, [0]), (67, .aload_n 0, 68, []), (68, .getfield 163, 71, [9, 2, 6, 2]), (71, .getfield 205, 74, [9, 9, 4, 2]), (74, .iconst 5, 75, []), (75, .iload_n 1, 76, []), (76, .aload_n 0, 77, []), (77, .getfield 95, 80, [9, 2, 9, 0]), (80, .invokestatic 209, 83, [12, 28, 5, 4]), (83, .astore_n 2, 84, []), (84, .aload_n 2, 85, []), (85, .ifnonnull 12, 88, []), (88, .aload_n 0, 89, []), (89, .getfield 12, 92, [9, 2, 2, 2]), (92, .iconst 1, 93, []), (93, .invokevirtual 197, 96, [10, 30, 4, 2, 2]), (96, .return_, 97, [0]), (97, .aload_n 0, 98, []), (98, .aload_n 2, 99, []), (99, .getfield 215, 102, [9, 7, 3, 1]), (102, .putfield 218, 105, [9, 2, 10, 1]), (105, .aload_n 0, 106, []), (106, .aload_n 0, 107, []), (107, .getfield 163, 110, [9, 2, 6, 2]), (110, .aload_n 0, 111, []), (111, .getfield 95, 114, [9, 2, 9, 0]), (114, .invokevirtual 221, 117, [10, 32, 10, 3, 2]), (117, .putfield 181, 120, [9, 2, 7, 2]), (120, .return_, 121, [0])] := dk_ck (by decide +kernel)
set_option maxRecDepth 4096 in
theorem w_Wk_findCover {nl : Bool} {Ln : Nat} {xs : Nat → Int32} {d : Nat} {this : Nat} {σ : am_S} {F : am_S → Prop} (h : (am_is σ (some this) 2) ∧ (am_is σ (am_fR σ 2003 this) 6) ∧ k_Bk_coverOf nl Ln xs d ((am_fR σ 2003 this).getD 0) (am_fR σ 2004 this) (am_fI σ 2009 this) σ (fun a4 σ3 => am_ext σ σ3 → ∀ σ5, σ5 = am_sfR σ3 2006 this a4 → ((am_fR σ5 2006 this) = none → (am_is σ5 (am_fR σ5 2002 this) 3) ∧ k_Vw_fail nl Ln xs d ((am_fR σ5 2002 this).getD 0) (1 : Int32) σ5 (fun σ10 => am_ext σ5 σ10 → F σ10)) ∧ (¬ ((am_fR σ5 2006 this) = none) → (am_is σ5 (am_fR σ5 2005 this) 10) ∧ ∀ v13 : Int32, v13 = ((am_fI σ5 10002 ((am_fR σ5 2005 this).getD 0)) / (365 : Int32)) → (am_is σ5 (am_fR σ5 2006 this) 9) ∧ k_Po_hasYear nl Ln xs d ((am_fR σ5 2006 this).getD 0) v13 σ5 (fun a17 σ16 => am_ext σ5 σ16 → (a17 = true → (am_is σ16 (am_fR σ16 2006 this) 9) ∧ k_En_known nl Ln xs d (am_fR σ16 9004 ((am_fR σ16 2006 this).getD 0)) (5 : Int32) v13 (am_fI σ16 2009 this) σ16 (fun a21 σ20 => am_ext σ16 σ20 → (a21 = none → (am_is σ20 (am_fR σ20 2002 this) 3) ∧ k_Vw_fail nl Ln xs d ((am_fR σ20 2002 this).getD 0) (1 : Int32) σ20 (fun σ24 => am_ext σ20 σ24 → F σ24)) ∧ (¬ (a21 = none) → (am_is σ20 a21 7) ∧ ∀ σ27, σ27 = am_sfL σ20 2010 this (am_fL σ20 7003 (a21.getD 0)) → (am_is σ27 (am_fR σ27 2006 this) 9) ∧ k_Po_clausesAt nl Ln xs d ((am_fR σ27 2006 this).getD 0) (am_fI σ27 2009 this) σ27 (fun a32 σ31 => am_ext σ27 σ31 → ∀ σ33, σ33 = am_sfR σ31 2007 this a32 → F σ33)))) ∧ (¬ (a17 = true) → (am_is σ16 (am_fR σ16 2002 this) 3) ∧ k_Vw_fail nl Ln xs d ((am_fR σ16 2002 this).getD 0) (3 : Int32) σ16 (fun σ37 => am_ext σ16 σ37 → F σ37)))))) : k_Wk_findCover nl Ln xs (d + 1) this σ F := by
  obtain ⟨j0, j1, j2, j5, j6, j9, j10, j13, j16, j19, j20, j23, j26, j27, j30, j31, j34, j35, j36, j39, j42, j45, j46, j47, j48, j51, j52, j55, j58, j59, j62, j63, j66, j67, j68, j71, j74, j75, j76, j77, j80, j83, j84, j85, j88, j89, j92, j93, j96, j97, j98, j99, j102, j105, j106, j107, j110, j111, j114, j117, j120, -⟩ := P_Wk_findCover nl Ln xs
  have elo : am_lo 3 [am_ov (some this)] = [some (am_ov (some this)), none, none] := by simp only [am_lo, am_in_ov, am_in_int, am_in_long, am_in_nil]; rfl
  unfold k_Wk_findCover
  rw [elo]
  refine s_aload_n j0 rfl rfl ?_
  refine s_aload_n j1 rfl rfl ?_
  obtain ⟨ho1, h⟩ := h
  refine s_gfR j2 rfl ho1 ?_
  refine s_aload_n j5 rfl rfl ?_
  refine s_gfR j6 rfl ho1 ?_
  refine s_aload_n j9 rfl rfl ?_
  refine s_gfI j10 rfl ho1 ?_
  obtain ⟨ho2, h⟩ := h
  refine s_virt j13 rfl rfl rfl rfl ho2 (by decide) (in_Bk_coverOf _ _ _) (am_r8 rfl) (am_bR h (fun a4 σ3 h hx3 => ?_))
  replace h := h hx3
  refine s_pfR j16 rfl (am_is_ext hx3 ho1) (fun σ5 e6 => ?_)
  replace h := h σ5 e6
  have ek7 : am_kd σ5 = am_kd σ3 := by rw [e6]
  refine s_aload_n j19 rfl rfl ?_
  refine s_gfR j20 rfl (am_is_kd ek7 (am_is_ext hx3 ho1)) ?_
  refine s_ifnonnull j23 rfl rfl (fun hc8 => ?_) (fun hc8 => ?_)
  · replace h := h.2 hc8
    refine s_aload_n j35 rfl rfl ?_
    refine s_gfR j36 rfl (am_is_kd ek7 (am_is_ext hx3 ho1)) ?_
    obtain ⟨ho12, h⟩ := h
    refine s_gfI j39 rfl ho12 ?_
    refine s_sipush j42 rfl kc_si_365 ?_
    refine s_idiv j45 rfl (by decide) ?_
    refine s_istore_nV j46 rfl (n := 3) (L' := fun w => [some (am_ov (some this)), some (.int w), none]) rfl (by decide) (fun _ => am_st1_R [] _ _ _ _) (fun v13 hv14 => ?_)
    replace h := h v13 hv14
    refine s_aload_n j47 rfl rfl ?_
    refine s_gfR j48 rfl (am_is_kd ek7 (am_is_ext hx3 ho1)) ?_
    refine s_iload_n j51 rfl rfl ?_
    obtain ⟨ho15, h⟩ := h
    refine s_virt j52 rfl rfl rfl rfl ho15 (by decide) (in_Po_hasYear _ _) (am_r8 rfl) (am_bB h (fun a17 σ16 h hx16 => ?_))
    replace h := h hx16
    refine s_if j55 rfl rfl am_cb_ne (fun hc18 => ?_) (fun hc18 => ?_)
    · replace h := h.1 hc18
      refine s_aload_n j67 rfl rfl ?_
      refine s_gfR j68 rfl (am_is_ext hx16 (am_is_kd ek7 (am_is_ext hx3 ho1))) ?_
      obtain ⟨ho19, h⟩ := h
      refine s_gfR j71 rfl ho19 ?_
      refine s_iconst j74 rfl kc_ic_5 ?_
      refine s_iload_n j75 rfl rfl ?_
      refine s_aload_n j76 rfl rfl ?_
      refine s_gfI j77 rfl (am_is_ext hx16 (am_is_kd ek7 (am_is_ext hx3 ho1))) ?_
      refine s_stat j80 rfl rfl rfl rfl (by decide) (in_En_known _ _ _ _) (am_r8 rfl) (am_bR h (fun a21 σ20 h hx20 => ?_))
      replace h := h hx20
      refine s_astore_n j83 rfl (n := 3) (L' := [some (am_ov (some this)), some (.int v13), some (am_ov a21)]) rfl (by decide) rfl ?_
      refine s_aload_n j84 rfl rfl ?_
      refine s_ifnonnull j85 rfl rfl (fun hc22 => ?_) (fun hc22 => ?_)
      · replace h := h.2 hc22
        refine s_aload_n j97 rfl rfl ?_
        refine s_aload_n j98 rfl rfl ?_
        obtain ⟨ho26, h⟩ := h
        refine s_gfL j99 rfl ho26 ?_
        refine s_pfL j102 rfl (am_is_ext hx20 (am_is_ext hx16 (am_is_kd ek7 (am_is_ext hx3 ho1)))) (fun σ27 e28 => ?_)
        replace h := h σ27 e28
        have ek29 : am_kd σ27 = am_kd σ20 := by rw [e28]
        refine s_aload_n j105 rfl rfl ?_
        refine s_aload_n j106 rfl rfl ?_
        refine s_gfR j107 rfl (am_is_kd ek29 (am_is_ext hx20 (am_is_ext hx16 (am_is_kd ek7 (am_is_ext hx3 ho1))))) ?_
        refine s_aload_n j110 rfl rfl ?_
        refine s_gfI j111 rfl (am_is_kd ek29 (am_is_ext hx20 (am_is_ext hx16 (am_is_kd ek7 (am_is_ext hx3 ho1))))) ?_
        obtain ⟨ho30, h⟩ := h
        refine s_virt j114 rfl rfl rfl rfl ho30 (by decide) (in_Po_clausesAt _ _) (am_r8 rfl) (am_bR h (fun a32 σ31 h hx31 => ?_))
        replace h := h hx31
        refine s_pfR j117 rfl (am_is_ext hx31 (am_is_kd ek29 (am_is_ext hx20 (am_is_ext hx16 (am_is_kd ek7 (am_is_ext hx3 ho1)))))) (fun σ33 e34 => ?_)
        replace h := h σ33 e34
        have ek35 : am_kd σ33 = am_kd σ31 := by rw [e34]
        exact s_retV j120 rfl h
      · replace h := h.1 hc22
        refine s_aload_n j88 rfl rfl ?_
        refine s_gfR j89 rfl (am_is_ext hx20 (am_is_ext hx16 (am_is_kd ek7 (am_is_ext hx3 ho1)))) ?_
        refine s_iconst j92 rfl kc_ic_1 ?_
        obtain ⟨ho23, h⟩ := h
        refine s_virt j93 rfl rfl rfl rfl ho23 (by decide) (in_Vw_fail _ _) (am_r8 rfl) (am_bV h (fun σ24 h hx24 => ?_))
        replace h := h hx24
        exact s_retV j96 rfl h
    · replace h := h.2 hc18
      refine s_aload_n j58 rfl rfl ?_
      refine s_gfR j59 rfl (am_is_ext hx16 (am_is_kd ek7 (am_is_ext hx3 ho1))) ?_
      refine s_iconst j62 rfl kc_ic_3 ?_
      obtain ⟨ho36, h⟩ := h
      refine s_virt j63 rfl rfl rfl rfl ho36 (by decide) (in_Vw_fail _ _) (am_r8 rfl) (am_bV h (fun σ37 h hx37 => ?_))
      replace h := h hx37
      exact s_retV j66 rfl h
  · replace h := h.1 hc8
    refine s_aload_n j26 rfl rfl ?_
    refine s_gfR j27 rfl (am_is_kd ek7 (am_is_ext hx3 ho1)) ?_
    refine s_iconst j30 rfl kc_ic_1 ?_
    obtain ⟨ho9, h⟩ := h
    refine s_virt j31 rfl rfl rfl rfl ho9 (by decide) (in_Vw_fail _ _) (am_r8 rfl) (am_bV h (fun σ10 h hx10 => ?_))
    replace h := h hx10
    exact s_retV j34 rfl h
theorem P_Bk_coverOf (nl : Bool) (Ln : Nat) (xs : Nat → Int32) : am_Jl (TT nl Ln xs) 27 [(0, .aload_n 1, 1, []), (1, .getfield 456, 4, [9, 11, 0, 2]), (4, .astore_n 3, 5, []), (5, .aload_n 1, 6, []), (6, .getfield 459, 9, [9, 11, 1, 0]), (9, .istore 4, 11, []), (11, .iconst 0, 12, []), (12, .istore 5, 14, [])] := dk_ck (by decide +kernel)
set_option maxRecDepth 4096 in
theorem w_Bk_coverOf {nl : Bool} {Ln : Nat} {xs : Nat → Int32} {d : Nat} {this : Nat} {p0 : Option Nat} {p1 : Int32} {σ : am_S} {F : Option Nat → am_S → Prop} (h : (am_is σ p0 11) ∧ ∀ v2 : Option Nat, v2 = (am_fR σ 11000 (p0.getD 0)) → ∀ v4 : Int32, v4 = (am_fI σ 11001 (p0.getD 0)) → c_Bk_coverOf_14 nl Ln xs (d + 1) this p0 p1 v2 v4 (0 : Int32) none σ F) : k_Bk_coverOf nl Ln xs (d + 1) this p0 p1 σ F := by
  obtain ⟨j0, j1, j4, j5, j6, j9, j11, j12, -⟩ := P_Bk_coverOf nl Ln xs
  have elo : am_lo 7 [am_ov (some this), am_ov p0, .int p1] = [some (am_ov (some this)), some (am_ov p0), some (.int p1), none, none, none, none] := by simp only [am_lo, am_in_ov, am_in_int, am_in_long, am_in_nil]; rfl
  unfold k_Bk_coverOf
  rw [elo]
  refine s_aload_n j0 rfl rfl ?_
  obtain ⟨ho1, h⟩ := h
  refine s_gfR j1 rfl ho1 ?_
  refine s_astore_nV j4 rfl (n := 7) (L' := fun w => [some (am_ov (some this)), some (am_ov p0), some (.int p1), some (am_ov w), none, none, none]) rfl (by decide) (fun _ => rfl) (fun v2 hv3 => ?_)
  replace h := h v2 hv3
  refine s_aload_n j5 rfl rfl ?_
  refine s_gfI j6 rfl ho1 ?_
  refine s_istoreV j9 rfl (n := 7) (L' := fun w => [some (am_ov (some this)), some (am_ov p0), some (.int p1), some (am_ov v2), some (.int w), none, none]) rfl (by decide) (fun _ => am_st1_R [_, _, _] _ _ _ _) (fun v4 hv5 => ?_)
  replace h := h v4 hv5
  refine s_iconst j11 rfl kc_ic_0 ?_
  refine s_istore j12 rfl (n := 7) (L' := [some (am_ov (some this)), some (am_ov p0), some (.int p1), some (am_ov v2), some (.int v4), some (.int (0 : Int32)), none]) rfl (by decide) rfl ?_
  exact h
theorem P_Bk_coverOf_14 (nl : Bool) (Ln : Nat) (xs : Nat → Int32) : am_Jl (TT nl Ln xs) 27 [(14, .iload 5, 16, []), (16, .bipush 100, 18, []), (18, .if_icmp .ge 57, 21, []), (21, .aload_n 3, 22, []), (22, .ifnull 53, 25, []), (25, .aload_n 3, 26, []), (26, .getfield 256, 29, [9, 9, 1, 0]), (29, .bipush 6, 31, []), (31, .if_icmp .ne 44, 34, []), (34, .aload_n 3, 35, []), (35, .getfield 121, 38, [9, 9, 4, 2]), (38, .iconst 4, 39, []), (39, .iload 4, 41, []), (41, .iload_n 2, 42, []), (42, .invokestatic 274, 45, [12, 28, 5, 4]), (45, .astore 6, 47, []), (47, .aload 6, 49, []), (49, .ifnonnull 7, 52, []), (52, .aconst_null, 53, []), (53, .goto 12, 56, []), (56, .aload_n 0, 57, []), (57, .aload 6, 59, []), (59, .getfield 278, 62, [9, 7, 3, 1]), (62, .invokevirtual 252, 65, [10, 29, 7, 3, 2]), (65, .astore_n 3, 66, []), (66, .iconst 0, 67, []), (67, .istore 4, 69, []), (69, .iinc 5 1, 72, []), (72, .goto (-58), 75, []), (75, .aload_n 3, 76, []), (76, .ifnull 12, 79, []), (79, .aload_n 3, 80, []), (80, .getfield 256, 83, [9, 9, 1, 0]), (83, .bipush 6, 85, []), (85, .if_icmp .ne 7, 88, []), (88, .aconst_null, 89, []), (89, .goto 4, 92, []), (92, .aload_n 3, 93, []), (93, .areturn, 94, [3])] := dk_ck (by decide +kernel)
set_option maxRecDepth 4096 in
theorem w_Bk_coverOf_14 {nl : Bool} {Ln : Nat} {xs : Nat → Int32} {d : Nat} {this : Nat} {x1 : Option Nat} {x2 : Int32} {x3 : Option Nat} {x4 : Int32} {x5 : Int32} {x6 : Option Value} {σ : am_S} {F : Option Nat → am_S → Prop} (h : (x5 < (100 : Int32) → (x3 = none → (¬ (x3 = none) → am_is σ x3 9) ∧ ∀ w7 : Option Nat, w7 = (if x3 = none then none else (if (am_fI σ 9001 (x3.getD 0)) = (6 : Int32) then none else x3)) → F w7 σ) ∧ (¬ (x3 = none) → (am_is σ x3 9) ∧ ((am_fI σ 9001 (x3.getD 0)) = (6 : Int32) → k_En_known nl Ln xs d (am_fR σ 9004 (x3.getD 0)) (4 : Int32) x4 x2 σ (fun a12 σ11 => am_ext σ σ11 → (a12 = none → c_Bk_coverOf_14 nl Ln xs (d + 1) this x1 x2 none (0 : Int32) (x5 + (1 : Int32)) (some (am_ov a12)) σ11 F) ∧ (¬ (a12 = none) → (am_is σ11 a12 7) ∧ (am_is σ11 (some this) 6) ∧ k_Bk_policyAt nl Ln xs d this (am_fL σ11 7003 (a12.getD 0)) σ11 (fun a17 σ16 => am_ext σ11 σ16 → c_Bk_coverOf_14 nl Ln xs (d + 1) this x1 x2 a17 (0 : Int32) (x5 + (1 : Int32)) (some (am_ov a12)) σ16 F)))) ∧ (¬ ((am_fI σ 9001 (x3.getD 0)) = (6 : Int32)) → ∀ w21 : Option Nat, w21 = (if x3 = none then none else (if (am_fI σ 9001 (x3.getD 0)) = (6 : Int32) then none else x3)) → F w21 σ))) ∧ (¬ (x5 < (100 : Int32)) → (¬ (x3 = none) → am_is σ x3 9) ∧ ∀ w27 : Option Nat, w27 = (if x3 = none then none else (if (am_fI σ 9001 (x3.getD 0)) = (6 : Int32) then none else x3)) → F w27 σ)) : c_Bk_coverOf_14 nl Ln xs (d + 1) this x1 x2 x3 x4 x5 x6 σ F := by
  obtain ⟨j14, j16, j18, j21, j22, j25, j26, j29, j31, j34, j35, j38, j39, j41, j42, j45, j47, j49, j52, j53, j56, j57, j59, j62, j65, j66, j67, j69, j72, j75, j76, j79, j80, j83, j85, j88, j89, j92, j93, -⟩ := P_Bk_coverOf_14 nl Ln xs
  unfold c_Bk_coverOf_14
  refine s_iload j14 rfl rfl ?_
  refine s_bipush j16 rfl kc_bi_100 ?_
  refine s_icn j18 rfl rfl am_cc_ge (fun hc1 => ?_) (fun hc1 => ?_)
  · replace h := h.2 hc1
    refine s_aload_n j75 rfl rfl ?_
    obtain ⟨ho24, h⟩ := h
    have K26 : ∀ (w27 : Option Nat), w27 = (if x3 = none then none else (if (am_fI σ 9001 (x3.getD 0)) = (6 : Int32) then none else x3)) → am_C (TT nl Ln xs) (d + 1) 27 93 [some (am_ov (some this)), some (am_ov x1), some (.int x2), some (am_ov x3), some (.int x4), some (.int x5), x6] [am_ov w27] σ (am_qR F) := by
      intro w27 hw28
      replace h := h w27 hw28
      exact s_retR j93 rfl h
    refine s_ifnull j76 rfl rfl (fun hc23 => ?_) (fun hc23 => ?_)
    · refine s_null j88 rfl ?_
      refine s_goto j89 rfl rfl ?_
      exact K26 _ (am_t1 hc23 rfl)
    · refine s_aload_n j79 rfl rfl ?_
      refine s_gfI j80 rfl (ho24 hc23) ?_
      refine s_bipush j83 rfl kc_bi_6 ?_
      refine s_icn j85 rfl rfl am_cc_ne (fun hc25 => ?_) (fun hc25 => ?_)
      · refine s_aload_n j92 rfl rfl ?_
        exact K26 _ (am_t2 hc23 (am_t2 hc25 rfl))
      · refine s_null j88 rfl ?_
        refine s_goto j89 rfl rfl ?_
        exact K26 _ (am_t2 hc23 (am_t1 hc25 rfl))
  · replace h := h.1 hc1
    refine s_aload_n j21 rfl rfl ?_
    refine s_ifnull j22 rfl rfl (fun hc2 => ?_) (fun hc2 => ?_)
    · replace h := h.1 hc2
      refine s_aload_n j75 rfl rfl ?_
      obtain ⟨ho4, h⟩ := h
      have K6 : ∀ (w7 : Option Nat), w7 = (if x3 = none then none else (if (am_fI σ 9001 (x3.getD 0)) = (6 : Int32) then none else x3)) → am_C (TT nl Ln xs) (d + 1) 27 93 [some (am_ov (some this)), some (am_ov x1), some (.int x2), some (am_ov x3), some (.int x4), some (.int x5), x6] [am_ov w7] σ (am_qR F) := by
        intro w7 hw8
        replace h := h w7 hw8
        exact s_retR j93 rfl h
      refine s_ifnull j76 rfl rfl (fun hc3 => ?_) (fun hc3 => ?_)
      · refine s_null j88 rfl ?_
        refine s_goto j89 rfl rfl ?_
        exact K6 _ (am_t1 hc3 rfl)
      · refine s_aload_n j79 rfl rfl ?_
        refine s_gfI j80 rfl (ho4 hc3) ?_
        refine s_bipush j83 rfl kc_bi_6 ?_
        refine s_icn j85 rfl rfl am_cc_ne (fun hc5 => ?_) (fun hc5 => ?_)
        · refine s_aload_n j92 rfl rfl ?_
          exact K6 _ (am_t2 hc3 (am_t2 hc5 rfl))
        · refine s_null j88 rfl ?_
          refine s_goto j89 rfl rfl ?_
          exact K6 _ (am_t2 hc3 (am_t1 hc5 rfl))
    · replace h := h.2 hc2
      refine s_aload_n j25 rfl rfl ?_
      obtain ⟨ho9, h⟩ := h
      refine s_gfI j26 rfl ho9 ?_
      refine s_bipush j29 rfl kc_bi_6 ?_
      refine s_icn j31 rfl rfl am_cc_ne (fun hc10 => ?_) (fun hc10 => ?_)
      · replace h := h.2 hc10
        refine s_aload_n j75 rfl rfl ?_
        have K20 : ∀ (w21 : Option Nat), w21 = (if x3 = none then none else (if (am_fI σ 9001 (x3.getD 0)) = (6 : Int32) then none else x3)) → am_C (TT nl Ln xs) (d + 1) 27 93 [some (am_ov (some this)), some (am_ov x1), some (.int x2), some (am_ov x3), some (.int x4), some (.int x5), x6] [am_ov w21] σ (am_qR F) := by
          intro w21 hw22
          replace h := h w21 hw22
          exact s_retR j93 rfl h
        refine s_ifnull j76 rfl rfl (fun hc18 => ?_) (fun hc18 => ?_)
        · refine s_null j88 rfl ?_
          refine s_goto j89 rfl rfl ?_
          exact K20 _ (am_t1 hc18 rfl)
        · refine s_aload_n j79 rfl rfl ?_
          refine s_gfI j80 rfl ho9 ?_
          refine s_bipush j83 rfl kc_bi_6 ?_
          refine s_icn j85 rfl rfl am_cc_ne (fun hc19 => ?_) (fun hc19 => ?_)
          · refine s_aload_n j92 rfl rfl ?_
            exact K20 _ (am_t2 hc18 (am_t2 hc19 rfl))
          · refine s_null j88 rfl ?_
            refine s_goto j89 rfl rfl ?_
            exact K20 _ (am_t2 hc18 (am_t1 hc19 rfl))
      · replace h := h.1 hc10
        refine s_aload_n j34 rfl rfl ?_
        refine s_gfR j35 rfl ho9 ?_
        refine s_iconst j38 rfl kc_ic_4 ?_
        refine s_iload j39 rfl rfl ?_
        refine s_iload_n j41 rfl rfl ?_
        refine s_stat j42 rfl rfl rfl rfl (by decide) (in_En_known _ _ _ _) (am_r8 rfl) (am_bR h (fun a12 σ11 h hx11 => ?_))
        replace h := h hx11
        refine s_astore j45 rfl (n := 7) (L' := [some (am_ov (some this)), some (am_ov x1), some (.int x2), some (am_ov x3), some (.int x4), some (.int x5), some (am_ov a12)]) rfl (by decide) rfl ?_
        refine s_aload j47 rfl rfl ?_
        refine s_ifnonnull j49 rfl rfl (fun hc13 => ?_) (fun hc13 => ?_)
        · replace h := h.2 hc13
          refine s_aload_n j56 rfl rfl ?_
          refine s_aload j57 rfl rfl ?_
          obtain ⟨ho14, h⟩ := h
          refine s_gfL j59 rfl ho14 ?_
          obtain ⟨ho15, h⟩ := h
          refine s_virt j62 rfl rfl rfl rfl ho15 (by decide) (in_Bk_policyAt _ _) (am_r8 rfl) (am_bR h (fun a17 σ16 h hx16 => ?_))
          replace h := h hx16
          refine s_astore_n j65 rfl (n := 7) (L' := [some (am_ov (some this)), some (am_ov x1), some (.int x2), some (am_ov a17), some (.int x4), some (.int x5), some (am_ov a12)]) rfl (by decide) rfl ?_
          refine s_iconst j66 rfl kc_ic_0 ?_
          refine s_istore j67 rfl (n := 7) (L' := [some (am_ov (some this)), some (am_ov x1), some (.int x2), some (am_ov a17), some (.int (0 : Int32)), some (.int x5), some (am_ov a12)]) rfl (by decide) (am_st1_R [_, _, _] _ _ _ _) ?_
          refine s_iinc (L' := [some (am_ov (some this)), some (am_ov x1), some (.int x2), some (am_ov a17), some (.int (0 : Int32)), some (.int (x5 + (1 : Int32))), some (am_ov a12)]) j69 rfl rfl kc_ic_1 rfl ?_
          refine s_goto j72 rfl rfl ?_
          exact h
        · replace h := h.1 hc13
          refine s_null j52 rfl ?_
          refine s_goto j53 rfl rfl ?_
          refine s_astore_n j65 rfl (n := 7) (L' := [some (am_ov (some this)), some (am_ov x1), some (.int x2), some (am_ov none), some (.int x4), some (.int x5), some (am_ov a12)]) rfl (by decide) rfl ?_
          refine s_iconst j66 rfl kc_ic_0 ?_
          refine s_istore j67 rfl (n := 7) (L' := [some (am_ov (some this)), some (am_ov x1), some (.int x2), some (am_ov none), some (.int (0 : Int32)), some (.int x5), some (am_ov a12)]) rfl (by decide) (am_st1_R [_, _, _] _ _ _ _) ?_
          refine s_iinc (L' := [some (am_ov (some this)), some (am_ov x1), some (.int x2), some (am_ov none), some (.int (0 : Int32)), some (.int (x5 + (1 : Int32))), some (am_ov a12)]) j69 rfl rfl kc_ic_1 rfl ?_
          refine s_goto j72 rfl rfl ?_
          exact h
theorem P_En_known (nl : Bool) (Ln : Nat) (xs : Nat → Int32) : am_Jl (TT nl Ln xs) 28 [(0, .aload_n 0, 1, []), (1, .astore 4, 3, [])] := dk_ck (by decide +kernel)
set_option maxRecDepth 4096 in
theorem w_En_known {nl : Bool} {Ln : Nat} {xs : Nat → Int32} {d : Nat} {p0 : Option Nat} {p1 : Int32} {p2 : Int32} {p3 : Int32} {σ : am_S} {F : Option Nat → am_S → Prop} (h : c_En_known_3 nl Ln xs (d + 1) p0 p1 p2 p3 p0 σ F) : k_En_known nl Ln xs (d + 1) p0 p1 p2 p3 σ F := by
  obtain ⟨j0, j1, -⟩ := P_En_known nl Ln xs
  have elo : am_lo 5 [am_ov p0, .int p1, .int p2, .int p3] = [some (am_ov p0), some (.int p1), some (.int p2), some (.int p3), none] := by simp only [am_lo, am_in_ov, am_in_int, am_in_long, am_in_nil]; rfl
  unfold k_En_known
  rw [elo]
  refine s_aload_n j0 rfl rfl ?_
  refine s_astore j1 rfl (n := 5) (L' := [some (am_ov p0), some (.int p1), some (.int p2), some (.int p3), some (am_ov p0)]) rfl (by decide) rfl ?_
  exact h
theorem P_En_known_3 (nl : Bool) (Ln : Nat) (xs : Nat → Int32) : am_Jl (TT nl Ln xs) 28 [(3, .aload 4, 5, []), (5, .ifnull 43, 8, []), (8, .aload 4, 10, []), (10, .getfield 7, 13, [9, 7, 0, 0]), (13, .iload_n 1, 14, []), (14, .if_icmp .ne 24, 17, []), (17, .aload 4, 19, []), (19, .getfield 13, 22, [9, 7, 1, 0]), (22, .iload_n 2, 23, []), (23, .if_icmp .ne 15, 26, []), (26, .aload 4, 28, []), (28, .getfield 16, 31, [9, 7, 2, 0]), (31, .iload_n 3, 32, []), (32, .if_icmp .gt 6, 35, []), (35, .aload 4, 37, []), (37, .areturn, 38, [3]), (38, .aload 4, 40, []), (40, .getfield 19, 43, [9, 7, 5, 2]), (43, .astore 4, 45, []), (45, .goto (-42), 48, []), (48, .aconst_null, 49, []), (49, .areturn, 50, [3])] := dk_ck (by decide +kernel)
set_option maxRecDepth 4096 in
theorem w_En_known_3 {nl : Bool} {Ln : Nat} {xs : Nat → Int32} {d : Nat} {x0 : Option Nat} {x1 : Int32} {x2 : Int32} {x3 : Int32} {x4 : Option Nat} {σ : am_S} {F : Option Nat → am_S → Prop} (h : (x4 = none → F none σ) ∧ (¬ (x4 = none) → (am_is σ x4 7) ∧ ((am_fI σ 7000 (x4.getD 0)) = x1 → ((am_fI σ 7001 (x4.getD 0)) = x2 → (x3 < (am_fI σ 7002 (x4.getD 0)) → ∀ v6 : Option Nat, v6 = (am_fR σ 7005 (x4.getD 0)) → c_En_known_3 nl Ln xs (d + 1) x0 x1 x2 x3 v6 σ F) ∧ (¬ (x3 < (am_fI σ 7002 (x4.getD 0))) → F x4 σ)) ∧ (¬ ((am_fI σ 7001 (x4.getD 0)) = x2) → ∀ v8 : Option Nat, v8 = (am_fR σ 7005 (x4.getD 0)) → c_En_known_3 nl Ln xs (d + 1) x0 x1 x2 x3 v8 σ F)) ∧ (¬ ((am_fI σ 7000 (x4.getD 0)) = x1) → ∀ v10 : Option Nat, v10 = (am_fR σ 7005 (x4.getD 0)) → c_En_known_3 nl Ln xs (d + 1) x0 x1 x2 x3 v10 σ F))) : c_En_known_3 nl Ln xs (d + 1) x0 x1 x2 x3 x4 σ F := by
  obtain ⟨j3, j5, j8, j10, j13, j14, j17, j19, j22, j23, j26, j28, j31, j32, j35, j37, j38, j40, j43, j45, j48, j49, -⟩ := P_En_known_3 nl Ln xs
  unfold c_En_known_3
  refine s_aload j3 rfl rfl ?_
  refine s_ifnull j5 rfl rfl (fun hc1 => ?_) (fun hc1 => ?_)
  · replace h := h.1 hc1
    refine s_null j48 rfl ?_
    exact s_retR j49 rfl h
  · replace h := h.2 hc1
    refine s_aload j8 rfl rfl ?_
    obtain ⟨ho2, h⟩ := h
    refine s_gfI j10 rfl ho2 ?_
    refine s_iload_n j13 rfl rfl ?_
    refine s_icn j14 rfl rfl am_cc_ne (fun hc3 => ?_) (fun hc3 => ?_)
    · replace h := h.2 hc3
      refine s_aload j38 rfl rfl ?_
      refine s_gfR j40 rfl ho2 ?_
      refine s_astoreV j43 rfl (n := 5) (L' := fun w => [some (am_ov x0), some (.int x1), some (.int x2), some (.int x3), some (am_ov w)]) rfl (by decide) (fun _ => rfl) (fun v10 hv11 => ?_)
      replace h := h v10 hv11
      refine s_goto j45 rfl rfl ?_
      exact h
    · replace h := h.1 hc3
      refine s_aload j17 rfl rfl ?_
      refine s_gfI j19 rfl ho2 ?_
      refine s_iload_n j22 rfl rfl ?_
      refine s_icn j23 rfl rfl am_cc_ne (fun hc4 => ?_) (fun hc4 => ?_)
      · replace h := h.2 hc4
        refine s_aload j38 rfl rfl ?_
        refine s_gfR j40 rfl ho2 ?_
        refine s_astoreV j43 rfl (n := 5) (L' := fun w => [some (am_ov x0), some (.int x1), some (.int x2), some (.int x3), some (am_ov w)]) rfl (by decide) (fun _ => rfl) (fun v8 hv9 => ?_)
        replace h := h v8 hv9
        refine s_goto j45 rfl rfl ?_
        exact h
      · replace h := h.1 hc4
        refine s_aload j26 rfl rfl ?_
        refine s_gfI j28 rfl ho2 ?_
        refine s_iload_n j31 rfl rfl ?_
        refine s_ic j32 rfl rfl am_cc_gt (fun hc5 => ?_) (fun hc5 => ?_)
        · replace h := h.1 hc5
          refine s_aload j38 rfl rfl ?_
          refine s_gfR j40 rfl ho2 ?_
          refine s_astoreV j43 rfl (n := 5) (L' := fun w => [some (am_ov x0), some (.int x1), some (.int x2), some (.int x3), some (am_ov w)]) rfl (by decide) (fun _ => rfl) (fun v6 hv7 => ?_)
          replace h := h v6 hv7
          refine s_goto j45 rfl rfl ?_
          exact h
        · replace h := h.2 hc5
          refine s_aload j35 rfl rfl ?_
          exact s_retR j37 rfl h
theorem P_Bk_policyAt (nl : Bool) (Ln : Nat) (xs : Nat → Int32) : am_Jl (TT nl Ln xs) 29 [(0, .lload_n 1, 1, []), (1, .lconst 0, 2, []), (2, .lcmp, 3, []), (3, .ifCond .lt 13, 6, []), (6, .lload_n 1, 7, []), (7, .aload_n 0, 8, []), (8, .getfield 73, 11, [9, 6, 12, 0]), (11, .i2l, 12, []), (12, .lcmp, 13, []), (13, .ifCond .lt 7, 16, []), (16, .aconst_null, 17, []), (17, .goto 10, 20, []), (20, .aload_n 0, 21, []), (21, .getfield 20, 24, [9, 6, 4, 2]), (24, .lload_n 1, 25, []), (25, .l2i, 26, []), (26, .aaload, 27, []), (27, .areturn, 28, [3])] := dk_ck (by decide +kernel)
set_option maxRecDepth 4096 in
theorem w_Bk_policyAt {nl : Bool} {Ln : Nat} {xs : Nat → Int32} {d : Nat} {this : Nat} {p0 : Int64} {σ : am_S} {F : Option Nat → am_S → Prop} (h : (¬ (p0 < (0 : Int64)) → am_is σ (some this) 6) ∧ (¬ (p0 < (0 : Int64)) → (p0 < (am_fI σ 6012 this).toInt64) → am_is σ (some this) 6) ∧ (¬ (p0 < (0 : Int64)) → (p0 < (am_fI σ 6012 this).toInt64) → am_ar σ 2009 (am_fR σ 6004 this) p0.toInt32) ∧ ∀ w7 : Option Nat, w7 = (if p0 < (0 : Int64) then none else (if p0 < (am_fI σ 6012 this).toInt64 then (am_aR σ ((am_fR σ 6004 this).getD 0) p0.toInt32.toNatClampNeg) else none)) → F w7 σ) : k_Bk_policyAt nl Ln xs (d + 1) this p0 σ F := by
  obtain ⟨j0, j1, j2, j3, j6, j7, j8, j11, j12, j13, j16, j17, j20, j21, j24, j25, j26, j27, -⟩ := P_Bk_policyAt nl Ln xs
  have elo : am_lo 3 [am_ov (some this), .long p0] = [some (am_ov (some this)), some (.long p0), none] := by simp only [am_lo, am_in_ov, am_in_int, am_in_long, am_in_nil]; rfl
  unfold k_Bk_policyAt
  rw [elo]
  refine s_lload_n j0 rfl rfl ?_
  refine s_lconst j1 rfl rfl ?_
  refine s_g j2 rfl rfl rfl rfl rfl rfl ?_
  obtain ⟨ho2, h⟩ := h
  obtain ⟨ho4, h⟩ := h
  obtain ⟨ho5, h⟩ := h
  have K6 : ∀ (w7 : Option Nat), w7 = (if p0 < (0 : Int64) then none else (if p0 < (am_fI σ 6012 this).toInt64 then (am_aR σ ((am_fR σ 6004 this).getD 0) p0.toInt32.toNatClampNeg) else none)) → am_C (TT nl Ln xs) (d + 1) 29 27 [some (am_ov (some this)), some (.long p0), none] [am_ov w7] σ (am_qR F) := by
    intro w7 hw8
    replace h := h w7 hw8
    exact s_retR j27 rfl h
  refine s_if j3 rfl rfl am_cl_lt (fun hc1 => ?_) (fun hc1 => ?_)
  · refine s_null j16 rfl ?_
    refine s_goto j17 rfl rfl ?_
    exact K6 _ (am_t1 hc1 rfl)
  · refine s_lload_n j6 rfl rfl ?_
    refine s_aload_n j7 rfl rfl ?_
    refine s_gfI j8 rfl (ho2 hc1) ?_
    refine s_g j11 rfl rfl rfl rfl rfl rfl ?_
    refine s_g j12 rfl rfl rfl rfl rfl rfl ?_
    refine s_if j13 rfl rfl am_cl_lt (fun hc3 => ?_) (fun hc3 => ?_)
    · refine s_aload_n j20 rfl rfl ?_
      refine s_gfR j21 rfl (ho4 hc1 hc3) ?_
      refine s_lload_n j24 rfl rfl ?_
      refine s_g j25 rfl rfl rfl rfl rfl rfl ?_
      refine s_aaload (k := 2009) (by decide) kq_2009 j26 rfl (ho5 hc1 hc3) ?_
      exact K6 _ (am_t2 hc1 (am_t1 hc3 rfl))
    · refine s_null j16 rfl ?_
      refine s_goto j17 rfl rfl ?_
      exact K6 _ (am_t2 hc1 (am_t2 hc3 rfl))
theorem P_Vw_fail (nl : Bool) (Ln : Nat) (xs : Nat → Int32) : am_Jl (TT nl Ln xs) 30 [(0, .aload_n 0, 1, []), (1, .iload_n 1, 2, []), (2, .putfield 32, 5, [9, 3, 6, 0]), (5, .aload_n 0, 6, []), (6, .iconst 1, 7, []), (7, .putfield 35, 10, [9, 3, 7, 3]), (10, .return_, 11, [0])] := dk_ck (by decide +kernel)
set_option maxRecDepth 4096 in
theorem w_Vw_fail {nl : Bool} {Ln : Nat} {xs : Nat → Int32} {d : Nat} {this : Nat} {p0 : Int32} {σ : am_S} {F : am_S → Prop} (h : (am_is σ (some this) 3) ∧ ∀ σ2, σ2 = am_sfI σ 3006 this p0 → ∀ σ5, σ5 = am_sfI σ2 3007 this (1 : Int32) → F σ5) : k_Vw_fail nl Ln xs (d + 1) this p0 σ F := by
  obtain ⟨j0, j1, j2, j5, j6, j7, j10, -⟩ := P_Vw_fail nl Ln xs
  have elo : am_lo 2 [am_ov (some this), .int p0] = [some (am_ov (some this)), some (.int p0)] := by simp only [am_lo, am_in_ov, am_in_int, am_in_long, am_in_nil]; rfl
  unfold k_Vw_fail
  rw [elo]
  refine s_aload_n j0 rfl rfl ?_
  refine s_iload_n j1 rfl rfl ?_
  obtain ⟨ho1, h⟩ := h
  refine s_pfI j2 rfl ho1 (fun σ2 e3 => ?_)
  replace h := h σ2 e3
  have ek4 : am_kd σ2 = am_kd σ := by rw [e3]
  refine s_aload_n j5 rfl rfl ?_
  refine s_iconst j6 rfl kc_ic_1 ?_
  refine s_pfZ j7 rfl (am_is_kd ek4 ho1) (Or.inr rfl) (fun σ5 e6 => ?_)
  replace h := h σ5 e6
  have ek7 : am_kd σ5 = am_kd σ2 := by rw [e6]
  exact s_retV j10 rfl h
theorem P_Po_hasYear (nl : Bool) (Ln : Nat) (xs : Nat → Int32) : am_Jl (TT nl Ln xs) 31 [(0, .iload_n 1, 1, []), (1, .aload_n 0, 2, []), (2, .getfield 25, 5, [9, 9, 2, 0]), (5, .sipush 365, 8, []), (8, .idiv, 9, []), (9, .if_icmp .lt 19, 12, []), (12, .iload_n 1, 13, []), (13, .aload_n 0, 14, []), (14, .getfield 29, 17, [9, 9, 3, 0]), (17, .sipush 365, 20, []), (20, .idiv, 21, []), (21, .if_icmp .gt 7, 24, []), (24, .iconst 1, 25, []), (25, .goto 4, 28, []), (28, .iconst 0, 29, []), (29, .ireturn, 30, [4])] := dk_ck (by decide +kernel)
set_option maxRecDepth 4096 in
theorem w_Po_hasYear {nl : Bool} {Ln : Nat} {xs : Nat → Int32} {d : Nat} {this : Nat} {p0 : Int32} {σ : am_S} {F : Bool → am_S → Prop} (h : (am_is σ (some this) 9) ∧ F (decide (¬ (p0 < ((am_fI σ 9002 this) / (365 : Int32))) ∧ (¬ (((am_fI σ 9003 this) / (365 : Int32)) < p0)))) σ) : k_Po_hasYear nl Ln xs (d + 1) this p0 σ F := by
  obtain ⟨j0, j1, j2, j5, j8, j9, j12, j13, j14, j17, j20, j21, j24, j25, j28, j29, -⟩ := P_Po_hasYear nl Ln xs
  have elo : am_lo 2 [am_ov (some this), .int p0] = [some (am_ov (some this)), some (.int p0)] := by simp only [am_lo, am_in_ov, am_in_int, am_in_long, am_in_nil]; rfl
  unfold k_Po_hasYear
  rw [elo]
  refine s_iload_n j0 rfl rfl ?_
  refine s_aload_n j1 rfl rfl ?_
  obtain ⟨ho1, h⟩ := h
  refine s_gfI j2 rfl ho1 ?_
  refine s_sipush j5 rfl kc_si_365 ?_
  refine s_idiv j8 rfl (by decide) ?_
  have K4 : ∀ (w5 : Int32), w5 = (if ¬ (p0 < ((am_fI σ 9002 this) / (365 : Int32))) ∧ (¬ (((am_fI σ 9003 this) / (365 : Int32)) < p0)) then (1 : Int32) else 0) → am_C (TT nl Ln xs) (d + 1) 31 29 [some (am_ov (some this)), some (.int p0)] [.int w5] σ (am_qB F) := by
    intro w5 hw6
    subst hw6
    exact s_retZ j29 rfl h
  refine s_ic j9 rfl rfl am_cc_lt (fun hc2 => ?_) (fun hc2 => ?_)
  · refine s_iconst j28 rfl kc_ic_0 ?_
    exact K4 _ (am_e0 (Iff.trans Iff.rfl (am_p6 hc2)))
  · refine s_iload_n j12 rfl rfl ?_
    refine s_aload_n j13 rfl rfl ?_
    refine s_gfI j14 rfl ho1 ?_
    refine s_sipush j17 rfl kc_si_365 ?_
    refine s_idiv j20 rfl (by decide) ?_
    refine s_ic j21 rfl rfl am_cc_gt (fun hc3 => ?_) (fun hc3 => ?_)
    · refine s_iconst j28 rfl kc_ic_0 ?_
      exact K4 _ (am_e0 (am_p5 hc2 (Iff.trans Iff.rfl (am_p11 hc3))))
    · refine s_iconst j24 rfl kc_ic_1 ?_
      refine s_goto j25 rfl rfl ?_
      exact K4 _ (am_e1 (am_p5 hc2 (Iff.trans Iff.rfl (am_p12 hc3))))
theorem P_Po_clausesAt (nl : Bool) (Ln : Nat) (xs : Nat → Int32) : am_Jl (TT nl Ln xs) 32 [(0, .aload_n 0, 1, []), (1, .getfield 9, 4, [9, 9, 4, 2]), (4, .bipush 6, 6, []), (6, .iconst 0, 7, []), (7, .iload_n 1, 8, []), (8, .invokestatic 15, 11, [12, 28, 5, 4]), (11, .astore_n 2, 12, []), (12, .aload_n 2, 13, []), (13, .ifnonnull 7, 16, []), (16, .aconst_null, 17, []), (17, .goto 7, 20, []), (20, .aload_n 2, 21, []), (21, .getfield 21, 24, [9, 7, 4, 2]), (24, .areturn, 25, [3])] := dk_ck (by decide +kernel)
set_option maxRecDepth 4096 in
theorem w_Po_clausesAt {nl : Bool} {Ln : Nat} {xs : Nat → Int32} {d : Nat} {this : Nat} {p0 : Int32} {σ : am_S} {F : Option Nat → am_S → Prop} (h : (am_is σ (some this) 9) ∧ k_En_known nl Ln xs d (am_fR σ 9004 this) (6 : Int32) (0 : Int32) p0 σ (fun a3 σ2 => am_ext σ σ2 → (¬ (a3 = none) → am_is σ2 a3 7) ∧ ∀ w7 : Option Nat, w7 = (if a3 = none then none else (am_fR σ2 7004 (a3.getD 0))) → F w7 σ2)) : k_Po_clausesAt nl Ln xs (d + 1) this p0 σ F := by
  obtain ⟨j0, j1, j4, j6, j7, j8, j11, j12, j13, j16, j17, j20, j21, j24, -⟩ := P_Po_clausesAt nl Ln xs
  have elo : am_lo 3 [am_ov (some this), .int p0] = [some (am_ov (some this)), some (.int p0), none] := by simp only [am_lo, am_in_ov, am_in_int, am_in_long, am_in_nil]; rfl
  unfold k_Po_clausesAt
  rw [elo]
  refine s_aload_n j0 rfl rfl ?_
  obtain ⟨ho1, h⟩ := h
  refine s_gfR j1 rfl ho1 ?_
  refine s_bipush j4 rfl kc_bi_6 ?_
  refine s_iconst j6 rfl kc_ic_0 ?_
  refine s_iload_n j7 rfl rfl ?_
  refine s_stat j8 rfl rfl rfl rfl (by decide) (in_En_known _ _ _ _) (am_r8 rfl) (am_bR h (fun a3 σ2 h hx2 => ?_))
  replace h := h hx2
  refine s_astore_n j11 rfl (n := 3) (L' := [some (am_ov (some this)), some (.int p0), some (am_ov a3)]) rfl (by decide) rfl ?_
  refine s_aload_n j12 rfl rfl ?_
  obtain ⟨ho5, h⟩ := h
  have K6 : ∀ (w7 : Option Nat), w7 = (if a3 = none then none else (am_fR σ2 7004 (a3.getD 0))) → am_C (TT nl Ln xs) (d + 1) 32 24 [some (am_ov (some this)), some (.int p0), some (am_ov a3)] [am_ov w7] σ2 (am_qR F) := by
    intro w7 hw8
    replace h := h w7 hw8
    exact s_retR j24 rfl h
  refine s_ifnonnull j13 rfl rfl (fun hc4 => ?_) (fun hc4 => ?_)
  · refine s_aload_n j20 rfl rfl ?_
    refine s_gfR j21 rfl (ho5 hc4) ?_
    exact K6 _ (am_t2 hc4 rfl)
  · refine s_null j16 rfl ?_
    refine s_goto j17 rfl rfl ?_
    exact K6 _ (am_t1 hc4 rfl)
theorem P_Wk_takeCorrections (nl : Bool) (Ln : Nat) (xs : Nat → Int32) : am_Jl (TT nl Ln xs) 33 [(0, .aload_n 0, 1, []), (1, .getfield 124, 4, [9, 2, 5, 2]), (4, .invokevirtual 225, 7, [10, 17, 11, 3, 1]), (7, .astore_n 1, 8, []), (8, .iconst 0, 9, []), (9, .istore_n 2, 10, [])] := dk_ck (by decide +kernel)
set_option maxRecDepth 4096 in
theorem w_Wk_takeCorrections {nl : Bool} {Ln : Nat} {xs : Nat → Int32} {d : Nat} {this : Nat} {σ : am_S} {F : am_S → Prop} (h : (am_is σ (some this) 2) ∧ (am_is σ (am_fR σ 2005 this) 10) ∧ k_Ls_base nl Ln xs d ((am_fR σ 2005 this).getD 0) σ (fun a4 σ3 => am_ext σ σ3 → c_Wk_takeCorrections_10 nl Ln xs (d + 1) this a4 (0 : Int32) σ3 F)) : k_Wk_takeCorrections nl Ln xs (d + 1) this σ F := by
  obtain ⟨j0, j1, j4, j7, j8, j9, -⟩ := P_Wk_takeCorrections nl Ln xs
  have elo : am_lo 5 [am_ov (some this)] = [some (am_ov (some this)), none, none, none, none] := by simp only [am_lo, am_in_ov, am_in_int, am_in_long, am_in_nil]; rfl
  unfold k_Wk_takeCorrections
  rw [elo]
  refine s_aload_n j0 rfl rfl ?_
  obtain ⟨ho1, h⟩ := h
  refine s_gfR j1 rfl ho1 ?_
  obtain ⟨ho2, h⟩ := h
  refine s_virt j4 rfl rfl rfl rfl ho2 (by decide) (in_Ls_base _) (am_r8 rfl) (am_bR h (fun a4 σ3 h hx3 => ?_))
  replace h := h hx3
  refine s_astore_n j7 rfl (n := 5) (L' := [some (am_ov (some this)), some (am_ov a4), none, none, none]) rfl (by decide) (am_st1_R [] _ _ _ _) ?_
  refine s_iconst j8 rfl kc_ic_0 ?_
  refine s_istore_n j9 rfl (n := 5) (L' := [some (am_ov (some this)), some (am_ov a4), some (.int (0 : Int32)), none, none]) rfl (by decide) (am_st1_R [_] _ _ _ _) ?_
  exact h
theorem P_Wk_takeCorrections_10 (nl : Bool) (Ln : Nat) (xs : Nat → Int32) : am_Jl (TT nl Ln xs) 33 [(10, .iload_n 2, 11, []), (11, .aload_n 0, 12, []), (12, .getfield 18, 15, [9, 2, 13, 2]), (15, .arraylength, 16, []), (16, .if_icmp .ge 28, 19, []), (19, .aload_n 0, 20, []), (20, .getfield 18, 23, [9, 2, 13, 2]), (23, .iload_n 2, 24, []), (24, .aload_n 1, 25, []), (25, .getfield 229, 28, [9, 10, 6, 2]), (28, .iload_n 2, 29, []), (29, .laload, 30, []), (30, .lastore, 31, []), (31, .aload_n 0, 32, []), (32, .getfield 22, 35, [9, 2, 14, 2]), (35, .iload_n 2, 36, []), (36, .iconst (-1), 37, []), (37, .iastore, 38, []), (38, .iinc 2 1, 41, []), (41, .goto (-31), 44, []), (44, .aload_n 0, 45, []), (45, .getfield 87, 48, [9, 2, 4, 2]), (48, .getfield 230, 51, [9, 11, 5, 2]), (51, .astore_n 2, 52, [])] := dk_ck (by decide +kernel)
set_option maxRecDepth 4096 in
theorem w_Wk_takeCorrections_10 {nl : Bool} {Ln : Nat} {xs : Nat → Int32} {d : Nat} {this : Nat} {x1 : Option Nat} {x2 : Int32} {σ : am_S} {F : am_S → Prop} (h : (am_is σ (some this) 2) ∧ (∃ n, (am_fR σ 2013 this) = some n ∧ (am_kd σ n).1 = 1001) ∧ (x2 < (Int32.ofNat (am_kd σ ((am_fR σ 2013 this).getD 0)).2) → (am_is σ x1 10) ∧ (am_ar σ 1001 (am_fR σ 10006 (x1.getD 0)) x2) ∧ (am_ar σ 1001 (am_fR σ 2013 this) x2) ∧ ∀ σ7, σ7 = am_saL σ ((am_fR σ 2013 this).getD 0) x2.toNatClampNeg (am_aL σ ((am_fR σ 10006 (x1.getD 0)).getD 0) x2.toNatClampNeg) → (am_ar σ7 1000 (am_fR σ7 2014 this) x2) ∧ ∀ σ11, σ11 = am_saI σ7 ((am_fR σ7 2014 this).getD 0) x2.toNatClampNeg (-1 : Int32) → c_Wk_takeCorrections_10 nl Ln xs (d + 1) this x1 (x2 + (1 : Int32)) σ11 F) ∧ (¬ (x2 < (Int32.ofNat (am_kd σ ((am_fR σ 2013 this).getD 0)).2)) → (am_is σ (am_fR σ 2004 this) 11) ∧ ∀ v15 : Option Nat, v15 = (am_fR σ 11005 ((am_fR σ 2004 this).getD 0)) → c_Wk_takeCorrections_52 nl Ln xs (d + 1) this x1 v15 none none σ F)) : c_Wk_takeCorrections_10 nl Ln xs (d + 1) this x1 x2 σ F := by
  obtain ⟨j10, j11, j12, j15, j16, j19, j20, j23, j24, j25, j28, j29, j30, j31, j32, j35, j36, j37, j38, j41, j44, j45, j48, j51, -⟩ := P_Wk_takeCorrections_10 nl Ln xs
  unfold c_Wk_takeCorrections_10
  refine s_iload_n j10 rfl rfl ?_
  refine s_aload_n j11 rfl rfl ?_
  obtain ⟨ho1, h⟩ := h
  refine s_gfR j12 rfl ho1 ?_
  obtain ⟨ho2, h⟩ := h
  refine s_len (k := 1001) kn_1001 (by decide) j15 rfl ho2 ?_
  refine s_icn j16 rfl rfl am_cc_ge (fun hc3 => ?_) (fun hc3 => ?_)
  · replace h := h.2 hc3
    refine s_aload_n j44 rfl rfl ?_
    refine s_gfR j45 rfl ho1 ?_
    obtain ⟨ho14, h⟩ := h
    refine s_gfR j48 rfl ho14 ?_
    refine s_astore_nV j51 rfl (n := 5) (L' := fun w => [some (am_ov (some this)), some (am_ov x1), some (am_ov w), none, none]) rfl (by decide) (fun _ => am_st1_R [_] _ _ _ _) (fun v15 hv16 => ?_)
    replace h := h v15 hv16
    exact h
  · replace h := h.1 hc3
    refine s_aload_n j19 rfl rfl ?_
    refine s_gfR j20 rfl ho1 ?_
    refine s_iload_n j23 rfl rfl ?_
    refine s_aload_n j24 rfl rfl ?_
    obtain ⟨ho4, h⟩ := h
    refine s_gfR j25 rfl ho4 ?_
    refine s_iload_n j28 rfl rfl ?_
    obtain ⟨ho5, h⟩ := h
    refine s_laload j29 rfl ho5 ?_
    obtain ⟨ho6, h⟩ := h
    refine s_lastore j30 rfl ho6 (fun σ7 e8 => ?_)
    replace h := h σ7 e8
    have ek9 : am_kd σ7 = am_kd σ := by rw [e8]
    refine s_aload_n j31 rfl rfl ?_
    refine s_gfR j32 rfl (am_is_kd ek9 ho1) ?_
    refine s_iload_n j35 rfl rfl ?_
    refine s_iconst j36 rfl kc_ic_m1 ?_
    obtain ⟨ho10, h⟩ := h
    refine s_iastore j37 rfl ho10 (fun σ11 e12 => ?_)
    replace h := h σ11 e12
    have ek13 : am_kd σ11 = am_kd σ7 := by rw [e12]
    refine s_iinc (L' := [some (am_ov (some this)), some (am_ov x1), some (.int (x2 + (1 : Int32))), none, none]) j38 rfl rfl kc_ic_1 (am_st1_R [_] _ _ _ _) ?_
    refine s_goto j41 rfl rfl ?_
    exact h
theorem P_Wk_takeCorrections_52 (nl : Bool) (Ln : Nat) (xs : Nat → Int32) : am_Jl (TT nl Ln xs) 33 [(52, .aload_n 2, 53, []), (53, .ifnull 117, 56, []), (56, .aload_n 2, 57, []), (57, .bipush 16, 59, []), (59, .aload_n 0, 60, []), (60, .getfield 95, 63, [9, 2, 9, 0]), (63, .aload_n 0, 64, []), (64, .getfield 91, 67, [9, 2, 8, 0]), (67, .invokevirtual 233, 70, [10, 20, 8, 4, 4]), (70, .ifCond .eq 18, 73, []), (73, .aload_n 2, 74, []), (74, .getfield 237, 77, [9, 7, 8, 0]), (77, .aload_n 0, 78, []), (78, .getfield 91, 81, [9, 2, 8, 0]), (81, .if_icmp .gt 7, 84, []), (84, .iconst 1, 85, []), (85, .goto 4, 88, []), (88, .iconst 0, 89, []), (170, .return_, 171, [0])] := dk_ck (by decide +kernel)
set_option maxRecDepth 4096 in
theorem w_Wk_takeCorrections_52 {nl : Bool} {Ln : Nat} {xs : Nat → Int32} {d : Nat} {this : Nat} {x1 : Option Nat} {x2 : Option Nat} {x3 : Option Value} {x4 : Option Value} {σ : am_S} {F : am_S → Prop} (h : (x2 = none → F σ) ∧ (¬ (x2 = none) → (am_is σ (some this) 2) ∧ (am_is σ x2 7) ∧ k_En_counts nl Ln xs d (x2.getD 0) (16 : Int32) (am_fI σ 2009 this) (am_fI σ 2008 this) σ (fun a5 σ4 => am_ext σ σ4 → c_Wk_takeCorrections_89 nl Ln xs (d + 1) this x1 x2 x3 x4 (if (a5 = true) ∧ (¬ ((am_fI σ4 2008 this) < (am_fI σ4 7008 (x2.getD 0)))) then (1 : Int32) else 0) σ4 F))) : c_Wk_takeCorrections_52 nl Ln xs (d + 1) this x1 x2 x3 x4 σ F := by
  obtain ⟨j52, j53, j56, j57, j59, j60, j63, j64, j67, j70, j73, j74, j77, j78, j81, j84, j85, j88, j170, -⟩ := P_Wk_takeCorrections_52 nl Ln xs
  unfold c_Wk_takeCorrections_52
  refine s_aload_n j52 rfl rfl ?_
  refine s_ifnull j53 rfl rfl (fun hc1 => ?_) (fun hc1 => ?_)
  · replace h := h.1 hc1
    exact s_retV j170 rfl h
  · replace h := h.2 hc1
    refine s_aload_n j56 rfl rfl ?_
    refine s_bipush j57 rfl kc_bi_16 ?_
    refine s_aload_n j59 rfl rfl ?_
    obtain ⟨ho2, h⟩ := h
    refine s_gfI j60 rfl ho2 ?_
    refine s_aload_n j63 rfl rfl ?_
    refine s_gfI j64 rfl ho2 ?_
    obtain ⟨ho3, h⟩ := h
    refine s_virt j67 rfl rfl rfl rfl ho3 (by decide) (in_En_counts _ _ _ _) (am_r8 rfl) (am_bB h (fun a5 σ4 h hx4 => ?_))
    replace h := h hx4
    have K8 : ∀ (w9 : Int32), w9 = (if (a5 = true) ∧ (¬ ((am_fI σ4 2008 this) < (am_fI σ4 7008 (x2.getD 0)))) then (1 : Int32) else 0) → am_C (TT nl Ln xs) (d + 1) 33 89 [some (am_ov (some this)), some (am_ov x1), some (am_ov x2), x3, x4] [.int w9] σ4 (am_qV F) := by
      intro w9 hw10
      subst hw10
      exact h
    refine s_ifn j70 rfl rfl am_cb_eq (fun hc6 => ?_) (fun hc6 => ?_)
    · refine s_iconst j88 rfl kc_ic_0 ?_
      exact K8 _ (am_e0 (Iff.trans Iff.rfl (am_p2 hc6)))
    · refine s_aload_n j73 rfl rfl ?_
      refine s_gfI j74 rfl (am_is_ext hx4 ho3) ?_
      refine s_aload_n j77 rfl rfl ?_
      refine s_gfI j78 rfl (am_is_ext hx4 ho2) ?_
      refine s_ic j81 rfl rfl am_cc_gt (fun hc7 => ?_) (fun hc7 => ?_)
      · refine s_iconst j88 rfl kc_ic_0 ?_
        exact K8 _ (am_e0 (am_p1 hc6 (Iff.trans Iff.rfl (am_p11 hc7))))
      · refine s_iconst j84 rfl kc_ic_1 ?_
        refine s_goto j85 rfl rfl ?_
        exact K8 _ (am_e1 (am_p1 hc6 (Iff.trans Iff.rfl (am_p12 hc7))))
theorem P_Wk_takeCorrections_89 (nl : Bool) (Ln : Nat) (xs : Nat → Int32) : am_Jl (TT nl Ln xs) 33 [(89, .istore_n 3, 90, []), (90, .iload_n 3, 91, []), (91, .ifCond .eq 17, 94, []), (94, .iconst 2, 95, []), (95, .aload_n 2, 96, []), (96, .getfield 240, 99, [9, 7, 1, 0]), (99, .imul, 100, []), (100, .aload_n 2, 101, []), (101, .getfield 243, 104, [9, 7, 7, 0]), (104, .iadd, 105, []), (105, .goto 4, 108, []), (108, .iconst (-1), 109, [])] := dk_ck (by decide +kernel)
set_option maxRecDepth 4096 in
theorem w_Wk_takeCorrections_89 {nl : Bool} {Ln : Nat} {xs : Nat → Int32} {d : Nat} {this : Nat} {x1 : Option Nat} {x2 : Option Nat} {x3 : Option Value} {x4 : Option Value} {y0 : Int32} {σ : am_S} {F : am_S → Prop} (h : (¬ (y0 = 0) → am_is σ x2 7) ∧ (¬ (y0 = 0) → am_is σ x2 7) ∧ ∀ w5 : Int32, w5 = (if y0 = 0 then (-1 : Int32) else (((2 : Int32) * (am_fI σ 7001 (x2.getD 0))) + (am_fI σ 7007 (x2.getD 0)))) → c_Wk_takeCorrections_109 nl Ln xs (d + 1) this x1 x2 y0 x4 w5 σ F) : c_Wk_takeCorrections_89 nl Ln xs (d + 1) this x1 x2 x3 x4 y0 σ F := by
  obtain ⟨j89, j90, j91, j94, j95, j96, j99, j100, j101, j104, j105, j108, -⟩ := P_Wk_takeCorrections_89 nl Ln xs
  unfold c_Wk_takeCorrections_89
  refine s_istore_n j89 rfl (n := 5) (L' := [some (am_ov (some this)), some (am_ov x1), some (am_ov x2), some (.int y0), x4]) rfl (by decide) (am_st1_R [_, _] _ _ _ _) ?_
  refine s_iload_n j90 rfl rfl ?_
  obtain ⟨ho2, h⟩ := h
  obtain ⟨ho3, h⟩ := h
  have K4 : ∀ (w5 : Int32), w5 = (if y0 = 0 then (-1 : Int32) else (((2 : Int32) * (am_fI σ 7001 (x2.getD 0))) + (am_fI σ 7007 (x2.getD 0)))) → am_C (TT nl Ln xs) (d + 1) 33 109 [some (am_ov (some this)), some (am_ov x1), some (am_ov x2), some (.int y0), x4] [.int w5] σ (am_qV F) := by
    intro w5 hw6
    replace h := h w5 hw6
    exact h
  refine s_if j91 rfl rfl am_cc_eq (fun hc1 => ?_) (fun hc1 => ?_)
  · refine s_iconst j108 rfl kc_ic_m1 ?_
    exact K4 _ (am_t1 hc1 rfl)
  · refine s_iconst j94 rfl kc_ic_2 ?_
    refine s_aload_n j95 rfl rfl ?_
    refine s_gfI j96 rfl (ho2 hc1) ?_
    refine s_g j99 rfl rfl rfl rfl rfl rfl ?_
    refine s_aload_n j100 rfl rfl ?_
    refine s_gfI j101 rfl (ho3 hc1) ?_
    refine s_g j104 rfl rfl rfl rfl rfl rfl ?_
    refine s_goto j105 rfl rfl ?_
    exact K4 _ (am_t2 hc1 rfl)
theorem P_Wk_takeCorrections_109 (nl : Bool) (Ln : Nat) (xs : Nat → Int32) : am_Jl (TT nl Ln xs) 33 [(109, .istore 4, 111, []), (111, .iload 4, 113, []), (113, .ifCond .lt 49, 116, []), (116, .iload 4, 118, []), (118, .aload_n 0, 119, []), (119, .getfield 18, 122, [9, 2, 13, 2]), (122, .arraylength, 123, []), (123, .if_icmp .ge 39, 126, []), (126, .aload_n 2, 127, []), (127, .getfield 237, 130, [9, 7, 8, 0]), (130, .aload_n 0, 131, []), (131, .getfield 22, 134, [9, 2, 14, 2]), (134, .iload 4, 136, []), (136, .iaload, 137, []), (137, .if_icmp .le 25, 140, []), (140, .aload_n 0, 141, []), (141, .getfield 18, 144, [9, 2, 13, 2]), (144, .iload 4, 146, []), (146, .aload_n 2, 147, []), (147, .getfield 215, 150, [9, 7, 3, 1]), (150, .lastore, 151, []), (151, .aload_n 0, 152, []), (152, .getfield 22, 155, [9, 2, 14, 2]), (155, .iload 4, 157, []), (157, .aload_n 2, 158, []), (158, .getfield 237, 161, [9, 7, 8, 0]), (161, .iastore, 162, []), (162, .aload_n 2, 163, []), (163, .getfield 246, 166, [9, 7, 5, 2]), (166, .astore_n 2, 167, []), (167, .goto (-115), 170, [])] := dk_ck (by decide +kernel)
set_option maxRecDepth 4096 in
theorem w_Wk_takeCorrections_109 {nl : Bool} {Ln : Nat} {xs : Nat → Int32} {d : Nat} {this : Nat} {x1 : Option Nat} {x2 : Option Nat} {x3 : Int32} {x4 : Option Value} {y0 : Int32} {σ : am_S} {F : am_S → Prop} (h : (y0 < 0 → (am_is σ x2 7) ∧ ∀ v3 : Option Nat, v3 = (am_fR σ 7005 (x2.getD 0)) → c_Wk_takeCorrections_52 nl Ln xs (d + 1) this x1 v3 (some (.int x3)) (some (.int y0)) σ F) ∧ (¬ (y0 < 0) → (am_is σ (some this) 2) ∧ (∃ n, (am_fR σ 2013 this) = some n ∧ (am_kd σ n).1 = 1001) ∧ (y0 < (Int32.ofNat (am_kd σ ((am_fR σ 2013 this).getD 0)).2) → (am_is σ x2 7) ∧ (am_ar σ 1000 (am_fR σ 2014 this) y0) ∧ ((am_aI σ ((am_fR σ 2014 this).getD 0) y0.toNatClampNeg) < (am_fI σ 7008 (x2.getD 0)) → (am_ar σ 1001 (am_fR σ 2013 this) y0) ∧ ∀ σ12, σ12 = am_saL σ ((am_fR σ 2013 this).getD 0) y0.toNatClampNeg (am_fL σ 7003 (x2.getD 0)) → (am_ar σ12 1000 (am_fR σ12 2014 this) y0) ∧ ∀ σ16, σ16 = am_saI σ12 ((am_fR σ12 2014 this).getD 0) y0.toNatClampNeg (am_fI σ12 7008 (x2.getD 0)) → ∀ v19 : Option Nat, v19 = (am_fR σ16 7005 (x2.getD 0)) → c_Wk_takeCorrections_52 nl Ln xs (d + 1) this x1 v19 (some (.int x3)) (some (.int y0)) σ16 F) ∧ (¬ ((am_aI σ ((am_fR σ 2014 this).getD 0) y0.toNatClampNeg) < (am_fI σ 7008 (x2.getD 0))) → ∀ v21 : Option Nat, v21 = (am_fR σ 7005 (x2.getD 0)) → c_Wk_takeCorrections_52 nl Ln xs (d + 1) this x1 v21 (some (.int x3)) (some (.int y0)) σ F)) ∧ (¬ (y0 < (Int32.ofNat (am_kd σ ((am_fR σ 2013 this).getD 0)).2)) → (am_is σ x2 7) ∧ ∀ v24 : Option Nat, v24 = (am_fR σ 7005 (x2.getD 0)) → c_Wk_takeCorrections_52 nl Ln xs (d + 1) this x1 v24 (some (.int x3)) (some (.int y0)) σ F))) : c_Wk_takeCorrections_109 nl Ln xs (d + 1) this x1 x2 x3 x4 y0 σ F := by
  obtain ⟨j109, j111, j113, j116, j118, j119, j122, j123, j126, j127, j130, j131, j134, j136, j137, j140, j141, j144, j146, j147, j150, j151, j152, j155, j157, j158, j161, j162, j163, j166, j167, -⟩ := P_Wk_takeCorrections_109 nl Ln xs
  unfold c_Wk_takeCorrections_109
  refine s_istore j109 rfl (n := 5) (L' := [some (am_ov (some this)), some (am_ov x1), some (am_ov x2), some (.int x3), some (.int y0)]) rfl (by decide) rfl ?_
  refine s_iload j111 rfl rfl ?_
  refine s_if j113 rfl rfl am_cc_lt (fun hc1 => ?_) (fun hc1 => ?_)
  · replace h := h.1 hc1
    refine s_aload_n j162 rfl rfl ?_
    obtain ⟨ho2, h⟩ := h
    refine s_gfR j163 rfl ho2 ?_
    refine s_astore_nV j166 rfl (n := 5) (L' := fun w => [some (am_ov (some this)), some (am_ov x1), some (am_ov w), some (.int x3), some (.int y0)]) rfl (by decide) (fun _ => am_st1_R [_] _ _ _ _) (fun v3 hv4 => ?_)
    replace h := h v3 hv4
    refine s_goto j167 rfl rfl ?_
    exact h
  · replace h := h.2 hc1
    refine s_iload j116 rfl rfl ?_
    refine s_aload_n j118 rfl rfl ?_
    obtain ⟨ho5, h⟩ := h
    refine s_gfR j119 rfl ho5 ?_
    obtain ⟨ho6, h⟩ := h
    refine s_len (k := 1001) kn_1001 (by decide) j122 rfl ho6 ?_
    refine s_icn j123 rfl rfl am_cc_ge (fun hc7 => ?_) (fun hc7 => ?_)
    · replace h := h.2 hc7
      refine s_aload_n j162 rfl rfl ?_
      obtain ⟨ho23, h⟩ := h
      refine s_gfR j163 rfl ho23 ?_
      refine s_astore_nV j166 rfl (n := 5) (L' := fun w => [some (am_ov (some this)), some (am_ov x1), some (am_ov w), some (.int x3), some (.int y0)]) rfl (by decide) (fun _ => am_st1_R [_] _ _ _ _) (fun v24 hv25 => ?_)
      replace h := h v24 hv25
      refine s_goto j167 rfl rfl ?_
      exact h
    · replace h := h.1 hc7
      refine s_aload_n j126 rfl rfl ?_
      obtain ⟨ho8, h⟩ := h
      refine s_gfI j127 rfl ho8 ?_
      refine s_aload_n j130 rfl rfl ?_
      refine s_gfR j131 rfl ho5 ?_
      refine s_iload j134 rfl rfl ?_
      obtain ⟨ho9, h⟩ := h
      refine s_iaload j136 rfl ho9 ?_
      refine s_icn j137 rfl rfl am_cc_le (fun hc10 => ?_) (fun hc10 => ?_)
      · replace h := h.2 hc10
        refine s_aload_n j162 rfl rfl ?_
        refine s_gfR j163 rfl ho8 ?_
        refine s_astore_nV j166 rfl (n := 5) (L' := fun w => [some (am_ov (some this)), some (am_ov x1), some (am_ov w), some (.int x3), some (.int y0)]) rfl (by decide) (fun _ => am_st1_R [_] _ _ _ _) (fun v21 hv22 => ?_)
        replace h := h v21 hv22
        refine s_goto j167 rfl rfl ?_
        exact h
      · replace h := h.1 hc10
        refine s_aload_n j140 rfl rfl ?_
        refine s_gfR j141 rfl ho5 ?_
        refine s_iload j144 rfl rfl ?_
        refine s_aload_n j146 rfl rfl ?_
        refine s_gfL j147 rfl ho8 ?_
        obtain ⟨ho11, h⟩ := h
        refine s_lastore j150 rfl ho11 (fun σ12 e13 => ?_)
        replace h := h σ12 e13
        have ek14 : am_kd σ12 = am_kd σ := by rw [e13]
        refine s_aload_n j151 rfl rfl ?_
        refine s_gfR j152 rfl (am_is_kd ek14 ho5) ?_
        refine s_iload j155 rfl rfl ?_
        refine s_aload_n j157 rfl rfl ?_
        refine s_gfI j158 rfl (am_is_kd ek14 ho8) ?_
        obtain ⟨ho15, h⟩ := h
        refine s_iastore j161 rfl ho15 (fun σ16 e17 => ?_)
        replace h := h σ16 e17
        have ek18 : am_kd σ16 = am_kd σ12 := by rw [e17]
        refine s_aload_n j162 rfl rfl ?_
        refine s_gfR j163 rfl (am_is_kd ek18 (am_is_kd ek14 ho8)) ?_
        refine s_astore_nV j166 rfl (n := 5) (L' := fun w => [some (am_ov (some this)), some (am_ov x1), some (am_ov w), some (.int x3), some (.int y0)]) rfl (by decide) (fun _ => am_st1_R [_] _ _ _ _) (fun v19 hv20 => ?_)
        replace h := h v19 hv20
        refine s_goto j167 rfl rfl ?_
        exact h
theorem P_Wk_numberOf (nl : Bool) (Ln : Nat) (xs : Nat → Int32) : am_Jl (TT nl Ln xs) 34 [(0, .aload_n 0, 1, []), (1, .getfield 181, 4, [9, 2, 7, 2]), (4, .iload_n 1, 5, []), (5, .invokestatic 185, 8, [12, 35, 4, 2]), (8, .astore 4, 10, []), (10, .aload 4, 12, []), (12, .ifnonnull 7, 15, []), (15, .lload_n 2, 16, []), (16, .goto 9, 19, []), (19, .aload 4, 21, []), (21, .getfield 189, 24, [9, 8, 1, 0]), (24, .i2l, 25, []), (25, .lreturn, 26, [2])] := dk_ck (by decide +kernel)
set_option maxRecDepth 4096 in
theorem w_Wk_numberOf {nl : Bool} {Ln : Nat} {xs : Nat → Int32} {d : Nat} {this : Nat} {p0 : Int32} {p1 : Int64} {σ : am_S} {F : Int64 → am_S → Prop} (h : (am_is σ (some this) 2) ∧ k_Nd_lastOf nl Ln xs d (am_fR σ 2007 this) p0 σ (fun a3 σ2 => am_ext σ σ2 → (¬ (a3 = none) → am_is σ2 a3 8) ∧ ∀ w7 : Int64, w7 = (if a3 = none then p1 else (am_fI σ2 8001 (a3.getD 0)).toInt64) → F w7 σ2)) : k_Wk_numberOf nl Ln xs (d + 1) this p0 p1 σ F := by
  obtain ⟨j0, j1, j4, j5, j8, j10, j12, j15, j16, j19, j21, j24, j25, -⟩ := P_Wk_numberOf nl Ln xs
  have elo : am_lo 5 [am_ov (some this), .int p0, .long p1] = [some (am_ov (some this)), some (.int p0), some (.long p1), none, none] := by simp only [am_lo, am_in_ov, am_in_int, am_in_long, am_in_nil]; rfl
  unfold k_Wk_numberOf
  rw [elo]
  refine s_aload_n j0 rfl rfl ?_
  obtain ⟨ho1, h⟩ := h
  refine s_gfR j1 rfl ho1 ?_
  refine s_iload_n j4 rfl rfl ?_
  refine s_stat j5 rfl rfl rfl rfl (by decide) (in_Nd_lastOf _ _) (am_r8 rfl) (am_bR h (fun a3 σ2 h hx2 => ?_))
  replace h := h hx2
  refine s_astore j8 rfl (n := 5) (L' := [some (am_ov (some this)), some (.int p0), some (.long p1), none, some (am_ov a3)]) rfl (by decide) rfl ?_
  refine s_aload j10 rfl rfl ?_
  obtain ⟨ho5, h⟩ := h
  have K6 : ∀ (w7 : Int64), w7 = (if a3 = none then p1 else (am_fI σ2 8001 (a3.getD 0)).toInt64) → am_C (TT nl Ln xs) (d + 1) 34 25 [some (am_ov (some this)), some (.int p0), some (.long p1), none, some (am_ov a3)] [.long w7] σ2 (am_qL F) := by
    intro w7 hw8
    replace h := h w7 hw8
    exact s_retL j25 rfl h
  refine s_ifnonnull j12 rfl rfl (fun hc4 => ?_) (fun hc4 => ?_)
  · refine s_aload j19 rfl rfl ?_
    refine s_gfI j21 rfl (ho5 hc4) ?_
    refine s_g j24 rfl rfl rfl rfl rfl rfl ?_
    exact K6 _ (am_t2 hc4 rfl)
  · refine s_lload_n j15 rfl rfl ?_
    refine s_goto j16 rfl rfl ?_
    exact K6 _ (am_t1 hc4 rfl)
theorem P_Nd_lastOf (nl : Bool) (Ln : Nat) (xs : Nat → Int32) : am_Jl (TT nl Ln xs) 35 [(0, .aconst_null, 1, []), (1, .astore_n 2, 2, []), (2, .aload_n 0, 3, []), (3, .astore_n 3, 4, [])] := dk_ck (by decide +kernel)
set_option maxRecDepth 4096 in
theorem w_Nd_lastOf {nl : Bool} {Ln : Nat} {xs : Nat → Int32} {d : Nat} {p0 : Option Nat} {p1 : Int32} {σ : am_S} {F : Option Nat → am_S → Prop} (h : c_Nd_lastOf_4 nl Ln xs (d + 1) p0 p1 none p0 σ F) : k_Nd_lastOf nl Ln xs (d + 1) p0 p1 σ F := by
  obtain ⟨j0, j1, j2, j3, -⟩ := P_Nd_lastOf nl Ln xs
  have elo : am_lo 4 [am_ov p0, .int p1] = [some (am_ov p0), some (.int p1), none, none] := by simp only [am_lo, am_in_ov, am_in_int, am_in_long, am_in_nil]; rfl
  unfold k_Nd_lastOf
  rw [elo]
  refine s_null j0 rfl ?_
  refine s_astore_n j1 rfl (n := 4) (L' := [some (am_ov p0), some (.int p1), some (am_ov none), none]) rfl (by decide) rfl ?_
  refine s_aload_n j2 rfl rfl ?_
  refine s_astore_n j3 rfl (n := 4) (L' := [some (am_ov p0), some (.int p1), some (am_ov none), some (am_ov p0)]) rfl (by decide) (am_st1_R [_, _] _ _ _ _) ?_
  exact h
theorem P_Nd_lastOf_4 (nl : Bool) (Ln : Nat) (xs : Nat → Int32) : am_Jl (TT nl Ln xs) 35 [(4, .aload_n 3, 5, []), (5, .ifnull 21, 8, []), (8, .aload_n 3, 9, []), (9, .getfield 9, 12, [9, 8, 0, 0]), (12, .iload_n 1, 13, []), (13, .if_icmp .ne 5, 16, []), (16, .aload_n 3, 17, []), (17, .astore_n 2, 18, []), (18, .aload_n 3, 19, []), (19, .getfield 15, 22, [9, 8, 3, 2]), (22, .astore_n 3, 23, []), (23, .goto (-19), 26, []), (26, .aload_n 2, 27, []), (27, .areturn, 28, [3])] := dk_ck (by decide +kernel)
set_option maxRecDepth 4096 in
theorem w_Nd_lastOf_4 {nl : Bool} {Ln : Nat} {xs : Nat → Int32} {d : Nat} {x0 : Option Nat} {x1 : Int32} {x2 : Option Nat} {x3 : Option Nat} {σ : am_S} {F : Option Nat → am_S → Prop} (h : (x3 = none → F x2 σ) ∧ (¬ (x3 = none) → (am_is σ x3 8) ∧ ∀ w5 : Option Nat, w5 = (if (am_fI σ 8000 (x3.getD 0)) = x1 then x3 else x2) → ∀ v7 : Option Nat, v7 = (am_fR σ 8003 (x3.getD 0)) → c_Nd_lastOf_4 nl Ln xs (d + 1) x0 x1 w5 v7 σ F)) : c_Nd_lastOf_4 nl Ln xs (d + 1) x0 x1 x2 x3 σ F := by
  obtain ⟨j4, j5, j8, j9, j12, j13, j16, j17, j18, j19, j22, j23, j26, j27, -⟩ := P_Nd_lastOf_4 nl Ln xs
  unfold c_Nd_lastOf_4
  refine s_aload_n j4 rfl rfl ?_
  refine s_ifnull j5 rfl rfl (fun hc1 => ?_) (fun hc1 => ?_)
  · replace h := h.1 hc1
    refine s_aload_n j26 rfl rfl ?_
    exact s_retR j27 rfl h
  · replace h := h.2 hc1
    refine s_aload_n j8 rfl rfl ?_
    obtain ⟨ho2, h⟩ := h
    refine s_gfI j9 rfl ho2 ?_
    refine s_iload_n j12 rfl rfl ?_
    have K4 : ∀ (w5 : Option Nat), w5 = (if (am_fI σ 8000 (x3.getD 0)) = x1 then x3 else x2) → am_C (TT nl Ln xs) (d + 1) 35 18 [some (am_ov x0), some (.int x1), some (am_ov w5), some (am_ov x3)] [] σ (am_qR F) := by
      intro w5 hw6
      replace h := h w5 hw6
      refine s_aload_n j18 rfl rfl ?_
      refine s_gfR j19 rfl ho2 ?_
      refine s_astore_nV j22 rfl (n := 4) (L' := fun w => [some (am_ov x0), some (.int x1), some (am_ov w5), some (am_ov w)]) rfl (by decide) (fun _ => am_st1_R [_, _] _ _ _ _) (fun v7 hv8 => ?_)
      replace h := h v7 hv8
      refine s_goto j23 rfl rfl ?_
      exact h
    refine s_icn j13 rfl rfl am_cc_ne (fun hc3 => ?_) (fun hc3 => ?_)
    · exact K4 _ (am_t2 hc3 rfl)
    · refine s_aload_n j16 rfl rfl ?_
      refine s_astore_n j17 rfl (n := 4) (L' := [some (am_ov x0), some (.int x1), some (am_ov x3), some (am_ov x3)]) rfl (by decide) rfl ?_
      exact K4 _ (am_t1 hc3 rfl)
theorem P_Wk_ask (nl : Bool) (Ln : Nat) (xs : Nat → Int32) : am_Jl (TT nl Ln xs) 36 [(0, .iload 6, 2, []), (2, .bipush 20, 4, []), (4, .if_icmp .gt 7, 7, []), (7, .aload_n 3, 8, []), (8, .ifnonnull 5, 11, []), (11, .lconst 0, 12, []), (12, .lreturn, 13, [2]), (13, .iload_n 2, 14, []), (14, .istore 7, 16, []), (16, .iconst 0, 17, []), (17, .istore 8, 19, [])] := dk_ck (by decide +kernel)
set_option maxRecDepth 4096 in
theorem w_Wk_ask {nl : Bool} {Ln : Nat} {xs : Nat → Int32} {d : Nat} {this : Nat} {p0 : Int32} {p1 : Int32} {p2 : Option Nat} {p3 : Int64} {p4 : Int32} {σ : am_S} {F : Int64 → am_S → Prop} (h : ((20 : Int32) < p4 → F (0 : Int64) σ) ∧ (¬ ((20 : Int32) < p4) → (p2 = none → F (0 : Int64) σ) ∧ (¬ (p2 = none) → c_Wk_ask_19 nl Ln xs (d + 1) this p0 p1 p2 p3 p4 p1 (0 : Int32) σ F))) : k_Wk_ask nl Ln xs (d + 1) this p0 p1 p2 p3 p4 σ F := by
  obtain ⟨j0, j2, j4, j7, j8, j11, j12, j13, j14, j16, j17, -⟩ := P_Wk_ask nl Ln xs
  have elo : am_lo 15 [am_ov (some this), .int p0, .int p1, am_ov p2, .long p3, .int p4] = [some (am_ov (some this)), some (.int p0), some (.int p1), some (am_ov p2), some (.long p3), none, some (.int p4), none, none, none, none, none, none, none, none] := by simp only [am_lo, am_in_ov, am_in_int, am_in_long, am_in_nil]; rfl
  unfold k_Wk_ask
  rw [elo]
  refine s_iload j0 rfl rfl ?_
  refine s_bipush j2 rfl kc_bi_20 ?_
  refine s_ic j4 rfl rfl am_cc_gt (fun hc1 => ?_) (fun hc1 => ?_)
  · replace h := h.1 hc1
    refine s_lconst j11 rfl rfl ?_
    exact s_retL j12 rfl h
  · replace h := h.2 hc1
    refine s_aload_n j7 rfl rfl ?_
    refine s_ifnonnull j8 rfl rfl (fun hc2 => ?_) (fun hc2 => ?_)
    · replace h := h.2 hc2
      refine s_iload_n j13 rfl rfl ?_
      refine s_istore j14 rfl (n := 15) (L' := [some (am_ov (some this)), some (.int p0), some (.int p1), some (am_ov p2), some (.long p3), none, some (.int p4), some (.int p1), none, none, none, none, none, none, none]) rfl (by decide) rfl ?_
      refine s_iconst j16 rfl kc_ic_0 ?_
      refine s_istore j17 rfl (n := 15) (L' := [some (am_ov (some this)), some (.int p0), some (.int p1), some (am_ov p2), some (.long p3), none, some (.int p4), some (.int p1), some (.int (0 : Int32)), none, none, none, none, none, none]) rfl (by decide) rfl ?_
      exact h
    · replace h := h.1 hc2
      refine s_lconst j11 rfl rfl ?_
      exact s_retL j12 rfl h
theorem P_Wk_ask_19 (nl : Bool) (Ln : Nat) (xs : Nat → Int32) : am_Jl (TT nl Ln xs) 36 [(19, .iload 8, 21, []), (21, .iconst 4, 22, []), (22, .if_icmp .ge 30, 25, []), (25, .getstatic 249, 28, [7, 503, 0]), (28, .iload 7, 30, []), (30, .iaload, 31, []), (31, .iload_n 1, 32, []), (32, .ishr, 33, []), (33, .iconst 1, 34, []), (34, .iand, 35, []), (35, .ifCond .ne 17, 38, []), (38, .getstatic 252, 41, [7, 504, 0]), (41, .iload 7, 43, []), (43, .iaload, 44, []), (44, .istore 7, 46, []), (46, .iinc 8 1, 49, []), (49, .goto (-30), 52, [])] := dk_ck (by decide +kernel)
set_option maxRecDepth 4096 in
theorem w_Wk_ask_19 {nl : Bool} {Ln : Nat} {xs : Nat → Int32} {d : Nat} {this : Nat} {x1 : Int32} {x2 : Int32} {x3 : Option Nat} {x4 : Int64} {x6 : Int32} {x7 : Int32} {x8 : Int32} {σ : am_S} {F : Int64 → am_S → Prop} (h : (x8 < (4 : Int32) → ((am_kd σ 503).1 = 0) ∧ (0 ≤ x7.toInt) ∧ (x7.toInt < am_rl (am_tz (TT nl Ln xs)) 503) ∧ ((((am_rv (am_tz (TT nl Ln xs)) 503 x7.toNatClampNeg) >>> (x1 &&& 31)) &&& (1 : Int32)) = 0 → ((am_kd σ 504).1 = 0) ∧ (0 ≤ x7.toInt) ∧ (x7.toInt < am_rl (am_tz (TT nl Ln xs)) 504) ∧ ∀ v9 : Int32, v9 = (am_rv (am_tz (TT nl Ln xs)) 504 x7.toNatClampNeg) → c_Wk_ask_19 nl Ln xs (d + 1) this x1 x2 x3 x4 x6 v9 (x8 + (1 : Int32)) σ F) ∧ (¬ ((((am_rv (am_tz (TT nl Ln xs)) 503 x7.toNatClampNeg) >>> (x1 &&& 31)) &&& (1 : Int32)) = 0) → c_Wk_ask_52 nl Ln xs (d + 1) this x1 x2 x3 x4 x6 x7 x8 σ F)) ∧ (¬ (x8 < (4 : Int32)) → c_Wk_ask_52 nl Ln xs (d + 1) this x1 x2 x3 x4 x6 x7 x8 σ F)) : c_Wk_ask_19 nl Ln xs (d + 1) this x1 x2 x3 x4 x6 x7 x8 σ F := by
  obtain ⟨j19, j21, j22, j25, j28, j30, j31, j32, j33, j34, j35, j38, j41, j43, j44, j46, j49, -⟩ := P_Wk_ask_19 nl Ln xs
  unfold c_Wk_ask_19
  refine s_iload j19 rfl rfl ?_
  refine s_iconst j21 rfl kc_ic_4 ?_
  refine s_icn j22 rfl rfl am_cc_ge (fun hc1 => ?_) (fun hc1 => ?_)
  · replace h := h.2 hc1
    exact h
  · replace h := h.1 hc1
    refine s_static j25 rfl ?_
    refine s_iload j28 rfl rfl ?_
    obtain ⟨ho2, h⟩ := h
    obtain ⟨ho3, h⟩ := h
    obtain ⟨ho4, h⟩ := h
    refine s_ialoadR j30 rfl (by decide) ho2 rfl ho3 ho4 ?_
    refine s_iload_n j31 rfl rfl ?_
    refine s_g j32 rfl rfl rfl rfl rfl rfl ?_
    refine s_iconst j33 rfl kc_ic_1 ?_
    refine s_g j34 rfl rfl rfl rfl rfl rfl ?_
    refine s_ifn j35 rfl rfl am_cc_ne (fun hc5 => ?_) (fun hc5 => ?_)
    · replace h := h.2 hc5
      exact h
    · replace h := h.1 hc5
      refine s_static j38 rfl ?_
      refine s_iload j41 rfl rfl ?_
      obtain ⟨ho6, h⟩ := h
      obtain ⟨ho7, h⟩ := h
      obtain ⟨ho8, h⟩ := h
      refine s_ialoadR j43 rfl (by decide) ho6 rfl ho7 ho8 ?_
      refine s_istoreV j44 rfl (n := 15) (L' := fun w => [some (am_ov (some this)), some (.int x1), some (.int x2), some (am_ov x3), some (.long x4), none, some (.int x6), some (.int w), some (.int x8), none, none, none, none, none, none]) rfl (by decide) (fun _ => rfl) (fun v9 hv10 => ?_)
      replace h := h v9 hv10
      refine s_iinc (L' := [some (am_ov (some this)), some (.int x1), some (.int x2), some (am_ov x3), some (.long x4), none, some (.int x6), some (.int v9), some (.int (x8 + (1 : Int32))), none, none, none, none, none, none]) j46 rfl rfl kc_ic_1 rfl ?_
      refine s_goto j49 rfl rfl ?_
      exact h
theorem P_Wk_ask_52 (nl : Bool) (Ln : Nat) (xs : Nat → Int32) : am_Jl (TT nl Ln xs) 36 [(52, .aload_n 0, 53, []), (53, .getfield 12, 56, [9, 2, 2, 2]), (56, .getfield 255, 59, [9, 3, 5, 0]), (59, .sipush 200, 62, []), (62, .if_icmp .ge 38, 65, []), (65, .aload_n 0, 66, []), (66, .getfield 12, 69, [9, 2, 2, 2]), (69, .getfield 258, 72, [9, 3, 3, 2]), (72, .aload_n 0, 73, []), (73, .getfield 12, 76, [9, 2, 2, 2]), (76, .getfield 255, 79, [9, 3, 5, 0]), (79, .bipush 10, 81, []), (81, .iload 7, 83, []), (83, .imul, 84, []), (84, .iload_n 1, 85, []), (85, .iadd, 86, []), (86, .iastore, 87, []), (87, .aload_n 0, 88, []), (88, .getfield 12, 91, [9, 2, 2, 2]), (91, .dup, 92, []), (92, .getfield 255, 95, [9, 3, 5, 0]), (95, .iconst 1, 96, []), (96, .iadd, 97, []), (97, .putfield 255, 100, [9, 3, 5, 0])] := dk_ck (by decide +kernel)
set_option maxRecDepth 4096 in
theorem w_Wk_ask_52 {nl : Bool} {Ln : Nat} {xs : Nat → Int32} {d : Nat} {this : Nat} {x1 : Int32} {x2 : Int32} {x3 : Option Nat} {x4 : Int64} {x6 : Int32} {x7 : Int32} {x8 : Int32} {σ : am_S} {F : Int64 → am_S → Prop} (h : (am_is σ (some this) 2) ∧ (am_is σ (am_fR σ 2002 this) 3) ∧ ((am_fI σ 3005 ((am_fR σ 2002 this).getD 0)) < (200 : Int32) → (am_ar σ 1000 (am_fR σ 3003 ((am_fR σ 2002 this).getD 0)) (am_fI σ 3005 ((am_fR σ 2002 this).getD 0))) ∧ ∀ σ5, σ5 = am_saI σ ((am_fR σ 3003 ((am_fR σ 2002 this).getD 0)).getD 0) (am_fI σ 3005 ((am_fR σ 2002 this).getD 0)).toNatClampNeg (((10 : Int32) * x7) + x1) → (am_is σ5 (am_fR σ5 2002 this) 3) ∧ ∀ σ9, σ9 = am_sfI σ5 3005 ((am_fR σ5 2002 this).getD 0) ((am_fI σ5 3005 ((am_fR σ5 2002 this).getD 0)) + (1 : Int32)) → c_Wk_ask_100 nl Ln xs (d + 1) this x1 x2 x3 x4 x6 x7 x8 σ9 F) ∧ (¬ ((am_fI σ 3005 ((am_fR σ 2002 this).getD 0)) < (200 : Int32)) → c_Wk_ask_100 nl Ln xs (d + 1) this x1 x2 x3 x4 x6 x7 x8 σ F)) : c_Wk_ask_52 nl Ln xs (d + 1) this x1 x2 x3 x4 x6 x7 x8 σ F := by
  obtain ⟨j52, j53, j56, j59, j62, j65, j66, j69, j72, j73, j76, j79, j81, j83, j84, j85, j86, j87, j88, j91, j92, j95, j96, j97, -⟩ := P_Wk_ask_52 nl Ln xs
  unfold c_Wk_ask_52
  refine s_aload_n j52 rfl rfl ?_
  obtain ⟨ho1, h⟩ := h
  refine s_gfR j53 rfl ho1 ?_
  obtain ⟨ho2, h⟩ := h
  refine s_gfI j56 rfl ho2 ?_
  refine s_sipush j59 rfl kc_si_200 ?_
  refine s_icn j62 rfl rfl am_cc_ge (fun hc3 => ?_) (fun hc3 => ?_)
  · replace h := h.2 hc3
    exact h
  · replace h := h.1 hc3
    refine s_aload_n j65 rfl rfl ?_
    refine s_gfR j66 rfl ho1 ?_
    refine s_gfR j69 rfl ho2 ?_
    refine s_aload_n j72 rfl rfl ?_
    refine s_gfR j73 rfl ho1 ?_
    refine s_gfI j76 rfl ho2 ?_
    refine s_bipush j79 rfl kc_bi_10 ?_
    refine s_iload j81 rfl rfl ?_
    refine s_g j83 rfl rfl rfl rfl rfl rfl ?_
    refine s_iload_n j84 rfl rfl ?_
    refine s_g j85 rfl rfl rfl rfl rfl rfl ?_
    obtain ⟨ho4, h⟩ := h
    refine s_iastore j86 rfl ho4 (fun σ5 e6 => ?_)
    replace h := h σ5 e6
    have ek7 : am_kd σ5 = am_kd σ := by rw [e6]
    refine s_aload_n j87 rfl rfl ?_
    refine s_gfR j88 rfl (am_is_kd ek7 ho1) ?_
    refine s_dup j91 rfl (am_cov _) ?_
    obtain ⟨ho8, h⟩ := h
    refine s_gfI j92 rfl ho8 ?_
    refine s_iconst j95 rfl kc_ic_1 ?_
    refine s_g j96 rfl rfl rfl rfl rfl rfl ?_
    refine s_pfI j97 rfl ho8 (fun σ9 e10 => ?_)
    replace h := h σ9 e10
    have ek11 : am_kd σ9 = am_kd σ5 := by rw [e10]
    exact h
theorem P_Wk_ask_100 (nl : Bool) (Ln : Nat) (xs : Nat → Int32) : am_Jl (TT nl Ln xs) 36 [(100, .iload 6, 102, []), (102, .iconst 1, 103, []), (103, .iadd, 104, []), (104, .istore 8, 106, []), (106, .aload_n 3, 107, []), (107, .getfield 261, 110, [9, 10, 3, 2]), (110, .ifnonnull 8, 113, []), (113, .bipush 9, 115, []), (115, .goto 14, 118, []), (118, .getstatic 134, 121, [7, 502, 0]), (121, .aload_n 3, 122, []), (122, .getfield 261, 125, [9, 10, 3, 2]), (125, .getfield 137, 128, [9, 10, 1, 0]), (128, .iaload, 129, [])] := dk_ck (by decide +kernel)
set_option maxRecDepth 4096 in
theorem w_Wk_ask_100 {nl : Bool} {Ln : Nat} {xs : Nat → Int32} {d : Nat} {this : Nat} {x1 : Int32} {x2 : Int32} {x3 : Option Nat} {x4 : Int64} {x6 : Int32} {x7 : Int32} {x8 : Int32} {σ : am_S} {F : Int64 → am_S → Prop} (h : ∀ v1 : Int32, v1 = (x6 + (1 : Int32)) → (am_is σ x3 10) ∧ (¬ ((am_fR σ 10003 (x3.getD 0)) = none) → am_is σ (am_fR σ 10003 (x3.getD 0)) 10) ∧ (¬ ((am_fR σ 10003 (x3.getD 0)) = none) → (am_kd σ 502).1 = 0) ∧ (¬ ((am_fR σ 10003 (x3.getD 0)) = none) → 0 ≤ (am_fI σ 10001 ((am_fR σ 10003 (x3.getD 0)).getD 0)).toInt) ∧ (¬ ((am_fR σ 10003 (x3.getD 0)) = none) → (am_fI σ 10001 ((am_fR σ 10003 (x3.getD 0)).getD 0)).toInt < am_rl (am_tz (TT nl Ln xs)) 502) ∧ ∀ w10 : Int32, w10 = (if (am_fR σ 10003 (x3.getD 0)) = none then (9 : Int32) else (am_rv (am_tz (TT nl Ln xs)) 502 (am_fI σ 10001 ((am_fR σ 10003 (x3.getD 0)).getD 0)).toNatClampNeg)) → c_Wk_ask_129 nl Ln xs (d + 1) this x1 x2 x3 x4 x6 x7 v1 w10 σ F) : c_Wk_ask_100 nl Ln xs (d + 1) this x1 x2 x3 x4 x6 x7 x8 σ F := by
  obtain ⟨j100, j102, j103, j104, j106, j107, j110, j113, j115, j118, j121, j122, j125, j128, -⟩ := P_Wk_ask_100 nl Ln xs
  unfold c_Wk_ask_100
  refine s_iload j100 rfl rfl ?_
  refine s_iconst j102 rfl kc_ic_1 ?_
  refine s_g j103 rfl rfl rfl rfl rfl rfl ?_
  refine s_istoreV j104 rfl (n := 15) (L' := fun w => [some (am_ov (some this)), some (.int x1), some (.int x2), some (am_ov x3), some (.long x4), none, some (.int x6), some (.int x7), some (.int w), none, none, none, none, none, none]) rfl (by decide) (fun _ => rfl) (fun v1 hv2 => ?_)
  replace h := h v1 hv2
  refine s_aload_n j106 rfl rfl ?_
  obtain ⟨ho3, h⟩ := h
  refine s_gfR j107 rfl ho3 ?_
  obtain ⟨ho5, h⟩ := h
  obtain ⟨ho6, h⟩ := h
  obtain ⟨ho7, h⟩ := h
  obtain ⟨ho8, h⟩ := h
  have K9 : ∀ (w10 : Int32), w10 = (if (am_fR σ 10003 (x3.getD 0)) = none then (9 : Int32) else (am_rv (am_tz (TT nl Ln xs)) 502 (am_fI σ 10001 ((am_fR σ 10003 (x3.getD 0)).getD 0)).toNatClampNeg)) → am_C (TT nl Ln xs) (d + 1) 36 129 [some (am_ov (some this)), some (.int x1), some (.int x2), some (am_ov x3), some (.long x4), none, some (.int x6), some (.int x7), some (.int v1), none, none, none, none, none, none] [.int w10] σ (am_qL F) := by
    intro w10 hw11
    replace h := h w10 hw11
    exact h
  refine s_ifnonnull j110 rfl rfl (fun hc4 => ?_) (fun hc4 => ?_)
  · refine s_static j118 rfl ?_
    refine s_aload_n j121 rfl rfl ?_
    refine s_gfR j122 rfl ho3 ?_
    refine s_gfI j125 rfl (ho5 hc4) ?_
    refine s_ialoadR j128 rfl (by decide) (ho6 hc4) rfl (ho7 hc4) (ho8 hc4) ?_
    exact K9 _ (am_t2 hc4 rfl)
  · refine s_bipush j113 rfl kc_bi_9 ?_
    refine s_goto j115 rfl rfl ?_
    exact K9 _ (am_t1 hc4 rfl)
theorem P_Wk_ask_129 (nl : Bool) (Ln : Nat) (xs : Nat → Int32) : am_Jl (TT nl Ln xs) 36 [(129, .istore 9, 131, []), (131, .bipush 10, 133, []), (133, .iload 7, 135, []), (135, .imul, 136, []), (136, .iload_n 1, 137, []), (137, .iadd, 138, []), (138, .lookupswitch 765 #[(20, 178), (22, 449), (30, 203), (40, 238), (41, 409), (42, 451), (50, 263), (51, 427), (60, 279), (63, 476), (70, 324), (71, 431), (73, 503), (80, 364), (94, 519), (95, 659), (104, 519), (114, 612), (125, 676), (144, 633), (145, 749)], 316, []), (565, .ldc2_w 273, 568, [6, 14]), (568, .lreturn, 569, [2]), (587, .lconst 1, 588, []), (588, .lreturn, 589, [2]), (657, .lconst 0, 658, []), (658, .lstore 10, 660, []), (660, .iconst 0, 661, []), (661, .istore 12, 663, []), (814, .iconst 0, 815, []), (815, .istore 10, 817, []), (817, .iconst 0, 818, []), (818, .istore 11, 820, []), (903, .lconst 0, 904, []), (904, .lreturn, 905, [2])] := dk_ck (by decide +kernel)
set_option maxRecDepth 4096 in
theorem w_Wk_ask_129 {nl : Bool} {Ln : Nat} {xs : Nat → Int32} {d : Nat} {this : Nat} {x1 : Int32} {x2 : Int32} {x3 : Option Nat} {x4 : Int64} {x6 : Int32} {x7 : Int32} {x8 : Int32} {y0 : Int32} {σ : am_S} {F : Int64 → am_S → Prop} (h : ((((10 : Int32) * x7) + x1) = (20 : Int32) → c_Wk_ask_316 nl Ln xs (d + 1) this x1 x2 x3 x4 x6 x7 x8 y0 σ F) ∧ ((((10 : Int32) * x7) + x1) = (22 : Int32) → F (1 : Int64) σ) ∧ ((((10 : Int32) * x7) + x1) = (30 : Int32) → c_Wk_ask_341 nl Ln xs (d + 1) this x1 x2 x3 x4 x6 x7 x8 y0 σ F) ∧ ((((10 : Int32) * x7) + x1) = (40 : Int32) → c_Wk_ask_376 nl Ln xs (d + 1) this x1 x2 x3 x4 x6 x7 x8 y0 σ F) ∧ ((((10 : Int32) * x7) + x1) = (41 : Int32) → c_Wk_ask_547 nl Ln xs (d + 1) this x1 x2 x3 x4 x6 x7 x8 y0 σ F) ∧ ((((10 : Int32) * x7) + x1) = (42 : Int32) → c_Wk_ask_589 nl Ln xs (d + 1) this x1 x2 x3 x4 x6 x7 x8 y0 σ F) ∧ ((((10 : Int32) * x7) + x1) = (50 : Int32) → c_Wk_ask_401 nl Ln xs (d + 1) this x1 x2 x3 x4 x6 x7 x8 y0 σ F) ∧ ((((10 : Int32) * x7) + x1) = (51 : Int32) → F (14 : Int64) σ) ∧ ((((10 : Int32) * x7) + x1) = (60 : Int32) → c_Wk_ask_417 nl Ln xs (d + 1) this x1 x2 x3 x4 x6 x7 x8 y0 σ F) ∧ ((((10 : Int32) * x7) + x1) = (63 : Int32) → c_Wk_ask_614 nl Ln xs (d + 1) this x1 x2 x3 x4 x6 x7 x8 y0 σ F) ∧ ((((10 : Int32) * x7) + x1) = (70 : Int32) → c_Wk_ask_462 nl Ln xs (d + 1) this x1 x2 x3 x4 x6 x7 x8 y0 σ F) ∧ ((((10 : Int32) * x7) + x1) = (71 : Int32) → c_Wk_ask_569 nl Ln xs (d + 1) this x1 x2 x3 x4 x6 x7 x8 y0 σ F) ∧ ((((10 : Int32) * x7) + x1) = (73 : Int32) → c_Wk_ask_641 nl Ln xs (d + 1) this x1 x2 x3 x4 x6 x7 x8 y0 σ F) ∧ ((((10 : Int32) * x7) + x1) = (80 : Int32) → c_Wk_ask_502 nl Ln xs (d + 1) this x1 x2 x3 x4 x6 x7 x8 y0 σ F) ∧ ((((10 : Int32) * x7) + x1) = (94 : Int32) ∨ (((10 : Int32) * x7) + x1) = (104 : Int32) → c_Wk_ask_663 nl Ln xs (d + 1) this x1 x2 x3 x4 x6 x7 x8 y0 (0 : Int64) (0 : Int32) none none σ F) ∧ ((((10 : Int32) * x7) + x1) = (95 : Int32) → c_Wk_ask_797 nl Ln xs (d + 1) this x1 x2 x3 x4 x6 x7 x8 y0 σ F) ∧ ((((10 : Int32) * x7) + x1) = (114 : Int32) → c_Wk_ask_750 nl Ln xs (d + 1) this x1 x2 x3 x4 x6 x7 x8 y0 σ F) ∧ ((((10 : Int32) * x7) + x1) = (125 : Int32) → c_Wk_ask_820 nl Ln xs (d + 1) this x1 x2 x3 x4 x6 x7 x8 y0 (0 : Int32) (0 : Int32) σ F) ∧ ((((10 : Int32) * x7) + x1) = (144 : Int32) → c_Wk_ask_771 nl Ln xs (d + 1) this x1 x2 x3 x4 x6 x7 x8 y0 σ F) ∧ ((((10 : Int32) * x7) + x1) = (145 : Int32) → c_Wk_ask_887 nl Ln xs (d + 1) this x1 x2 x3 x4 x6 x7 x8 y0 σ F) ∧ (¬ (((10 : Int32) * x7) + x1) = (20 : Int32) ∧ ¬ (((10 : Int32) * x7) + x1) = (22 : Int32) ∧ ¬ (((10 : Int32) * x7) + x1) = (30 : Int32) ∧ ¬ (((10 : Int32) * x7) + x1) = (40 : Int32) ∧ ¬ (((10 : Int32) * x7) + x1) = (41 : Int32) ∧ ¬ (((10 : Int32) * x7) + x1) = (42 : Int32) ∧ ¬ (((10 : Int32) * x7) + x1) = (50 : Int32) ∧ ¬ (((10 : Int32) * x7) + x1) = (51 : Int32) ∧ ¬ (((10 : Int32) * x7) + x1) = (60 : Int32) ∧ ¬ (((10 : Int32) * x7) + x1) = (63 : Int32) ∧ ¬ (((10 : Int32) * x7) + x1) = (70 : Int32) ∧ ¬ (((10 : Int32) * x7) + x1) = (71 : Int32) ∧ ¬ (((10 : Int32) * x7) + x1) = (73 : Int32) ∧ ¬ (((10 : Int32) * x7) + x1) = (80 : Int32) ∧ ¬ (((10 : Int32) * x7) + x1) = (94 : Int32) ∧ ¬ (((10 : Int32) * x7) + x1) = (95 : Int32) ∧ ¬ (((10 : Int32) * x7) + x1) = (104 : Int32) ∧ ¬ (((10 : Int32) * x7) + x1) = (114 : Int32) ∧ ¬ (((10 : Int32) * x7) + x1) = (125 : Int32) ∧ ¬ (((10 : Int32) * x7) + x1) = (144 : Int32) ∧ ¬ (((10 : Int32) * x7) + x1) = (145 : Int32) → F (0 : Int64) σ)) : c_Wk_ask_129 nl Ln xs (d + 1) this x1 x2 x3 x4 x6 x7 x8 y0 σ F := by
  obtain ⟨j129, j131, j133, j135, j136, j137, j138, j565, j568, j587, j588, j657, j658, j660, j661, j814, j815, j817, j818, j903, j904, -⟩ := P_Wk_ask_129 nl Ln xs
  unfold c_Wk_ask_129
  refine s_istore j129 rfl (n := 15) (L' := [some (am_ov (some this)), some (.int x1), some (.int x2), some (am_ov x3), some (.long x4), none, some (.int x6), some (.int x7), some (.int x8), some (.int y0), none, none, none, none, none]) rfl (by decide) rfl ?_
  refine s_bipush j131 rfl kc_bi_10 ?_
  refine s_iload j133 rfl rfl ?_
  refine s_g j135 rfl rfl rfl rfl rfl rfl ?_
  refine s_iload_n j136 rfl rfl ?_
  refine s_g j137 rfl rfl rfl rfl rfl rfl ?_
  by_cases hs0 : (((10 : Int32) * x7) + x1) = (20 : Int32)
  · refine s_lsw j138 (t := 316) (by show am_j _ (Op.lookupswitch.offset [(20, 178), (22, 449), (30, 203), (40, 238), (41, 409), (42, 451), (50, 263), (51, 427), (60, 279), (63, 476), (70, 324), (71, 431), (73, 503), (80, 364), (94, 519), (95, 659), (104, 519), (114, 612), (125, 676), (144, 633), (145, 749)] _ (((10 : Int32) * x7) + x1).toInt) = _; rw [hs0]; rfl) rfl ?_
    replace h := h.1 hs0
    exact h
  by_cases hs1 : (((10 : Int32) * x7) + x1) = (22 : Int32)
  · refine s_lsw j138 (t := 587) (by show am_j _ (Op.lookupswitch.offset [(20, 178), (22, 449), (30, 203), (40, 238), (41, 409), (42, 451), (50, 263), (51, 427), (60, 279), (63, 476), (70, 324), (71, 431), (73, 503), (80, 364), (94, 519), (95, 659), (104, 519), (114, 612), (125, 676), (144, 633), (145, 749)] _ (((10 : Int32) * x7) + x1).toInt) = _; rw [hs1]; rfl) rfl ?_
    replace h := h.2.1 hs1
    refine s_lconst j587 rfl rfl ?_
    exact s_retL j588 rfl h
  by_cases hs2 : (((10 : Int32) * x7) + x1) = (30 : Int32)
  · refine s_lsw j138 (t := 341) (by show am_j _ (Op.lookupswitch.offset [(20, 178), (22, 449), (30, 203), (40, 238), (41, 409), (42, 451), (50, 263), (51, 427), (60, 279), (63, 476), (70, 324), (71, 431), (73, 503), (80, 364), (94, 519), (95, 659), (104, 519), (114, 612), (125, 676), (144, 633), (145, 749)] _ (((10 : Int32) * x7) + x1).toInt) = _; rw [hs2]; rfl) rfl ?_
    replace h := h.2.2.1 hs2
    exact h
  by_cases hs3 : (((10 : Int32) * x7) + x1) = (40 : Int32)
  · refine s_lsw j138 (t := 376) (by show am_j _ (Op.lookupswitch.offset [(20, 178), (22, 449), (30, 203), (40, 238), (41, 409), (42, 451), (50, 263), (51, 427), (60, 279), (63, 476), (70, 324), (71, 431), (73, 503), (80, 364), (94, 519), (95, 659), (104, 519), (114, 612), (125, 676), (144, 633), (145, 749)] _ (((10 : Int32) * x7) + x1).toInt) = _; rw [hs3]; rfl) rfl ?_
    replace h := h.2.2.2.1 hs3
    exact h
  by_cases hs4 : (((10 : Int32) * x7) + x1) = (41 : Int32)
  · refine s_lsw j138 (t := 547) (by show am_j _ (Op.lookupswitch.offset [(20, 178), (22, 449), (30, 203), (40, 238), (41, 409), (42, 451), (50, 263), (51, 427), (60, 279), (63, 476), (70, 324), (71, 431), (73, 503), (80, 364), (94, 519), (95, 659), (104, 519), (114, 612), (125, 676), (144, 633), (145, 749)] _ (((10 : Int32) * x7) + x1).toInt) = _; rw [hs4]; rfl) rfl ?_
    replace h := h.2.2.2.2.1 hs4
    exact h
  by_cases hs5 : (((10 : Int32) * x7) + x1) = (42 : Int32)
  · refine s_lsw j138 (t := 589) (by show am_j _ (Op.lookupswitch.offset [(20, 178), (22, 449), (30, 203), (40, 238), (41, 409), (42, 451), (50, 263), (51, 427), (60, 279), (63, 476), (70, 324), (71, 431), (73, 503), (80, 364), (94, 519), (95, 659), (104, 519), (114, 612), (125, 676), (144, 633), (145, 749)] _ (((10 : Int32) * x7) + x1).toInt) = _; rw [hs5]; rfl) rfl ?_
    replace h := h.2.2.2.2.2.1 hs5
    exact h
  by_cases hs6 : (((10 : Int32) * x7) + x1) = (50 : Int32)
  · refine s_lsw j138 (t := 401) (by show am_j _ (Op.lookupswitch.offset [(20, 178), (22, 449), (30, 203), (40, 238), (41, 409), (42, 451), (50, 263), (51, 427), (60, 279), (63, 476), (70, 324), (71, 431), (73, 503), (80, 364), (94, 519), (95, 659), (104, 519), (114, 612), (125, 676), (144, 633), (145, 749)] _ (((10 : Int32) * x7) + x1).toInt) = _; rw [hs6]; rfl) rfl ?_
    replace h := h.2.2.2.2.2.2.1 hs6
    exact h
  by_cases hs7 : (((10 : Int32) * x7) + x1) = (51 : Int32)
  · refine s_lsw j138 (t := 565) (by show am_j _ (Op.lookupswitch.offset [(20, 178), (22, 449), (30, 203), (40, 238), (41, 409), (42, 451), (50, 263), (51, 427), (60, 279), (63, 476), (70, 324), (71, 431), (73, 503), (80, 364), (94, 519), (95, 659), (104, 519), (114, 612), (125, 676), (144, 633), (145, 749)] _ (((10 : Int32) * x7) + x1).toInt) = _; rw [hs7]; rfl) rfl ?_
    replace h := h.2.2.2.2.2.2.2.1 hs7
    refine s_ldc2 j565 rfl kc_ll_14 ?_
    exact s_retL j568 rfl h
  by_cases hs8 : (((10 : Int32) * x7) + x1) = (60 : Int32)
  · refine s_lsw j138 (t := 417) (by show am_j _ (Op.lookupswitch.offset [(20, 178), (22, 449), (30, 203), (40, 238), (41, 409), (42, 451), (50, 263), (51, 427), (60, 279), (63, 476), (70, 324), (71, 431), (73, 503), (80, 364), (94, 519), (95, 659), (104, 519), (114, 612), (125, 676), (144, 633), (145, 749)] _ (((10 : Int32) * x7) + x1).toInt) = _; rw [hs8]; rfl) rfl ?_
    replace h := h.2.2.2.2.2.2.2.2.1 hs8
    exact h
  by_cases hs9 : (((10 : Int32) * x7) + x1) = (63 : Int32)
  · refine s_lsw j138 (t := 614) (by show am_j _ (Op.lookupswitch.offset [(20, 178), (22, 449), (30, 203), (40, 238), (41, 409), (42, 451), (50, 263), (51, 427), (60, 279), (63, 476), (70, 324), (71, 431), (73, 503), (80, 364), (94, 519), (95, 659), (104, 519), (114, 612), (125, 676), (144, 633), (145, 749)] _ (((10 : Int32) * x7) + x1).toInt) = _; rw [hs9]; rfl) rfl ?_
    replace h := h.2.2.2.2.2.2.2.2.2.1 hs9
    exact h
  by_cases hs10 : (((10 : Int32) * x7) + x1) = (70 : Int32)
  · refine s_lsw j138 (t := 462) (by show am_j _ (Op.lookupswitch.offset [(20, 178), (22, 449), (30, 203), (40, 238), (41, 409), (42, 451), (50, 263), (51, 427), (60, 279), (63, 476), (70, 324), (71, 431), (73, 503), (80, 364), (94, 519), (95, 659), (104, 519), (114, 612), (125, 676), (144, 633), (145, 749)] _ (((10 : Int32) * x7) + x1).toInt) = _; rw [hs10]; rfl) rfl ?_
    replace h := h.2.2.2.2.2.2.2.2.2.2.1 hs10
    exact h
  by_cases hs11 : (((10 : Int32) * x7) + x1) = (71 : Int32)
  · refine s_lsw j138 (t := 569) (by show am_j _ (Op.lookupswitch.offset [(20, 178), (22, 449), (30, 203), (40, 238), (41, 409), (42, 451), (50, 263), (51, 427), (60, 279), (63, 476), (70, 324), (71, 431), (73, 503), (80, 364), (94, 519), (95, 659), (104, 519), (114, 612), (125, 676), (144, 633), (145, 749)] _ (((10 : Int32) * x7) + x1).toInt) = _; rw [hs11]; rfl) rfl ?_
    replace h := h.2.2.2.2.2.2.2.2.2.2.2.1 hs11
    exact h
  by_cases hs12 : (((10 : Int32) * x7) + x1) = (73 : Int32)
  · refine s_lsw j138 (t := 641) (by show am_j _ (Op.lookupswitch.offset [(20, 178), (22, 449), (30, 203), (40, 238), (41, 409), (42, 451), (50, 263), (51, 427), (60, 279), (63, 476), (70, 324), (71, 431), (73, 503), (80, 364), (94, 519), (95, 659), (104, 519), (114, 612), (125, 676), (144, 633), (145, 749)] _ (((10 : Int32) * x7) + x1).toInt) = _; rw [hs12]; rfl) rfl ?_
    replace h := h.2.2.2.2.2.2.2.2.2.2.2.2.1 hs12
    exact h
  by_cases hs13 : (((10 : Int32) * x7) + x1) = (80 : Int32)
  · refine s_lsw j138 (t := 502) (by show am_j _ (Op.lookupswitch.offset [(20, 178), (22, 449), (30, 203), (40, 238), (41, 409), (42, 451), (50, 263), (51, 427), (60, 279), (63, 476), (70, 324), (71, 431), (73, 503), (80, 364), (94, 519), (95, 659), (104, 519), (114, 612), (125, 676), (144, 633), (145, 749)] _ (((10 : Int32) * x7) + x1).toInt) = _; rw [hs13]; rfl) rfl ?_
    replace h := h.2.2.2.2.2.2.2.2.2.2.2.2.2.1 hs13
    exact h
  by_cases hs14 : (((10 : Int32) * x7) + x1) = (94 : Int32)
  · refine s_lsw j138 (t := 657) (by show am_j _ (Op.lookupswitch.offset [(20, 178), (22, 449), (30, 203), (40, 238), (41, 409), (42, 451), (50, 263), (51, 427), (60, 279), (63, 476), (70, 324), (71, 431), (73, 503), (80, 364), (94, 519), (95, 659), (104, 519), (114, 612), (125, 676), (144, 633), (145, 749)] _ (((10 : Int32) * x7) + x1).toInt) = _; rw [hs14]; rfl) rfl ?_
    replace h := h.2.2.2.2.2.2.2.2.2.2.2.2.2.2.1 (Or.inl hs14)
    refine s_lconst j657 rfl rfl ?_
    refine s_lstore j658 rfl (n := 15) (L' := [some (am_ov (some this)), some (.int x1), some (.int x2), some (am_ov x3), some (.long x4), none, some (.int x6), some (.int x7), some (.int x8), some (.int y0), some (.long (0 : Int64)), none, none, none, none]) rfl (by decide) rfl ?_
    refine s_iconst j660 rfl kc_ic_0 ?_
    refine s_istore j661 rfl (n := 15) (L' := [some (am_ov (some this)), some (.int x1), some (.int x2), some (am_ov x3), some (.long x4), none, some (.int x6), some (.int x7), some (.int x8), some (.int y0), some (.long (0 : Int64)), none, some (.int (0 : Int32)), none, none]) rfl (by decide) rfl ?_
    exact h
  by_cases hs15 : (((10 : Int32) * x7) + x1) = (95 : Int32)
  · refine s_lsw j138 (t := 797) (by show am_j _ (Op.lookupswitch.offset [(20, 178), (22, 449), (30, 203), (40, 238), (41, 409), (42, 451), (50, 263), (51, 427), (60, 279), (63, 476), (70, 324), (71, 431), (73, 503), (80, 364), (94, 519), (95, 659), (104, 519), (114, 612), (125, 676), (144, 633), (145, 749)] _ (((10 : Int32) * x7) + x1).toInt) = _; rw [hs15]; rfl) rfl ?_
    replace h := h.2.2.2.2.2.2.2.2.2.2.2.2.2.2.2.1 hs15
    exact h
  by_cases hs16 : (((10 : Int32) * x7) + x1) = (104 : Int32)
  · refine s_lsw j138 (t := 657) (by show am_j _ (Op.lookupswitch.offset [(20, 178), (22, 449), (30, 203), (40, 238), (41, 409), (42, 451), (50, 263), (51, 427), (60, 279), (63, 476), (70, 324), (71, 431), (73, 503), (80, 364), (94, 519), (95, 659), (104, 519), (114, 612), (125, 676), (144, 633), (145, 749)] _ (((10 : Int32) * x7) + x1).toInt) = _; rw [hs16]; rfl) rfl ?_
    replace h := h.2.2.2.2.2.2.2.2.2.2.2.2.2.2.1 (Or.inr hs16)
    refine s_lconst j657 rfl rfl ?_
    refine s_lstore j658 rfl (n := 15) (L' := [some (am_ov (some this)), some (.int x1), some (.int x2), some (am_ov x3), some (.long x4), none, some (.int x6), some (.int x7), some (.int x8), some (.int y0), some (.long (0 : Int64)), none, none, none, none]) rfl (by decide) rfl ?_
    refine s_iconst j660 rfl kc_ic_0 ?_
    refine s_istore j661 rfl (n := 15) (L' := [some (am_ov (some this)), some (.int x1), some (.int x2), some (am_ov x3), some (.long x4), none, some (.int x6), some (.int x7), some (.int x8), some (.int y0), some (.long (0 : Int64)), none, some (.int (0 : Int32)), none, none]) rfl (by decide) rfl ?_
    exact h
  by_cases hs17 : (((10 : Int32) * x7) + x1) = (114 : Int32)
  · refine s_lsw j138 (t := 750) (by show am_j _ (Op.lookupswitch.offset [(20, 178), (22, 449), (30, 203), (40, 238), (41, 409), (42, 451), (50, 263), (51, 427), (60, 279), (63, 476), (70, 324), (71, 431), (73, 503), (80, 364), (94, 519), (95, 659), (104, 519), (114, 612), (125, 676), (144, 633), (145, 749)] _ (((10 : Int32) * x7) + x1).toInt) = _; rw [hs17]; rfl) rfl ?_
    replace h := h.2.2.2.2.2.2.2.2.2.2.2.2.2.2.2.2.1 hs17
    exact h
  by_cases hs18 : (((10 : Int32) * x7) + x1) = (125 : Int32)
  · refine s_lsw j138 (t := 814) (by show am_j _ (Op.lookupswitch.offset [(20, 178), (22, 449), (30, 203), (40, 238), (41, 409), (42, 451), (50, 263), (51, 427), (60, 279), (63, 476), (70, 324), (71, 431), (73, 503), (80, 364), (94, 519), (95, 659), (104, 519), (114, 612), (125, 676), (144, 633), (145, 749)] _ (((10 : Int32) * x7) + x1).toInt) = _; rw [hs18]; rfl) rfl ?_
    replace h := h.2.2.2.2.2.2.2.2.2.2.2.2.2.2.2.2.2.1 hs18
    refine s_iconst j814 rfl kc_ic_0 ?_
    refine s_istore j815 rfl (n := 15) (L' := [some (am_ov (some this)), some (.int x1), some (.int x2), some (am_ov x3), some (.long x4), none, some (.int x6), some (.int x7), some (.int x8), some (.int y0), some (.int (0 : Int32)), none, none, none, none]) rfl (by decide) rfl ?_
    refine s_iconst j817 rfl kc_ic_0 ?_
    refine s_istore j818 rfl (n := 15) (L' := [some (am_ov (some this)), some (.int x1), some (.int x2), some (am_ov x3), some (.long x4), none, some (.int x6), some (.int x7), some (.int x8), some (.int y0), some (.int (0 : Int32)), some (.int (0 : Int32)), none, none, none]) rfl (by decide) rfl ?_
    exact h
  by_cases hs19 : (((10 : Int32) * x7) + x1) = (144 : Int32)
  · refine s_lsw j138 (t := 771) (by show am_j _ (Op.lookupswitch.offset [(20, 178), (22, 449), (30, 203), (40, 238), (41, 409), (42, 451), (50, 263), (51, 427), (60, 279), (63, 476), (70, 324), (71, 431), (73, 503), (80, 364), (94, 519), (95, 659), (104, 519), (114, 612), (125, 676), (144, 633), (145, 749)] _ (((10 : Int32) * x7) + x1).toInt) = _; rw [hs19]; rfl) rfl ?_
    replace h := h.2.2.2.2.2.2.2.2.2.2.2.2.2.2.2.2.2.2.1 hs19
    exact h
  by_cases hs20 : (((10 : Int32) * x7) + x1) = (145 : Int32)
  · refine s_lsw j138 (t := 887) (by show am_j _ (Op.lookupswitch.offset [(20, 178), (22, 449), (30, 203), (40, 238), (41, 409), (42, 451), (50, 263), (51, 427), (60, 279), (63, 476), (70, 324), (71, 431), (73, 503), (80, 364), (94, 519), (95, 659), (104, 519), (114, 612), (125, 676), (144, 633), (145, 749)] _ (((10 : Int32) * x7) + x1).toInt) = _; rw [hs20]; rfl) rfl ?_
    replace h := h.2.2.2.2.2.2.2.2.2.2.2.2.2.2.2.2.2.2.2.1 hs20
    exact h
  refine s_lsw j138 (t := 903) (by show am_j _ (Op.lookupswitch.offset [(20, 178), (22, 449), (30, 203), (40, 238), (41, 409), (42, 451), (50, 263), (51, 427), (60, 279), (63, 476), (70, 324), (71, 431), (73, 503), (80, 364), (94, 519), (95, 659), (104, 519), (114, 612), (125, 676), (144, 633), (145, 749)] _ (((10 : Int32) * x7) + x1).toInt) = _; rw [Op.lookupswitch.offset_cons, if_neg (am_ni (b := (20 : Int32)) (by decide) hs0), Op.lookupswitch.offset_cons, if_neg (am_ni (b := (22 : Int32)) (by decide) hs1), Op.lookupswitch.offset_cons, if_neg (am_ni (b := (30 : Int32)) (by decide) hs2), Op.lookupswitch.offset_cons, if_neg (am_ni (b := (40 : Int32)) (by decide) hs3), Op.lookupswitch.offset_cons, if_neg (am_ni (b := (41 : Int32)) (by decide) hs4), Op.lookupswitch.offset_cons, if_neg (am_ni (b := (42 : Int32)) (by decide) hs5), Op.lookupswitch.offset_cons, if_neg (am_ni (b := (50 : Int32)) (by decide) hs6), Op.lookupswitch.offset_cons, if_neg (am_ni (b := (51 : Int32)) (by decide) hs7), Op.lookupswitch.offset_cons, if_neg (am_ni (b := (60 : Int32)) (by decide) hs8), Op.lookupswitch.offset_cons, if_neg (am_ni (b := (63 : Int32)) (by decide) hs9), Op.lookupswitch.offset_cons, if_neg (am_ni (b := (70 : Int32)) (by decide) hs10), Op.lookupswitch.offset_cons, if_neg (am_ni (b := (71 : Int32)) (by decide) hs11), Op.lookupswitch.offset_cons, if_neg (am_ni (b := (73 : Int32)) (by decide) hs12), Op.lookupswitch.offset_cons, if_neg (am_ni (b := (80 : Int32)) (by decide) hs13), Op.lookupswitch.offset_cons, if_neg (am_ni (b := (94 : Int32)) (by decide) hs14), Op.lookupswitch.offset_cons, if_neg (am_ni (b := (95 : Int32)) (by decide) hs15), Op.lookupswitch.offset_cons, if_neg (am_ni (b := (104 : Int32)) (by decide) hs16), Op.lookupswitch.offset_cons, if_neg (am_ni (b := (114 : Int32)) (by decide) hs17), Op.lookupswitch.offset_cons, if_neg (am_ni (b := (125 : Int32)) (by decide) hs18), Op.lookupswitch.offset_cons, if_neg (am_ni (b := (144 : Int32)) (by decide) hs19), Op.lookupswitch.offset_cons, if_neg (am_ni (b := (145 : Int32)) (by decide) hs20), Op.lookupswitch.offset_nil]; rfl) rfl ?_
  replace h := h.2.2.2.2.2.2.2.2.2.2.2.2.2.2.2.2.2.2.2.2 ⟨hs0, hs1, hs2, hs3, hs4, hs5, hs6, hs7, hs8, hs9, hs10, hs11, hs12, hs13, hs14, hs15, hs16, hs17, hs18, hs19, hs20⟩
  refine s_lconst j903 rfl rfl ?_
  exact s_retL j904 rfl h
theorem P_Wk_ask_316 (nl : Bool) (Ln : Nat) (xs : Nat → Int32) : am_Jl (TT nl Ln xs) 36 [(316, .aload_n 0, 317, []), (317, .iconst 0, 318, []), (318, .iload 8, 320, []), (320, .invokevirtual 264, 323, [10, 37, 3, 3, 3]), (323, .ifCond .eq 7, 326, []), (326, .lconst 1, 327, []), (327, .goto 13, 330, []), (330, .aload_n 0, 331, []), (331, .iconst 0, 332, []), (332, .iconst 1, 333, []), (333, .aload_n 3, 334, []), (334, .lconst 0, 335, []), (335, .iload 8, 337, []), (337, .invokevirtual 144, 340, [10, 36, 3, 15, 6]), (340, .lreturn, 341, [2])] := dk_ck (by decide +kernel)
set_option maxRecDepth 4096 in
theorem w_Wk_ask_316 {nl : Bool} {Ln : Nat} {xs : Nat → Int32} {d : Nat} {this : Nat} {x1 : Int32} {x2 : Int32} {x3 : Option Nat} {x4 : Int64} {x6 : Int32} {x7 : Int32} {x8 : Int32} {x9 : Int32} {σ : am_S} {F : Int64 → am_S → Prop} (h : (am_is σ (some this) 2) ∧ k_Wk_lossIs nl Ln xs d this (0 : Int32) x8 σ (fun a3 σ2 => am_ext σ σ2 → (a3 = true → F (1 : Int64) σ2) ∧ (¬ (a3 = true) → k_Wk_ask nl Ln xs d this (0 : Int32) (1 : Int32) x3 (0 : Int64) x8 σ2 (fun a6 σ5 => am_ext σ2 σ5 → F a6 σ5)))) : c_Wk_ask_316 nl Ln xs (d + 1) this x1 x2 x3 x4 x6 x7 x8 x9 σ F := by
  obtain ⟨j316, j317, j318, j320, j323, j326, j327, j330, j331, j332, j333, j334, j335, j337, j340, -⟩ := P_Wk_ask_316 nl Ln xs
  unfold c_Wk_ask_316
  refine s_aload_n j316 rfl rfl ?_
  refine s_iconst j317 rfl kc_ic_0 ?_
  refine s_iload j318 rfl rfl ?_
  obtain ⟨ho1, h⟩ := h
  refine s_virt j320 rfl rfl rfl rfl ho1 (by decide) (in_Wk_lossIs _ _ _) (am_r8 rfl) (am_bB h (fun a3 σ2 h hx2 => ?_))
  replace h := h hx2
  refine s_ifn j323 rfl rfl am_cb_eq (fun hc4 => ?_) (fun hc4 => ?_)
  · replace h := h.2 hc4
    refine s_aload_n j330 rfl rfl ?_
    refine s_iconst j331 rfl kc_ic_0 ?_
    refine s_iconst j332 rfl kc_ic_1 ?_
    refine s_aload_n j333 rfl rfl ?_
    refine s_lconst j334 rfl rfl ?_
    refine s_iload j335 rfl rfl ?_
    refine s_virt j337 rfl rfl rfl rfl (am_is_ext hx2 ho1) (by decide) (in_Wk_ask _ _ _ _ _ _) (am_r8 rfl) (am_bL h (fun a6 σ5 h hx5 => ?_))
    replace h := h hx5
    exact s_retL j340 rfl h
  · replace h := h.1 hc4
    refine s_lconst j326 rfl rfl ?_
    refine s_goto j327 rfl rfl ?_
    exact s_retL j340 rfl h
theorem P_Wk_ask_341 (nl : Bool) (Ln : Nat) (xs : Nat → Int32) : am_Jl (TT nl Ln xs) 36 [(341, .aload_n 0, 342, []), (342, .iconst 1, 343, []), (343, .iload 8, 345, []), (345, .invokevirtual 264, 348, [10, 37, 3, 3, 3]), (348, .ifCond .ne 13, 351, []), (351, .aload_n 0, 352, []), (352, .iconst 3, 353, []), (353, .iload 8, 355, []), (355, .invokevirtual 264, 358, [10, 37, 3, 3, 3]), (358, .ifCond .eq 7, 361, []), (361, .lconst 1, 362, []), (362, .goto 13, 365, []), (365, .aload_n 0, 366, []), (366, .iconst 0, 367, []), (367, .iconst 2, 368, []), (368, .aload_n 3, 369, []), (369, .lconst 0, 370, []), (370, .iload 8, 372, []), (372, .invokevirtual 144, 375, [10, 36, 3, 15, 6]), (375, .lreturn, 376, [2])] := dk_ck (by decide +kernel)
set_option maxRecDepth 4096 in
theorem w_Wk_ask_341 {nl : Bool} {Ln : Nat} {xs : Nat → Int32} {d : Nat} {this : Nat} {x1 : Int32} {x2 : Int32} {x3 : Option Nat} {x4 : Int64} {x6 : Int32} {x7 : Int32} {x8 : Int32} {x9 : Int32} {σ : am_S} {F : Int64 → am_S → Prop} (h : (am_is σ (some this) 2) ∧ k_Wk_lossIs nl Ln xs d this (1 : Int32) x8 σ (fun a3 σ2 => am_ext σ σ2 → (a3 = true → F (1 : Int64) σ2) ∧ (¬ (a3 = true) → k_Wk_lossIs nl Ln xs d this (3 : Int32) x8 σ2 (fun a6 σ5 => am_ext σ2 σ5 → (a6 = true → F (1 : Int64) σ5) ∧ (¬ (a6 = true) → k_Wk_ask nl Ln xs d this (0 : Int32) (2 : Int32) x3 (0 : Int64) x8 σ5 (fun a9 σ8 => am_ext σ5 σ8 → F a9 σ8)))))) : c_Wk_ask_341 nl Ln xs (d + 1) this x1 x2 x3 x4 x6 x7 x8 x9 σ F := by
  obtain ⟨j341, j342, j343, j345, j348, j351, j352, j353, j355, j358, j361, j362, j365, j366, j367, j368, j369, j370, j372, j375, -⟩ := P_Wk_ask_341 nl Ln xs
  unfold c_Wk_ask_341
  refine s_aload_n j341 rfl rfl ?_
  refine s_iconst j342 rfl kc_ic_1 ?_
  refine s_iload j343 rfl rfl ?_
  obtain ⟨ho1, h⟩ := h
  refine s_virt j345 rfl rfl rfl rfl ho1 (by decide) (in_Wk_lossIs _ _ _) (am_r8 rfl) (am_bB h (fun a3 σ2 h hx2 => ?_))
  replace h := h hx2
  refine s_if j348 rfl rfl am_cb_ne (fun hc4 => ?_) (fun hc4 => ?_)
  · replace h := h.1 hc4
    refine s_lconst j361 rfl rfl ?_
    refine s_goto j362 rfl rfl ?_
    exact s_retL j375 rfl h
  · replace h := h.2 hc4
    refine s_aload_n j351 rfl rfl ?_
    refine s_iconst j352 rfl kc_ic_3 ?_
    refine s_iload j353 rfl rfl ?_
    refine s_virt j355 rfl rfl rfl rfl (am_is_ext hx2 ho1) (by decide) (in_Wk_lossIs _ _ _) (am_r8 rfl) (am_bB h (fun a6 σ5 h hx5 => ?_))
    replace h := h hx5
    refine s_ifn j358 rfl rfl am_cb_eq (fun hc7 => ?_) (fun hc7 => ?_)
    · replace h := h.2 hc7
      refine s_aload_n j365 rfl rfl ?_
      refine s_iconst j366 rfl kc_ic_0 ?_
      refine s_iconst j367 rfl kc_ic_2 ?_
      refine s_aload_n j368 rfl rfl ?_
      refine s_lconst j369 rfl rfl ?_
      refine s_iload j370 rfl rfl ?_
      refine s_virt j372 rfl rfl rfl rfl (am_is_ext hx5 (am_is_ext hx2 ho1)) (by decide) (in_Wk_ask _ _ _ _ _ _) (am_r8 rfl) (am_bL h (fun a9 σ8 h hx8 => ?_))
      replace h := h hx8
      exact s_retL j375 rfl h
    · replace h := h.1 hc7
      refine s_lconst j361 rfl rfl ?_
      refine s_goto j362 rfl rfl ?_
      exact s_retL j375 rfl h
theorem P_Wk_ask_376 (nl : Bool) (Ln : Nat) (xs : Nat → Int32) : am_Jl (TT nl Ln xs) 36 [(376, .aload_n 0, 377, []), (377, .iconst 2, 378, []), (378, .iload 8, 380, []), (380, .invokevirtual 264, 383, [10, 37, 3, 3, 3]), (383, .ifCond .eq 7, 386, []), (386, .lconst 1, 387, []), (387, .goto 13, 390, []), (390, .aload_n 0, 391, []), (391, .iconst 0, 392, []), (392, .iconst 3, 393, []), (393, .aload_n 3, 394, []), (394, .lconst 0, 395, []), (395, .iload 8, 397, []), (397, .invokevirtual 144, 400, [10, 36, 3, 15, 6]), (400, .lreturn, 401, [2])] := dk_ck (by decide +kernel)
set_option maxRecDepth 4096 in
theorem w_Wk_ask_376 {nl : Bool} {Ln : Nat} {xs : Nat → Int32} {d : Nat} {this : Nat} {x1 : Int32} {x2 : Int32} {x3 : Option Nat} {x4 : Int64} {x6 : Int32} {x7 : Int32} {x8 : Int32} {x9 : Int32} {σ : am_S} {F : Int64 → am_S → Prop} (h : (am_is σ (some this) 2) ∧ k_Wk_lossIs nl Ln xs d this (2 : Int32) x8 σ (fun a3 σ2 => am_ext σ σ2 → (a3 = true → F (1 : Int64) σ2) ∧ (¬ (a3 = true) → k_Wk_ask nl Ln xs d this (0 : Int32) (3 : Int32) x3 (0 : Int64) x8 σ2 (fun a6 σ5 => am_ext σ2 σ5 → F a6 σ5)))) : c_Wk_ask_376 nl Ln xs (d + 1) this x1 x2 x3 x4 x6 x7 x8 x9 σ F := by
  obtain ⟨j376, j377, j378, j380, j383, j386, j387, j390, j391, j392, j393, j394, j395, j397, j400, -⟩ := P_Wk_ask_376 nl Ln xs
  unfold c_Wk_ask_376
  refine s_aload_n j376 rfl rfl ?_
  refine s_iconst j377 rfl kc_ic_2 ?_
  refine s_iload j378 rfl rfl ?_
  obtain ⟨ho1, h⟩ := h
  refine s_virt j380 rfl rfl rfl rfl ho1 (by decide) (in_Wk_lossIs _ _ _) (am_r8 rfl) (am_bB h (fun a3 σ2 h hx2 => ?_))
  replace h := h hx2
  refine s_ifn j383 rfl rfl am_cb_eq (fun hc4 => ?_) (fun hc4 => ?_)
  · replace h := h.2 hc4
    refine s_aload_n j390 rfl rfl ?_
    refine s_iconst j391 rfl kc_ic_0 ?_
    refine s_iconst j392 rfl kc_ic_3 ?_
    refine s_aload_n j393 rfl rfl ?_
    refine s_lconst j394 rfl rfl ?_
    refine s_iload j395 rfl rfl ?_
    refine s_virt j397 rfl rfl rfl rfl (am_is_ext hx2 ho1) (by decide) (in_Wk_ask _ _ _ _ _ _) (am_r8 rfl) (am_bL h (fun a6 σ5 h hx5 => ?_))
    replace h := h hx5
    exact s_retL j400 rfl h
  · replace h := h.1 hc4
    refine s_lconst j386 rfl rfl ?_
    refine s_goto j387 rfl rfl ?_
    exact s_retL j400 rfl h
theorem P_Wk_ask_401 (nl : Bool) (Ln : Nat) (xs : Nat → Int32) : am_Jl (TT nl Ln xs) 36 [(401, .aload_n 0, 402, []), (402, .iconst 3, 403, []), (403, .iload 8, 405, []), (405, .invokevirtual 264, 408, [10, 37, 3, 3, 3]), (408, .ifCond .eq 7, 411, []), (411, .lconst 1, 412, []), (412, .goto 4, 415, []), (415, .lconst 0, 416, []), (416, .lreturn, 417, [2])] := dk_ck (by decide +kernel)
set_option maxRecDepth 4096 in
theorem w_Wk_ask_401 {nl : Bool} {Ln : Nat} {xs : Nat → Int32} {d : Nat} {this : Nat} {x1 : Int32} {x2 : Int32} {x3 : Option Nat} {x4 : Int64} {x6 : Int32} {x7 : Int32} {x8 : Int32} {x9 : Int32} {σ : am_S} {F : Int64 → am_S → Prop} (h : (am_is σ (some this) 2) ∧ k_Wk_lossIs nl Ln xs d this (3 : Int32) x8 σ (fun a3 σ2 => am_ext σ σ2 → ∀ w6 : Int64, w6 = (if a3 = true then (1 : Int64) else (0 : Int64)) → F w6 σ2)) : c_Wk_ask_401 nl Ln xs (d + 1) this x1 x2 x3 x4 x6 x7 x8 x9 σ F := by
  obtain ⟨j401, j402, j403, j405, j408, j411, j412, j415, j416, -⟩ := P_Wk_ask_401 nl Ln xs
  unfold c_Wk_ask_401
  refine s_aload_n j401 rfl rfl ?_
  refine s_iconst j402 rfl kc_ic_3 ?_
  refine s_iload j403 rfl rfl ?_
  obtain ⟨ho1, h⟩ := h
  refine s_virt j405 rfl rfl rfl rfl ho1 (by decide) (in_Wk_lossIs _ _ _) (am_r8 rfl) (am_bB h (fun a3 σ2 h hx2 => ?_))
  replace h := h hx2
  have K5 : ∀ (w6 : Int64), w6 = (if a3 = true then (1 : Int64) else (0 : Int64)) → am_C (TT nl Ln xs) (d + 1) 36 416 [some (am_ov (some this)), some (.int x1), some (.int x2), some (am_ov x3), some (.long x4), none, some (.int x6), some (.int x7), some (.int x8), some (.int x9), none, none, none, none, none] [.long w6] σ2 (am_qL F) := by
    intro w6 hw7
    replace h := h w6 hw7
    exact s_retL j416 rfl h
  refine s_ifn j408 rfl rfl am_cb_eq (fun hc4 => ?_) (fun hc4 => ?_)
  · refine s_lconst j415 rfl rfl ?_
    exact K5 _ (am_t2 hc4 rfl)
  · refine s_lconst j411 rfl rfl ?_
    refine s_goto j412 rfl rfl ?_
    exact K5 _ (am_t1 hc4 rfl)
theorem P_Wk_ask_417 (nl : Bool) (Ln : Nat) (xs : Nat → Int32) : am_Jl (TT nl Ln xs) 36 [(417, .aload_n 0, 418, []), (418, .iconst 0, 419, []), (419, .iload 8, 421, []), (421, .invokevirtual 264, 424, [10, 37, 3, 3, 3]), (424, .ifCond .ne 23, 427, []), (427, .aload_n 0, 428, []), (428, .iconst 2, 429, []), (429, .iload 8, 431, []), (431, .invokevirtual 264, 434, [10, 37, 3, 3, 3]), (434, .ifCond .ne 13, 437, []), (437, .aload_n 0, 438, []), (438, .iconst 4, 439, []), (439, .iload 8, 441, []), (441, .invokevirtual 264, 444, [10, 37, 3, 3, 3]), (444, .ifCond .eq 7, 447, []), (447, .lconst 1, 448, []), (448, .goto 13, 451, []), (451, .aload_n 0, 452, []), (452, .iconst 0, 453, []), (453, .iconst 1, 454, []), (454, .aload_n 3, 455, []), (455, .lconst 0, 456, []), (456, .iload 8, 458, []), (458, .invokevirtual 144, 461, [10, 36, 3, 15, 6]), (461, .lreturn, 462, [2])] := dk_ck (by decide +kernel)
set_option maxRecDepth 4096 in
theorem w_Wk_ask_417 {nl : Bool} {Ln : Nat} {xs : Nat → Int32} {d : Nat} {this : Nat} {x1 : Int32} {x2 : Int32} {x3 : Option Nat} {x4 : Int64} {x6 : Int32} {x7 : Int32} {x8 : Int32} {x9 : Int32} {σ : am_S} {F : Int64 → am_S → Prop} (h : (am_is σ (some this) 2) ∧ k_Wk_lossIs nl Ln xs d this (0 : Int32) x8 σ (fun a3 σ2 => am_ext σ σ2 → (a3 = true → F (1 : Int64) σ2) ∧ (¬ (a3 = true) → k_Wk_lossIs nl Ln xs d this (2 : Int32) x8 σ2 (fun a6 σ5 => am_ext σ2 σ5 → (a6 = true → F (1 : Int64) σ5) ∧ (¬ (a6 = true) → k_Wk_lossIs nl Ln xs d this (4 : Int32) x8 σ5 (fun a9 σ8 => am_ext σ5 σ8 → (a9 = true → F (1 : Int64) σ8) ∧ (¬ (a9 = true) → k_Wk_ask nl Ln xs d this (0 : Int32) (1 : Int32) x3 (0 : Int64) x8 σ8 (fun a12 σ11 => am_ext σ8 σ11 → F a12 σ11)))))))) : c_Wk_ask_417 nl Ln xs (d + 1) this x1 x2 x3 x4 x6 x7 x8 x9 σ F := by
  obtain ⟨j417, j418, j419, j421, j424, j427, j428, j429, j431, j434, j437, j438, j439, j441, j444, j447, j448, j451, j452, j453, j454, j455, j456, j458, j461, -⟩ := P_Wk_ask_417 nl Ln xs
  unfold c_Wk_ask_417
  refine s_aload_n j417 rfl rfl ?_
  refine s_iconst j418 rfl kc_ic_0 ?_
  refine s_iload j419 rfl rfl ?_
  obtain ⟨ho1, h⟩ := h
  refine s_virt j421 rfl rfl rfl rfl ho1 (by decide) (in_Wk_lossIs _ _ _) (am_r8 rfl) (am_bB h (fun a3 σ2 h hx2 => ?_))
  replace h := h hx2
  refine s_if j424 rfl rfl am_cb_ne (fun hc4 => ?_) (fun hc4 => ?_)
  · replace h := h.1 hc4
    refine s_lconst j447 rfl rfl ?_
    refine s_goto j448 rfl rfl ?_
    exact s_retL j461 rfl h
  · replace h := h.2 hc4
    refine s_aload_n j427 rfl rfl ?_
    refine s_iconst j428 rfl kc_ic_2 ?_
    refine s_iload j429 rfl rfl ?_
    refine s_virt j431 rfl rfl rfl rfl (am_is_ext hx2 ho1) (by decide) (in_Wk_lossIs _ _ _) (am_r8 rfl) (am_bB h (fun a6 σ5 h hx5 => ?_))
    replace h := h hx5
    refine s_if j434 rfl rfl am_cb_ne (fun hc7 => ?_) (fun hc7 => ?_)
    · replace h := h.1 hc7
      refine s_lconst j447 rfl rfl ?_
      refine s_goto j448 rfl rfl ?_
      exact s_retL j461 rfl h
    · replace h := h.2 hc7
      refine s_aload_n j437 rfl rfl ?_
      refine s_iconst j438 rfl kc_ic_4 ?_
      refine s_iload j439 rfl rfl ?_
      refine s_virt j441 rfl rfl rfl rfl (am_is_ext hx5 (am_is_ext hx2 ho1)) (by decide) (in_Wk_lossIs _ _ _) (am_r8 rfl) (am_bB h (fun a9 σ8 h hx8 => ?_))
      replace h := h hx8
      refine s_ifn j444 rfl rfl am_cb_eq (fun hc10 => ?_) (fun hc10 => ?_)
      · replace h := h.2 hc10
        refine s_aload_n j451 rfl rfl ?_
        refine s_iconst j452 rfl kc_ic_0 ?_
        refine s_iconst j453 rfl kc_ic_1 ?_
        refine s_aload_n j454 rfl rfl ?_
        refine s_lconst j455 rfl rfl ?_
        refine s_iload j456 rfl rfl ?_
        refine s_virt j458 rfl rfl rfl rfl (am_is_ext hx8 (am_is_ext hx5 (am_is_ext hx2 ho1))) (by decide) (in_Wk_ask _ _ _ _ _ _) (am_r8 rfl) (am_bL h (fun a12 σ11 h hx11 => ?_))
        replace h := h hx11
        exact s_retL j461 rfl h
      · replace h := h.1 hc10
        refine s_lconst j447 rfl rfl ?_
        refine s_goto j448 rfl rfl ?_
        exact s_retL j461 rfl h
theorem P_Wk_ask_462 (nl : Bool) (Ln : Nat) (xs : Nat → Int32) : am_Jl (TT nl Ln xs) 36 [(462, .aload_n 0, 463, []), (463, .iconst 4, 464, []), (464, .iload 8, 466, []), (466, .invokevirtual 264, 469, [10, 37, 3, 3, 3]), (469, .ifCond .eq 7, 472, []), (472, .lconst 0, 473, []), (473, .goto 28, 476, []), (476, .aload_n 0, 477, []), (477, .iconst 1, 478, []), (478, .iload 8, 480, []), (480, .invokevirtual 264, 483, [10, 37, 3, 3, 3]), (483, .ifCond .eq 7, 486, []), (486, .lconst 1, 487, []), (487, .goto 14, 490, []), (490, .aload_n 0, 491, []), (491, .iconst 0, 492, []), (492, .bipush 6, 494, []), (494, .aload_n 3, 495, []), (495, .lconst 0, 496, []), (496, .iload 8, 498, []), (498, .invokevirtual 144, 501, [10, 36, 3, 15, 6]), (501, .lreturn, 502, [2])] := dk_ck (by decide +kernel)
set_option maxRecDepth 4096 in
theorem w_Wk_ask_462 {nl : Bool} {Ln : Nat} {xs : Nat → Int32} {d : Nat} {this : Nat} {x1 : Int32} {x2 : Int32} {x3 : Option Nat} {x4 : Int64} {x6 : Int32} {x7 : Int32} {x8 : Int32} {x9 : Int32} {σ : am_S} {F : Int64 → am_S → Prop} (h : (am_is σ (some this) 2) ∧ k_Wk_lossIs nl Ln xs d this (4 : Int32) x8 σ (fun a3 σ2 => am_ext σ σ2 → (a3 = true → F (0 : Int64) σ2) ∧ (¬ (a3 = true) → k_Wk_lossIs nl Ln xs d this (1 : Int32) x8 σ2 (fun a6 σ5 => am_ext σ2 σ5 → (a6 = true → F (1 : Int64) σ5) ∧ (¬ (a6 = true) → k_Wk_ask nl Ln xs d this (0 : Int32) (6 : Int32) x3 (0 : Int64) x8 σ5 (fun a9 σ8 => am_ext σ5 σ8 → F a9 σ8)))))) : c_Wk_ask_462 nl Ln xs (d + 1) this x1 x2 x3 x4 x6 x7 x8 x9 σ F := by
  obtain ⟨j462, j463, j464, j466, j469, j472, j473, j476, j477, j478, j480, j483, j486, j487, j490, j491, j492, j494, j495, j496, j498, j501, -⟩ := P_Wk_ask_462 nl Ln xs
  unfold c_Wk_ask_462
  refine s_aload_n j462 rfl rfl ?_
  refine s_iconst j463 rfl kc_ic_4 ?_
  refine s_iload j464 rfl rfl ?_
  obtain ⟨ho1, h⟩ := h
  refine s_virt j466 rfl rfl rfl rfl ho1 (by decide) (in_Wk_lossIs _ _ _) (am_r8 rfl) (am_bB h (fun a3 σ2 h hx2 => ?_))
  replace h := h hx2
  refine s_ifn j469 rfl rfl am_cb_eq (fun hc4 => ?_) (fun hc4 => ?_)
  · replace h := h.2 hc4
    refine s_aload_n j476 rfl rfl ?_
    refine s_iconst j477 rfl kc_ic_1 ?_
    refine s_iload j478 rfl rfl ?_
    refine s_virt j480 rfl rfl rfl rfl (am_is_ext hx2 ho1) (by decide) (in_Wk_lossIs _ _ _) (am_r8 rfl) (am_bB h (fun a6 σ5 h hx5 => ?_))
    replace h := h hx5
    refine s_ifn j483 rfl rfl am_cb_eq (fun hc7 => ?_) (fun hc7 => ?_)
    · replace h := h.2 hc7
      refine s_aload_n j490 rfl rfl ?_
      refine s_iconst j491 rfl kc_ic_0 ?_
      refine s_bipush j492 rfl kc_bi_6 ?_
      refine s_aload_n j494 rfl rfl ?_
      refine s_lconst j495 rfl rfl ?_
      refine s_iload j496 rfl rfl ?_
      refine s_virt j498 rfl rfl rfl rfl (am_is_ext hx5 (am_is_ext hx2 ho1)) (by decide) (in_Wk_ask _ _ _ _ _ _) (am_r8 rfl) (am_bL h (fun a9 σ8 h hx8 => ?_))
      replace h := h hx8
      exact s_retL j501 rfl h
    · replace h := h.1 hc7
      refine s_lconst j486 rfl rfl ?_
      refine s_goto j487 rfl rfl ?_
      exact s_retL j501 rfl h
  · replace h := h.1 hc4
    refine s_lconst j472 rfl rfl ?_
    refine s_goto j473 rfl rfl ?_
    exact s_retL j501 rfl h
theorem P_Wk_ask_502 (nl : Bool) (Ln : Nat) (xs : Nat → Int32) : am_Jl (TT nl Ln xs) 36 [(502, .aload_n 3, 503, []), (503, .getfield 137, 506, [9, 10, 1, 0]), (506, .iconst 4, 507, []), (507, .if_icmp .eq 19, 510, []), (510, .aload_n 0, 511, []), (511, .getfield 12, 514, [9, 2, 2, 2]), (514, .iconst 2, 515, []), (515, .putfield 101, 518, [9, 3, 6, 0]), (518, .aload_n 0, 519, []), (519, .getfield 12, 522, [9, 2, 2, 2]), (522, .iconst 1, 523, []), (523, .putfield 49, 526, [9, 3, 7, 3]), (526, .aload_n 3, 527, []), (527, .getfield 137, 530, [9, 10, 1, 0]), (530, .iconst 4, 531, []), (531, .if_icmp .ne 14, 534, []), (534, .aload_n 3, 535, []), (535, .getfield 268, 538, [9, 10, 7, 0]), (538, .ifCond .le 7, 541, []), (541, .lconst 1, 542, []), (542, .goto 4, 545, []), (545, .lconst 0, 546, []), (546, .lreturn, 547, [2])] := dk_ck (by decide +kernel)
set_option maxRecDepth 4096 in
theorem w_Wk_ask_502 {nl : Bool} {Ln : Nat} {xs : Nat → Int32} {d : Nat} {this : Nat} {x1 : Int32} {x2 : Int32} {x3 : Option Nat} {x4 : Int64} {x6 : Int32} {x7 : Int32} {x8 : Int32} {x9 : Int32} {σ : am_S} {F : Int64 → am_S → Prop} (h : (am_is σ x3 10) ∧ ((am_fI σ 10001 (x3.getD 0)) = (4 : Int32) → ∀ w6 : Int64, w6 = (if (am_fI σ 10001 (x3.getD 0)) = (4 : Int32) then (if 0 < (am_fI σ 10007 (x3.getD 0)) then (1 : Int64) else (0 : Int64)) else (0 : Int64)) → F w6 σ) ∧ (¬ ((am_fI σ 10001 (x3.getD 0)) = (4 : Int32)) → (am_is σ (some this) 2) ∧ (am_is σ (am_fR σ 2002 this) 3) ∧ ∀ σ10, σ10 = am_sfI σ 3006 ((am_fR σ 2002 this).getD 0) (2 : Int32) → (am_is σ10 (am_fR σ10 2002 this) 3) ∧ ∀ σ14, σ14 = am_sfI σ10 3007 ((am_fR σ10 2002 this).getD 0) (1 : Int32) → ∀ w20 : Int64, w20 = (if (am_fI σ14 10001 (x3.getD 0)) = (4 : Int32) then (if 0 < (am_fI σ14 10007 (x3.getD 0)) then (1 : Int64) else (0 : Int64)) else (0 : Int64)) → F w20 σ14)) : c_Wk_ask_502 nl Ln xs (d + 1) this x1 x2 x3 x4 x6 x7 x8 x9 σ F := by
  obtain ⟨j502, j503, j506, j507, j510, j511, j514, j515, j518, j519, j522, j523, j526, j527, j530, j531, j534, j535, j538, j541, j542, j545, j546, -⟩ := P_Wk_ask_502 nl Ln xs
  unfold c_Wk_ask_502
  refine s_aload_n j502 rfl rfl ?_
  obtain ⟨ho1, h⟩ := h
  refine s_gfI j503 rfl ho1 ?_
  refine s_iconst j506 rfl kc_ic_4 ?_
  refine s_ic j507 rfl rfl am_cc_eq (fun hc2 => ?_) (fun hc2 => ?_)
  · replace h := h.1 hc2
    refine s_aload_n j526 rfl rfl ?_
    refine s_gfI j527 rfl ho1 ?_
    refine s_iconst j530 rfl kc_ic_4 ?_
    have K5 : ∀ (w6 : Int64), w6 = (if (am_fI σ 10001 (x3.getD 0)) = (4 : Int32) then (if 0 < (am_fI σ 10007 (x3.getD 0)) then (1 : Int64) else (0 : Int64)) else (0 : Int64)) → am_C (TT nl Ln xs) (d + 1) 36 546 [some (am_ov (some this)), some (.int x1), some (.int x2), some (am_ov x3), some (.long x4), none, some (.int x6), some (.int x7), some (.int x8), some (.int x9), none, none, none, none, none] [.long w6] σ (am_qL F) := by
      intro w6 hw7
      replace h := h w6 hw7
      exact s_retL j546 rfl h
    refine s_icn j531 rfl rfl am_cc_ne (fun hc3 => ?_) (fun hc3 => ?_)
    · refine s_lconst j545 rfl rfl ?_
      exact K5 _ (am_t2 hc3 rfl)
    · refine s_aload_n j534 rfl rfl ?_
      refine s_gfI j535 rfl ho1 ?_
      refine s_ifn j538 rfl rfl am_cc_le (fun hc4 => ?_) (fun hc4 => ?_)
      · refine s_lconst j545 rfl rfl ?_
        exact K5 _ (am_t1 hc3 (am_t2 hc4 rfl))
      · refine s_lconst j541 rfl rfl ?_
        refine s_goto j542 rfl rfl ?_
        exact K5 _ (am_t1 hc3 (am_t1 hc4 rfl))
  · replace h := h.2 hc2
    refine s_aload_n j510 rfl rfl ?_
    obtain ⟨ho8, h⟩ := h
    refine s_gfR j511 rfl ho8 ?_
    refine s_iconst j514 rfl kc_ic_2 ?_
    obtain ⟨ho9, h⟩ := h
    refine s_pfI j515 rfl ho9 (fun σ10 e11 => ?_)
    replace h := h σ10 e11
    have ek12 : am_kd σ10 = am_kd σ := by rw [e11]
    refine s_aload_n j518 rfl rfl ?_
    refine s_gfR j519 rfl (am_is_kd ek12 ho8) ?_
    refine s_iconst j522 rfl kc_ic_1 ?_
    obtain ⟨ho13, h⟩ := h
    refine s_pfZ j523 rfl ho13 (Or.inr rfl) (fun σ14 e15 => ?_)
    replace h := h σ14 e15
    have ek16 : am_kd σ14 = am_kd σ10 := by rw [e15]
    refine s_aload_n j526 rfl rfl ?_
    refine s_gfI j527 rfl (am_is_kd ek16 (am_is_kd ek12 ho1)) ?_
    refine s_iconst j530 rfl kc_ic_4 ?_
    have K19 : ∀ (w20 : Int64), w20 = (if (am_fI σ14 10001 (x3.getD 0)) = (4 : Int32) then (if 0 < (am_fI σ14 10007 (x3.getD 0)) then (1 : Int64) else (0 : Int64)) else (0 : Int64)) → am_C (TT nl Ln xs) (d + 1) 36 546 [some (am_ov (some this)), some (.int x1), some (.int x2), some (am_ov x3), some (.long x4), none, some (.int x6), some (.int x7), some (.int x8), some (.int x9), none, none, none, none, none] [.long w20] σ14 (am_qL F) := by
      intro w20 hw21
      replace h := h w20 hw21
      exact s_retL j546 rfl h
    refine s_icn j531 rfl rfl am_cc_ne (fun hc17 => ?_) (fun hc17 => ?_)
    · refine s_lconst j545 rfl rfl ?_
      exact K19 _ (am_t2 hc17 rfl)
    · refine s_aload_n j534 rfl rfl ?_
      refine s_gfI j535 rfl (am_is_kd ek16 (am_is_kd ek12 ho1)) ?_
      refine s_ifn j538 rfl rfl am_cc_le (fun hc18 => ?_) (fun hc18 => ?_)
      · refine s_lconst j545 rfl rfl ?_
        exact K19 _ (am_t1 hc17 (am_t2 hc18 rfl))
      · refine s_lconst j541 rfl rfl ?_
        refine s_goto j542 rfl rfl ?_
        exact K19 _ (am_t1 hc17 (am_t1 hc18 rfl))
theorem P_Wk_ask_547 (nl : Bool) (Ln : Nat) (xs : Nat → Int32) : am_Jl (TT nl Ln xs) 36 [(547, .aload_n 0, 548, []), (548, .iconst 2, 549, []), (549, .iload 8, 551, []), (551, .invokevirtual 264, 554, [10, 37, 3, 3, 3]), (554, .ifCond .eq 9, 557, []), (557, .ldc2_w 271, 560, [6, 3]), (560, .goto 4, 563, []), (563, .lconst 0, 564, []), (564, .lreturn, 565, [2])] := dk_ck (by decide +kernel)
set_option maxRecDepth 4096 in
theorem w_Wk_ask_547 {nl : Bool} {Ln : Nat} {xs : Nat → Int32} {d : Nat} {this : Nat} {x1 : Int32} {x2 : Int32} {x3 : Option Nat} {x4 : Int64} {x6 : Int32} {x7 : Int32} {x8 : Int32} {x9 : Int32} {σ : am_S} {F : Int64 → am_S → Prop} (h : (am_is σ (some this) 2) ∧ k_Wk_lossIs nl Ln xs d this (2 : Int32) x8 σ (fun a3 σ2 => am_ext σ σ2 → ∀ w6 : Int64, w6 = (if a3 = true then (3 : Int64) else (0 : Int64)) → F w6 σ2)) : c_Wk_ask_547 nl Ln xs (d + 1) this x1 x2 x3 x4 x6 x7 x8 x9 σ F := by
  obtain ⟨j547, j548, j549, j551, j554, j557, j560, j563, j564, -⟩ := P_Wk_ask_547 nl Ln xs
  unfold c_Wk_ask_547
  refine s_aload_n j547 rfl rfl ?_
  refine s_iconst j548 rfl kc_ic_2 ?_
  refine s_iload j549 rfl rfl ?_
  obtain ⟨ho1, h⟩ := h
  refine s_virt j551 rfl rfl rfl rfl ho1 (by decide) (in_Wk_lossIs _ _ _) (am_r8 rfl) (am_bB h (fun a3 σ2 h hx2 => ?_))
  replace h := h hx2
  have K5 : ∀ (w6 : Int64), w6 = (if a3 = true then (3 : Int64) else (0 : Int64)) → am_C (TT nl Ln xs) (d + 1) 36 564 [some (am_ov (some this)), some (.int x1), some (.int x2), some (am_ov x3), some (.long x4), none, some (.int x6), some (.int x7), some (.int x8), some (.int x9), none, none, none, none, none] [.long w6] σ2 (am_qL F) := by
    intro w6 hw7
    replace h := h w6 hw7
    exact s_retL j564 rfl h
  refine s_ifn j554 rfl rfl am_cb_eq (fun hc4 => ?_) (fun hc4 => ?_)
  · refine s_lconst j563 rfl rfl ?_
    exact K5 _ (am_t2 hc4 rfl)
  · refine s_ldc2 j557 rfl kc_ll_3 ?_
    refine s_goto j560 rfl rfl ?_
    exact K5 _ (am_t1 hc4 rfl)
theorem P_Wk_ask_569 (nl : Bool) (Ln : Nat) (xs : Nat → Int32) : am_Jl (TT nl Ln xs) 36 [(569, .aload_n 0, 570, []), (570, .iconst 1, 571, []), (571, .iload 8, 573, []), (573, .invokevirtual 264, 576, [10, 37, 3, 3, 3]), (576, .ifCond .eq 9, 579, []), (579, .ldc2_w 275, 582, [6, 2]), (582, .goto 4, 585, []), (585, .lconst 0, 586, []), (586, .lreturn, 587, [2])] := dk_ck (by decide +kernel)
set_option maxRecDepth 4096 in
theorem w_Wk_ask_569 {nl : Bool} {Ln : Nat} {xs : Nat → Int32} {d : Nat} {this : Nat} {x1 : Int32} {x2 : Int32} {x3 : Option Nat} {x4 : Int64} {x6 : Int32} {x7 : Int32} {x8 : Int32} {x9 : Int32} {σ : am_S} {F : Int64 → am_S → Prop} (h : (am_is σ (some this) 2) ∧ k_Wk_lossIs nl Ln xs d this (1 : Int32) x8 σ (fun a3 σ2 => am_ext σ σ2 → ∀ w6 : Int64, w6 = (if a3 = true then (2 : Int64) else (0 : Int64)) → F w6 σ2)) : c_Wk_ask_569 nl Ln xs (d + 1) this x1 x2 x3 x4 x6 x7 x8 x9 σ F := by
  obtain ⟨j569, j570, j571, j573, j576, j579, j582, j585, j586, -⟩ := P_Wk_ask_569 nl Ln xs
  unfold c_Wk_ask_569
  refine s_aload_n j569 rfl rfl ?_
  refine s_iconst j570 rfl kc_ic_1 ?_
  refine s_iload j571 rfl rfl ?_
  obtain ⟨ho1, h⟩ := h
  refine s_virt j573 rfl rfl rfl rfl ho1 (by decide) (in_Wk_lossIs _ _ _) (am_r8 rfl) (am_bB h (fun a3 σ2 h hx2 => ?_))
  replace h := h hx2
  have K5 : ∀ (w6 : Int64), w6 = (if a3 = true then (2 : Int64) else (0 : Int64)) → am_C (TT nl Ln xs) (d + 1) 36 586 [some (am_ov (some this)), some (.int x1), some (.int x2), some (am_ov x3), some (.long x4), none, some (.int x6), some (.int x7), some (.int x8), some (.int x9), none, none, none, none, none] [.long w6] σ2 (am_qL F) := by
    intro w6 hw7
    replace h := h w6 hw7
    exact s_retL j586 rfl h
  refine s_ifn j576 rfl rfl am_cb_eq (fun hc4 => ?_) (fun hc4 => ?_)
  · refine s_lconst j585 rfl rfl ?_
    exact K5 _ (am_t2 hc4 rfl)
  · refine s_ldc2 j579 rfl kc_ll_2 ?_
    refine s_goto j582 rfl rfl ?_
    exact K5 _ (am_t1 hc4 rfl)
theorem P_Wk_ask_589 (nl : Bool) (Ln : Nat) (xs : Nat → Int32) : am_Jl (TT nl Ln xs) 36 [(589, .aload_n 0, 590, []), (590, .iconst 2, 591, []), (591, .iload 8, 593, []), (593, .invokevirtual 264, 596, [10, 37, 3, 3, 3]), (596, .ifCond .eq 7, 599, []), (599, .lconst 0, 600, []), (600, .goto 13, 603, []), (603, .aload_n 0, 604, []), (604, .iconst 2, 605, []), (605, .iconst 2, 606, []), (606, .aload_n 3, 607, []), (607, .lconst 0, 608, []), (608, .iload 8, 610, []), (610, .invokevirtual 144, 613, [10, 36, 3, 15, 6]), (613, .lreturn, 614, [2])] := dk_ck (by decide +kernel)
set_option maxRecDepth 4096 in
theorem w_Wk_ask_589 {nl : Bool} {Ln : Nat} {xs : Nat → Int32} {d : Nat} {this : Nat} {x1 : Int32} {x2 : Int32} {x3 : Option Nat} {x4 : Int64} {x6 : Int32} {x7 : Int32} {x8 : Int32} {x9 : Int32} {σ : am_S} {F : Int64 → am_S → Prop} (h : (am_is σ (some this) 2) ∧ k_Wk_lossIs nl Ln xs d this (2 : Int32) x8 σ (fun a3 σ2 => am_ext σ σ2 → (a3 = true → F (0 : Int64) σ2) ∧ (¬ (a3 = true) → k_Wk_ask nl Ln xs d this (2 : Int32) (2 : Int32) x3 (0 : Int64) x8 σ2 (fun a6 σ5 => am_ext σ2 σ5 → F a6 σ5)))) : c_Wk_ask_589 nl Ln xs (d + 1) this x1 x2 x3 x4 x6 x7 x8 x9 σ F := by
  obtain ⟨j589, j590, j591, j593, j596, j599, j600, j603, j604, j605, j606, j607, j608, j610, j613, -⟩ := P_Wk_ask_589 nl Ln xs
  unfold c_Wk_ask_589
  refine s_aload_n j589 rfl rfl ?_
  refine s_iconst j590 rfl kc_ic_2 ?_
  refine s_iload j591 rfl rfl ?_
  obtain ⟨ho1, h⟩ := h
  refine s_virt j593 rfl rfl rfl rfl ho1 (by decide) (in_Wk_lossIs _ _ _) (am_r8 rfl) (am_bB h (fun a3 σ2 h hx2 => ?_))
  replace h := h hx2
  refine s_ifn j596 rfl rfl am_cb_eq (fun hc4 => ?_) (fun hc4 => ?_)
  · replace h := h.2 hc4
    refine s_aload_n j603 rfl rfl ?_
    refine s_iconst j604 rfl kc_ic_2 ?_
    refine s_iconst j605 rfl kc_ic_2 ?_
    refine s_aload_n j606 rfl rfl ?_
    refine s_lconst j607 rfl rfl ?_
    refine s_iload j608 rfl rfl ?_
    refine s_virt j610 rfl rfl rfl rfl (am_is_ext hx2 ho1) (by decide) (in_Wk_ask _ _ _ _ _ _) (am_r8 rfl) (am_bL h (fun a6 σ5 h hx5 => ?_))
    replace h := h hx5
    exact s_retL j613 rfl h
  · replace h := h.1 hc4
    refine s_lconst j599 rfl rfl ?_
    refine s_goto j600 rfl rfl ?_
    exact s_retL j613 rfl h
theorem P_Wk_ask_614 (nl : Bool) (Ln : Nat) (xs : Nat → Int32) : am_Jl (TT nl Ln xs) 36 [(614, .aload_n 0, 615, []), (615, .iconst 2, 616, []), (616, .iload 8, 618, []), (618, .invokevirtual 264, 621, [10, 37, 3, 3, 3]), (621, .ifCond .eq 9, 624, []), (624, .ldc2_w 277, 627, [6, 10]), (627, .goto 13, 630, []), (630, .aload_n 0, 631, []), (631, .iconst 3, 632, []), (632, .iconst 1, 633, []), (633, .aload_n 3, 634, []), (634, .lconst 0, 635, []), (635, .iload 8, 637, []), (637, .invokevirtual 144, 640, [10, 36, 3, 15, 6]), (640, .lreturn, 641, [2])] := dk_ck (by decide +kernel)
set_option maxRecDepth 4096 in
theorem w_Wk_ask_614 {nl : Bool} {Ln : Nat} {xs : Nat → Int32} {d : Nat} {this : Nat} {x1 : Int32} {x2 : Int32} {x3 : Option Nat} {x4 : Int64} {x6 : Int32} {x7 : Int32} {x8 : Int32} {x9 : Int32} {σ : am_S} {F : Int64 → am_S → Prop} (h : (am_is σ (some this) 2) ∧ k_Wk_lossIs nl Ln xs d this (2 : Int32) x8 σ (fun a3 σ2 => am_ext σ σ2 → (a3 = true → F (10 : Int64) σ2) ∧ (¬ (a3 = true) → k_Wk_ask nl Ln xs d this (3 : Int32) (1 : Int32) x3 (0 : Int64) x8 σ2 (fun a6 σ5 => am_ext σ2 σ5 → F a6 σ5)))) : c_Wk_ask_614 nl Ln xs (d + 1) this x1 x2 x3 x4 x6 x7 x8 x9 σ F := by
  obtain ⟨j614, j615, j616, j618, j621, j624, j627, j630, j631, j632, j633, j634, j635, j637, j640, -⟩ := P_Wk_ask_614 nl Ln xs
  unfold c_Wk_ask_614
  refine s_aload_n j614 rfl rfl ?_
  refine s_iconst j615 rfl kc_ic_2 ?_
  refine s_iload j616 rfl rfl ?_
  obtain ⟨ho1, h⟩ := h
  refine s_virt j618 rfl rfl rfl rfl ho1 (by decide) (in_Wk_lossIs _ _ _) (am_r8 rfl) (am_bB h (fun a3 σ2 h hx2 => ?_))
  replace h := h hx2
  refine s_ifn j621 rfl rfl am_cb_eq (fun hc4 => ?_) (fun hc4 => ?_)
  · replace h := h.2 hc4
    refine s_aload_n j630 rfl rfl ?_
    refine s_iconst j631 rfl kc_ic_3 ?_
    refine s_iconst j632 rfl kc_ic_1 ?_
    refine s_aload_n j633 rfl rfl ?_
    refine s_lconst j634 rfl rfl ?_
    refine s_iload j635 rfl rfl ?_
    refine s_virt j637 rfl rfl rfl rfl (am_is_ext hx2 ho1) (by decide) (in_Wk_ask _ _ _ _ _ _) (am_r8 rfl) (am_bL h (fun a6 σ5 h hx5 => ?_))
    replace h := h hx5
    exact s_retL j640 rfl h
  · replace h := h.1 hc4
    refine s_ldc2 j624 rfl kc_ll_10 ?_
    refine s_goto j627 rfl rfl ?_
    exact s_retL j640 rfl h
theorem P_Wk_ask_641 (nl : Bool) (Ln : Nat) (xs : Nat → Int32) : am_Jl (TT nl Ln xs) 36 [(641, .ldc2_w 279, 644, [6, 5]), (644, .aload_n 0, 645, []), (645, .iconst 3, 646, []), (646, .bipush 6, 648, []), (648, .aload_n 3, 649, []), (649, .lconst 0, 650, []), (650, .iload 8, 652, []), (652, .invokevirtual 144, 655, [10, 36, 3, 15, 6]), (655, .ladd, 656, []), (656, .lreturn, 657, [2])] := dk_ck (by decide +kernel)
set_option maxRecDepth 4096 in
theorem w_Wk_ask_641 {nl : Bool} {Ln : Nat} {xs : Nat → Int32} {d : Nat} {this : Nat} {x1 : Int32} {x2 : Int32} {x3 : Option Nat} {x4 : Int64} {x6 : Int32} {x7 : Int32} {x8 : Int32} {x9 : Int32} {σ : am_S} {F : Int64 → am_S → Prop} (h : (am_is σ (some this) 2) ∧ k_Wk_ask nl Ln xs d this (3 : Int32) (6 : Int32) x3 (0 : Int64) x8 σ (fun a3 σ2 => am_ext σ σ2 → F ((5 : Int64) + a3) σ2)) : c_Wk_ask_641 nl Ln xs (d + 1) this x1 x2 x3 x4 x6 x7 x8 x9 σ F := by
  obtain ⟨j641, j644, j645, j646, j648, j649, j650, j652, j655, j656, -⟩ := P_Wk_ask_641 nl Ln xs
  unfold c_Wk_ask_641
  refine s_ldc2 j641 rfl kc_ll_5 ?_
  refine s_aload_n j644 rfl rfl ?_
  refine s_iconst j645 rfl kc_ic_3 ?_
  refine s_bipush j646 rfl kc_bi_6 ?_
  refine s_aload_n j648 rfl rfl ?_
  refine s_lconst j649 rfl rfl ?_
  refine s_iload j650 rfl rfl ?_
  obtain ⟨ho1, h⟩ := h
  refine s_virt j652 rfl rfl rfl rfl ho1 (by decide) (in_Wk_ask _ _ _ _ _ _) (am_r8 rfl) (am_bL h (fun a3 σ2 h hx2 => ?_))
  replace h := h hx2
  refine s_g j655 rfl rfl rfl rfl rfl rfl ?_
  exact s_retL j656 rfl h
theorem P_Wk_ask_663 (nl : Bool) (Ln : Nat) (xs : Nat → Int32) : am_Jl (TT nl Ln xs) 36 [(663, .iload 12, 665, []), (665, .aload_n 0, 666, []), (666, .getfield 18, 669, [9, 2, 13, 2]), (669, .arraylength, 670, []), (670, .if_icmp .ge 77, 673, []), (673, .aload_n 0, 674, []), (674, .getfield 18, 677, [9, 2, 13, 2]), (677, .iload 12, 679, []), (679, .laload, 680, []), (680, .lload 4, 682, []), (682, .lcmp, 683, []), (683, .ifCond .ge 13, 686, []), (686, .aload_n 0, 687, []), (687, .getfield 18, 690, [9, 2, 13, 2]), (690, .iload 12, 692, []), (692, .laload, 693, []), (693, .goto 5, 696, []), (696, .lload 4, 698, []), (747, .lload 10, 749, []), (749, .lreturn, 750, [2])] := dk_ck (by decide +kernel)
set_option maxRecDepth 4096 in
theorem w_Wk_ask_663 {nl : Bool} {Ln : Nat} {xs : Nat → Int32} {d : Nat} {this : Nat} {x1 : Int32} {x2 : Int32} {x3 : Option Nat} {x4 : Int64} {x6 : Int32} {x7 : Int32} {x8 : Int32} {x9 : Int32} {x10 : Int64} {x12 : Int32} {x13 : Option Value} {x14 : Option Value} {σ : am_S} {F : Int64 → am_S → Prop} (h : (am_is σ (some this) 2) ∧ (∃ n, (am_fR σ 2013 this) = some n ∧ (am_kd σ n).1 = 1001) ∧ (x12 < (Int32.ofNat (am_kd σ ((am_fR σ 2013 this).getD 0)).2) → (am_ar σ 1001 (am_fR σ 2013 this) x12) ∧ (((am_aL σ ((am_fR σ 2013 this).getD 0) x12.toNatClampNeg) < x4) → am_ar σ 1001 (am_fR σ 2013 this) x12) ∧ ∀ w8 : Int64, w8 = (if (am_aL σ ((am_fR σ 2013 this).getD 0) x12.toNatClampNeg) < x4 then (am_aL σ ((am_fR σ 2013 this).getD 0) x12.toNatClampNeg) else x4) → c_Wk_ask_698 nl Ln xs (d + 1) this x1 x2 x3 x4 x6 x7 x8 x9 x10 x12 x13 x14 w8 σ F) ∧ (¬ (x12 < (Int32.ofNat (am_kd σ ((am_fR σ 2013 this).getD 0)).2)) → F x10 σ)) : c_Wk_ask_663 nl Ln xs (d + 1) this x1 x2 x3 x4 x6 x7 x8 x9 x10 x12 x13 x14 σ F := by
  obtain ⟨j663, j665, j666, j669, j670, j673, j674, j677, j679, j680, j682, j683, j686, j687, j690, j692, j693, j696, j747, j749, -⟩ := P_Wk_ask_663 nl Ln xs
  unfold c_Wk_ask_663
  refine s_iload j663 rfl rfl ?_
  refine s_aload_n j665 rfl rfl ?_
  obtain ⟨ho1, h⟩ := h
  refine s_gfR j666 rfl ho1 ?_
  obtain ⟨ho2, h⟩ := h
  refine s_len (k := 1001) kn_1001 (by decide) j669 rfl ho2 ?_
  refine s_icn j670 rfl rfl am_cc_ge (fun hc3 => ?_) (fun hc3 => ?_)
  · replace h := h.2 hc3
    refine s_lload j747 rfl rfl ?_
    exact s_retL j749 rfl h
  · replace h := h.1 hc3
    refine s_aload_n j673 rfl rfl ?_
    refine s_gfR j674 rfl ho1 ?_
    refine s_iload j677 rfl rfl ?_
    obtain ⟨ho4, h⟩ := h
    refine s_laload j679 rfl ho4 ?_
    refine s_lload j680 rfl rfl ?_
    refine s_g j682 rfl rfl rfl rfl rfl rfl ?_
    obtain ⟨ho6, h⟩ := h
    have K7 : ∀ (w8 : Int64), w8 = (if (am_aL σ ((am_fR σ 2013 this).getD 0) x12.toNatClampNeg) < x4 then (am_aL σ ((am_fR σ 2013 this).getD 0) x12.toNatClampNeg) else x4) → am_C (TT nl Ln xs) (d + 1) 36 698 [some (am_ov (some this)), some (.int x1), some (.int x2), some (am_ov x3), some (.long x4), none, some (.int x6), some (.int x7), some (.int x8), some (.int x9), some (.long x10), none, some (.int x12), x13, x14] [.long w8] σ (am_qL F) := by
      intro w8 hw9
      replace h := h w8 hw9
      exact h
    refine s_ifn j683 rfl rfl am_cl_ge (fun hc5 => ?_) (fun hc5 => ?_)
    · refine s_lload j696 rfl rfl ?_
      exact K7 _ (am_t2 hc5 rfl)
    · refine s_aload_n j686 rfl rfl ?_
      refine s_gfR j687 rfl ho1 ?_
      refine s_iload j690 rfl rfl ?_
      refine s_laload j692 rfl (ho6 hc5) ?_
      refine s_goto j693 rfl rfl ?_
      exact K7 _ (am_t1 hc5 rfl)
theorem P_Wk_ask_698 (nl : Bool) (Ln : Nat) (xs : Nat → Int32) : am_Jl (TT nl Ln xs) 36 [(698, .lstore 13, 700, []), (700, .lload 10, 702, []), (702, .iload 7, 704, []), (704, .bipush 10, 706, []), (706, .if_icmp .ne 30, 709, []), (709, .aload_n 0, 710, []), (710, .getfield 18, 713, [9, 2, 13, 2]), (713, .iload 12, 715, []), (715, .iconst 1, 716, []), (716, .iadd, 717, []), (717, .laload, 718, []), (718, .lload 13, 720, []), (720, .lcmp, 721, []), (721, .ifCond .ge 15, 724, []), (724, .aload_n 0, 725, []), (725, .getfield 18, 728, [9, 2, 13, 2]), (728, .iload 12, 730, []), (730, .iconst 1, 731, []), (731, .iadd, 732, []), (732, .laload, 733, []), (733, .goto 5, 736, []), (736, .lload 13, 738, []), (738, .ladd, 739, []), (739, .lstore 10, 741, []), (741, .iinc 12 2, 744, []), (744, .goto (-81), 747, [])] := dk_ck (by decide +kernel)
set_option maxRecDepth 4096 in
theorem w_Wk_ask_698 {nl : Bool} {Ln : Nat} {xs : Nat → Int32} {d : Nat} {this : Nat} {x1 : Int32} {x2 : Int32} {x3 : Option Nat} {x4 : Int64} {x6 : Int32} {x7 : Int32} {x8 : Int32} {x9 : Int32} {x10 : Int64} {x12 : Int32} {x13 : Option Value} {x14 : Option Value} {y0 : Int64} {σ : am_S} {F : Int64 → am_S → Prop} (h : ((x7 = (10 : Int32)) → am_is σ (some this) 2) ∧ ((x7 = (10 : Int32)) → am_ar σ 1001 (am_fR σ 2013 this) (x12 + (1 : Int32))) ∧ ((x7 = (10 : Int32)) → ((am_aL σ ((am_fR σ 2013 this).getD 0) (x12 + (1 : Int32)).toNatClampNeg) < y0) → am_is σ (some this) 2) ∧ ((x7 = (10 : Int32)) → ((am_aL σ ((am_fR σ 2013 this).getD 0) (x12 + (1 : Int32)).toNatClampNeg) < y0) → am_ar σ 1001 (am_fR σ 2013 this) (x12 + (1 : Int32))) ∧ ∀ w8 : Int64, w8 = (if x7 = (10 : Int32) then (if (am_aL σ ((am_fR σ 2013 this).getD 0) (x12 + (1 : Int32)).toNatClampNeg) < y0 then (am_aL σ ((am_fR σ 2013 this).getD 0) (x12 + (1 : Int32)).toNatClampNeg) else y0) else y0) → ∀ v10 : Int64, v10 = (x10 + w8) → c_Wk_ask_663 nl Ln xs (d + 1) this x1 x2 x3 x4 x6 x7 x8 x9 v10 (x12 + (2 : Int32)) (some (.long y0)) none σ F) : c_Wk_ask_698 nl Ln xs (d + 1) this x1 x2 x3 x4 x6 x7 x8 x9 x10 x12 x13 x14 y0 σ F := by
  obtain ⟨j698, j700, j702, j704, j706, j709, j710, j713, j715, j716, j717, j718, j720, j721, j724, j725, j728, j730, j731, j732, j733, j736, j738, j739, j741, j744, -⟩ := P_Wk_ask_698 nl Ln xs
  unfold c_Wk_ask_698
  refine s_lstore j698 rfl (n := 15) (L' := [some (am_ov (some this)), some (.int x1), some (.int x2), some (am_ov x3), some (.long x4), none, some (.int x6), some (.int x7), some (.int x8), some (.int x9), some (.long x10), none, some (.int x12), some (.long y0), none]) rfl (by decide) rfl ?_
  refine s_lload j700 rfl rfl ?_
  refine s_iload j702 rfl rfl ?_
  refine s_bipush j704 rfl kc_bi_10 ?_
  obtain ⟨ho2, h⟩ := h
  obtain ⟨ho3, h⟩ := h
  obtain ⟨ho5, h⟩ := h
  obtain ⟨ho6, h⟩ := h
  have K7 : ∀ (w8 : Int64), w8 = (if x7 = (10 : Int32) then (if (am_aL σ ((am_fR σ 2013 this).getD 0) (x12 + (1 : Int32)).toNatClampNeg) < y0 then (am_aL σ ((am_fR σ 2013 this).getD 0) (x12 + (1 : Int32)).toNatClampNeg) else y0) else y0) → am_C (TT nl Ln xs) (d + 1) 36 738 [some (am_ov (some this)), some (.int x1), some (.int x2), some (am_ov x3), some (.long x4), none, some (.int x6), some (.int x7), some (.int x8), some (.int x9), some (.long x10), none, some (.int x12), some (.long y0), none] [.long w8, .long x10] σ (am_qL F) := by
    intro w8 hw9
    replace h := h w8 hw9
    refine s_g j738 rfl rfl rfl rfl rfl rfl ?_
    refine s_lstoreV j739 rfl (n := 15) (L' := fun w => [some (am_ov (some this)), some (.int x1), some (.int x2), some (am_ov x3), some (.long x4), none, some (.int x6), some (.int x7), some (.int x8), some (.int x9), some (.long w), none, some (.int x12), some (.long y0), none]) rfl (by decide) (fun _ => rfl) (fun v10 hv11 => ?_)
    replace h := h v10 hv11
    refine s_iinc (L' := [some (am_ov (some this)), some (.int x1), some (.int x2), some (am_ov x3), some (.long x4), none, some (.int x6), some (.int x7), some (.int x8), some (.int x9), some (.long v10), none, some (.int (x12 + (2 : Int32))), some (.long y0), none]) j741 rfl rfl kc_ic_2 rfl ?_
    refine s_goto j744 rfl rfl ?_
    exact h
  refine s_icn j706 rfl rfl am_cc_ne (fun hc1 => ?_) (fun hc1 => ?_)
  · refine s_lload j736 rfl rfl ?_
    exact K7 _ (am_t2 hc1 rfl)
  · refine s_aload_n j709 rfl rfl ?_
    refine s_gfR j710 rfl (ho2 hc1) ?_
    refine s_iload j713 rfl rfl ?_
    refine s_iconst j715 rfl kc_ic_1 ?_
    refine s_g j716 rfl rfl rfl rfl rfl rfl ?_
    refine s_laload j717 rfl (ho3 hc1) ?_
    refine s_lload j718 rfl rfl ?_
    refine s_g j720 rfl rfl rfl rfl rfl rfl ?_
    refine s_ifn j721 rfl rfl am_cl_ge (fun hc4 => ?_) (fun hc4 => ?_)
    · refine s_lload j736 rfl rfl ?_
      exact K7 _ (am_t1 hc1 (am_t2 hc4 rfl))
    · refine s_aload_n j724 rfl rfl ?_
      refine s_gfR j725 rfl (ho5 hc1 hc4) ?_
      refine s_iload j728 rfl rfl ?_
      refine s_iconst j730 rfl kc_ic_1 ?_
      refine s_g j731 rfl rfl rfl rfl rfl rfl ?_
      refine s_laload j732 rfl (ho6 hc1 hc4) ?_
      refine s_goto j733 rfl rfl ?_
      exact K7 _ (am_t1 hc1 (am_t1 hc4 rfl))
theorem P_Wk_ask_750 (nl : Bool) (Ln : Nat) (xs : Nat → Int32) : am_Jl (TT nl Ln xs) 36 [(750, .aload_n 0, 751, []), (751, .iconst 4, 752, []), (752, .bipush 10, 754, []), (754, .aload_n 3, 755, []), (755, .lload 4, 757, []), (757, .iload 8, 759, []), (759, .invokevirtual 144, 762, [10, 36, 3, 15, 6]), (762, .ldc2_w 170, 765, [6, 100]), (765, .ldiv, 766, []), (766, .ldc2_w 170, 769, [6, 100]), (769, .lmul, 770, []), (770, .lreturn, 771, [2])] := dk_ck (by decide +kernel)
set_option maxRecDepth 4096 in
theorem w_Wk_ask_750 {nl : Bool} {Ln : Nat} {xs : Nat → Int32} {d : Nat} {this : Nat} {x1 : Int32} {x2 : Int32} {x3 : Option Nat} {x4 : Int64} {x6 : Int32} {x7 : Int32} {x8 : Int32} {x9 : Int32} {σ : am_S} {F : Int64 → am_S → Prop} (h : (am_is σ (some this) 2) ∧ k_Wk_ask nl Ln xs d this (4 : Int32) (10 : Int32) x3 x4 x8 σ (fun a3 σ2 => am_ext σ σ2 → F ((a3 / (100 : Int64)) * (100 : Int64)) σ2)) : c_Wk_ask_750 nl Ln xs (d + 1) this x1 x2 x3 x4 x6 x7 x8 x9 σ F := by
  obtain ⟨j750, j751, j752, j754, j755, j757, j759, j762, j765, j766, j769, j770, -⟩ := P_Wk_ask_750 nl Ln xs
  unfold c_Wk_ask_750
  refine s_aload_n j750 rfl rfl ?_
  refine s_iconst j751 rfl kc_ic_4 ?_
  refine s_bipush j752 rfl kc_bi_10 ?_
  refine s_aload_n j754 rfl rfl ?_
  refine s_lload j755 rfl rfl ?_
  refine s_iload j757 rfl rfl ?_
  obtain ⟨ho1, h⟩ := h
  refine s_virt j759 rfl rfl rfl rfl ho1 (by decide) (in_Wk_ask _ _ _ _ _ _) (am_r8 rfl) (am_bL h (fun a3 σ2 h hx2 => ?_))
  replace h := h hx2
  refine s_ldc2 j762 rfl kc_ll_100 ?_
  refine s_ldiv j765 rfl (by decide) ?_
  refine s_ldc2 j766 rfl kc_ll_100 ?_
  refine s_g j769 rfl rfl rfl rfl rfl rfl ?_
  exact s_retL j770 rfl h
theorem P_Wk_ask_771 (nl : Bool) (Ln : Nat) (xs : Nat → Int32) : am_Jl (TT nl Ln xs) 36 [(771, .aload_n 0, 772, []), (772, .iconst 4, 773, []), (773, .iload 9, 775, []), (775, .aload_n 3, 776, []), (776, .getfield 261, 779, [9, 10, 3, 2]), (779, .lload 4, 781, []), (781, .iload 8, 783, []), (783, .invokevirtual 144, 786, [10, 36, 3, 15, 6]), (786, .aload_n 3, 787, []), (787, .getfield 281, 790, [9, 10, 4, 0]), (790, .i2l, 791, []), (791, .lmul, 792, []), (792, .ldc2_w 170, 795, [6, 100]), (795, .ldiv, 796, []), (796, .lreturn, 797, [2])] := dk_ck (by decide +kernel)
set_option maxRecDepth 4096 in
theorem w_Wk_ask_771 {nl : Bool} {Ln : Nat} {xs : Nat → Int32} {d : Nat} {this : Nat} {x1 : Int32} {x2 : Int32} {x3 : Option Nat} {x4 : Int64} {x6 : Int32} {x7 : Int32} {x8 : Int32} {x9 : Int32} {σ : am_S} {F : Int64 → am_S → Prop} (h : (am_is σ x3 10) ∧ (am_is σ (some this) 2) ∧ k_Wk_ask nl Ln xs d this (4 : Int32) x9 (am_fR σ 10003 (x3.getD 0)) x4 x8 σ (fun a4 σ3 => am_ext σ σ3 → F ((a4 * (am_fI σ3 10004 (x3.getD 0)).toInt64) / (100 : Int64)) σ3)) : c_Wk_ask_771 nl Ln xs (d + 1) this x1 x2 x3 x4 x6 x7 x8 x9 σ F := by
  obtain ⟨j771, j772, j773, j775, j776, j779, j781, j783, j786, j787, j790, j791, j792, j795, j796, -⟩ := P_Wk_ask_771 nl Ln xs
  unfold c_Wk_ask_771
  refine s_aload_n j771 rfl rfl ?_
  refine s_iconst j772 rfl kc_ic_4 ?_
  refine s_iload j773 rfl rfl ?_
  refine s_aload_n j775 rfl rfl ?_
  obtain ⟨ho1, h⟩ := h
  refine s_gfR j776 rfl ho1 ?_
  refine s_lload j779 rfl rfl ?_
  refine s_iload j781 rfl rfl ?_
  obtain ⟨ho2, h⟩ := h
  refine s_virt j783 rfl rfl rfl rfl ho2 (by decide) (in_Wk_ask _ _ _ _ _ _) (am_r8 rfl) (am_bL h (fun a4 σ3 h hx3 => ?_))
  replace h := h hx3
  refine s_aload_n j786 rfl rfl ?_
  refine s_gfI j787 rfl (am_is_ext hx3 ho1) ?_
  refine s_g j790 rfl rfl rfl rfl rfl rfl ?_
  refine s_g j791 rfl rfl rfl rfl rfl rfl ?_
  refine s_ldc2 j792 rfl kc_ll_100 ?_
  refine s_ldiv j795 rfl (by decide) ?_
  exact s_retL j796 rfl h
theorem P_Wk_ask_797 (nl : Bool) (Ln : Nat) (xs : Nat → Int32) : am_Jl (TT nl Ln xs) 36 [(797, .aload_n 3, 798, []), (798, .getfield 137, 801, [9, 10, 1, 0]), (801, .i2l, 802, []), (802, .lload 4, 804, []), (804, .lcmp, 805, []), (805, .ifCond .ne 7, 808, []), (808, .lconst 1, 809, []), (809, .goto 4, 812, []), (812, .lconst 0, 813, []), (813, .lreturn, 814, [2])] := dk_ck (by decide +kernel)
set_option maxRecDepth 4096 in
theorem w_Wk_ask_797 {nl : Bool} {Ln : Nat} {xs : Nat → Int32} {d : Nat} {this : Nat} {x1 : Int32} {x2 : Int32} {x3 : Option Nat} {x4 : Int64} {x6 : Int32} {x7 : Int32} {x8 : Int32} {x9 : Int32} {σ : am_S} {F : Int64 → am_S → Prop} (h : (am_is σ x3 10) ∧ ∀ w4 : Int64, w4 = (if (am_fI σ 10001 (x3.getD 0)).toInt64 = x4 then (1 : Int64) else (0 : Int64)) → F w4 σ) : c_Wk_ask_797 nl Ln xs (d + 1) this x1 x2 x3 x4 x6 x7 x8 x9 σ F := by
  obtain ⟨j797, j798, j801, j802, j804, j805, j808, j809, j812, j813, -⟩ := P_Wk_ask_797 nl Ln xs
  unfold c_Wk_ask_797
  refine s_aload_n j797 rfl rfl ?_
  obtain ⟨ho1, h⟩ := h
  refine s_gfI j798 rfl ho1 ?_
  refine s_g j801 rfl rfl rfl rfl rfl rfl ?_
  refine s_lload j802 rfl rfl ?_
  refine s_g j804 rfl rfl rfl rfl rfl rfl ?_
  have K3 : ∀ (w4 : Int64), w4 = (if (am_fI σ 10001 (x3.getD 0)).toInt64 = x4 then (1 : Int64) else (0 : Int64)) → am_C (TT nl Ln xs) (d + 1) 36 813 [some (am_ov (some this)), some (.int x1), some (.int x2), some (am_ov x3), some (.long x4), none, some (.int x6), some (.int x7), some (.int x8), some (.int x9), none, none, none, none, none] [.long w4] σ (am_qL F) := by
    intro w4 hw5
    replace h := h w4 hw5
    exact s_retL j813 rfl h
  refine s_ifn j805 rfl rfl am_cl_ne (fun hc2 => ?_) (fun hc2 => ?_)
  · refine s_lconst j812 rfl rfl ?_
    exact K3 _ (am_t2 hc2 rfl)
  · refine s_lconst j808 rfl rfl ?_
    refine s_goto j809 rfl rfl ?_
    exact K3 _ (am_t1 hc2 rfl)
theorem P_Wk_ask_820 (nl : Bool) (Ln : Nat) (xs : Nat → Int32) : am_Jl (TT nl Ln xs) 36 [(820, .iload 11, 822, []), (822, .aload_n 3, 823, []), (823, .getfield 268, 826, [9, 10, 7, 0]), (826, .if_icmp .ge 39, 829, []), (829, .lload 4, 831, []), (831, .lconst 1, 832, []), (832, .lcmp, 833, []), (833, .ifCond .ne 32, 836, []), (836, .iload 10, 838, []), (838, .ifCond .ne 14, 841, []), (841, .aload_n 3, 842, []), (842, .getfield 284, 845, [9, 10, 5, 2]), (845, .iload 11, 847, []), (847, .iaload, 848, []), (848, .iconst 3, 849, []), (849, .if_icmp .ne 7, 852, []), (852, .iconst 1, 853, []), (853, .goto 4, 856, []), (856, .iconst 0, 857, []), (857, .istore 10, 859, []), (859, .iinc 11 1, 862, []), (862, .goto (-42), 865, [])] := dk_ck (by decide +kernel)
set_option maxRecDepth 4096 in
theorem w_Wk_ask_820 {nl : Bool} {Ln : Nat} {xs : Nat → Int32} {d : Nat} {this : Nat} {x1 : Int32} {x2 : Int32} {x3 : Option Nat} {x4 : Int64} {x6 : Int32} {x7 : Int32} {x8 : Int32} {x9 : Int32} {x10 : Int32} {x11 : Int32} {σ : am_S} {F : Int64 → am_S → Prop} (h : (am_is σ x3 10) ∧ (x11 < (am_fI σ 10007 (x3.getD 0)) → (x4 = (1 : Int64) → ((x10 = 0) → am_ar σ 1000 (am_fR σ 10005 (x3.getD 0)) x11) ∧ c_Wk_ask_820 nl Ln xs (d + 1) this x1 x2 x3 x4 x6 x7 x8 x9 (if ¬ (x10 = 0) ∨ ((am_aI σ ((am_fR σ 10005 (x3.getD 0)).getD 0) x11.toNatClampNeg) = (3 : Int32)) then (1 : Int32) else 0) (x11 + (1 : Int32)) σ F) ∧ (¬ (x4 = (1 : Int64)) → c_Wk_ask_865 nl Ln xs (d + 1) this x1 x2 x3 x4 x6 x7 x8 x9 x10 x11 σ F)) ∧ (¬ (x11 < (am_fI σ 10007 (x3.getD 0))) → c_Wk_ask_865 nl Ln xs (d + 1) this x1 x2 x3 x4 x6 x7 x8 x9 x10 x11 σ F)) : c_Wk_ask_820 nl Ln xs (d + 1) this x1 x2 x3 x4 x6 x7 x8 x9 x10 x11 σ F := by
  obtain ⟨j820, j822, j823, j826, j829, j831, j832, j833, j836, j838, j841, j842, j845, j847, j848, j849, j852, j853, j856, j857, j859, j862, -⟩ := P_Wk_ask_820 nl Ln xs
  unfold c_Wk_ask_820
  refine s_iload j820 rfl rfl ?_
  refine s_aload_n j822 rfl rfl ?_
  obtain ⟨ho1, h⟩ := h
  refine s_gfI j823 rfl ho1 ?_
  refine s_icn j826 rfl rfl am_cc_ge (fun hc2 => ?_) (fun hc2 => ?_)
  · replace h := h.2 hc2
    exact h
  · replace h := h.1 hc2
    refine s_lload j829 rfl rfl ?_
    refine s_lconst j831 rfl rfl ?_
    refine s_g j832 rfl rfl rfl rfl rfl rfl ?_
    refine s_ifn j833 rfl rfl am_cl_ne (fun hc3 => ?_) (fun hc3 => ?_)
    · replace h := h.2 hc3
      exact h
    · replace h := h.1 hc3
      refine s_iload j836 rfl rfl ?_
      obtain ⟨ho5, h⟩ := h
      have K7 : ∀ (w8 : Int32), w8 = (if ¬ (x10 = 0) ∨ ((am_aI σ ((am_fR σ 10005 (x3.getD 0)).getD 0) x11.toNatClampNeg) = (3 : Int32)) then (1 : Int32) else 0) → am_C (TT nl Ln xs) (d + 1) 36 857 [some (am_ov (some this)), some (.int x1), some (.int x2), some (am_ov x3), some (.long x4), none, some (.int x6), some (.int x7), some (.int x8), some (.int x9), some (.int x10), some (.int x11), none, none, none] [.int w8] σ (am_qL F) := by
        intro w8 hw9
        subst hw9
        refine s_istore j857 rfl (n := 15) (L' := [some (am_ov (some this)), some (.int x1), some (.int x2), some (am_ov x3), some (.long x4), none, some (.int x6), some (.int x7), some (.int x8), some (.int x9), some (.int (if ¬ (x10 = 0) ∨ ((am_aI σ ((am_fR σ 10005 (x3.getD 0)).getD 0) x11.toNatClampNeg) = (3 : Int32)) then (1 : Int32) else 0)), some (.int x11), none, none, none]) rfl (by decide) rfl ?_
        refine s_iinc (L' := [some (am_ov (some this)), some (.int x1), some (.int x2), some (am_ov x3), some (.long x4), none, some (.int x6), some (.int x7), some (.int x8), some (.int x9), some (.int (if ¬ (x10 = 0) ∨ ((am_aI σ ((am_fR σ 10005 (x3.getD 0)).getD 0) x11.toNatClampNeg) = (3 : Int32)) then (1 : Int32) else 0)), some (.int (x11 + (1 : Int32))), none, none, none]) j859 rfl rfl kc_ic_1 rfl ?_
        refine s_goto j862 rfl rfl ?_
        exact h
      refine s_ifn j838 rfl rfl am_cc_ne (fun hc4 => ?_) (fun hc4 => ?_)
      · refine s_iconst j852 rfl kc_ic_1 ?_
        refine s_goto j853 rfl rfl ?_
        exact K7 _ (am_e1 (Iff.trans Iff.rfl (am_p7 hc4)))
      · refine s_aload_n j841 rfl rfl ?_
        refine s_gfR j842 rfl ho1 ?_
        refine s_iload j845 rfl rfl ?_
        refine s_iaload j847 rfl (ho5 hc4) ?_
        refine s_iconst j848 rfl kc_ic_3 ?_
        refine s_icn j849 rfl rfl am_cc_ne (fun hc6 => ?_) (fun hc6 => ?_)
        · refine s_iconst j856 rfl kc_ic_0 ?_
          exact K7 _ (am_e0 (am_p8 hc4 (Iff.trans Iff.rfl (am_p10 hc6))))
        · refine s_iconst j852 rfl kc_ic_1 ?_
          refine s_goto j853 rfl rfl ?_
          exact K7 _ (am_e1 (am_p8 hc4 (Iff.trans Iff.rfl (am_p9 hc6))))
theorem P_Wk_ask_865 (nl : Bool) (Ln : Nat) (xs : Nat → Int32) : am_Jl (TT nl Ln xs) 36 [(865, .iload 10, 867, []), (867, .ifCond .eq 7, 870, []), (870, .lconst 1, 871, []), (871, .goto 15, 874, []), (874, .aload_n 0, 875, []), (875, .iconst 5, 876, []), (876, .bipush 9, 878, []), (878, .aload_n 3, 879, []), (879, .lload 4, 881, []), (881, .iload 8, 883, []), (883, .invokevirtual 144, 886, [10, 36, 3, 15, 6]), (886, .lreturn, 887, [2])] := dk_ck (by decide +kernel)
set_option maxRecDepth 4096 in
theorem w_Wk_ask_865 {nl : Bool} {Ln : Nat} {xs : Nat → Int32} {d : Nat} {this : Nat} {x1 : Int32} {x2 : Int32} {x3 : Option Nat} {x4 : Int64} {x6 : Int32} {x7 : Int32} {x8 : Int32} {x9 : Int32} {x10 : Int32} {x11 : Int32} {σ : am_S} {F : Int64 → am_S → Prop} (h : (x10 = 0 → (am_is σ (some this) 2) ∧ k_Wk_ask nl Ln xs d this (5 : Int32) (9 : Int32) x3 x4 x8 σ (fun a4 σ3 => am_ext σ σ3 → F a4 σ3)) ∧ (¬ (x10 = 0) → F (1 : Int64) σ)) : c_Wk_ask_865 nl Ln xs (d + 1) this x1 x2 x3 x4 x6 x7 x8 x9 x10 x11 σ F := by
  obtain ⟨j865, j867, j870, j871, j874, j875, j876, j878, j879, j881, j883, j886, -⟩ := P_Wk_ask_865 nl Ln xs
  unfold c_Wk_ask_865
  refine s_iload j865 rfl rfl ?_
  refine s_if j867 rfl rfl am_cc_eq (fun hc1 => ?_) (fun hc1 => ?_)
  · replace h := h.1 hc1
    refine s_aload_n j874 rfl rfl ?_
    refine s_iconst j875 rfl kc_ic_5 ?_
    refine s_bipush j876 rfl kc_bi_9 ?_
    refine s_aload_n j878 rfl rfl ?_
    refine s_lload j879 rfl rfl ?_
    refine s_iload j881 rfl rfl ?_
    obtain ⟨ho2, h⟩ := h
    refine s_virt j883 rfl rfl rfl rfl ho2 (by decide) (in_Wk_ask _ _ _ _ _ _) (am_r8 rfl) (am_bL h (fun a4 σ3 h hx3 => ?_))
    replace h := h hx3
    exact s_retL j886 rfl h
  · replace h := h.2 hc1
    refine s_lconst j870 rfl rfl ?_
    refine s_goto j871 rfl rfl ?_
    exact s_retL j886 rfl h
theorem P_Wk_ask_887 (nl : Bool) (Ln : Nat) (xs : Nat → Int32) : am_Jl (TT nl Ln xs) 36 [(887, .aload_n 0, 888, []), (888, .iconst 5, 889, []), (889, .iload 9, 891, []), (891, .aload_n 3, 892, []), (892, .getfield 261, 895, [9, 10, 3, 2]), (895, .lload 4, 897, []), (897, .iload 8, 899, []), (899, .invokevirtual 144, 902, [10, 36, 3, 15, 6]), (902, .lreturn, 903, [2])] := dk_ck (by decide +kernel)
set_option maxRecDepth 4096 in
theorem w_Wk_ask_887 {nl : Bool} {Ln : Nat} {xs : Nat → Int32} {d : Nat} {this : Nat} {x1 : Int32} {x2 : Int32} {x3 : Option Nat} {x4 : Int64} {x6 : Int32} {x7 : Int32} {x8 : Int32} {x9 : Int32} {σ : am_S} {F : Int64 → am_S → Prop} (h : (am_is σ x3 10) ∧ (am_is σ (some this) 2) ∧ k_Wk_ask nl Ln xs d this (5 : Int32) x9 (am_fR σ 10003 (x3.getD 0)) x4 x8 σ (fun a4 σ3 => am_ext σ σ3 → F a4 σ3)) : c_Wk_ask_887 nl Ln xs (d + 1) this x1 x2 x3 x4 x6 x7 x8 x9 σ F := by
  obtain ⟨j887, j888, j889, j891, j892, j895, j897, j899, j902, -⟩ := P_Wk_ask_887 nl Ln xs
  unfold c_Wk_ask_887
  refine s_aload_n j887 rfl rfl ?_
  refine s_iconst j888 rfl kc_ic_5 ?_
  refine s_iload j889 rfl rfl ?_
  refine s_aload_n j891 rfl rfl ?_
  obtain ⟨ho1, h⟩ := h
  refine s_gfR j892 rfl ho1 ?_
  refine s_lload j895 rfl rfl ?_
  refine s_iload j897 rfl rfl ?_
  obtain ⟨ho2, h⟩ := h
  refine s_virt j899 rfl rfl rfl rfl ho2 (by decide) (in_Wk_ask _ _ _ _ _ _) (am_r8 rfl) (am_bL h (fun a4 σ3 h hx3 => ?_))
  replace h := h hx3
  exact s_retL j902 rfl h
