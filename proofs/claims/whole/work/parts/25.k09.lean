/-! statements of methods, 9 (by wip/whole/gensteps.py) -/
theorem P_Co_count (nl : Bool) (Ln : Nat) (xs : Nat → Int32) : am_Jl (TT nl Ln xs) 196 [(0, .iload_n 1, 1, []), (1, .tableswitch 147 0 10 #[59, 67, 75, 83, 91, 99, 107, 115, 123, 131, 139], 60, []), (60, .aload_n 0, 61, []), (61, .getfield 56, 64, [9, 0, 7, 2]), (64, .getfield 255, 67, [9, 6, 11, 0]), (67, .ireturn, 68, [1]), (68, .aload_n 0, 69, []), (69, .getfield 56, 72, [9, 0, 7, 2]), (72, .getfield 258, 75, [9, 6, 12, 0]), (75, .ireturn, 76, [1]), (76, .aload_n 0, 77, []), (77, .getfield 56, 80, [9, 0, 7, 2]), (80, .getfield 261, 83, [9, 6, 13, 0]), (83, .ireturn, 84, [1]), (84, .aload_n 0, 85, []), (85, .getfield 56, 88, [9, 0, 7, 2]), (88, .getfield 264, 91, [9, 6, 14, 0]), (91, .ireturn, 92, [1]), (92, .aload_n 0, 93, []), (93, .getfield 56, 96, [9, 0, 7, 2]), (96, .getfield 101, 99, [9, 6, 15, 0]), (99, .ireturn, 100, [1]), (100, .aload_n 0, 101, []), (101, .getfield 56, 104, [9, 0, 7, 2]), (104, .getfield 267, 107, [9, 6, 16, 0]), (107, .ireturn, 108, [1]), (108, .aload_n 0, 109, []), (109, .getfield 56, 112, [9, 0, 7, 2]), (112, .getfield 270, 115, [9, 6, 17, 0]), (115, .ireturn, 116, [1]), (116, .aload_n 0, 117, []), (117, .getfield 56, 120, [9, 0, 7, 2]), (120, .getfield 273, 123, [9, 6, 18, 0]), (123, .ireturn, 124, [1]), (124, .aload_n 0, 125, []), (125, .getfield 12, 128, [9, 0, 0, 2]), (128, .getfield 78, 131, [9, 1, 1, 0]), (131, .ireturn, 132, [1]), (132, .aload_n 0, 133, []), (133, .getfield 21, 136, [9, 0, 2, 2]), (136, .getfield 78, 139, [9, 1, 1, 0]), (139, .ireturn, 140, [1]), (140, .aload_n 0, 141, []), (141, .getfield 33, 144, [9, 0, 4, 2]), (144, .getfield 90, 147, [9, 2, 1, 0]), (147, .ireturn, 148, [1]), (148, .bipush (-2), 150, []), (150, .ireturn, 151, [1])] := dk_ck (by decide +kernel)
set_option maxRecDepth 4096 in
theorem w_Co_count {nl : Bool} {Ln : Nat} {xs : Nat → Int32} {d : Nat} {this : Nat} {p0 : Int32} {σ : am_S} {F : Int32 → am_S → Prop} (h : (p0 = (0 : Int32) → (am_is σ (some this) 0) ∧ (am_is σ (am_fR σ 7 this) 6) ∧ F (am_fI σ 6011 ((am_fR σ 7 this).getD 0)) σ) ∧ (p0 = (1 : Int32) → (am_is σ (some this) 0) ∧ (am_is σ (am_fR σ 7 this) 6) ∧ F (am_fI σ 6012 ((am_fR σ 7 this).getD 0)) σ) ∧ (p0 = (2 : Int32) → (am_is σ (some this) 0) ∧ (am_is σ (am_fR σ 7 this) 6) ∧ F (am_fI σ 6013 ((am_fR σ 7 this).getD 0)) σ) ∧ (p0 = (3 : Int32) → (am_is σ (some this) 0) ∧ (am_is σ (am_fR σ 7 this) 6) ∧ F (am_fI σ 6014 ((am_fR σ 7 this).getD 0)) σ) ∧ (p0 = (4 : Int32) → (am_is σ (some this) 0) ∧ (am_is σ (am_fR σ 7 this) 6) ∧ F (am_fI σ 6015 ((am_fR σ 7 this).getD 0)) σ) ∧ (p0 = (5 : Int32) → (am_is σ (some this) 0) ∧ (am_is σ (am_fR σ 7 this) 6) ∧ F (am_fI σ 6016 ((am_fR σ 7 this).getD 0)) σ) ∧ (p0 = (6 : Int32) → (am_is σ (some this) 0) ∧ (am_is σ (am_fR σ 7 this) 6) ∧ F (am_fI σ 6017 ((am_fR σ 7 this).getD 0)) σ) ∧ (p0 = (7 : Int32) → (am_is σ (some this) 0) ∧ (am_is σ (am_fR σ 7 this) 6) ∧ F (am_fI σ 6018 ((am_fR σ 7 this).getD 0)) σ) ∧ (p0 = (8 : Int32) → (am_is σ (some this) 0) ∧ (am_is σ (am_fR σ 0 this) 1) ∧ F (am_fI σ 1001 ((am_fR σ 0 this).getD 0)) σ) ∧ (p0 = (9 : Int32) → (am_is σ (some this) 0) ∧ (am_is σ (am_fR σ 2 this) 1) ∧ F (am_fI σ 1001 ((am_fR σ 2 this).getD 0)) σ) ∧ (p0 = (10 : Int32) → (am_is σ (some this) 0) ∧ (am_is σ (am_fR σ 4 this) 2) ∧ F (am_fI σ 2001 ((am_fR σ 4 this).getD 0)) σ) ∧ ((p0.toInt < 0 ∨ 10 < p0.toInt) → F (-2 : Int32) σ)) : k_Co_count nl Ln xs (d + 1) this p0 σ F := by
  obtain ⟨j0, j1, j60, j61, j64, j67, j68, j69, j72, j75, j76, j77, j80, j83, j84, j85, j88, j91, j92, j93, j96, j99, j100, j101, j104, j107, j108, j109, j112, j115, j116, j117, j120, j123, j124, j125, j128, j131, j132, j133, j136, j139, j140, j141, j144, j147, j148, j150, -⟩ := P_Co_count nl Ln xs
  have elo : am_lo 2 [am_ov (some this), .int p0] = [some (am_ov (some this)), some (.int p0)] := by simp only [am_lo, am_in_ov, am_in_int, am_in_long, am_in_nil]; rfl
  unfold k_Co_count
  rw [elo]
  refine s_iload_n j0 rfl rfl ?_
  by_cases hr23 : p0.toInt < 0 ∨ 10 < p0.toInt
  · refine s_tsw j1 (t := 148) ((am_sw_out hr23).trans rfl) ?_
    replace h := h.2.2.2.2.2.2.2.2.2.2.2 hr23
    refine s_bipush j148 rfl kc_bi_m2 ?_
    exact s_retI j150 rfl h
  · obtain ⟨k24, hk25, hv26⟩ := am_sw_in hr23
    have hk252 : k24 < 11 := by omega
    clear hk25
    match k24, hk252, hv26 with
    | 0, _, hv26 =>
      have hs : p0 = (0 : Int32) := am_te hv26 (by decide)
      refine s_tsw j1 (t := 60) (by show am_sw 1 147 0 10 #[59, 67, 75, 83, 91, 99, 107, 115, 123, 131, 139] p0.toInt = _; rw [hv26]; rfl) ?_
      replace h := h.1 hs
      refine s_aload_n j60 rfl rfl ?_
      obtain ⟨ho1, h⟩ := h
      refine s_gfR j61 rfl ho1 ?_
      obtain ⟨ho2, h⟩ := h
      refine s_gfI j64 rfl ho2 ?_
      exact s_retI j67 rfl h
    | 1, _, hv26 =>
      have hs : p0 = (1 : Int32) := am_te hv26 (by decide)
      refine s_tsw j1 (t := 68) (by show am_sw 1 147 0 10 #[59, 67, 75, 83, 91, 99, 107, 115, 123, 131, 139] p0.toInt = _; rw [hv26]; rfl) ?_
      replace h := h.2.1 hs
      refine s_aload_n j68 rfl rfl ?_
      obtain ⟨ho3, h⟩ := h
      refine s_gfR j69 rfl ho3 ?_
      obtain ⟨ho4, h⟩ := h
      refine s_gfI j72 rfl ho4 ?_
      exact s_retI j75 rfl h
    | 2, _, hv26 =>
      have hs : p0 = (2 : Int32) := am_te hv26 (by decide)
      refine s_tsw j1 (t := 76) (by show am_sw 1 147 0 10 #[59, 67, 75, 83, 91, 99, 107, 115, 123, 131, 139] p0.toInt = _; rw [hv26]; rfl) ?_
      replace h := h.2.2.1 hs
      refine s_aload_n j76 rfl rfl ?_
      obtain ⟨ho5, h⟩ := h
      refine s_gfR j77 rfl ho5 ?_
      obtain ⟨ho6, h⟩ := h
      refine s_gfI j80 rfl ho6 ?_
      exact s_retI j83 rfl h
    | 3, _, hv26 =>
      have hs : p0 = (3 : Int32) := am_te hv26 (by decide)
      refine s_tsw j1 (t := 84) (by show am_sw 1 147 0 10 #[59, 67, 75, 83, 91, 99, 107, 115, 123, 131, 139] p0.toInt = _; rw [hv26]; rfl) ?_
      replace h := h.2.2.2.1 hs
      refine s_aload_n j84 rfl rfl ?_
      obtain ⟨ho7, h⟩ := h
      refine s_gfR j85 rfl ho7 ?_
      obtain ⟨ho8, h⟩ := h
      refine s_gfI j88 rfl ho8 ?_
      exact s_retI j91 rfl h
    | 4, _, hv26 =>
      have hs : p0 = (4 : Int32) := am_te hv26 (by decide)
      refine s_tsw j1 (t := 92) (by show am_sw 1 147 0 10 #[59, 67, 75, 83, 91, 99, 107, 115, 123, 131, 139] p0.toInt = _; rw [hv26]; rfl) ?_
      replace h := h.2.2.2.2.1 hs
      refine s_aload_n j92 rfl rfl ?_
      obtain ⟨ho9, h⟩ := h
      refine s_gfR j93 rfl ho9 ?_
      obtain ⟨ho10, h⟩ := h
      refine s_gfI j96 rfl ho10 ?_
      exact s_retI j99 rfl h
    | 5, _, hv26 =>
      have hs : p0 = (5 : Int32) := am_te hv26 (by decide)
      refine s_tsw j1 (t := 100) (by show am_sw 1 147 0 10 #[59, 67, 75, 83, 91, 99, 107, 115, 123, 131, 139] p0.toInt = _; rw [hv26]; rfl) ?_
      replace h := h.2.2.2.2.2.1 hs
      refine s_aload_n j100 rfl rfl ?_
      obtain ⟨ho11, h⟩ := h
      refine s_gfR j101 rfl ho11 ?_
      obtain ⟨ho12, h⟩ := h
      refine s_gfI j104 rfl ho12 ?_
      exact s_retI j107 rfl h
    | 6, _, hv26 =>
      have hs : p0 = (6 : Int32) := am_te hv26 (by decide)
      refine s_tsw j1 (t := 108) (by show am_sw 1 147 0 10 #[59, 67, 75, 83, 91, 99, 107, 115, 123, 131, 139] p0.toInt = _; rw [hv26]; rfl) ?_
      replace h := h.2.2.2.2.2.2.1 hs
      refine s_aload_n j108 rfl rfl ?_
      obtain ⟨ho13, h⟩ := h
      refine s_gfR j109 rfl ho13 ?_
      obtain ⟨ho14, h⟩ := h
      refine s_gfI j112 rfl ho14 ?_
      exact s_retI j115 rfl h
    | 7, _, hv26 =>
      have hs : p0 = (7 : Int32) := am_te hv26 (by decide)
      refine s_tsw j1 (t := 116) (by show am_sw 1 147 0 10 #[59, 67, 75, 83, 91, 99, 107, 115, 123, 131, 139] p0.toInt = _; rw [hv26]; rfl) ?_
      replace h := h.2.2.2.2.2.2.2.1 hs
      refine s_aload_n j116 rfl rfl ?_
      obtain ⟨ho15, h⟩ := h
      refine s_gfR j117 rfl ho15 ?_
      obtain ⟨ho16, h⟩ := h
      refine s_gfI j120 rfl ho16 ?_
      exact s_retI j123 rfl h
    | 8, _, hv26 =>
      have hs : p0 = (8 : Int32) := am_te hv26 (by decide)
      refine s_tsw j1 (t := 124) (by show am_sw 1 147 0 10 #[59, 67, 75, 83, 91, 99, 107, 115, 123, 131, 139] p0.toInt = _; rw [hv26]; rfl) ?_
      replace h := h.2.2.2.2.2.2.2.2.1 hs
      refine s_aload_n j124 rfl rfl ?_
      obtain ⟨ho17, h⟩ := h
      refine s_gfR j125 rfl ho17 ?_
      obtain ⟨ho18, h⟩ := h
      refine s_gfI j128 rfl ho18 ?_
      exact s_retI j131 rfl h
    | 9, _, hv26 =>
      have hs : p0 = (9 : Int32) := am_te hv26 (by decide)
      refine s_tsw j1 (t := 132) (by show am_sw 1 147 0 10 #[59, 67, 75, 83, 91, 99, 107, 115, 123, 131, 139] p0.toInt = _; rw [hv26]; rfl) ?_
      replace h := h.2.2.2.2.2.2.2.2.2.1 hs
      refine s_aload_n j132 rfl rfl ?_
      obtain ⟨ho19, h⟩ := h
      refine s_gfR j133 rfl ho19 ?_
      obtain ⟨ho20, h⟩ := h
      refine s_gfI j136 rfl ho20 ?_
      exact s_retI j139 rfl h
    | 10, _, hv26 =>
      have hs : p0 = (10 : Int32) := am_te hv26 (by decide)
      refine s_tsw j1 (t := 140) (by show am_sw 1 147 0 10 #[59, 67, 75, 83, 91, 99, 107, 115, 123, 131, 139] p0.toInt = _; rw [hv26]; rfl) ?_
      replace h := h.2.2.2.2.2.2.2.2.2.2.1 hs
      refine s_aload_n j140 rfl rfl ?_
      obtain ⟨ho21, h⟩ := h
      refine s_gfR j141 rfl ho21 ?_
      obtain ⟨ho22, h⟩ := h
      refine s_gfI j144 rfl ho22 ?_
      exact s_retI j147 rfl h
    | n + 11, hk252, _ => exact absurd hk252 (by omega)
theorem P_Rm_person (nl : Bool) (Ln : Nat) (xs : Nat → Int32) : am_Jl (TT nl Ln xs) 199 [(0, .aload_n 0, 1, []), (1, .iconst 1, 2, []), (2, .lconst 0, 3, []), (3, .lconst 0, 4, []), (4, .lconst 0, 5, []), (5, .lconst 0, 6, []), (6, .invokevirtual 137, 9, [10, 200, 13, 10, 6]), (9, .ireturn, 10, [1])] := dk_ck (by decide +kernel)
set_option maxRecDepth 4096 in
theorem w_Rm_person {nl : Bool} {Ln : Nat} {xs : Nat → Int32} {d : Nat} {this : Nat} {σ : am_S} {F : Int32 → am_S → Prop} (h : (am_is σ (some this) 12) ∧ k_Rm_act nl Ln xs d this (1 : Int32) (0 : Int64) (0 : Int64) (0 : Int64) (0 : Int64) σ (fun a3 σ2 => am_ext σ σ2 → F a3 σ2)) : k_Rm_person nl Ln xs (d + 1) this σ F := by
  obtain ⟨j0, j1, j2, j3, j4, j5, j6, j9, -⟩ := P_Rm_person nl Ln xs
  have elo : am_lo 1 [am_ov (some this)] = [some (am_ov (some this))] := by simp only [am_lo, am_in_ov, am_in_int, am_in_long, am_in_nil]; rfl
  unfold k_Rm_person
  rw [elo]
  refine s_aload_n j0 rfl rfl ?_
  refine s_iconst j1 rfl kc_ic_1 ?_
  refine s_lconst j2 rfl rfl ?_
  refine s_lconst j3 rfl rfl ?_
  refine s_lconst j4 rfl rfl ?_
  refine s_lconst j5 rfl rfl ?_
  obtain ⟨ho1, h⟩ := h
  refine s_virt j6 rfl rfl rfl rfl ho1 (by decide) (in_Rm_act _ _ _ _ _ _) (am_r8 rfl) (am_bI h (fun a3 σ2 h hx2 => ?_))
  replace h := h hx2
  exact s_retI j9 rfl h
theorem P_Rm_act (nl : Bool) (Ln : Nat) (xs : Nat → Int32) : am_Jl (TT nl Ln xs) 200 [(0, .aload_n 0, 1, []), (1, .getfield 33, 4, [9, 12, 18, 2]), (4, .iconst 0, 5, []), (5, .lload_n 2, 6, []), (6, .lastore, 7, []), (7, .aload_n 0, 8, []), (8, .getfield 33, 11, [9, 12, 18, 2]), (11, .iconst 1, 12, []), (12, .lload 4, 14, []), (14, .lastore, 15, []), (15, .aload_n 0, 16, []), (16, .getfield 33, 19, [9, 12, 18, 2]), (19, .iconst 2, 20, []), (20, .lload 6, 22, []), (22, .lastore, 23, []), (23, .aload_n 0, 24, []), (24, .getfield 33, 27, [9, 12, 18, 2]), (27, .iconst 3, 28, []), (28, .lload 8, 30, []), (30, .lastore, 31, []), (31, .aload_n 0, 32, []), (32, .getfield 33, 35, [9, 12, 18, 2]), (35, .iconst 4, 36, []), (36, .lconst 0, 37, []), (37, .lastore, 38, []), (38, .aload_n 0, 39, []), (39, .getfield 33, 42, [9, 12, 18, 2]), (42, .iconst 5, 43, []), (43, .lconst 0, 44, []), (44, .lastore, 45, []), (45, .aload_n 0, 46, []), (46, .getfield 88, 49, [9, 12, 16, 2]), (49, .iload_n 1, 50, []), (50, .aload_n 0, 51, []), (51, .getfield 33, 54, [9, 12, 18, 2]), (54, .invokevirtual 133, 57, [10, 201, 14, 4, 3]), (57, .ireturn, 58, [1])] := dk_ck (by decide +kernel)
set_option maxRecDepth 4096 in
theorem w_Rm_act {nl : Bool} {Ln : Nat} {xs : Nat → Int32} {d : Nat} {this : Nat} {p0 : Int32} {p1 : Int64} {p2 : Int64} {p3 : Int64} {p4 : Int64} {σ : am_S} {F : Int32 → am_S → Prop} (h : (am_is σ (some this) 12) ∧ (am_ar σ 1001 (am_fR σ 12018 this) (0 : Int32)) ∧ ∀ σ3, σ3 = am_saL σ ((am_fR σ 12018 this).getD 0) (0 : Int32).toNatClampNeg p1 → (am_ar σ3 1001 (am_fR σ3 12018 this) (1 : Int32)) ∧ ∀ σ7, σ7 = am_saL σ3 ((am_fR σ3 12018 this).getD 0) (1 : Int32).toNatClampNeg p2 → (am_ar σ7 1001 (am_fR σ7 12018 this) (2 : Int32)) ∧ ∀ σ11, σ11 = am_saL σ7 ((am_fR σ7 12018 this).getD 0) (2 : Int32).toNatClampNeg p3 → (am_ar σ11 1001 (am_fR σ11 12018 this) (3 : Int32)) ∧ ∀ σ15, σ15 = am_saL σ11 ((am_fR σ11 12018 this).getD 0) (3 : Int32).toNatClampNeg p4 → (am_ar σ15 1001 (am_fR σ15 12018 this) (4 : Int32)) ∧ ∀ σ19, σ19 = am_saL σ15 ((am_fR σ15 12018 this).getD 0) (4 : Int32).toNatClampNeg (0 : Int64) → (am_ar σ19 1001 (am_fR σ19 12018 this) (5 : Int32)) ∧ ∀ σ23, σ23 = am_saL σ19 ((am_fR σ19 12018 this).getD 0) (5 : Int32).toNatClampNeg (0 : Int64) → (am_is σ23 (am_fR σ23 12016 this) 13) ∧ k_Ro_act nl Ln xs d ((am_fR σ23 12016 this).getD 0) p0 (am_fR σ23 12018 this) σ23 (fun a28 σ27 => am_ext σ23 σ27 → F a28 σ27)) : k_Rm_act nl Ln xs (d + 1) this p0 p1 p2 p3 p4 σ F := by
  obtain ⟨j0, j1, j4, j5, j6, j7, j8, j11, j12, j14, j15, j16, j19, j20, j22, j23, j24, j27, j28, j30, j31, j32, j35, j36, j37, j38, j39, j42, j43, j44, j45, j46, j49, j50, j51, j54, j57, -⟩ := P_Rm_act nl Ln xs
  have elo : am_lo 10 [am_ov (some this), .int p0, .long p1, .long p2, .long p3, .long p4] = [some (am_ov (some this)), some (.int p0), some (.long p1), none, some (.long p2), none, some (.long p3), none, some (.long p4), none] := by simp only [am_lo, am_in_ov, am_in_int, am_in_long, am_in_nil]; rfl
  unfold k_Rm_act
  rw [elo]
  refine s_aload_n j0 rfl rfl ?_
  obtain ⟨ho1, h⟩ := h
  refine s_gfR j1 rfl ho1 ?_
  refine s_iconst j4 rfl kc_ic_0 ?_
  refine s_lload_n j5 rfl rfl ?_
  obtain ⟨ho2, h⟩ := h
  refine s_lastore j6 rfl ho2 (fun σ3 e4 => ?_)
  replace h := h σ3 e4
  have ek5 : am_kd σ3 = am_kd σ := by rw [e4]
  refine s_aload_n j7 rfl rfl ?_
  refine s_gfR j8 rfl (am_is_kd ek5 ho1) ?_
  refine s_iconst j11 rfl kc_ic_1 ?_
  refine s_lload j12 rfl rfl ?_
  obtain ⟨ho6, h⟩ := h
  refine s_lastore j14 rfl ho6 (fun σ7 e8 => ?_)
  replace h := h σ7 e8
  have ek9 : am_kd σ7 = am_kd σ3 := by rw [e8]
  refine s_aload_n j15 rfl rfl ?_
  refine s_gfR j16 rfl (am_is_kd ek9 (am_is_kd ek5 ho1)) ?_
  refine s_iconst j19 rfl kc_ic_2 ?_
  refine s_lload j20 rfl rfl ?_
  obtain ⟨ho10, h⟩ := h
  refine s_lastore j22 rfl ho10 (fun σ11 e12 => ?_)
  replace h := h σ11 e12
  have ek13 : am_kd σ11 = am_kd σ7 := by rw [e12]
  refine s_aload_n j23 rfl rfl ?_
  refine s_gfR j24 rfl (am_is_kd ek13 (am_is_kd ek9 (am_is_kd ek5 ho1))) ?_
  refine s_iconst j27 rfl kc_ic_3 ?_
  refine s_lload j28 rfl rfl ?_
  obtain ⟨ho14, h⟩ := h
  refine s_lastore j30 rfl ho14 (fun σ15 e16 => ?_)
  replace h := h σ15 e16
  have ek17 : am_kd σ15 = am_kd σ11 := by rw [e16]
  refine s_aload_n j31 rfl rfl ?_
  refine s_gfR j32 rfl (am_is_kd ek17 (am_is_kd ek13 (am_is_kd ek9 (am_is_kd ek5 ho1)))) ?_
  refine s_iconst j35 rfl kc_ic_4 ?_
  refine s_lconst j36 rfl rfl ?_
  obtain ⟨ho18, h⟩ := h
  refine s_lastore j37 rfl ho18 (fun σ19 e20 => ?_)
  replace h := h σ19 e20
  have ek21 : am_kd σ19 = am_kd σ15 := by rw [e20]
  refine s_aload_n j38 rfl rfl ?_
  refine s_gfR j39 rfl (am_is_kd ek21 (am_is_kd ek17 (am_is_kd ek13 (am_is_kd ek9 (am_is_kd ek5 ho1))))) ?_
  refine s_iconst j42 rfl kc_ic_5 ?_
  refine s_lconst j43 rfl rfl ?_
  obtain ⟨ho22, h⟩ := h
  refine s_lastore j44 rfl ho22 (fun σ23 e24 => ?_)
  replace h := h σ23 e24
  have ek25 : am_kd σ23 = am_kd σ19 := by rw [e24]
  refine s_aload_n j45 rfl rfl ?_
  refine s_gfR j46 rfl (am_is_kd ek25 (am_is_kd ek21 (am_is_kd ek17 (am_is_kd ek13 (am_is_kd ek9 (am_is_kd ek5 ho1)))))) ?_
  refine s_iload_n j49 rfl rfl ?_
  refine s_aload_n j50 rfl rfl ?_
  refine s_gfR j51 rfl (am_is_kd ek25 (am_is_kd ek21 (am_is_kd ek17 (am_is_kd ek13 (am_is_kd ek9 (am_is_kd ek5 ho1)))))) ?_
  obtain ⟨ho26, h⟩ := h
  refine s_virt j54 rfl rfl rfl rfl ho26 (by decide) (in_Ro_act _ _ _) (am_r8 rfl) (am_bI h (fun a28 σ27 h hx27 => ?_))
  replace h := h hx27
  exact s_retI j57 rfl h
theorem P_Ro_act (nl : Bool) (Ln : Nat) (xs : Nat → Int32) : am_Jl (TT nl Ln xs) 201 [(0, .iload_n 1, 1, []), (1, .bipush 12, 3, []), (3, .if_icmp .lt 13, 6, []), (6, .iload_n 1, 7, []), (7, .bipush 19, 9, []), (9, .if_icmp .gt 7, 12, []), (12, .iconst 1, 13, []), (13, .goto 4, 16, []), (16, .iconst 0, 17, [])] := dk_ck (by decide +kernel)
set_option maxRecDepth 4096 in
theorem w_Ro_act {nl : Bool} {Ln : Nat} {xs : Nat → Int32} {d : Nat} {this : Nat} {p0 : Int32} {p1 : Option Nat} {σ : am_S} {F : Int32 → am_S → Prop} (h : c_Ro_act_17 nl Ln xs (d + 1) this p0 p1 (if ¬ (p0 < (12 : Int32)) ∧ (¬ ((19 : Int32) < p0)) then (1 : Int32) else 0) σ F) : k_Ro_act nl Ln xs (d + 1) this p0 p1 σ F := by
  obtain ⟨j0, j1, j3, j6, j7, j9, j12, j13, j16, -⟩ := P_Ro_act nl Ln xs
  have elo : am_lo 4 [am_ov (some this), .int p0, am_ov p1] = [some (am_ov (some this)), some (.int p0), some (am_ov p1), none] := by simp only [am_lo, am_in_ov, am_in_int, am_in_long, am_in_nil]; rfl
  unfold k_Ro_act
  rw [elo]
  refine s_iload_n j0 rfl rfl ?_
  refine s_bipush j1 rfl kc_bi_12 ?_
  have K3 : ∀ (w4 : Int32), w4 = (if ¬ (p0 < (12 : Int32)) ∧ (¬ ((19 : Int32) < p0)) then (1 : Int32) else 0) → am_C (TT nl Ln xs) (d + 1) 201 17 [some (am_ov (some this)), some (.int p0), some (am_ov p1), none] [.int w4] σ (am_qI F) := by
    intro w4 hw5
    subst hw5
    exact h
  refine s_ic j3 rfl rfl am_cc_lt (fun hc1 => ?_) (fun hc1 => ?_)
  · refine s_iconst j16 rfl kc_ic_0 ?_
    exact K3 _ (am_e0 (Iff.trans Iff.rfl (am_p6 hc1)))
  · refine s_iload_n j6 rfl rfl ?_
    refine s_bipush j7 rfl kc_bi_19 ?_
    refine s_ic j9 rfl rfl am_cc_gt (fun hc2 => ?_) (fun hc2 => ?_)
    · refine s_iconst j16 rfl kc_ic_0 ?_
      exact K3 _ (am_e0 (am_p5 hc1 (Iff.trans Iff.rfl (am_p11 hc2))))
    · refine s_iconst j12 rfl kc_ic_1 ?_
      refine s_goto j13 rfl rfl ?_
      exact K3 _ (am_e1 (am_p5 hc1 (Iff.trans Iff.rfl (am_p12 hc2))))
theorem P_Ro_act_17 (nl : Bool) (Ln : Nat) (xs : Nat → Int32) : am_Jl (TT nl Ln xs) 201 [(17, .istore_n 3, 18, []), (18, .aload_n 0, 19, []), (19, .getfield 246, 22, [9, 13, 62, 3]), (22, .ifCond .eq 14, 25, []), (25, .iload_n 3, 26, []), (26, .ifCond .eq 10, 29, []), (29, .aload_n 0, 30, []), (30, .iload_n 1, 31, []), (31, .aload_n 2, 32, []), (32, .invokevirtual 566, 35, [10, 202, 14, 4, 3]), (35, .ireturn, 36, [1])] := dk_ck (by decide +kernel)
set_option maxRecDepth 4096 in
theorem w_Ro_act_17 {nl : Bool} {Ln : Nat} {xs : Nat → Int32} {d : Nat} {this : Nat} {x1 : Int32} {x2 : Option Nat} {y0 : Int32} {σ : am_S} {F : Int32 → am_S → Prop} (h : (am_is σ (some this) 13) ∧ ((am_fI σ 13062 this) = 0 → c_Ro_act_36 nl Ln xs (d + 1) this x1 x2 y0 σ F) ∧ (¬ ((am_fI σ 13062 this) = 0) → (y0 = 0 → c_Ro_act_36 nl Ln xs (d + 1) this x1 x2 y0 σ F) ∧ (¬ (y0 = 0) → k_Ro_hold nl Ln xs d this x1 x2 σ (fun a5 σ4 => am_ext σ σ4 → F a5 σ4)))) : c_Ro_act_17 nl Ln xs (d + 1) this x1 x2 y0 σ F := by
  obtain ⟨j17, j18, j19, j22, j25, j26, j29, j30, j31, j32, j35, -⟩ := P_Ro_act_17 nl Ln xs
  unfold c_Ro_act_17
  refine s_istore_n j17 rfl (n := 4) (L' := [some (am_ov (some this)), some (.int x1), some (am_ov x2), some (.int y0)]) rfl (by decide) (am_st1_R [_, _] _ _ _ _) ?_
  refine s_aload_n j18 rfl rfl ?_
  obtain ⟨ho1, h⟩ := h
  refine s_gfZ j19 rfl ho1 ?_
  refine s_if j22 rfl rfl am_cc_eq (fun hc2 => ?_) (fun hc2 => ?_)
  · replace h := h.1 hc2
    exact h
  · replace h := h.2 hc2
    refine s_iload_n j25 rfl rfl ?_
    refine s_if j26 rfl rfl am_cc_eq (fun hc3 => ?_) (fun hc3 => ?_)
    · replace h := h.1 hc3
      exact h
    · replace h := h.2 hc3
      refine s_aload_n j29 rfl rfl ?_
      refine s_iload_n j30 rfl rfl ?_
      refine s_aload_n j31 rfl rfl ?_
      refine s_virt j32 rfl rfl rfl rfl ho1 (by decide) (in_Ro_hold _ _ _) (am_r8 rfl) (am_bI h (fun a5 σ4 h hx4 => ?_))
      replace h := h hx4
      exact s_retI j35 rfl h
theorem P_Ro_act_36 (nl : Bool) (Ln : Nat) (xs : Nat → Int32) : am_Jl (TT nl Ln xs) 201 [(36, .aload_n 0, 37, []), (37, .getfield 246, 40, [9, 13, 62, 3]), (40, .ifCond .eq 18, 43, []), (43, .iload_n 1, 44, []), (44, .bipush 21, 46, []), (46, .if_icmp .eq 12, 49, []), (49, .iload_n 1, 50, []), (50, .bipush 22, 52, []), (52, .if_icmp .eq 6, 55, []), (55, .bipush (-3), 57, []), (57, .ireturn, 58, [1])] := dk_ck (by decide +kernel)
set_option maxRecDepth 4096 in
theorem w_Ro_act_36 {nl : Bool} {Ln : Nat} {xs : Nat → Int32} {d : Nat} {this : Nat} {x1 : Int32} {x2 : Option Nat} {x3 : Int32} {σ : am_S} {F : Int32 → am_S → Prop} (h : (am_is σ (some this) 13) ∧ ((am_fI σ 13062 this) = 0 → c_Ro_act_58 nl Ln xs (d + 1) this x1 x2 x3 σ F) ∧ (¬ ((am_fI σ 13062 this) = 0) → (x1 = (21 : Int32) → c_Ro_act_58 nl Ln xs (d + 1) this x1 x2 x3 σ F) ∧ (¬ (x1 = (21 : Int32)) → (x1 = (22 : Int32) → c_Ro_act_58 nl Ln xs (d + 1) this x1 x2 x3 σ F) ∧ (¬ (x1 = (22 : Int32)) → F (-3 : Int32) σ)))) : c_Ro_act_36 nl Ln xs (d + 1) this x1 x2 x3 σ F := by
  obtain ⟨j36, j37, j40, j43, j44, j46, j49, j50, j52, j55, j57, -⟩ := P_Ro_act_36 nl Ln xs
  unfold c_Ro_act_36
  refine s_aload_n j36 rfl rfl ?_
  obtain ⟨ho1, h⟩ := h
  refine s_gfZ j37 rfl ho1 ?_
  refine s_if j40 rfl rfl am_cc_eq (fun hc2 => ?_) (fun hc2 => ?_)
  · replace h := h.1 hc2
    exact h
  · replace h := h.2 hc2
    refine s_iload_n j43 rfl rfl ?_
    refine s_bipush j44 rfl kc_bi_21 ?_
    refine s_ic j46 rfl rfl am_cc_eq (fun hc3 => ?_) (fun hc3 => ?_)
    · replace h := h.1 hc3
      exact h
    · replace h := h.2 hc3
      refine s_iload_n j49 rfl rfl ?_
      refine s_bipush j50 rfl kc_bi_22 ?_
      refine s_ic j52 rfl rfl am_cc_eq (fun hc4 => ?_) (fun hc4 => ?_)
      · replace h := h.1 hc4
        exact h
      · replace h := h.2 hc4
        refine s_bipush j55 rfl kc_bi_m3 ?_
        exact s_retI j57 rfl h
theorem P_Ro_act_58 (nl : Bool) (Ln : Nat) (xs : Nat → Int32) : am_Jl (TT nl Ln xs) 201 [(58, .iload_n 3, 59, []), (59, .ifCond .eq 10, 62, []), (62, .aload_n 0, 63, []), (63, .iload_n 1, 64, []), (64, .aload_n 2, 65, []), (65, .invokevirtual 560, 68, [10, 206, 14, 8, 3]), (68, .ireturn, 69, [1]), (69, .iload_n 1, 70, []), (70, .tableswitch 176 1 21 #[98, 104, 110, 116, 122, 128, 134, 140, 146, 152, 158, 176, 176, 176, 176, 176, 176, 176, 176, 164, 170], 168, [])] := dk_ck (by decide +kernel)
set_option maxRecDepth 4096 in
theorem w_Ro_act_58 {nl : Bool} {Ln : Nat} {xs : Nat → Int32} {d : Nat} {this : Nat} {x1 : Int32} {x2 : Option Nat} {x3 : Int32} {σ : am_S} {F : Int32 → am_S → Prop} (h : (x3 = 0 → (x1 = (1 : Int32) → c_Ro_act_168 nl Ln xs (d + 1) this x1 x2 x3 σ F) ∧ (x1 = (2 : Int32) → c_Ro_act_174 nl Ln xs (d + 1) this x1 x2 x3 σ F) ∧ (x1 = (3 : Int32) → c_Ro_act_180 nl Ln xs (d + 1) this x1 x2 x3 σ F) ∧ (x1 = (4 : Int32) → c_Ro_act_186 nl Ln xs (d + 1) this x1 x2 x3 σ F) ∧ (x1 = (5 : Int32) → c_Ro_act_192 nl Ln xs (d + 1) this x1 x2 x3 σ F) ∧ (x1 = (6 : Int32) → c_Ro_act_198 nl Ln xs (d + 1) this x1 x2 x3 σ F) ∧ (x1 = (7 : Int32) → c_Ro_act_204 nl Ln xs (d + 1) this x1 x2 x3 σ F) ∧ (x1 = (8 : Int32) → c_Ro_act_210 nl Ln xs (d + 1) this x1 x2 x3 σ F) ∧ (x1 = (9 : Int32) → c_Ro_act_216 nl Ln xs (d + 1) this x1 x2 x3 σ F) ∧ (x1 = (10 : Int32) → c_Ro_act_222 nl Ln xs (d + 1) this x1 x2 x3 σ F) ∧ (x1 = (11 : Int32) → c_Ro_act_228 nl Ln xs (d + 1) this x1 x2 x3 σ F) ∧ (x1 = (20 : Int32) → c_Ro_act_234 nl Ln xs (d + 1) this x1 x2 x3 σ F) ∧ (x1 = (21 : Int32) → c_Ro_act_240 nl Ln xs (d + 1) this x1 x2 x3 σ F) ∧ ((x1.toInt < 1 ∨ 21 < x1.toInt) ∨ x1 = (12 : Int32) ∨ x1 = (13 : Int32) ∨ x1 = (14 : Int32) ∨ x1 = (15 : Int32) ∨ x1 = (16 : Int32) ∨ x1 = (17 : Int32) ∨ x1 = (18 : Int32) ∨ x1 = (19 : Int32) → c_Ro_act_246 nl Ln xs (d + 1) this x1 x2 x3 σ F)) ∧ (¬ (x3 = 0) → (am_is σ (some this) 13) ∧ k_Ro_fact nl Ln xs d this x1 x2 σ (fun a8 σ7 => am_ext σ σ7 → F a8 σ7))) : c_Ro_act_58 nl Ln xs (d + 1) this x1 x2 x3 σ F := by
  obtain ⟨j58, j59, j62, j63, j64, j65, j68, j69, j70, -⟩ := P_Ro_act_58 nl Ln xs
  unfold c_Ro_act_58
  refine s_iload_n j58 rfl rfl ?_
  refine s_if j59 rfl rfl am_cc_eq (fun hc1 => ?_) (fun hc1 => ?_)
  · replace h := h.1 hc1
    refine s_iload_n j69 rfl rfl ?_
    by_cases hr2 : x1.toInt < 1 ∨ 21 < x1.toInt
    · refine s_tsw j70 (t := 246) ((am_sw_out hr2).trans rfl) ?_
      replace h := h.2.2.2.2.2.2.2.2.2.2.2.2.2 (Or.inl hr2)
      exact h
    · obtain ⟨k3, hk4, hv5⟩ := am_sw_in hr2
      have hk42 : k3 < 21 := by omega
      clear hk4
      match k3, hk42, hv5 with
      | 0, _, hv5 =>
        have hs : x1 = (1 : Int32) := am_te hv5 (by decide)
        refine s_tsw j70 (t := 168) (by show am_sw 70 176 1 21 #[98, 104, 110, 116, 122, 128, 134, 140, 146, 152, 158, 176, 176, 176, 176, 176, 176, 176, 176, 164, 170] x1.toInt = _; rw [hv5]; rfl) ?_
        replace h := h.1 hs
        exact h
      | 1, _, hv5 =>
        have hs : x1 = (2 : Int32) := am_te hv5 (by decide)
        refine s_tsw j70 (t := 174) (by show am_sw 70 176 1 21 #[98, 104, 110, 116, 122, 128, 134, 140, 146, 152, 158, 176, 176, 176, 176, 176, 176, 176, 176, 164, 170] x1.toInt = _; rw [hv5]; rfl) ?_
        replace h := h.2.1 hs
        exact h
      | 2, _, hv5 =>
        have hs : x1 = (3 : Int32) := am_te hv5 (by decide)
        refine s_tsw j70 (t := 180) (by show am_sw 70 176 1 21 #[98, 104, 110, 116, 122, 128, 134, 140, 146, 152, 158, 176, 176, 176, 176, 176, 176, 176, 176, 164, 170] x1.toInt = _; rw [hv5]; rfl) ?_
        replace h := h.2.2.1 hs
        exact h
      | 3, _, hv5 =>
        have hs : x1 = (4 : Int32) := am_te hv5 (by decide)
        refine s_tsw j70 (t := 186) (by show am_sw 70 176 1 21 #[98, 104, 110, 116, 122, 128, 134, 140, 146, 152, 158, 176, 176, 176, 176, 176, 176, 176, 176, 164, 170] x1.toInt = _; rw [hv5]; rfl) ?_
        replace h := h.2.2.2.1 hs
        exact h
      | 4, _, hv5 =>
        have hs : x1 = (5 : Int32) := am_te hv5 (by decide)
        refine s_tsw j70 (t := 192) (by show am_sw 70 176 1 21 #[98, 104, 110, 116, 122, 128, 134, 140, 146, 152, 158, 176, 176, 176, 176, 176, 176, 176, 176, 164, 170] x1.toInt = _; rw [hv5]; rfl) ?_
        replace h := h.2.2.2.2.1 hs
        exact h
      | 5, _, hv5 =>
        have hs : x1 = (6 : Int32) := am_te hv5 (by decide)
        refine s_tsw j70 (t := 198) (by show am_sw 70 176 1 21 #[98, 104, 110, 116, 122, 128, 134, 140, 146, 152, 158, 176, 176, 176, 176, 176, 176, 176, 176, 164, 170] x1.toInt = _; rw [hv5]; rfl) ?_
        replace h := h.2.2.2.2.2.1 hs
        exact h
      | 6, _, hv5 =>
        have hs : x1 = (7 : Int32) := am_te hv5 (by decide)
        refine s_tsw j70 (t := 204) (by show am_sw 70 176 1 21 #[98, 104, 110, 116, 122, 128, 134, 140, 146, 152, 158, 176, 176, 176, 176, 176, 176, 176, 176, 164, 170] x1.toInt = _; rw [hv5]; rfl) ?_
        replace h := h.2.2.2.2.2.2.1 hs
        exact h
      | 7, _, hv5 =>
        have hs : x1 = (8 : Int32) := am_te hv5 (by decide)
        refine s_tsw j70 (t := 210) (by show am_sw 70 176 1 21 #[98, 104, 110, 116, 122, 128, 134, 140, 146, 152, 158, 176, 176, 176, 176, 176, 176, 176, 176, 164, 170] x1.toInt = _; rw [hv5]; rfl) ?_
        replace h := h.2.2.2.2.2.2.2.1 hs
        exact h
      | 8, _, hv5 =>
        have hs : x1 = (9 : Int32) := am_te hv5 (by decide)
        refine s_tsw j70 (t := 216) (by show am_sw 70 176 1 21 #[98, 104, 110, 116, 122, 128, 134, 140, 146, 152, 158, 176, 176, 176, 176, 176, 176, 176, 176, 164, 170] x1.toInt = _; rw [hv5]; rfl) ?_
        replace h := h.2.2.2.2.2.2.2.2.1 hs
        exact h
      | 9, _, hv5 =>
        have hs : x1 = (10 : Int32) := am_te hv5 (by decide)
        refine s_tsw j70 (t := 222) (by show am_sw 70 176 1 21 #[98, 104, 110, 116, 122, 128, 134, 140, 146, 152, 158, 176, 176, 176, 176, 176, 176, 176, 176, 164, 170] x1.toInt = _; rw [hv5]; rfl) ?_
        replace h := h.2.2.2.2.2.2.2.2.2.1 hs
        exact h
      | 10, _, hv5 =>
        have hs : x1 = (11 : Int32) := am_te hv5 (by decide)
        refine s_tsw j70 (t := 228) (by show am_sw 70 176 1 21 #[98, 104, 110, 116, 122, 128, 134, 140, 146, 152, 158, 176, 176, 176, 176, 176, 176, 176, 176, 164, 170] x1.toInt = _; rw [hv5]; rfl) ?_
        replace h := h.2.2.2.2.2.2.2.2.2.2.1 hs
        exact h
      | 11, _, hv5 =>
        have hs : x1 = (12 : Int32) := am_te hv5 (by decide)
        refine s_tsw j70 (t := 246) (by show am_sw 70 176 1 21 #[98, 104, 110, 116, 122, 128, 134, 140, 146, 152, 158, 176, 176, 176, 176, 176, 176, 176, 176, 164, 170] x1.toInt = _; rw [hv5]; rfl) ?_
        replace h := h.2.2.2.2.2.2.2.2.2.2.2.2.2 (Or.inr (Or.inl hs))
        exact h
      | 12, _, hv5 =>
        have hs : x1 = (13 : Int32) := am_te hv5 (by decide)
        refine s_tsw j70 (t := 246) (by show am_sw 70 176 1 21 #[98, 104, 110, 116, 122, 128, 134, 140, 146, 152, 158, 176, 176, 176, 176, 176, 176, 176, 176, 164, 170] x1.toInt = _; rw [hv5]; rfl) ?_
        replace h := h.2.2.2.2.2.2.2.2.2.2.2.2.2 (Or.inr (Or.inr (Or.inl hs)))
        exact h
      | 13, _, hv5 =>
        have hs : x1 = (14 : Int32) := am_te hv5 (by decide)
        refine s_tsw j70 (t := 246) (by show am_sw 70 176 1 21 #[98, 104, 110, 116, 122, 128, 134, 140, 146, 152, 158, 176, 176, 176, 176, 176, 176, 176, 176, 164, 170] x1.toInt = _; rw [hv5]; rfl) ?_
        replace h := h.2.2.2.2.2.2.2.2.2.2.2.2.2 (Or.inr (Or.inr (Or.inr (Or.inl hs))))
        exact h
      | 14, _, hv5 =>
        have hs : x1 = (15 : Int32) := am_te hv5 (by decide)
        refine s_tsw j70 (t := 246) (by show am_sw 70 176 1 21 #[98, 104, 110, 116, 122, 128, 134, 140, 146, 152, 158, 176, 176, 176, 176, 176, 176, 176, 176, 164, 170] x1.toInt = _; rw [hv5]; rfl) ?_
        replace h := h.2.2.2.2.2.2.2.2.2.2.2.2.2 (Or.inr (Or.inr (Or.inr (Or.inr (Or.inl hs)))))
        exact h
      | 15, _, hv5 =>
        have hs : x1 = (16 : Int32) := am_te hv5 (by decide)
        refine s_tsw j70 (t := 246) (by show am_sw 70 176 1 21 #[98, 104, 110, 116, 122, 128, 134, 140, 146, 152, 158, 176, 176, 176, 176, 176, 176, 176, 176, 164, 170] x1.toInt = _; rw [hv5]; rfl) ?_
        replace h := h.2.2.2.2.2.2.2.2.2.2.2.2.2 (Or.inr (Or.inr (Or.inr (Or.inr (Or.inr (Or.inl hs))))))
        exact h
      | 16, _, hv5 =>
        have hs : x1 = (17 : Int32) := am_te hv5 (by decide)
        refine s_tsw j70 (t := 246) (by show am_sw 70 176 1 21 #[98, 104, 110, 116, 122, 128, 134, 140, 146, 152, 158, 176, 176, 176, 176, 176, 176, 176, 176, 164, 170] x1.toInt = _; rw [hv5]; rfl) ?_
        replace h := h.2.2.2.2.2.2.2.2.2.2.2.2.2 (Or.inr (Or.inr (Or.inr (Or.inr (Or.inr (Or.inr (Or.inl hs)))))))
        exact h
      | 17, _, hv5 =>
        have hs : x1 = (18 : Int32) := am_te hv5 (by decide)
        refine s_tsw j70 (t := 246) (by show am_sw 70 176 1 21 #[98, 104, 110, 116, 122, 128, 134, 140, 146, 152, 158, 176, 176, 176, 176, 176, 176, 176, 176, 164, 170] x1.toInt = _; rw [hv5]; rfl) ?_
        replace h := h.2.2.2.2.2.2.2.2.2.2.2.2.2 (Or.inr (Or.inr (Or.inr (Or.inr (Or.inr (Or.inr (Or.inr (Or.inl hs))))))))
        exact h
      | 18, _, hv5 =>
        have hs : x1 = (19 : Int32) := am_te hv5 (by decide)
        refine s_tsw j70 (t := 246) (by show am_sw 70 176 1 21 #[98, 104, 110, 116, 122, 128, 134, 140, 146, 152, 158, 176, 176, 176, 176, 176, 176, 176, 176, 164, 170] x1.toInt = _; rw [hv5]; rfl) ?_
        replace h := h.2.2.2.2.2.2.2.2.2.2.2.2.2 (Or.inr (Or.inr (Or.inr (Or.inr (Or.inr (Or.inr (Or.inr (Or.inr hs))))))))
        exact h
      | 19, _, hv5 =>
        have hs : x1 = (20 : Int32) := am_te hv5 (by decide)
        refine s_tsw j70 (t := 234) (by show am_sw 70 176 1 21 #[98, 104, 110, 116, 122, 128, 134, 140, 146, 152, 158, 176, 176, 176, 176, 176, 176, 176, 176, 164, 170] x1.toInt = _; rw [hv5]; rfl) ?_
        replace h := h.2.2.2.2.2.2.2.2.2.2.2.1 hs
        exact h
      | 20, _, hv5 =>
        have hs : x1 = (21 : Int32) := am_te hv5 (by decide)
        refine s_tsw j70 (t := 240) (by show am_sw 70 176 1 21 #[98, 104, 110, 116, 122, 128, 134, 140, 146, 152, 158, 176, 176, 176, 176, 176, 176, 176, 176, 164, 170] x1.toInt = _; rw [hv5]; rfl) ?_
        replace h := h.2.2.2.2.2.2.2.2.2.2.2.2.1 hs
        exact h
      | n + 21, hk42, _ => exact absurd hk42 (by omega)
  · replace h := h.2 hc1
    refine s_aload_n j62 rfl rfl ?_
    refine s_iload_n j63 rfl rfl ?_
    refine s_aload_n j64 rfl rfl ?_
    obtain ⟨ho6, h⟩ := h
    refine s_virt j65 rfl rfl rfl rfl ho6 (by decide) (in_Ro_fact _ _ _) (am_r8 rfl) (am_bI h (fun a8 σ7 h hx7 => ?_))
    replace h := h hx7
    exact s_retI j68 rfl h
theorem P_Ro_act_168 (nl : Bool) (Ln : Nat) (xs : Nat → Int32) : am_Jl (TT nl Ln xs) 201 [(168, .aload_n 0, 169, []), (169, .aload_n 2, 170, []), (170, .invokevirtual 569, 173, [10, 266, 14, 2, 2]), (173, .ireturn, 174, [1])] := dk_ck (by decide +kernel)
set_option maxRecDepth 4096 in
theorem w_Ro_act_168 {nl : Bool} {Ln : Nat} {xs : Nat → Int32} {d : Nat} {this : Nat} {x1 : Int32} {x2 : Option Nat} {x3 : Int32} {σ : am_S} {F : Int32 → am_S → Prop} (h : (am_is σ (some this) 13) ∧ k_Ro_person nl Ln xs d this x2 σ (fun a3 σ2 => am_ext σ σ2 → F a3 σ2)) : c_Ro_act_168 nl Ln xs (d + 1) this x1 x2 x3 σ F := by
  obtain ⟨j168, j169, j170, j173, -⟩ := P_Ro_act_168 nl Ln xs
  unfold c_Ro_act_168
  refine s_aload_n j168 rfl rfl ?_
  refine s_aload_n j169 rfl rfl ?_
  obtain ⟨ho1, h⟩ := h
  refine s_virt j170 rfl rfl rfl rfl ho1 (by decide) (in_Ro_person _ _) (am_r8 rfl) (am_bI h (fun a3 σ2 h hx2 => ?_))
  replace h := h hx2
  exact s_retI j173 rfl h
theorem P_Ro_act_174 (nl : Bool) (Ln : Nat) (xs : Nat → Int32) : am_Jl (TT nl Ln xs) 201 [(174, .aload_n 0, 175, []), (175, .aload_n 2, 176, []), (176, .invokevirtual 573, 179, [10, 267, 14, 2, 2]), (179, .ireturn, 180, [1])] := dk_ck (by decide +kernel)
set_option maxRecDepth 4096 in
theorem w_Ro_act_174 {nl : Bool} {Ln : Nat} {xs : Nat → Int32} {d : Nat} {this : Nat} {x1 : Int32} {x2 : Option Nat} {x3 : Int32} {σ : am_S} {F : Int32 → am_S → Prop} (h : (am_is σ (some this) 13) ∧ k_Ro_rankTold nl Ln xs d this x2 σ (fun a3 σ2 => am_ext σ σ2 → F a3 σ2)) : c_Ro_act_174 nl Ln xs (d + 1) this x1 x2 x3 σ F := by
  obtain ⟨j174, j175, j176, j179, -⟩ := P_Ro_act_174 nl Ln xs
  unfold c_Ro_act_174
  refine s_aload_n j174 rfl rfl ?_
  refine s_aload_n j175 rfl rfl ?_
  obtain ⟨ho1, h⟩ := h
  refine s_virt j176 rfl rfl rfl rfl ho1 (by decide) (in_Ro_rankTold _ _) (am_r8 rfl) (am_bI h (fun a3 σ2 h hx2 => ?_))
  replace h := h hx2
  exact s_retI j179 rfl h
theorem P_Ro_act_180 (nl : Bool) (Ln : Nat) (xs : Nat → Int32) : am_Jl (TT nl Ln xs) 201 [(180, .aload_n 0, 181, []), (181, .aload_n 2, 182, []), (182, .invokevirtual 576, 185, [10, 268, 14, 2, 2]), (185, .ireturn, 186, [1])] := dk_ck (by decide +kernel)
set_option maxRecDepth 4096 in
theorem w_Ro_act_180 {nl : Bool} {Ln : Nat} {xs : Nat → Int32} {d : Nat} {this : Nat} {x1 : Int32} {x2 : Option Nat} {x3 : Int32} {σ : am_S} {F : Int32 → am_S → Prop} (h : (am_is σ (some this) 13) ∧ k_Ro_policy nl Ln xs d this x2 σ (fun a3 σ2 => am_ext σ σ2 → F a3 σ2)) : c_Ro_act_180 nl Ln xs (d + 1) this x1 x2 x3 σ F := by
  obtain ⟨j180, j181, j182, j185, -⟩ := P_Ro_act_180 nl Ln xs
  unfold c_Ro_act_180
  refine s_aload_n j180 rfl rfl ?_
  refine s_aload_n j181 rfl rfl ?_
  obtain ⟨ho1, h⟩ := h
  refine s_virt j182 rfl rfl rfl rfl ho1 (by decide) (in_Ro_policy _ _) (am_r8 rfl) (am_bI h (fun a3 σ2 h hx2 => ?_))
  replace h := h hx2
  exact s_retI j185 rfl h
theorem P_Ro_act_186 (nl : Bool) (Ln : Nat) (xs : Nat → Int32) : am_Jl (TT nl Ln xs) 201 [(186, .aload_n 0, 187, []), (187, .aload_n 2, 188, []), (188, .invokevirtual 579, 191, [10, 269, 14, 2, 2]), (191, .ireturn, 192, [1])] := dk_ck (by decide +kernel)
set_option maxRecDepth 4096 in
theorem w_Ro_act_186 {nl : Bool} {Ln : Nat} {xs : Nat → Int32} {d : Nat} {this : Nat} {x1 : Int32} {x2 : Option Nat} {x3 : Int32} {σ : am_S} {F : Int32 → am_S → Prop} (h : (am_is σ (some this) 13) ∧ k_Ro_bundle nl Ln xs d this x2 σ (fun a3 σ2 => am_ext σ σ2 → F a3 σ2)) : c_Ro_act_186 nl Ln xs (d + 1) this x1 x2 x3 σ F := by
  obtain ⟨j186, j187, j188, j191, -⟩ := P_Ro_act_186 nl Ln xs
  unfold c_Ro_act_186
  refine s_aload_n j186 rfl rfl ?_
  refine s_aload_n j187 rfl rfl ?_
  obtain ⟨ho1, h⟩ := h
  refine s_virt j188 rfl rfl rfl rfl ho1 (by decide) (in_Ro_bundle _ _) (am_r8 rfl) (am_bI h (fun a3 σ2 h hx2 => ?_))
  replace h := h hx2
  exact s_retI j191 rfl h
theorem P_Ro_act_192 (nl : Bool) (Ln : Nat) (xs : Nat → Int32) : am_Jl (TT nl Ln xs) 201 [(192, .aload_n 0, 193, []), (193, .aload_n 2, 194, []), (194, .invokevirtual 582, 197, [10, 274, 14, 2, 2]), (197, .ireturn, 198, [1])] := dk_ck (by decide +kernel)
set_option maxRecDepth 4096 in
theorem w_Ro_act_192 {nl : Bool} {Ln : Nat} {xs : Nat → Int32} {d : Nat} {this : Nat} {x1 : Int32} {x2 : Option Nat} {x3 : Int32} {σ : am_S} {F : Int32 → am_S → Prop} (h : (am_is σ (some this) 13) ∧ k_Ro_period nl Ln xs d this x2 σ (fun a3 σ2 => am_ext σ σ2 → F a3 σ2)) : c_Ro_act_192 nl Ln xs (d + 1) this x1 x2 x3 σ F := by
  obtain ⟨j192, j193, j194, j197, -⟩ := P_Ro_act_192 nl Ln xs
  unfold c_Ro_act_192
  refine s_aload_n j192 rfl rfl ?_
  refine s_aload_n j193 rfl rfl ?_
  obtain ⟨ho1, h⟩ := h
  refine s_virt j194 rfl rfl rfl rfl ho1 (by decide) (in_Ro_period _ _) (am_r8 rfl) (am_bI h (fun a3 σ2 h hx2 => ?_))
  replace h := h hx2
  exact s_retI j197 rfl h
theorem P_Ro_act_198 (nl : Bool) (Ln : Nat) (xs : Nat → Int32) : am_Jl (TT nl Ln xs) 201 [(198, .aload_n 0, 199, []), (199, .aload_n 2, 200, []), (200, .invokevirtual 585, 203, [10, 275, 14, 5, 2]), (203, .ireturn, 204, [1])] := dk_ck (by decide +kernel)
set_option maxRecDepth 4096 in
theorem w_Ro_act_198 {nl : Bool} {Ln : Nat} {xs : Nat → Int32} {d : Nat} {this : Nat} {x1 : Int32} {x2 : Option Nat} {x3 : Int32} {σ : am_S} {F : Int32 → am_S → Prop} (h : (am_is σ (some this) 13) ∧ k_Ro_clauses nl Ln xs d this x2 σ (fun a3 σ2 => am_ext σ σ2 → F a3 σ2)) : c_Ro_act_198 nl Ln xs (d + 1) this x1 x2 x3 σ F := by
  obtain ⟨j198, j199, j200, j203, -⟩ := P_Ro_act_198 nl Ln xs
  unfold c_Ro_act_198
  refine s_aload_n j198 rfl rfl ?_
  refine s_aload_n j199 rfl rfl ?_
  obtain ⟨ho1, h⟩ := h
  refine s_virt j200 rfl rfl rfl rfl ho1 (by decide) (in_Ro_clauses _ _) (am_r8 rfl) (am_bI h (fun a3 σ2 h hx2 => ?_))
  replace h := h hx2
  exact s_retI j203 rfl h
theorem P_Ro_act_204 (nl : Bool) (Ln : Nat) (xs : Nat → Int32) : am_Jl (TT nl Ln xs) 201 [(204, .aload_n 0, 205, []), (205, .aload_n 2, 206, []), (206, .invokevirtual 588, 209, [10, 290, 14, 2, 2]), (209, .ireturn, 210, [1])] := dk_ck (by decide +kernel)
set_option maxRecDepth 4096 in
theorem w_Ro_act_204 {nl : Bool} {Ln : Nat} {xs : Nat → Int32} {d : Nat} {this : Nat} {x1 : Int32} {x2 : Option Nat} {x3 : Int32} {σ : am_S} {F : Int32 → am_S → Prop} (h : (am_is σ (some this) 13) ∧ k_Ro_ruleTold nl Ln xs d this x2 σ (fun a3 σ2 => am_ext σ σ2 → F a3 σ2)) : c_Ro_act_204 nl Ln xs (d + 1) this x1 x2 x3 σ F := by
  obtain ⟨j204, j205, j206, j209, -⟩ := P_Ro_act_204 nl Ln xs
  unfold c_Ro_act_204
  refine s_aload_n j204 rfl rfl ?_
  refine s_aload_n j205 rfl rfl ?_
  obtain ⟨ho1, h⟩ := h
  refine s_virt j206 rfl rfl rfl rfl ho1 (by decide) (in_Ro_ruleTold _ _) (am_r8 rfl) (am_bI h (fun a3 σ2 h hx2 => ?_))
  replace h := h hx2
  exact s_retI j209 rfl h
theorem P_Ro_act_210 (nl : Bool) (Ln : Nat) (xs : Nat → Int32) : am_Jl (TT nl Ln xs) 201 [(210, .aload_n 0, 211, []), (211, .aload_n 2, 212, []), (212, .invokevirtual 591, 215, [10, 291, 14, 2, 2]), (215, .ireturn, 216, [1])] := dk_ck (by decide +kernel)
set_option maxRecDepth 4096 in
theorem w_Ro_act_210 {nl : Bool} {Ln : Nat} {xs : Nat → Int32} {d : Nat} {this : Nat} {x1 : Int32} {x2 : Option Nat} {x3 : Int32} {σ : am_S} {F : Int32 → am_S → Prop} (h : (am_is σ (some this) 13) ∧ k_Ro_lossTold nl Ln xs d this x2 σ (fun a3 σ2 => am_ext σ σ2 → F a3 σ2)) : c_Ro_act_210 nl Ln xs (d + 1) this x1 x2 x3 σ F := by
  obtain ⟨j210, j211, j212, j215, -⟩ := P_Ro_act_210 nl Ln xs
  unfold c_Ro_act_210
  refine s_aload_n j210 rfl rfl ?_
  refine s_aload_n j211 rfl rfl ?_
  obtain ⟨ho1, h⟩ := h
  refine s_virt j212 rfl rfl rfl rfl ho1 (by decide) (in_Ro_lossTold _ _) (am_r8 rfl) (am_bI h (fun a3 σ2 h hx2 => ?_))
  replace h := h hx2
  exact s_retI j215 rfl h
theorem P_Ro_act_216 (nl : Bool) (Ln : Nat) (xs : Nat → Int32) : am_Jl (TT nl Ln xs) 201 [(216, .aload_n 0, 217, []), (217, .aload_n 2, 218, []), (218, .invokevirtual 594, 221, [10, 293, 14, 4, 2]), (221, .ireturn, 222, [1])] := dk_ck (by decide +kernel)
set_option maxRecDepth 4096 in
theorem w_Ro_act_216 {nl : Bool} {Ln : Nat} {xs : Nat → Int32} {d : Nat} {this : Nat} {x1 : Int32} {x2 : Option Nat} {x3 : Int32} {σ : am_S} {F : Int32 → am_S → Prop} (h : (am_is σ (some this) 13) ∧ k_Ro_part nl Ln xs d this x2 σ (fun a3 σ2 => am_ext σ σ2 → F a3 σ2)) : c_Ro_act_216 nl Ln xs (d + 1) this x1 x2 x3 σ F := by
  obtain ⟨j216, j217, j218, j221, -⟩ := P_Ro_act_216 nl Ln xs
  unfold c_Ro_act_216
  refine s_aload_n j216 rfl rfl ?_
  refine s_aload_n j217 rfl rfl ?_
  obtain ⟨ho1, h⟩ := h
  refine s_virt j218 rfl rfl rfl rfl ho1 (by decide) (in_Ro_part _ _) (am_r8 rfl) (am_bI h (fun a3 σ2 h hx2 => ?_))
  replace h := h hx2
  exact s_retI j221 rfl h
theorem P_Ro_act_222 (nl : Bool) (Ln : Nat) (xs : Nat → Int32) : am_Jl (TT nl Ln xs) 201 [(222, .aload_n 0, 223, []), (223, .aload_n 2, 224, []), (224, .invokevirtual 597, 227, [10, 294, 14, 4, 2]), (227, .ireturn, 228, [1])] := dk_ck (by decide +kernel)
set_option maxRecDepth 4096 in
theorem w_Ro_act_222 {nl : Bool} {Ln : Nat} {xs : Nat → Int32} {d : Nat} {this : Nat} {x1 : Int32} {x2 : Option Nat} {x3 : Int32} {σ : am_S} {F : Int32 → am_S → Prop} (h : (am_is σ (some this) 13) ∧ k_Ro_item nl Ln xs d this x2 σ (fun a3 σ2 => am_ext σ σ2 → F a3 σ2)) : c_Ro_act_222 nl Ln xs (d + 1) this x1 x2 x3 σ F := by
  obtain ⟨j222, j223, j224, j227, -⟩ := P_Ro_act_222 nl Ln xs
  unfold c_Ro_act_222
  refine s_aload_n j222 rfl rfl ?_
  refine s_aload_n j223 rfl rfl ?_
  obtain ⟨ho1, h⟩ := h
  refine s_virt j224 rfl rfl rfl rfl ho1 (by decide) (in_Ro_item _ _) (am_r8 rfl) (am_bI h (fun a3 σ2 h hx2 => ?_))
  replace h := h hx2
  exact s_retI j227 rfl h
theorem P_Ro_act_228 (nl : Bool) (Ln : Nat) (xs : Nat → Int32) : am_Jl (TT nl Ln xs) 201 [(228, .aload_n 0, 229, []), (229, .aload_n 2, 230, []), (230, .invokevirtual 600, 233, [10, 295, 14, 2, 2]), (233, .ireturn, 234, [1])] := dk_ck (by decide +kernel)
set_option maxRecDepth 4096 in
theorem w_Ro_act_228 {nl : Bool} {Ln : Nat} {xs : Nat → Int32} {d : Nat} {this : Nat} {x1 : Int32} {x2 : Option Nat} {x3 : Int32} {σ : am_S} {F : Int32 → am_S → Prop} (h : (am_is σ (some this) 13) ∧ k_Ro_notified nl Ln xs d this x2 σ (fun a3 σ2 => am_ext σ σ2 → F a3 σ2)) : c_Ro_act_228 nl Ln xs (d + 1) this x1 x2 x3 σ F := by
  obtain ⟨j228, j229, j230, j233, -⟩ := P_Ro_act_228 nl Ln xs
  unfold c_Ro_act_228
  refine s_aload_n j228 rfl rfl ?_
  refine s_aload_n j229 rfl rfl ?_
  obtain ⟨ho1, h⟩ := h
  refine s_virt j230 rfl rfl rfl rfl ho1 (by decide) (in_Ro_notified _ _) (am_r8 rfl) (am_bI h (fun a3 σ2 h hx2 => ?_))
  replace h := h hx2
  exact s_retI j233 rfl h
theorem P_Ro_act_234 (nl : Bool) (Ln : Nat) (xs : Nat → Int32) : am_Jl (TT nl Ln xs) 201 [(234, .aload_n 0, 235, []), (235, .aload_n 2, 236, []), (236, .invokevirtual 603, 239, [10, 296, 14, 2, 2]), (239, .ireturn, 240, [1])] := dk_ck (by decide +kernel)
set_option maxRecDepth 4096 in
theorem w_Ro_act_234 {nl : Bool} {Ln : Nat} {xs : Nat → Int32} {d : Nat} {this : Nat} {x1 : Int32} {x2 : Option Nat} {x3 : Int32} {σ : am_S} {F : Int32 → am_S → Prop} (h : (am_is σ (some this) 13) ∧ k_Ro_batch nl Ln xs d this x2 σ (fun a3 σ2 => am_ext σ σ2 → F a3 σ2)) : c_Ro_act_234 nl Ln xs (d + 1) this x1 x2 x3 σ F := by
  obtain ⟨j234, j235, j236, j239, -⟩ := P_Ro_act_234 nl Ln xs
  unfold c_Ro_act_234
  refine s_aload_n j234 rfl rfl ?_
  refine s_aload_n j235 rfl rfl ?_
  obtain ⟨ho1, h⟩ := h
  refine s_virt j236 rfl rfl rfl rfl ho1 (by decide) (in_Ro_batch _ _) (am_r8 rfl) (am_bI h (fun a3 σ2 h hx2 => ?_))
  replace h := h hx2
  exact s_retI j239 rfl h
theorem P_Ro_act_240 (nl : Bool) (Ln : Nat) (xs : Nat → Int32) : am_Jl (TT nl Ln xs) 201 [(240, .aload_n 0, 241, []), (241, .aload_n 2, 242, []), (242, .invokevirtual 606, 245, [10, 297, 14, 6, 2]), (245, .ireturn, 246, [1])] := dk_ck (by decide +kernel)
set_option maxRecDepth 4096 in
theorem w_Ro_act_240 {nl : Bool} {Ln : Nat} {xs : Nat → Int32} {d : Nat} {this : Nat} {x1 : Int32} {x2 : Option Nat} {x3 : Int32} {σ : am_S} {F : Int32 → am_S → Prop} (h : (am_is σ (some this) 13) ∧ k_Ro_end nl Ln xs d this x2 σ (fun a3 σ2 => am_ext σ σ2 → F a3 σ2)) : c_Ro_act_240 nl Ln xs (d + 1) this x1 x2 x3 σ F := by
  obtain ⟨j240, j241, j242, j245, -⟩ := P_Ro_act_240 nl Ln xs
  unfold c_Ro_act_240
  refine s_aload_n j240 rfl rfl ?_
  refine s_aload_n j241 rfl rfl ?_
  obtain ⟨ho1, h⟩ := h
  refine s_virt j242 rfl rfl rfl rfl ho1 (by decide) (in_Ro_end _ _) (am_r8 rfl) (am_bI h (fun a3 σ2 h hx2 => ?_))
  replace h := h hx2
  exact s_retI j245 rfl h
theorem P_Ro_act_246 (nl : Bool) (Ln : Nat) (xs : Nat → Int32) : am_Jl (TT nl Ln xs) 201 [(246, .aload_n 0, 247, []), (247, .aload_n 2, 248, []), (248, .invokevirtual 609, 251, [10, 299, 14, 3, 2]), (251, .ireturn, 252, [1])] := dk_ck (by decide +kernel)
set_option maxRecDepth 4096 in
theorem w_Ro_act_246 {nl : Bool} {Ln : Nat} {xs : Nat → Int32} {d : Nat} {this : Nat} {x1 : Int32} {x2 : Option Nat} {x3 : Int32} {σ : am_S} {F : Int32 → am_S → Prop} (h : (am_is σ (some this) 13) ∧ k_Ro_undo nl Ln xs d this x2 σ (fun a3 σ2 => am_ext σ σ2 → F a3 σ2)) : c_Ro_act_246 nl Ln xs (d + 1) this x1 x2 x3 σ F := by
  obtain ⟨j246, j247, j248, j251, -⟩ := P_Ro_act_246 nl Ln xs
  unfold c_Ro_act_246
  refine s_aload_n j246 rfl rfl ?_
  refine s_aload_n j247 rfl rfl ?_
  obtain ⟨ho1, h⟩ := h
  refine s_virt j248 rfl rfl rfl rfl ho1 (by decide) (in_Ro_undo _ _) (am_r8 rfl) (am_bI h (fun a3 σ2 h hx2 => ?_))
  replace h := h hx2
  exact s_retI j251 rfl h
theorem P_Ro_hold (nl : Bool) (Ln : Nat) (xs : Nat → Int32) : am_Jl (TT nl Ln xs) 202 [(0, .aload_n 0, 1, []), (1, .getfield 250, 4, [9, 13, 63, 0]), (4, .bipush 60, 6, []), (6, .if_icmp .ne 6, 9, []), (9, .bipush (-7), 11, []), (11, .ireturn, 12, [1]), (12, .aload_n 0, 13, []), (13, .getfield 165, 16, [9, 13, 64, 2]), (16, .aload_n 0, 17, []), (17, .getfield 250, 20, [9, 13, 63, 0]), (20, .iload_n 1, 21, []), (21, .iastore, 22, []), (22, .iconst 0, 23, []), (23, .istore_n 3, 24, [])] := dk_ck (by decide +kernel)
set_option maxRecDepth 4096 in
theorem w_Ro_hold {nl : Bool} {Ln : Nat} {xs : Nat → Int32} {d : Nat} {this : Nat} {p0 : Int32} {p1 : Option Nat} {σ : am_S} {F : Int32 → am_S → Prop} (h : (am_is σ (some this) 13) ∧ ((am_fI σ 13063 this) = (60 : Int32) → F (-7 : Int32) σ) ∧ (¬ ((am_fI σ 13063 this) = (60 : Int32)) → (am_ar σ 1000 (am_fR σ 13064 this) (am_fI σ 13063 this)) ∧ ∀ σ4, σ4 = am_saI σ ((am_fR σ 13064 this).getD 0) (am_fI σ 13063 this).toNatClampNeg p0 → c_Ro_hold_24 nl Ln xs (d + 1) this p0 p1 (0 : Int32) σ4 F)) : k_Ro_hold nl Ln xs (d + 1) this p0 p1 σ F := by
  obtain ⟨j0, j1, j4, j6, j9, j11, j12, j13, j16, j17, j20, j21, j22, j23, -⟩ := P_Ro_hold nl Ln xs
  have elo : am_lo 4 [am_ov (some this), .int p0, am_ov p1] = [some (am_ov (some this)), some (.int p0), some (am_ov p1), none] := by simp only [am_lo, am_in_ov, am_in_int, am_in_long, am_in_nil]; rfl
  unfold k_Ro_hold
  rw [elo]
  refine s_aload_n j0 rfl rfl ?_
  obtain ⟨ho1, h⟩ := h
  refine s_gfI j1 rfl ho1 ?_
  refine s_bipush j4 rfl kc_bi_60 ?_
  refine s_icn j6 rfl rfl am_cc_ne (fun hc2 => ?_) (fun hc2 => ?_)
  · replace h := h.2 hc2
    refine s_aload_n j12 rfl rfl ?_
    refine s_gfR j13 rfl ho1 ?_
    refine s_aload_n j16 rfl rfl ?_
    refine s_gfI j17 rfl ho1 ?_
    refine s_iload_n j20 rfl rfl ?_
    obtain ⟨ho3, h⟩ := h
    refine s_iastore j21 rfl ho3 (fun σ4 e5 => ?_)
    replace h := h σ4 e5
    have ek6 : am_kd σ4 = am_kd σ := by rw [e5]
    refine s_iconst j22 rfl kc_ic_0 ?_
    refine s_istore_n j23 rfl (n := 4) (L' := [some (am_ov (some this)), some (.int p0), some (am_ov p1), some (.int (0 : Int32))]) rfl (by decide) (am_st1_R [_, _] _ _ _ _) ?_
    exact h
  · replace h := h.1 hc2
    refine s_bipush j9 rfl kc_bi_m7 ?_
    exact s_retI j11 rfl h
theorem P_Ro_hold_24 (nl : Bool) (Ln : Nat) (xs : Nat → Int32) : am_Jl (TT nl Ln xs) 202 [(24, .iload_n 3, 25, []), (25, .bipush 6, 27, []), (27, .if_icmp .ge 26, 30, []), (30, .aload_n 0, 31, []), (31, .getfield 168, 34, [9, 13, 65, 2]), (34, .bipush 6, 36, []), (36, .aload_n 0, 37, []), (37, .getfield 250, 40, [9, 13, 63, 0]), (40, .imul, 41, []), (41, .iload_n 3, 42, []), (42, .iadd, 43, []), (43, .aload_n 2, 44, []), (44, .iload_n 3, 45, []), (45, .laload, 46, []), (46, .lastore, 47, []), (47, .iinc 3 1, 50, []), (50, .goto (-26), 53, []), (53, .aload_n 0, 54, []), (54, .dup, 55, []), (55, .getfield 250, 58, [9, 13, 63, 0]), (58, .iconst 1, 59, []), (59, .iadd, 60, []), (60, .putfield 250, 63, [9, 13, 63, 0]), (63, .aload_n 0, 64, []), (64, .iload_n 1, 65, []), (65, .aload_n 2, 66, []), (66, .invokevirtual 499, 69, [10, 203, 14, 5, 3]), (69, .bipush (-8), 71, []), (71, .ireturn, 72, [1])] := dk_ck (by decide +kernel)
set_option maxRecDepth 4096 in
theorem w_Ro_hold_24 {nl : Bool} {Ln : Nat} {xs : Nat → Int32} {d : Nat} {this : Nat} {x1 : Int32} {x2 : Option Nat} {x3 : Int32} {σ : am_S} {F : Int32 → am_S → Prop} (h : (x3 < (6 : Int32) → (am_is σ (some this) 13) ∧ (am_ar σ 1001 x2 x3) ∧ (am_ar σ 1001 (am_fR σ 13065 this) (((6 : Int32) * (am_fI σ 13063 this)) + x3)) ∧ ∀ σ5, σ5 = am_saL σ ((am_fR σ 13065 this).getD 0) (((6 : Int32) * (am_fI σ 13063 this)) + x3).toNatClampNeg (am_aL σ (x2.getD 0) x3.toNatClampNeg) → c_Ro_hold_24 nl Ln xs (d + 1) this x1 x2 (x3 + (1 : Int32)) σ5 F) ∧ (¬ (x3 < (6 : Int32)) → (am_is σ (some this) 13) ∧ ∀ σ9, σ9 = am_sfI σ 13063 this ((am_fI σ 13063 this) + (1 : Int32)) → k_Ro_note nl Ln xs d this x1 x2 σ9 (fun σ12 => am_ext σ9 σ12 → F (-8 : Int32) σ12))) : c_Ro_hold_24 nl Ln xs (d + 1) this x1 x2 x3 σ F := by
  obtain ⟨j24, j25, j27, j30, j31, j34, j36, j37, j40, j41, j42, j43, j44, j45, j46, j47, j50, j53, j54, j55, j58, j59, j60, j63, j64, j65, j66, j69, j71, -⟩ := P_Ro_hold_24 nl Ln xs
  unfold c_Ro_hold_24
  refine s_iload_n j24 rfl rfl ?_
  refine s_bipush j25 rfl kc_bi_6 ?_
  refine s_icn j27 rfl rfl am_cc_ge (fun hc1 => ?_) (fun hc1 => ?_)
  · replace h := h.2 hc1
    refine s_aload_n j53 rfl rfl ?_
    refine s_dup j54 rfl (am_cov _) ?_
    obtain ⟨ho8, h⟩ := h
    refine s_gfI j55 rfl ho8 ?_
    refine s_iconst j58 rfl kc_ic_1 ?_
    refine s_g j59 rfl rfl rfl rfl rfl rfl ?_
    refine s_pfI j60 rfl ho8 (fun σ9 e10 => ?_)
    replace h := h σ9 e10
    have ek11 : am_kd σ9 = am_kd σ := by rw [e10]
    refine s_aload_n j63 rfl rfl ?_
    refine s_iload_n j64 rfl rfl ?_
    refine s_aload_n j65 rfl rfl ?_
    refine s_virt j66 rfl rfl rfl rfl (am_is_kd ek11 ho8) (by decide) (in_Ro_note _ _ _) (am_r8 rfl) (am_bV h (fun σ12 h hx12 => ?_))
    replace h := h hx12
    refine s_bipush j69 rfl kc_bi_m8 ?_
    exact s_retI j71 rfl h
  · replace h := h.1 hc1
    refine s_aload_n j30 rfl rfl ?_
    obtain ⟨ho2, h⟩ := h
    refine s_gfR j31 rfl ho2 ?_
    refine s_bipush j34 rfl kc_bi_6 ?_
    refine s_aload_n j36 rfl rfl ?_
    refine s_gfI j37 rfl ho2 ?_
    refine s_g j40 rfl rfl rfl rfl rfl rfl ?_
    refine s_iload_n j41 rfl rfl ?_
    refine s_g j42 rfl rfl rfl rfl rfl rfl ?_
    refine s_aload_n j43 rfl rfl ?_
    refine s_iload_n j44 rfl rfl ?_
    obtain ⟨ho3, h⟩ := h
    refine s_laload j45 rfl ho3 ?_
    obtain ⟨ho4, h⟩ := h
    refine s_lastore j46 rfl ho4 (fun σ5 e6 => ?_)
    replace h := h σ5 e6
    have ek7 : am_kd σ5 = am_kd σ := by rw [e6]
    refine s_iinc (L' := [some (am_ov (some this)), some (.int x1), some (am_ov x2), some (.int (x3 + (1 : Int32)))]) j47 rfl rfl kc_ic_1 (am_st1_R [_, _] _ _ _ _) ?_
    refine s_goto j50 rfl rfl ?_
    exact h
theorem P_Ro_note (nl : Bool) (Ln : Nat) (xs : Nat → Int32) : am_Jl (TT nl Ln xs) 203 [(0, .aload_n 0, 1, []), (1, .iload_n 1, 2, []), (2, .i2l, 3, []), (3, .invokevirtual 618, 6, [10, 204, 14, 7, 2]), (6, .iload_n 1, 7, []), (7, .invokestatic 621, 10, [12, 205, 1, 1]), (10, .istore_n 3, 11, []), (11, .iconst 0, 12, []), (12, .istore 4, 14, [])] := dk_ck (by decide +kernel)
set_option maxRecDepth 4096 in
theorem w_Ro_note {nl : Bool} {Ln : Nat} {xs : Nat → Int32} {d : Nat} {this : Nat} {p0 : Int32} {p1 : Option Nat} {σ : am_S} {F : am_S → Prop} (h : (am_is σ (some this) 13) ∧ k_Ro_noteNumber nl Ln xs d this p0.toInt64 σ (fun σ2 => am_ext σ σ2 → k_Rm_argumentsOf nl Ln xs d p0 σ2 (fun a5 σ4 => am_ext σ2 σ4 → c_Ro_note_14 nl Ln xs (d + 1) this p0 p1 a5 (0 : Int32) σ4 F))) : k_Ro_note nl Ln xs (d + 1) this p0 p1 σ F := by
  obtain ⟨j0, j1, j2, j3, j6, j7, j10, j11, j12, -⟩ := P_Ro_note nl Ln xs
  have elo : am_lo 5 [am_ov (some this), .int p0, am_ov p1] = [some (am_ov (some this)), some (.int p0), some (am_ov p1), none, none] := by simp only [am_lo, am_in_ov, am_in_int, am_in_long, am_in_nil]; rfl
  unfold k_Ro_note
  rw [elo]
  refine s_aload_n j0 rfl rfl ?_
  refine s_iload_n j1 rfl rfl ?_
  refine s_g j2 rfl rfl rfl rfl rfl rfl ?_
  obtain ⟨ho1, h⟩ := h
  refine s_virt j3 rfl rfl rfl rfl ho1 (by decide) (in_Ro_noteNumber _ _) (am_r8 rfl) (am_bV h (fun σ2 h hx2 => ?_))
  replace h := h hx2
  refine s_iload_n j6 rfl rfl ?_
  refine s_stat j7 rfl rfl rfl rfl (by decide) (in_Rm_argumentsOf _) (am_r8 rfl) (am_bI h (fun a5 σ4 h hx4 => ?_))
  replace h := h hx4
  refine s_istore_n j10 rfl (n := 5) (L' := [some (am_ov (some this)), some (.int p0), some (am_ov p1), some (.int a5), none]) rfl (by decide) (am_st1_R [_, _] _ _ _ _) ?_
  refine s_iconst j11 rfl kc_ic_0 ?_
  refine s_istore j12 rfl (n := 5) (L' := [some (am_ov (some this)), some (.int p0), some (am_ov p1), some (.int a5), some (.int (0 : Int32))]) rfl (by decide) rfl ?_
  exact h
theorem P_Ro_note_14 (nl : Bool) (Ln : Nat) (xs : Nat → Int32) : am_Jl (TT nl Ln xs) 203 [(14, .iload 4, 16, []), (16, .iload_n 3, 17, []), (17, .if_icmp .ge 17, 20, []), (20, .aload_n 0, 21, []), (21, .aload_n 2, 22, []), (22, .iload 4, 24, []), (24, .laload, 25, []), (25, .invokevirtual 618, 28, [10, 204, 14, 7, 2]), (28, .iinc 4 1, 31, []), (31, .goto (-17), 34, []), (34, .iconst 0, 35, []), (35, .istore 4, 37, [])] := dk_ck (by decide +kernel)
set_option maxRecDepth 4096 in
theorem w_Ro_note_14 {nl : Bool} {Ln : Nat} {xs : Nat → Int32} {d : Nat} {this : Nat} {x1 : Int32} {x2 : Option Nat} {x3 : Int32} {x4 : Int32} {σ : am_S} {F : am_S → Prop} (h : (x4 < x3 → (am_ar σ 1001 x2 x4) ∧ (am_is σ (some this) 13) ∧ k_Ro_noteNumber nl Ln xs d this (am_aL σ (x2.getD 0) x4.toNatClampNeg) σ (fun σ4 => am_ext σ σ4 → c_Ro_note_14 nl Ln xs (d + 1) this x1 x2 x3 (x4 + (1 : Int32)) σ4 F)) ∧ (¬ (x4 < x3) → c_Ro_note_37 nl Ln xs (d + 1) this x1 x2 x3 (0 : Int32) σ F)) : c_Ro_note_14 nl Ln xs (d + 1) this x1 x2 x3 x4 σ F := by
  obtain ⟨j14, j16, j17, j20, j21, j22, j24, j25, j28, j31, j34, j35, -⟩ := P_Ro_note_14 nl Ln xs
  unfold c_Ro_note_14
  refine s_iload j14 rfl rfl ?_
  refine s_iload_n j16 rfl rfl ?_
  refine s_icn j17 rfl rfl am_cc_ge (fun hc1 => ?_) (fun hc1 => ?_)
  · replace h := h.2 hc1
    refine s_iconst j34 rfl kc_ic_0 ?_
    refine s_istore j35 rfl (n := 5) (L' := [some (am_ov (some this)), some (.int x1), some (am_ov x2), some (.int x3), some (.int (0 : Int32))]) rfl (by decide) rfl ?_
    exact h
  · replace h := h.1 hc1
    refine s_aload_n j20 rfl rfl ?_
    refine s_aload_n j21 rfl rfl ?_
    refine s_iload j22 rfl rfl ?_
    obtain ⟨ho2, h⟩ := h
    refine s_laload j24 rfl ho2 ?_
    obtain ⟨ho3, h⟩ := h
    refine s_virt j25 rfl rfl rfl rfl ho3 (by decide) (in_Ro_noteNumber _ _) (am_r8 rfl) (am_bV h (fun σ4 h hx4 => ?_))
    replace h := h hx4
    refine s_iinc (L' := [some (am_ov (some this)), some (.int x1), some (am_ov x2), some (.int x3), some (.int (x4 + (1 : Int32)))]) j28 rfl rfl kc_ic_1 rfl ?_
    refine s_goto j31 rfl rfl ?_
    exact h
theorem P_Ro_note_37 (nl : Bool) (Ln : Nat) (xs : Nat → Int32) : am_Jl (TT nl Ln xs) 203 [(37, .iload_n 1, 38, []), (38, .bipush 6, 40, []), (40, .if_icmp .ne 31, 43, []), (43, .iload 4, 45, []), (45, .i2l, 46, []), (46, .aload_n 2, 47, []), (47, .iconst 1, 48, []), (48, .laload, 49, []), (49, .lcmp, 50, []), (50, .ifCond .ge 21, 53, []), (53, .aload_n 0, 54, []), (54, .aload_n 0, 55, []), (55, .getfield 203, 58, [9, 13, 90, 2]), (58, .iload 4, 60, []), (60, .iaload, 61, []), (61, .i2l, 62, []), (62, .invokevirtual 618, 65, [10, 204, 14, 7, 2]), (65, .iinc 4 1, 68, []), (68, .goto (-31), 71, []), (71, .return_, 72, [0])] := dk_ck (by decide +kernel)
set_option maxRecDepth 4096 in
theorem w_Ro_note_37 {nl : Bool} {Ln : Nat} {xs : Nat → Int32} {d : Nat} {this : Nat} {x1 : Int32} {x2 : Option Nat} {x3 : Int32} {x4 : Int32} {σ : am_S} {F : am_S → Prop} (h : (x1 = (6 : Int32) → (am_ar σ 1001 x2 (1 : Int32)) ∧ (x4.toInt64 < (am_aL σ (x2.getD 0) (1 : Int32).toNatClampNeg) → (am_is σ (some this) 13) ∧ (am_ar σ 1000 (am_fR σ 13090 this) x4) ∧ k_Ro_noteNumber nl Ln xs d this ((am_aI σ ((am_fR σ 13090 this).getD 0) x4.toNatClampNeg).toInt64) σ (fun σ6 => am_ext σ σ6 → c_Ro_note_37 nl Ln xs (d + 1) this x1 x2 x3 (x4 + (1 : Int32)) σ6 F)) ∧ (¬ (x4.toInt64 < (am_aL σ (x2.getD 0) (1 : Int32).toNatClampNeg)) → F σ)) ∧ (¬ (x1 = (6 : Int32)) → F σ)) : c_Ro_note_37 nl Ln xs (d + 1) this x1 x2 x3 x4 σ F := by
  obtain ⟨j37, j38, j40, j43, j45, j46, j47, j48, j49, j50, j53, j54, j55, j58, j60, j61, j62, j65, j68, j71, -⟩ := P_Ro_note_37 nl Ln xs
  unfold c_Ro_note_37
  refine s_iload_n j37 rfl rfl ?_
  refine s_bipush j38 rfl kc_bi_6 ?_
  refine s_icn j40 rfl rfl am_cc_ne (fun hc1 => ?_) (fun hc1 => ?_)
  · replace h := h.2 hc1
    exact s_retV j71 rfl h
  · replace h := h.1 hc1
    refine s_iload j43 rfl rfl ?_
    refine s_g j45 rfl rfl rfl rfl rfl rfl ?_
    refine s_aload_n j46 rfl rfl ?_
    refine s_iconst j47 rfl kc_ic_1 ?_
    obtain ⟨ho2, h⟩ := h
    refine s_laload j48 rfl ho2 ?_
    refine s_g j49 rfl rfl rfl rfl rfl rfl ?_
    refine s_ifn j50 rfl rfl am_cl_ge (fun hc3 => ?_) (fun hc3 => ?_)
    · replace h := h.2 hc3
      exact s_retV j71 rfl h
    · replace h := h.1 hc3
      refine s_aload_n j53 rfl rfl ?_
      refine s_aload_n j54 rfl rfl ?_
      obtain ⟨ho4, h⟩ := h
      refine s_gfR j55 rfl ho4 ?_
      refine s_iload j58 rfl rfl ?_
      obtain ⟨ho5, h⟩ := h
      refine s_iaload j60 rfl ho5 ?_
      refine s_g j61 rfl rfl rfl rfl rfl rfl ?_
      refine s_virt j62 rfl rfl rfl rfl ho4 (by decide) (in_Ro_noteNumber _ _) (am_r8 rfl) (am_bV h (fun σ6 h hx6 => ?_))
      replace h := h hx6
      refine s_iinc (L' := [some (am_ov (some this)), some (.int x1), some (am_ov x2), some (.int x3), some (.int (x4 + (1 : Int32)))]) j65 rfl rfl kc_ic_1 rfl ?_
      refine s_goto j68 rfl rfl ?_
      exact h
theorem P_Ro_noteNumber (nl : Bool) (Ln : Nat) (xs : Nat → Int32) : am_Jl (TT nl Ln xs) 204 [(0, .lload_n 1, 1, []), (1, .lconst 0, 2, []), (2, .lcmp, 3, []), (3, .ifCond .ge 13, 6, []), (6, .ldc2_w 612, 9, [6, 18446744073709551614]), (9, .lload_n 1, 10, []), (10, .lmul, 11, []), (11, .lconst 1, 12, []), (12, .lsub, 13, []), (13, .goto 8, 16, []), (16, .ldc2_w 524, 19, [6, 2]), (19, .lload_n 1, 20, []), (20, .lmul, 21, []), (21, .lstore_n 3, 22, [])] := dk_ck (by decide +kernel)
set_option maxRecDepth 4096 in
theorem w_Ro_noteNumber {nl : Bool} {Ln : Nat} {xs : Nat → Int32} {d : Nat} {this : Nat} {p0 : Int64} {σ : am_S} {F : am_S → Prop} (h : ∀ w3 : Int64, w3 = (if p0 < (0 : Int64) then (((-2 : Int64) * p0) - (1 : Int64)) else ((2 : Int64) * p0)) → c_Ro_noteNumber_22 nl Ln xs (d + 1) this p0 w3 none none σ F) : k_Ro_noteNumber nl Ln xs (d + 1) this p0 σ F := by
  obtain ⟨j0, j1, j2, j3, j6, j9, j10, j11, j12, j13, j16, j19, j20, j21, -⟩ := P_Ro_noteNumber nl Ln xs
  have elo : am_lo 7 [am_ov (some this), .long p0] = [some (am_ov (some this)), some (.long p0), none, none, none, none, none] := by simp only [am_lo, am_in_ov, am_in_int, am_in_long, am_in_nil]; rfl
  unfold k_Ro_noteNumber
  rw [elo]
  refine s_lload_n j0 rfl rfl ?_
  refine s_lconst j1 rfl rfl ?_
  refine s_g j2 rfl rfl rfl rfl rfl rfl ?_
  have K2 : ∀ (w3 : Int64), w3 = (if p0 < (0 : Int64) then (((-2 : Int64) * p0) - (1 : Int64)) else ((2 : Int64) * p0)) → am_C (TT nl Ln xs) (d + 1) 204 21 [some (am_ov (some this)), some (.long p0), none, none, none, none, none] [.long w3] σ (am_qV F) := by
    intro w3 hw4
    replace h := h w3 hw4
    refine s_lstore_n j21 rfl (n := 7) (L' := [some (am_ov (some this)), some (.long p0), none, some (.long w3), none, none, none]) rfl (by decide) rfl ?_
    exact h
  refine s_ifn j3 rfl rfl am_cl_ge (fun hc1 => ?_) (fun hc1 => ?_)
  · refine s_ldc2 j16 rfl kc_ll_2 ?_
    refine s_lload_n j19 rfl rfl ?_
    refine s_g j20 rfl rfl rfl rfl rfl rfl ?_
    exact K2 _ (am_t2 hc1 rfl)
  · refine s_ldc2 j6 rfl kc_ll_m2 ?_
    refine s_lload_n j9 rfl rfl ?_
    refine s_g j10 rfl rfl rfl rfl rfl rfl ?_
    refine s_lconst j11 rfl rfl ?_
    refine s_g j12 rfl rfl rfl rfl rfl rfl ?_
    refine s_goto j13 rfl rfl ?_
    exact K2 _ (am_t1 hc1 rfl)
theorem P_Ro_noteNumber_22 (nl : Bool) (Ln : Nat) (xs : Nat → Int32) : am_Jl (TT nl Ln xs) 204 [(22, .lload_n 3, 23, []), (23, .ldc2_w 614, 26, [6, 127]), (26, .land, 27, []), (27, .lstore 5, 29, []), (29, .lload_n 3, 30, []), (30, .bipush 7, 32, []), (32, .lushr, 33, []), (33, .lstore_n 3, 34, []), (34, .aload_n 0, 35, []), (35, .getfield 172, 38, [9, 13, 66, 2]), (38, .aload_n 0, 39, []), (39, .getfield 253, 42, [9, 13, 67, 0]), (42, .lload_n 3, 43, []), (43, .lconst 0, 44, []), (44, .lcmp, 45, []), (45, .ifCond .ne 8, 48, []), (48, .lload 5, 50, []), (50, .goto 9, 53, []), (53, .lload 5, 55, []), (55, .ldc2_w 616, 58, [6, 128]), (58, .ladd, 59, [])] := dk_ck (by decide +kernel)
set_option maxRecDepth 4096 in
theorem w_Ro_noteNumber_22 {nl : Bool} {Ln : Nat} {xs : Nat → Int32} {d : Nat} {this : Nat} {x1 : Int64} {x3 : Int64} {x5 : Option Value} {x6 : Option Value} {σ : am_S} {F : am_S → Prop} (h : ∀ v1 : Int64, v1 = (x3 &&& (127 : Int64)) → ∀ v3 : Int64, v3 = ((x3.toUInt64 >>> ((7 : Int32).toInt64.toUInt64 &&& Int64.toUInt64 63)).toInt64) → (am_is σ (some this) 13) ∧ ∀ w8 : Int64, w8 = (if v3 = (0 : Int64) then v1 else (v1 + (128 : Int64))) → c_Ro_noteNumber_59 nl Ln xs (d + 1) this x1 v3 v1 (am_fR σ 13066 this) (am_fI σ 13067 this) w8 σ F) : c_Ro_noteNumber_22 nl Ln xs (d + 1) this x1 x3 x5 x6 σ F := by
  obtain ⟨j22, j23, j26, j27, j29, j30, j32, j33, j34, j35, j38, j39, j42, j43, j44, j45, j48, j50, j53, j55, j58, -⟩ := P_Ro_noteNumber_22 nl Ln xs
  unfold c_Ro_noteNumber_22
  refine s_lload_n j22 rfl rfl ?_
  refine s_ldc2 j23 rfl kc_ll_127 ?_
  refine s_g j26 rfl rfl rfl rfl rfl rfl ?_
  refine s_lstoreV j27 rfl (n := 7) (L' := fun w => [some (am_ov (some this)), some (.long x1), none, some (.long x3), none, some (.long w), none]) rfl (by decide) (fun _ => rfl) (fun v1 hv2 => ?_)
  replace h := h v1 hv2
  refine s_lload_n j29 rfl rfl ?_
  refine s_bipush j30 rfl kc_bi_7 ?_
  refine s_g j32 rfl rfl rfl rfl rfl rfl ?_
  refine s_lstore_nV j33 rfl (n := 7) (L' := fun w => [some (am_ov (some this)), some (.long x1), none, some (.long w), none, some (.long v1), none]) rfl (by decide) (fun _ => rfl) (fun v3 hv4 => ?_)
  replace h := h v3 hv4
  refine s_aload_n j34 rfl rfl ?_
  obtain ⟨ho5, h⟩ := h
  refine s_gfR j35 rfl ho5 ?_
  refine s_aload_n j38 rfl rfl ?_
  refine s_gfI j39 rfl ho5 ?_
  refine s_lload_n j42 rfl rfl ?_
  refine s_lconst j43 rfl rfl ?_
  refine s_g j44 rfl rfl rfl rfl rfl rfl ?_
  have K7 : ∀ (w8 : Int64), w8 = (if v3 = (0 : Int64) then v1 else (v1 + (128 : Int64))) → am_C (TT nl Ln xs) (d + 1) 204 59 [some (am_ov (some this)), some (.long x1), none, some (.long v3), none, some (.long v1), none] [.long w8, .int (am_fI σ 13067 this), am_ov (am_fR σ 13066 this)] σ (am_qV F) := by
    intro w8 hw9
    replace h := h w8 hw9
    exact h
  refine s_ifn j45 rfl rfl am_cl_ne (fun hc6 => ?_) (fun hc6 => ?_)
  · refine s_lload j53 rfl rfl ?_
    refine s_ldc2 j55 rfl kc_ll_128 ?_
    refine s_g j58 rfl rfl rfl rfl rfl rfl ?_
    exact K7 _ (am_t2 hc6 rfl)
  · refine s_lload j48 rfl rfl ?_
    refine s_goto j50 rfl rfl ?_
    exact K7 _ (am_t1 hc6 rfl)
theorem P_Ro_noteNumber_59 (nl : Bool) (Ln : Nat) (xs : Nat → Int32) : am_Jl (TT nl Ln xs) 204 [(59, .l2i, 60, []), (60, .i2b, 61, []), (61, .bastore, 62, []), (62, .aload_n 0, 63, []), (63, .dup, 64, []), (64, .getfield 253, 67, [9, 13, 67, 0]), (67, .iconst 1, 68, []), (68, .iadd, 69, []), (69, .putfield 253, 72, [9, 13, 67, 0]), (72, .lload_n 3, 73, []), (73, .lconst 0, 74, []), (74, .lcmp, 75, []), (75, .ifCond .ne (-53), 78, []), (78, .return_, 79, [0])] := dk_ck (by decide +kernel)
set_option maxRecDepth 4096 in
theorem w_Ro_noteNumber_59 {nl : Bool} {Ln : Nat} {xs : Nat → Int32} {d : Nat} {this : Nat} {x1 : Int64} {x3 : Int64} {x5 : Int64} {y0 : Option Nat} {y1 : Int32} {y2 : Int64} {σ : am_S} {F : am_S → Prop} (h : (am_ar σ 1002 y0 y1) ∧ ∀ σ2, σ2 = am_saI σ (y0.getD 0) y1.toNatClampNeg (vp_nar .byte y2.toInt32.toInt8.toInt32) → (am_is σ2 (some this) 13) ∧ ∀ σ6, σ6 = am_sfI σ2 13067 this ((am_fI σ2 13067 this) + (1 : Int32)) → (x3 = (0 : Int64) → F σ6) ∧ (¬ (x3 = (0 : Int64)) → c_Ro_noteNumber_22 nl Ln xs (d + 1) this x1 x3 (some (.long x5)) none σ6 F)) : c_Ro_noteNumber_59 nl Ln xs (d + 1) this x1 x3 x5 y0 y1 y2 σ F := by
  obtain ⟨j59, j60, j61, j62, j63, j64, j67, j68, j69, j72, j73, j74, j75, j78, -⟩ := P_Ro_noteNumber_59 nl Ln xs
  unfold c_Ro_noteNumber_59
  refine s_g j59 rfl rfl rfl rfl rfl rfl ?_
  refine s_g j60 rfl rfl rfl rfl rfl rfl ?_
  obtain ⟨ho1, h⟩ := h
  refine s_bastore j61 rfl ho1 (fun σ2 e3 => ?_)
  replace h := h σ2 e3
  have ek4 : am_kd σ2 = am_kd σ := by rw [e3]
  refine s_aload_n j62 rfl rfl ?_
  refine s_dup j63 rfl (am_cov _) ?_
  obtain ⟨ho5, h⟩ := h
  refine s_gfI j64 rfl ho5 ?_
  refine s_iconst j67 rfl kc_ic_1 ?_
  refine s_g j68 rfl rfl rfl rfl rfl rfl ?_
  refine s_pfI j69 rfl ho5 (fun σ6 e7 => ?_)
  replace h := h σ6 e7
  have ek8 : am_kd σ6 = am_kd σ2 := by rw [e7]
  refine s_lload_n j72 rfl rfl ?_
  refine s_lconst j73 rfl rfl ?_
  refine s_g j74 rfl rfl rfl rfl rfl rfl ?_
  refine s_ifn j75 rfl rfl am_cl_ne (fun hc9 => ?_) (fun hc9 => ?_)
  · replace h := h.2 hc9
    exact h
  · replace h := h.1 hc9
    exact s_retV j78 rfl h
theorem P_Rm_argumentsOf (nl : Bool) (Ln : Nat) (xs : Nat → Int32) : am_Jl (TT nl Ln xs) 205 [(0, .iload_n 0, 1, []), (1, .tableswitch 112 1 22 #[103, 105, 107, 112, 112, 105, 105, 105, 105, 107, 107, 107, 112, 105, 112, 109, 107, 112, 112, 103, 103, 103], 104, []), (104, .iconst 0, 105, []), (105, .ireturn, 106, [1]), (106, .iconst 2, 107, []), (107, .ireturn, 108, [1]), (108, .iconst 4, 109, []), (109, .ireturn, 110, [1]), (110, .bipush 6, 112, []), (112, .ireturn, 113, [1]), (113, .iconst 3, 114, []), (114, .ireturn, 115, [1])] := dk_ck (by decide +kernel)
set_option maxRecDepth 4096 in
theorem w_Rm_argumentsOf {nl : Bool} {Ln : Nat} {xs : Nat → Int32} {d : Nat} {p0 : Int32} {σ : am_S} {F : Int32 → am_S → Prop} (h : (p0 = (1 : Int32) ∨ p0 = (20 : Int32) ∨ p0 = (21 : Int32) ∨ p0 = (22 : Int32) → F (0 : Int32) σ) ∧ (p0 = (2 : Int32) ∨ p0 = (6 : Int32) ∨ p0 = (7 : Int32) ∨ p0 = (8 : Int32) ∨ p0 = (9 : Int32) ∨ p0 = (14 : Int32) → F (2 : Int32) σ) ∧ (p0 = (3 : Int32) ∨ p0 = (10 : Int32) ∨ p0 = (11 : Int32) ∨ p0 = (12 : Int32) ∨ p0 = (17 : Int32) → F (4 : Int32) σ) ∧ (p0 = (16 : Int32) → F (6 : Int32) σ) ∧ ((p0.toInt < 1 ∨ 22 < p0.toInt) ∨ p0 = (4 : Int32) ∨ p0 = (5 : Int32) ∨ p0 = (13 : Int32) ∨ p0 = (15 : Int32) ∨ p0 = (18 : Int32) ∨ p0 = (19 : Int32) → F (3 : Int32) σ)) : k_Rm_argumentsOf nl Ln xs (d + 1) p0 σ F := by
  obtain ⟨j0, j1, j104, j105, j106, j107, j108, j109, j110, j112, j113, j114, -⟩ := P_Rm_argumentsOf nl Ln xs
  have elo : am_lo 1 [.int p0] = [some (.int p0)] := by simp only [am_lo, am_in_ov, am_in_int, am_in_long, am_in_nil]; rfl
  unfold k_Rm_argumentsOf
  rw [elo]
  refine s_iload_n j0 rfl rfl ?_
  by_cases hr1 : p0.toInt < 1 ∨ 22 < p0.toInt
  · refine s_tsw j1 (t := 113) ((am_sw_out hr1).trans rfl) ?_
    replace h := h.2.2.2.2 (Or.inl hr1)
    refine s_iconst j113 rfl kc_ic_3 ?_
    exact s_retI j114 rfl h
  · obtain ⟨k2, hk3, hv4⟩ := am_sw_in hr1
    have hk32 : k2 < 22 := by omega
    clear hk3
    match k2, hk32, hv4 with
    | 0, _, hv4 =>
      have hs : p0 = (1 : Int32) := am_te hv4 (by decide)
      refine s_tsw j1 (t := 104) (by show am_sw 1 112 1 22 #[103, 105, 107, 112, 112, 105, 105, 105, 105, 107, 107, 107, 112, 105, 112, 109, 107, 112, 112, 103, 103, 103] p0.toInt = _; rw [hv4]; rfl) ?_
      replace h := h.1 (Or.inl hs)
      refine s_iconst j104 rfl kc_ic_0 ?_
      exact s_retI j105 rfl h
    | 1, _, hv4 =>
      have hs : p0 = (2 : Int32) := am_te hv4 (by decide)
      refine s_tsw j1 (t := 106) (by show am_sw 1 112 1 22 #[103, 105, 107, 112, 112, 105, 105, 105, 105, 107, 107, 107, 112, 105, 112, 109, 107, 112, 112, 103, 103, 103] p0.toInt = _; rw [hv4]; rfl) ?_
      replace h := h.2.1 (Or.inl hs)
      refine s_iconst j106 rfl kc_ic_2 ?_
      exact s_retI j107 rfl h
    | 2, _, hv4 =>
      have hs : p0 = (3 : Int32) := am_te hv4 (by decide)
      refine s_tsw j1 (t := 108) (by show am_sw 1 112 1 22 #[103, 105, 107, 112, 112, 105, 105, 105, 105, 107, 107, 107, 112, 105, 112, 109, 107, 112, 112, 103, 103, 103] p0.toInt = _; rw [hv4]; rfl) ?_
      replace h := h.2.2.1 (Or.inl hs)
      refine s_iconst j108 rfl kc_ic_4 ?_
      exact s_retI j109 rfl h
    | 3, _, hv4 =>
      have hs : p0 = (4 : Int32) := am_te hv4 (by decide)
      refine s_tsw j1 (t := 113) (by show am_sw 1 112 1 22 #[103, 105, 107, 112, 112, 105, 105, 105, 105, 107, 107, 107, 112, 105, 112, 109, 107, 112, 112, 103, 103, 103] p0.toInt = _; rw [hv4]; rfl) ?_
      replace h := h.2.2.2.2 (Or.inr (Or.inl hs))
      refine s_iconst j113 rfl kc_ic_3 ?_
      exact s_retI j114 rfl h
    | 4, _, hv4 =>
      have hs : p0 = (5 : Int32) := am_te hv4 (by decide)
      refine s_tsw j1 (t := 113) (by show am_sw 1 112 1 22 #[103, 105, 107, 112, 112, 105, 105, 105, 105, 107, 107, 107, 112, 105, 112, 109, 107, 112, 112, 103, 103, 103] p0.toInt = _; rw [hv4]; rfl) ?_
      replace h := h.2.2.2.2 (Or.inr (Or.inr (Or.inl hs)))
      refine s_iconst j113 rfl kc_ic_3 ?_
      exact s_retI j114 rfl h
    | 5, _, hv4 =>
      have hs : p0 = (6 : Int32) := am_te hv4 (by decide)
      refine s_tsw j1 (t := 106) (by show am_sw 1 112 1 22 #[103, 105, 107, 112, 112, 105, 105, 105, 105, 107, 107, 107, 112, 105, 112, 109, 107, 112, 112, 103, 103, 103] p0.toInt = _; rw [hv4]; rfl) ?_
      replace h := h.2.1 (Or.inr (Or.inl hs))
      refine s_iconst j106 rfl kc_ic_2 ?_
      exact s_retI j107 rfl h
    | 6, _, hv4 =>
      have hs : p0 = (7 : Int32) := am_te hv4 (by decide)
      refine s_tsw j1 (t := 106) (by show am_sw 1 112 1 22 #[103, 105, 107, 112, 112, 105, 105, 105, 105, 107, 107, 107, 112, 105, 112, 109, 107, 112, 112, 103, 103, 103] p0.toInt = _; rw [hv4]; rfl) ?_
      replace h := h.2.1 (Or.inr (Or.inr (Or.inl hs)))
      refine s_iconst j106 rfl kc_ic_2 ?_
      exact s_retI j107 rfl h
    | 7, _, hv4 =>
      have hs : p0 = (8 : Int32) := am_te hv4 (by decide)
      refine s_tsw j1 (t := 106) (by show am_sw 1 112 1 22 #[103, 105, 107, 112, 112, 105, 105, 105, 105, 107, 107, 107, 112, 105, 112, 109, 107, 112, 112, 103, 103, 103] p0.toInt = _; rw [hv4]; rfl) ?_
      replace h := h.2.1 (Or.inr (Or.inr (Or.inr (Or.inl hs))))
      refine s_iconst j106 rfl kc_ic_2 ?_
      exact s_retI j107 rfl h
    | 8, _, hv4 =>
      have hs : p0 = (9 : Int32) := am_te hv4 (by decide)
      refine s_tsw j1 (t := 106) (by show am_sw 1 112 1 22 #[103, 105, 107, 112, 112, 105, 105, 105, 105, 107, 107, 107, 112, 105, 112, 109, 107, 112, 112, 103, 103, 103] p0.toInt = _; rw [hv4]; rfl) ?_
      replace h := h.2.1 (Or.inr (Or.inr (Or.inr (Or.inr (Or.inl hs)))))
      refine s_iconst j106 rfl kc_ic_2 ?_
      exact s_retI j107 rfl h
    | 9, _, hv4 =>
      have hs : p0 = (10 : Int32) := am_te hv4 (by decide)
      refine s_tsw j1 (t := 108) (by show am_sw 1 112 1 22 #[103, 105, 107, 112, 112, 105, 105, 105, 105, 107, 107, 107, 112, 105, 112, 109, 107, 112, 112, 103, 103, 103] p0.toInt = _; rw [hv4]; rfl) ?_
      replace h := h.2.2.1 (Or.inr (Or.inl hs))
      refine s_iconst j108 rfl kc_ic_4 ?_
      exact s_retI j109 rfl h
    | 10, _, hv4 =>
      have hs : p0 = (11 : Int32) := am_te hv4 (by decide)
      refine s_tsw j1 (t := 108) (by show am_sw 1 112 1 22 #[103, 105, 107, 112, 112, 105, 105, 105, 105, 107, 107, 107, 112, 105, 112, 109, 107, 112, 112, 103, 103, 103] p0.toInt = _; rw [hv4]; rfl) ?_
      replace h := h.2.2.1 (Or.inr (Or.inr (Or.inl hs)))
      refine s_iconst j108 rfl kc_ic_4 ?_
      exact s_retI j109 rfl h
    | 11, _, hv4 =>
      have hs : p0 = (12 : Int32) := am_te hv4 (by decide)
      refine s_tsw j1 (t := 108) (by show am_sw 1 112 1 22 #[103, 105, 107, 112, 112, 105, 105, 105, 105, 107, 107, 107, 112, 105, 112, 109, 107, 112, 112, 103, 103, 103] p0.toInt = _; rw [hv4]; rfl) ?_
      replace h := h.2.2.1 (Or.inr (Or.inr (Or.inr (Or.inl hs))))
      refine s_iconst j108 rfl kc_ic_4 ?_
      exact s_retI j109 rfl h
    | 12, _, hv4 =>
      have hs : p0 = (13 : Int32) := am_te hv4 (by decide)
      refine s_tsw j1 (t := 113) (by show am_sw 1 112 1 22 #[103, 105, 107, 112, 112, 105, 105, 105, 105, 107, 107, 107, 112, 105, 112, 109, 107, 112, 112, 103, 103, 103] p0.toInt = _; rw [hv4]; rfl) ?_
      replace h := h.2.2.2.2 (Or.inr (Or.inr (Or.inr (Or.inl hs))))
      refine s_iconst j113 rfl kc_ic_3 ?_
      exact s_retI j114 rfl h
    | 13, _, hv4 =>
      have hs : p0 = (14 : Int32) := am_te hv4 (by decide)
      refine s_tsw j1 (t := 106) (by show am_sw 1 112 1 22 #[103, 105, 107, 112, 112, 105, 105, 105, 105, 107, 107, 107, 112, 105, 112, 109, 107, 112, 112, 103, 103, 103] p0.toInt = _; rw [hv4]; rfl) ?_
      replace h := h.2.1 (Or.inr (Or.inr (Or.inr (Or.inr (Or.inr hs)))))
      refine s_iconst j106 rfl kc_ic_2 ?_
      exact s_retI j107 rfl h
    | 14, _, hv4 =>
      have hs : p0 = (15 : Int32) := am_te hv4 (by decide)
      refine s_tsw j1 (t := 113) (by show am_sw 1 112 1 22 #[103, 105, 107, 112, 112, 105, 105, 105, 105, 107, 107, 107, 112, 105, 112, 109, 107, 112, 112, 103, 103, 103] p0.toInt = _; rw [hv4]; rfl) ?_
      replace h := h.2.2.2.2 (Or.inr (Or.inr (Or.inr (Or.inr (Or.inl hs)))))
      refine s_iconst j113 rfl kc_ic_3 ?_
      exact s_retI j114 rfl h
    | 15, _, hv4 =>
      have hs : p0 = (16 : Int32) := am_te hv4 (by decide)
      refine s_tsw j1 (t := 110) (by show am_sw 1 112 1 22 #[103, 105, 107, 112, 112, 105, 105, 105, 105, 107, 107, 107, 112, 105, 112, 109, 107, 112, 112, 103, 103, 103] p0.toInt = _; rw [hv4]; rfl) ?_
      replace h := h.2.2.2.1 hs
      refine s_bipush j110 rfl kc_bi_6 ?_
      exact s_retI j112 rfl h
    | 16, _, hv4 =>
      have hs : p0 = (17 : Int32) := am_te hv4 (by decide)
      refine s_tsw j1 (t := 108) (by show am_sw 1 112 1 22 #[103, 105, 107, 112, 112, 105, 105, 105, 105, 107, 107, 107, 112, 105, 112, 109, 107, 112, 112, 103, 103, 103] p0.toInt = _; rw [hv4]; rfl) ?_
      replace h := h.2.2.1 (Or.inr (Or.inr (Or.inr (Or.inr hs))))
      refine s_iconst j108 rfl kc_ic_4 ?_
      exact s_retI j109 rfl h
    | 17, _, hv4 =>
      have hs : p0 = (18 : Int32) := am_te hv4 (by decide)
      refine s_tsw j1 (t := 113) (by show am_sw 1 112 1 22 #[103, 105, 107, 112, 112, 105, 105, 105, 105, 107, 107, 107, 112, 105, 112, 109, 107, 112, 112, 103, 103, 103] p0.toInt = _; rw [hv4]; rfl) ?_
      replace h := h.2.2.2.2 (Or.inr (Or.inr (Or.inr (Or.inr (Or.inr (Or.inl hs))))))
      refine s_iconst j113 rfl kc_ic_3 ?_
      exact s_retI j114 rfl h
    | 18, _, hv4 =>
      have hs : p0 = (19 : Int32) := am_te hv4 (by decide)
      refine s_tsw j1 (t := 113) (by show am_sw 1 112 1 22 #[103, 105, 107, 112, 112, 105, 105, 105, 105, 107, 107, 107, 112, 105, 112, 109, 107, 112, 112, 103, 103, 103] p0.toInt = _; rw [hv4]; rfl) ?_
      replace h := h.2.2.2.2 (Or.inr (Or.inr (Or.inr (Or.inr (Or.inr (Or.inr hs))))))
      refine s_iconst j113 rfl kc_ic_3 ?_
      exact s_retI j114 rfl h
    | 19, _, hv4 =>
      have hs : p0 = (20 : Int32) := am_te hv4 (by decide)
      refine s_tsw j1 (t := 104) (by show am_sw 1 112 1 22 #[103, 105, 107, 112, 112, 105, 105, 105, 105, 107, 107, 107, 112, 105, 112, 109, 107, 112, 112, 103, 103, 103] p0.toInt = _; rw [hv4]; rfl) ?_
      replace h := h.1 (Or.inr (Or.inl hs))
      refine s_iconst j104 rfl kc_ic_0 ?_
      exact s_retI j105 rfl h
    | 20, _, hv4 =>
      have hs : p0 = (21 : Int32) := am_te hv4 (by decide)
      refine s_tsw j1 (t := 104) (by show am_sw 1 112 1 22 #[103, 105, 107, 112, 112, 105, 105, 105, 105, 107, 107, 107, 112, 105, 112, 109, 107, 112, 112, 103, 103, 103] p0.toInt = _; rw [hv4]; rfl) ?_
      replace h := h.1 (Or.inr (Or.inr (Or.inl hs)))
      refine s_iconst j104 rfl kc_ic_0 ?_
      exact s_retI j105 rfl h
    | 21, _, hv4 =>
      have hs : p0 = (22 : Int32) := am_te hv4 (by decide)
      refine s_tsw j1 (t := 104) (by show am_sw 1 112 1 22 #[103, 105, 107, 112, 112, 105, 105, 105, 105, 107, 107, 107, 112, 105, 112, 109, 107, 112, 112, 103, 103, 103] p0.toInt = _; rw [hv4]; rfl) ?_
      replace h := h.1 (Or.inr (Or.inr (Or.inr hs)))
      refine s_iconst j104 rfl kc_ic_0 ?_
      exact s_retI j105 rfl h
    | n + 22, hk32, _ => exact absurd hk32 (by omega)
theorem P_Ro_fact (nl : Bool) (Ln : Nat) (xs : Nat → Int32) : am_Jl (TT nl Ln xs) 206 [(0, .aload_n 0, 1, []), (1, .iload_n 1, 2, []), (2, .aload_n 2, 3, []), (3, .invokevirtual 535, 6, [10, 207, 14, 4, 3]), (6, .istore_n 3, 7, []), (7, .iload_n 3, 8, []), (8, .ifCond .eq 5, 11, []), (11, .iload_n 3, 12, []), (12, .ireturn, 13, [1]), (13, .aload_n 2, 14, []), (14, .iconst 0, 15, []), (15, .laload, 16, []), (16, .l2i, 17, []), (17, .istore 4, 19, []), (19, .aload_n 0, 20, []), (20, .iload 4, 22, []), (22, .sipush 10950, 25, []), (25, .aload_n 0, 26, []), (26, .getfield 206, 29, [9, 13, 0, 0]), (29, .invokevirtual 477, 32, [10, 211, 14, 6, 4]), (32, .istore 5, 34, []), (34, .iload 5, 36, []), (36, .iload_n 1, 37, []), (37, .bipush 15, 39, []), (39, .if_icmp .ne 7, 42, []), (42, .iconst 1, 43, []), (43, .goto 4, 46, []), (46, .iconst 0, 47, [])] := dk_ck (by decide +kernel)
set_option maxRecDepth 4096 in
theorem w_Ro_fact {nl : Bool} {Ln : Nat} {xs : Nat → Int32} {d : Nat} {this : Nat} {p0 : Int32} {p1 : Option Nat} {σ : am_S} {F : Int32 → am_S → Prop} (h : (am_is σ (some this) 13) ∧ k_Ro_numbers nl Ln xs d this p0 p1 σ (fun a3 σ2 => am_ext σ σ2 → (a3 = 0 → (am_ar σ2 1001 p1 (0 : Int32)) ∧ ∀ v6 : Int32, v6 = (am_aL σ2 (p1.getD 0) (0 : Int32).toNatClampNeg).toInt32 → k_Ro_isOpen nl Ln xs d this v6 (10950 : Int32) (am_fI σ2 13000 this) σ2 (fun a9 σ8 => am_ext σ2 σ8 → c_Ro_fact_47 nl Ln xs (d + 1) this p0 p1 a3 v6 (if a9 = true then (1 : Int32) else 0) (if a9 = true then (1 : Int32) else 0) (if p0 = (15 : Int32) then (1 : Int32) else 0) σ8 F)) ∧ (¬ (a3 = 0) → F a3 σ2))) : k_Ro_fact nl Ln xs (d + 1) this p0 p1 σ F := by
  obtain ⟨j0, j1, j2, j3, j6, j7, j8, j11, j12, j13, j14, j15, j16, j17, j19, j20, j22, j25, j26, j29, j32, j34, j36, j37, j39, j42, j43, j46, -⟩ := P_Ro_fact nl Ln xs
  have elo : am_lo 8 [am_ov (some this), .int p0, am_ov p1] = [some (am_ov (some this)), some (.int p0), some (am_ov p1), none, none, none, none, none] := by simp only [am_lo, am_in_ov, am_in_int, am_in_long, am_in_nil]; rfl
  unfold k_Ro_fact
  rw [elo]
  refine s_aload_n j0 rfl rfl ?_
  refine s_iload_n j1 rfl rfl ?_
  refine s_aload_n j2 rfl rfl ?_
  obtain ⟨ho1, h⟩ := h
  refine s_virt j3 rfl rfl rfl rfl ho1 (by decide) (in_Ro_numbers _ _ _) (am_r8 rfl) (am_bI h (fun a3 σ2 h hx2 => ?_))
  replace h := h hx2
  refine s_istore_n j6 rfl (n := 8) (L' := [some (am_ov (some this)), some (.int p0), some (am_ov p1), some (.int a3), none, none, none, none]) rfl (by decide) (am_st1_R [_, _] _ _ _ _) ?_
  refine s_iload_n j7 rfl rfl ?_
  refine s_if j8 rfl rfl am_cc_eq (fun hc4 => ?_) (fun hc4 => ?_)
  · replace h := h.1 hc4
    refine s_aload_n j13 rfl rfl ?_
    refine s_iconst j14 rfl kc_ic_0 ?_
    obtain ⟨ho5, h⟩ := h
    refine s_laload j15 rfl ho5 ?_
    refine s_g j16 rfl rfl rfl rfl rfl rfl ?_
    refine s_istoreV j17 rfl (n := 8) (L' := fun w => [some (am_ov (some this)), some (.int p0), some (am_ov p1), some (.int a3), some (.int w), none, none, none]) rfl (by decide) (fun _ => rfl) (fun v6 hv7 => ?_)
    replace h := h v6 hv7
    refine s_aload_n j19 rfl rfl ?_
    refine s_iload j20 rfl rfl ?_
    refine s_sipush j22 rfl kc_si_10950 ?_
    refine s_aload_n j25 rfl rfl ?_
    refine s_gfI j26 rfl (am_is_ext hx2 ho1) ?_
    refine s_virt j29 rfl rfl rfl rfl (am_is_ext hx2 ho1) (by decide) (in_Ro_isOpen _ _ _ _) (am_r8 rfl) (am_bB h (fun a9 σ8 h hx8 => ?_))
    replace h := h hx8
    refine s_istore j32 rfl (n := 8) (L' := [some (am_ov (some this)), some (.int p0), some (am_ov p1), some (.int a3), some (.int v6), some (.int (if a9 = true then (1 : Int32) else 0)), none, none]) rfl (by decide) rfl ?_
    refine s_iload j34 rfl rfl ?_
    refine s_iload_n j36 rfl rfl ?_
    refine s_bipush j37 rfl kc_bi_15 ?_
    have K11 : ∀ (w12 : Int32), w12 = (if p0 = (15 : Int32) then (1 : Int32) else 0) → am_C (TT nl Ln xs) (d + 1) 206 47 [some (am_ov (some this)), some (.int p0), some (am_ov p1), some (.int a3), some (.int v6), some (.int (if a9 = true then (1 : Int32) else 0)), none, none] [.int w12, .int (if a9 = true then (1 : Int32) else 0)] σ8 (am_qI F) := by
      intro w12 hw13
      subst hw13
      exact h
    refine s_icn j39 rfl rfl am_cc_ne (fun hc10 => ?_) (fun hc10 => ?_)
    · refine s_iconst j46 rfl kc_ic_0 ?_
      exact K11 _ (am_e0 (Iff.trans Iff.rfl (am_p10 hc10)))
    · refine s_iconst j42 rfl kc_ic_1 ?_
      refine s_goto j43 rfl rfl ?_
      exact K11 _ (am_e1 (Iff.trans Iff.rfl (am_p9 hc10)))
  · replace h := h.2 hc4
    refine s_iload_n j11 rfl rfl ?_
    exact s_retI j12 rfl h
theorem P_Ro_fact_47 (nl : Bool) (Ln : Nat) (xs : Nat → Int32) : am_Jl (TT nl Ln xs) 206 [(47, .if_icmp .ne 6, 50, []), (50, .bipush (-3), 52, []), (52, .ireturn, 53, [1]), (53, .aload_n 2, 54, []), (54, .iconst 1, 55, []), (55, .laload, 56, []), (56, .aload_n 0, 57, []), (57, .iload 4, 59, []), (59, .invokevirtual 539, 62, [10, 213, 14, 2, 2]), (62, .i2l, 63, []), (63, .lcmp, 64, []), (64, .ifCond .ge 6, 67, []), (67, .bipush (-4), 69, []), (69, .ireturn, 70, [1]), (70, .iload_n 1, 71, []), (71, .bipush 15, 73, []), (73, .if_icmp .ne 23, 76, []), (76, .aload_n 0, 77, []), (77, .iload 4, 79, []), (79, .aload_n 2, 80, []), (80, .iconst 1, 81, []), (81, .laload, 82, []), (82, .l2i, 83, []), (83, .aload_n 2, 84, []), (84, .iconst 2, 85, []), (85, .laload, 86, []), (86, .l2i, 87, []), (87, .invokevirtual 542, 90, [10, 214, 14, 6, 4]), (90, .ifCond .eq 6, 93, []), (93, .bipush (-5), 95, []), (95, .ireturn, 96, [1])] := dk_ck (by decide +kernel)
set_option maxRecDepth 4096 in
theorem w_Ro_fact_47 {nl : Bool} {Ln : Nat} {xs : Nat → Int32} {d : Nat} {this : Nat} {x1 : Int32} {x2 : Option Nat} {x3 : Int32} {x4 : Int32} {x5 : Int32} {y0 : Int32} {y1 : Int32} {σ : am_S} {F : Int32 → am_S → Prop} (h : (y0 = y1 → F (-3 : Int32) σ) ∧ (¬ (y0 = y1) → (am_ar σ 1001 x2 (1 : Int32)) ∧ (am_is σ (some this) 13) ∧ k_Ro_lastDay nl Ln xs d this x4 σ (fun a5 σ4 => am_ext σ σ4 → ((am_aL σ (x2.getD 0) (1 : Int32).toNatClampNeg) < a5.toInt64 → F (-4 : Int32) σ4) ∧ (¬ ((am_aL σ (x2.getD 0) (1 : Int32).toNatClampNeg) < a5.toInt64) → (x1 = (15 : Int32) → (am_ar σ4 1001 x2 (1 : Int32)) ∧ (am_ar σ4 1001 x2 (2 : Int32)) ∧ k_Ro_isLate nl Ln xs d this x4 ((am_aL σ4 (x2.getD 0) (1 : Int32).toNatClampNeg).toInt32) ((am_aL σ4 (x2.getD 0) (2 : Int32).toNatClampNeg).toInt32) σ4 (fun a11 σ10 => am_ext σ4 σ10 → (a11 = true → F (-5 : Int32) σ10) ∧ (¬ (a11 = true) → c_Ro_fact_96 nl Ln xs (d + 1) this x1 x2 x3 x4 x5 σ10 F))) ∧ (¬ (x1 = (15 : Int32)) → c_Ro_fact_96 nl Ln xs (d + 1) this x1 x2 x3 x4 x5 σ4 F))))) : c_Ro_fact_47 nl Ln xs (d + 1) this x1 x2 x3 x4 x5 y0 y1 σ F := by
  obtain ⟨j47, j50, j52, j53, j54, j55, j56, j57, j59, j62, j63, j64, j67, j69, j70, j71, j73, j76, j77, j79, j80, j81, j82, j83, j84, j85, j86, j87, j90, j93, j95, -⟩ := P_Ro_fact_47 nl Ln xs
  unfold c_Ro_fact_47
  refine s_icn j47 rfl rfl am_cc_ne (fun hc1 => ?_) (fun hc1 => ?_)
  · replace h := h.2 hc1
    refine s_aload_n j53 rfl rfl ?_
    refine s_iconst j54 rfl kc_ic_1 ?_
    obtain ⟨ho2, h⟩ := h
    refine s_laload j55 rfl ho2 ?_
    refine s_aload_n j56 rfl rfl ?_
    refine s_iload j57 rfl rfl ?_
    obtain ⟨ho3, h⟩ := h
    refine s_virt j59 rfl rfl rfl rfl ho3 (by decide) (in_Ro_lastDay _ _) (am_r8 rfl) (am_bI h (fun a5 σ4 h hx4 => ?_))
    replace h := h hx4
    refine s_g j62 rfl rfl rfl rfl rfl rfl ?_
    refine s_g j63 rfl rfl rfl rfl rfl rfl ?_
    refine s_ifn j64 rfl rfl am_cl_ge (fun hc6 => ?_) (fun hc6 => ?_)
    · replace h := h.2 hc6
      refine s_iload_n j70 rfl rfl ?_
      refine s_bipush j71 rfl kc_bi_15 ?_
      refine s_icn j73 rfl rfl am_cc_ne (fun hc7 => ?_) (fun hc7 => ?_)
      · replace h := h.2 hc7
        exact h
      · replace h := h.1 hc7
        refine s_aload_n j76 rfl rfl ?_
        refine s_iload j77 rfl rfl ?_
        refine s_aload_n j79 rfl rfl ?_
        refine s_iconst j80 rfl kc_ic_1 ?_
        obtain ⟨ho8, h⟩ := h
        refine s_laload j81 rfl ho8 ?_
        refine s_g j82 rfl rfl rfl rfl rfl rfl ?_
        refine s_aload_n j83 rfl rfl ?_
        refine s_iconst j84 rfl kc_ic_2 ?_
        obtain ⟨ho9, h⟩ := h
        refine s_laload j85 rfl ho9 ?_
        refine s_g j86 rfl rfl rfl rfl rfl rfl ?_
        refine s_virt j87 rfl rfl rfl rfl (am_is_ext hx4 ho3) (by decide) (in_Ro_isLate _ _ _ _) (am_r8 rfl) (am_bB h (fun a11 σ10 h hx10 => ?_))
        replace h := h hx10
        refine s_ifn j90 rfl rfl am_cb_eq (fun hc12 => ?_) (fun hc12 => ?_)
        · replace h := h.2 hc12
          exact h
        · replace h := h.1 hc12
          refine s_bipush j93 rfl kc_bi_m5 ?_
          exact s_retI j95 rfl h
    · replace h := h.1 hc6
      refine s_bipush j67 rfl kc_bi_m4 ?_
      exact s_retI j69 rfl h
  · replace h := h.1 hc1
    refine s_bipush j50 rfl kc_bi_m3 ?_
    exact s_retI j52 rfl h
theorem P_Ro_fact_96 (nl : Bool) (Ln : Nat) (xs : Nat → Int32) : am_Jl (TT nl Ln xs) 206 [(96, .lconst 0, 97, []), (97, .lstore 6, 99, []), (99, .iload_n 1, 100, []), (100, .bipush 13, 102, []), (102, .if_icmp .ne 44, 105, []), (105, .aload_n 0, 106, []), (106, .getfield 3, 109, [9, 13, 99, 2]), (109, .getfield 269, 112, [9, 12, 6, 0]), (112, .sipush 2500, 115, []), (115, .if_icmp .lt 6, 118, []), (118, .bipush (-7), 120, []), (120, .ireturn, 121, [1]), (121, .aload_n 0, 122, []), (122, .iload 4, 124, []), (124, .aload_n 2, 125, []), (125, .iconst 1, 126, []), (126, .laload, 127, []), (127, .l2i, 128, []), (128, .aload_n 2, 129, []), (129, .iconst 2, 130, []), (130, .laload, 131, []), (131, .invokevirtual 545, 134, [10, 215, 14, 13, 4]), (134, .lstore 6, 136, []), (136, .lload 6, 138, []), (138, .lconst 0, 139, []), (139, .lcmp, 140, []), (140, .ifCond .ge 6, 143, []), (143, .bipush (-6), 145, []), (145, .ireturn, 146, [1])] := dk_ck (by decide +kernel)
set_option maxRecDepth 4096 in
theorem w_Ro_fact_96 {nl : Bool} {Ln : Nat} {xs : Nat → Int32} {d : Nat} {this : Nat} {x1 : Int32} {x2 : Option Nat} {x3 : Int32} {x4 : Int32} {x5 : Int32} {σ : am_S} {F : Int32 → am_S → Prop} (h : (x1 = (13 : Int32) → (am_is σ (some this) 13) ∧ (am_is σ (am_fR σ 13099 this) 12) ∧ ((am_fI σ 12006 ((am_fR σ 13099 this).getD 0)) < (2500 : Int32) → (am_ar σ 1001 x2 (1 : Int32)) ∧ (am_ar σ 1001 x2 (2 : Int32)) ∧ k_Ro_paying nl Ln xs d this x4 ((am_aL σ (x2.getD 0) (1 : Int32).toNatClampNeg).toInt32) (am_aL σ (x2.getD 0) (2 : Int32).toNatClampNeg) σ (fun a8 σ7 => am_ext σ σ7 → (a8 < (0 : Int64) → F (-6 : Int32) σ7) ∧ (¬ (a8 < (0 : Int64)) → c_Ro_fact_146 nl Ln xs (d + 1) this x1 x2 x3 x4 x5 a8 σ7 F))) ∧ (¬ ((am_fI σ 12006 ((am_fR σ 13099 this).getD 0)) < (2500 : Int32)) → F (-7 : Int32) σ)) ∧ (¬ (x1 = (13 : Int32)) → c_Ro_fact_146 nl Ln xs (d + 1) this x1 x2 x3 x4 x5 (0 : Int64) σ F)) : c_Ro_fact_96 nl Ln xs (d + 1) this x1 x2 x3 x4 x5 σ F := by
  obtain ⟨j96, j97, j99, j100, j102, j105, j106, j109, j112, j115, j118, j120, j121, j122, j124, j125, j126, j127, j128, j129, j130, j131, j134, j136, j138, j139, j140, j143, j145, -⟩ := P_Ro_fact_96 nl Ln xs
  unfold c_Ro_fact_96
  refine s_lconst j96 rfl rfl ?_
  refine s_lstore j97 rfl (n := 8) (L' := [some (am_ov (some this)), some (.int x1), some (am_ov x2), some (.int x3), some (.int x4), some (.int x5), some (.long (0 : Int64)), none]) rfl (by decide) rfl ?_
  refine s_iload_n j99 rfl rfl ?_
  refine s_bipush j100 rfl kc_bi_13 ?_
  refine s_icn j102 rfl rfl am_cc_ne (fun hc1 => ?_) (fun hc1 => ?_)
  · replace h := h.2 hc1
    exact h
  · replace h := h.1 hc1
    refine s_aload_n j105 rfl rfl ?_
    obtain ⟨ho2, h⟩ := h
    refine s_gfR j106 rfl ho2 ?_
    obtain ⟨ho3, h⟩ := h
    refine s_gfI j109 rfl ho3 ?_
    refine s_sipush j112 rfl kc_si_2500 ?_
    refine s_ic j115 rfl rfl am_cc_lt (fun hc4 => ?_) (fun hc4 => ?_)
    · replace h := h.1 hc4
      refine s_aload_n j121 rfl rfl ?_
      refine s_iload j122 rfl rfl ?_
      refine s_aload_n j124 rfl rfl ?_
      refine s_iconst j125 rfl kc_ic_1 ?_
      obtain ⟨ho5, h⟩ := h
      refine s_laload j126 rfl ho5 ?_
      refine s_g j127 rfl rfl rfl rfl rfl rfl ?_
      refine s_aload_n j128 rfl rfl ?_
      refine s_iconst j129 rfl kc_ic_2 ?_
      obtain ⟨ho6, h⟩ := h
      refine s_laload j130 rfl ho6 ?_
      refine s_virt j131 rfl rfl rfl rfl ho2 (by decide) (in_Ro_paying _ _ _ _) (am_r8 rfl) (am_bL h (fun a8 σ7 h hx7 => ?_))
      replace h := h hx7
      refine s_lstore j134 rfl (n := 8) (L' := [some (am_ov (some this)), some (.int x1), some (am_ov x2), some (.int x3), some (.int x4), some (.int x5), some (.long a8), none]) rfl (by decide) rfl ?_
      refine s_lload j136 rfl rfl ?_
      refine s_lconst j138 rfl rfl ?_
      refine s_g j139 rfl rfl rfl rfl rfl rfl ?_
      refine s_ifn j140 rfl rfl am_cl_ge (fun hc9 => ?_) (fun hc9 => ?_)
      · replace h := h.2 hc9
        exact h
      · replace h := h.1 hc9
        refine s_bipush j143 rfl kc_bi_m6 ?_
        exact s_retI j145 rfl h
    · replace h := h.2 hc4
      refine s_bipush j118 rfl kc_bi_m7 ?_
      exact s_retI j120 rfl h
theorem P_Ro_fact_146 (nl : Bool) (Ln : Nat) (xs : Nat → Int32) : am_Jl (TT nl Ln xs) 206 [(146, .iload_n 1, 147, []), (147, .bipush 19, 149, []), (149, .if_icmp .ne 34, 152, []), (152, .aload_n 0, 153, []), (153, .iload 4, 155, []), (155, .aload_n 0, 156, []), (156, .getfield 206, 159, [9, 13, 0, 0]), (159, .invokevirtual 492, 162, [10, 263, 14, 6, 3]), (162, .aload_n 2, 163, []), (163, .iconst 2, 164, []), (164, .laload, 165, []), (165, .ladd, 166, []), (166, .aload_n 0, 167, []), (167, .iload 4, 169, []), (169, .aload_n 0, 170, []), (170, .getfield 206, 173, [9, 13, 0, 0]), (173, .invokevirtual 489, 176, [10, 262, 14, 6, 3]), (176, .lcmp, 177, []), (177, .ifCond .le 6, 180, []), (180, .bipush (-6), 182, []), (182, .ireturn, 183, [1])] := dk_ck (by decide +kernel)
set_option maxRecDepth 4096 in
theorem w_Ro_fact_146 {nl : Bool} {Ln : Nat} {xs : Nat → Int32} {d : Nat} {this : Nat} {x1 : Int32} {x2 : Option Nat} {x3 : Int32} {x4 : Int32} {x5 : Int32} {x6 : Int64} {σ : am_S} {F : Int32 → am_S → Prop} (h : (x1 = (19 : Int32) → (am_is σ (some this) 13) ∧ k_Ro_recourseOf nl Ln xs d this x4 (am_fI σ 13000 this) σ (fun a4 σ3 => am_ext σ σ3 → (am_ar σ3 1001 x2 (2 : Int32)) ∧ k_Ro_paidOf nl Ln xs d this x4 (am_fI σ3 13000 this) σ3 (fun a7 σ6 => am_ext σ3 σ6 → (a7 < (a4 + (am_aL σ3 (x2.getD 0) (2 : Int32).toNatClampNeg)) → F (-6 : Int32) σ6) ∧ (¬ (a7 < (a4 + (am_aL σ3 (x2.getD 0) (2 : Int32).toNatClampNeg))) → c_Ro_fact_183 nl Ln xs (d + 1) this x1 x2 x3 x4 x5 x6 σ6 F)))) ∧ (¬ (x1 = (19 : Int32)) → c_Ro_fact_183 nl Ln xs (d + 1) this x1 x2 x3 x4 x5 x6 σ F)) : c_Ro_fact_146 nl Ln xs (d + 1) this x1 x2 x3 x4 x5 x6 σ F := by
  obtain ⟨j146, j147, j149, j152, j153, j155, j156, j159, j162, j163, j164, j165, j166, j167, j169, j170, j173, j176, j177, j180, j182, -⟩ := P_Ro_fact_146 nl Ln xs
  unfold c_Ro_fact_146
  refine s_iload_n j146 rfl rfl ?_
  refine s_bipush j147 rfl kc_bi_19 ?_
  refine s_icn j149 rfl rfl am_cc_ne (fun hc1 => ?_) (fun hc1 => ?_)
  · replace h := h.2 hc1
    exact h
  · replace h := h.1 hc1
    refine s_aload_n j152 rfl rfl ?_
    refine s_iload j153 rfl rfl ?_
    refine s_aload_n j155 rfl rfl ?_
    obtain ⟨ho2, h⟩ := h
    refine s_gfI j156 rfl ho2 ?_
    refine s_virt j159 rfl rfl rfl rfl ho2 (by decide) (in_Ro_recourseOf _ _ _) (am_r8 rfl) (am_bL h (fun a4 σ3 h hx3 => ?_))
    replace h := h hx3
    refine s_aload_n j162 rfl rfl ?_
    refine s_iconst j163 rfl kc_ic_2 ?_
    obtain ⟨ho5, h⟩ := h
    refine s_laload j164 rfl ho5 ?_
    refine s_g j165 rfl rfl rfl rfl rfl rfl ?_
    refine s_aload_n j166 rfl rfl ?_
    refine s_iload j167 rfl rfl ?_
    refine s_aload_n j169 rfl rfl ?_
    refine s_gfI j170 rfl (am_is_ext hx3 ho2) ?_
    refine s_virt j173 rfl rfl rfl rfl (am_is_ext hx3 ho2) (by decide) (in_Ro_paidOf _ _ _) (am_r8 rfl) (am_bL h (fun a7 σ6 h hx6 => ?_))
    replace h := h hx6
    refine s_g j176 rfl rfl rfl rfl rfl rfl ?_
    refine s_ifn j177 rfl rfl am_cl_le (fun hc8 => ?_) (fun hc8 => ?_)
    · replace h := h.2 hc8
      exact h
    · replace h := h.1 hc8
      refine s_bipush j180 rfl kc_bi_m6 ?_
      exact s_retI j182 rfl h
theorem P_Ro_fact_183 (nl : Bool) (Ln : Nat) (xs : Nat → Int32) : am_Jl (TT nl Ln xs) 206 [(183, .aload_n 0, 184, []), (184, .getfield 138, 187, [9, 13, 51, 2]), (187, .iload 4, 189, []), (189, .iaload, 190, []), (190, .bipush 40, 192, []), (192, .if_icmp .ne 6, 195, []), (195, .bipush (-7), 197, []), (197, .ireturn, 198, [1]), (198, .aload_n 0, 199, []), (199, .iload_n 1, 200, []), (200, .aload_n 2, 201, []), (201, .lload 6, 203, []), (203, .invokevirtual 549, 206, [10, 264, 14, 8, 4]), (206, .aload_n 0, 207, []), (207, .iload_n 1, 208, []), (208, .aload_n 2, 209, []), (209, .iconst 1, 210, []), (210, .invokevirtual 503, 213, [10, 265, 14, 4, 4]), (213, .ireturn, 214, [1])] := dk_ck (by decide +kernel)
set_option maxRecDepth 4096 in
theorem w_Ro_fact_183 {nl : Bool} {Ln : Nat} {xs : Nat → Int32} {d : Nat} {this : Nat} {x1 : Int32} {x2 : Option Nat} {x3 : Int32} {x4 : Int32} {x5 : Int32} {x6 : Int64} {σ : am_S} {F : Int32 → am_S → Prop} (h : (am_is σ (some this) 13) ∧ (am_ar σ 1000 (am_fR σ 13051 this) x4) ∧ ((am_aI σ ((am_fR σ 13051 this).getD 0) x4.toNatClampNeg) = (40 : Int32) → F (-7 : Int32) σ) ∧ (¬ ((am_aI σ ((am_fR σ 13051 this).getD 0) x4.toNatClampNeg) = (40 : Int32)) → k_Ro_keep nl Ln xs d this x1 x2 x6 σ (fun σ4 => am_ext σ σ4 → k_Ro_done nl Ln xs d this x1 x2 (1 : Int32) σ4 (fun a7 σ6 => am_ext σ4 σ6 → F a7 σ6)))) : c_Ro_fact_183 nl Ln xs (d + 1) this x1 x2 x3 x4 x5 x6 σ F := by
  obtain ⟨j183, j184, j187, j189, j190, j192, j195, j197, j198, j199, j200, j201, j203, j206, j207, j208, j209, j210, j213, -⟩ := P_Ro_fact_183 nl Ln xs
  unfold c_Ro_fact_183
  refine s_aload_n j183 rfl rfl ?_
  obtain ⟨ho1, h⟩ := h
  refine s_gfR j184 rfl ho1 ?_
  refine s_iload j187 rfl rfl ?_
  obtain ⟨ho2, h⟩ := h
  refine s_iaload j189 rfl ho2 ?_
  refine s_bipush j190 rfl kc_bi_40 ?_
  refine s_icn j192 rfl rfl am_cc_ne (fun hc3 => ?_) (fun hc3 => ?_)
  · replace h := h.2 hc3
    refine s_aload_n j198 rfl rfl ?_
    refine s_iload_n j199 rfl rfl ?_
    refine s_aload_n j200 rfl rfl ?_
    refine s_lload j201 rfl rfl ?_
    refine s_virt j203 rfl rfl rfl rfl ho1 (by decide) (in_Ro_keep _ _ _ _) (am_r8 rfl) (am_bV h (fun σ4 h hx4 => ?_))
    replace h := h hx4
    refine s_aload_n j206 rfl rfl ?_
    refine s_iload_n j207 rfl rfl ?_
    refine s_aload_n j208 rfl rfl ?_
    refine s_iconst j209 rfl kc_ic_1 ?_
    refine s_virt j210 rfl rfl rfl rfl (am_is_ext hx4 ho1) (by decide) (in_Ro_done _ _ _ _) (am_r8 rfl) (am_bI h (fun a7 σ6 h hx6 => ?_))
    replace h := h hx6
    exact s_retI j213 rfl h
  · replace h := h.1 hc3
    refine s_bipush j195 rfl kc_bi_m7 ?_
    exact s_retI j197 rfl h
theorem P_Ro_numbers (nl : Bool) (Ln : Nat) (xs : Nat → Int32) : am_Jl (TT nl Ln xs) 207 [(0, .aload_n 0, 1, []), (1, .aload_n 2, 2, []), (2, .iconst 0, 3, []), (3, .laload, 4, []), (4, .invokevirtual 532, 7, [10, 208, 14, 3, 2]), (7, .ifCond .eq 16, 10, []), (10, .aload_n 2, 11, []), (11, .iconst 1, 12, []), (12, .laload, 13, []), (13, .lconst 0, 14, []), (14, .ldc2_w 513, 17, [6, 10949]), (17, .invokestatic 364, 20, [12, 209, 6, 3]), (20, .ifCond .ne 6, 23, []), (23, .bipush (-2), 25, []), (25, .ireturn, 26, [1]), (26, .iconst 1, 27, []), (27, .istore_n 3, 28, []), (28, .iload_n 1, 29, []), (29, .tableswitch 236 12 19 #[47, 82, 236, 96, 110, 187, 222, 222], 76, []), (76, .aload_n 2, 77, []), (77, .iconst 2, 78, []), (78, .laload, 79, []), (79, .lconst 0, 80, []), (80, .ldc2_w 524, 83, [6, 2]), (83, .invokestatic 364, 86, [12, 209, 6, 3]), (86, .ifCond .eq 20, 89, []), (89, .aload_n 2, 90, []), (90, .iconst 3, 91, []), (91, .laload, 92, []), (92, .lconst 0, 93, []), (93, .ldc2_w 406, 96, [6, 1000000000000]), (96, .invokestatic 364, 99, [12, 209, 6, 3]), (99, .ifCond .eq 7, 102, []), (102, .iconst 1, 103, []), (103, .goto 4, 106, []), (106, .iconst 0, 107, []), (107, .istore_n 3, 108, []), (108, .goto 157, 111, []), (111, .aload_n 2, 112, []), (112, .iconst 2, 113, []), (113, .laload, 114, []), (114, .lconst 1, 115, []), (115, .ldc2_w 406, 118, [6, 1000000000000]), (118, .invokestatic 364, 121, [12, 209, 6, 3]), (121, .istore_n 3, 122, []), (122, .goto 143, 125, []), (125, .aload_n 2, 126, []), (126, .iconst 2, 127, []), (127, .laload, 128, []), (128, .lconst 0, 129, []), (129, .ldc2_w 524, 132, [6, 2]), (132, .invokestatic 364, 135, [12, 209, 6, 3]), (135, .istore_n 3, 136, []), (136, .goto 129, 139, []), (139, .aload_n 2, 140, []), (140, .iconst 2, 141, []), (141, .laload, 142, []), (142, .lconst 0, 143, []), (143, .aload_n 0, 144, []), (144, .getfield 107, 147, [9, 13, 40, 2]), (147, .aload_n 0, 148, []), (148, .aload_n 0, 149, []), (149, .getfield 129, 152, [9, 13, 48, 2]), (152, .aload_n 2, 153, []), (153, .iconst 0, 154, []), (154, .laload, 155, []), (155, .l2i, 156, []), (156, .iaload, 157, []), (157, .invokevirtual 301, 160, [10, 210, 14, 3, 2]), (160, .iaload, 161, []), (161, .iconst 1, 162, []), (162, .isub, 163, []), (163, .i2l, 164, []), (164, .invokestatic 364, 167, [12, 209, 6, 3]), (167, .ifCond .eq 44, 170, []), (170, .aload_n 2, 171, []), (171, .iconst 3, 172, []), (172, .laload, 173, []), (173, .lconst 0, 174, []), (174, .lconst 1, 175, []), (175, .invokestatic 364, 178, [12, 209, 6, 3]), (178, .ifCond .eq 33, 181, []), (181, .aload_n 2, 182, []), (182, .iconst 4, 183, []), (183, .laload, 184, []), (184, .lconst 0, 185, []), (185, .ldc2_w 406, 188, [6, 1000000000000]), (188, .invokestatic 364, 191, [12, 209, 6, 3]), (191, .ifCond .eq 20, 194, []), (194, .aload_n 2, 195, []), (195, .iconst 5, 196, []), (196, .laload, 197, []), (197, .lconst 0, 198, []), (198, .ldc2_w 513, 201, [6, 10949]), (201, .invokestatic 364, 204, [12, 209, 6, 3]), (204, .ifCond .eq 7, 207, []), (207, .iconst 1, 208, []), (208, .goto 4, 211, []), (211, .iconst 0, 212, []), (212, .istore_n 3, 213, []), (213, .goto 52, 216, []), (216, .aload_n 2, 217, []), (217, .iconst 2, 218, []), (218, .laload, 219, []), (219, .lconst 1, 220, []), (220, .ldc2_w 507, 223, [6, 5]), (223, .invokestatic 364, 226, [12, 209, 6, 3]), (226, .ifCond .eq 20, 229, []), (229, .aload_n 2, 230, []), (230, .iconst 3, 231, []), (231, .laload, 232, []), (232, .lconst 0, 233, []), (233, .ldc2_w 406, 236, [6, 1000000000000]), (236, .invokestatic 364, 239, [12, 209, 6, 3]), (239, .ifCond .eq 7, 242, []), (242, .iconst 1, 243, []), (243, .goto 4, 246, []), (246, .iconst 0, 247, []), (247, .istore_n 3, 248, []), (248, .goto 17, 251, []), (251, .aload_n 2, 252, []), (252, .iconst 2, 253, []), (253, .laload, 254, []), (254, .lconst 0, 255, []), (255, .ldc2_w 406, 258, [6, 1000000000000]), (258, .invokestatic 364, 261, [12, 209, 6, 3]), (261, .istore_n 3, 262, []), (262, .goto 3, 265, []), (265, .iload_n 3, 266, []), (266, .ifCond .eq 7, 269, []), (269, .iconst 0, 270, []), (270, .goto 5, 273, []), (273, .bipush (-2), 275, []), (275, .ireturn, 276, [1])] := dk_ck (by decide +kernel)
set_option maxRecDepth 4096 in
theorem w_Ro_numbers {nl : Bool} {Ln : Nat} {xs : Nat → Int32} {d : Nat} {this : Nat} {p0 : Int32} {p1 : Option Nat} {σ : am_S} {F : Int32 → am_S → Prop} (h : (am_ar σ 1001 p1 (0 : Int32)) ∧ (am_is σ (some this) 13) ∧ k_Ro_isCase nl Ln xs d this (am_aL σ (p1.getD 0) (0 : Int32).toNatClampNeg) σ (fun a4 σ3 => am_ext σ σ3 → (a4 = true → (am_ar σ3 1001 p1 (1 : Int32)) ∧ k_Rm_in nl Ln xs d (am_aL σ3 (p1.getD 0) (1 : Int32).toNatClampNeg) (0 : Int64) (10949 : Int64) σ3 (fun a8 σ7 => am_ext σ3 σ7 → (a8 = true → (p0 = (12 : Int32) → (am_ar σ7 1001 p1 (2 : Int32)) ∧ k_Rm_in nl Ln xs d (am_aL σ7 (p1.getD 0) (2 : Int32).toNatClampNeg) (0 : Int64) (2 : Int64) σ7 (fun a12 σ11 => am_ext σ7 σ11 → (a12 = true → (am_ar σ11 1001 p1 (3 : Int32)) ∧ k_Rm_in nl Ln xs d (am_aL σ11 (p1.getD 0) (3 : Int32).toNatClampNeg) (0 : Int64) (1000000000000 : Int64) σ11 (fun a16 σ15 => am_ext σ11 σ15 → ∀ w23 : Int32, w23 = (if a16 = true then (0 : Int32) else (-2 : Int32)) → F w23 σ15)) ∧ (¬ (a12 = true) → ∀ w27 : Int32, w27 = (if (0 : Int32) = 0 then (-2 : Int32) else (0 : Int32)) → F w27 σ11))) ∧ (p0 = (13 : Int32) → (am_ar σ7 1001 p1 (2 : Int32)) ∧ k_Rm_in nl Ln xs d (am_aL σ7 (p1.getD 0) (2 : Int32).toNatClampNeg) (1 : Int64) (1000000000000 : Int64) σ7 (fun a31 σ30 => am_ext σ7 σ30 → ∀ w34 : Int32, w34 = (if a31 = true then (0 : Int32) else (-2 : Int32)) → F w34 σ30)) ∧ (p0 = (15 : Int32) → (am_ar σ7 1001 p1 (2 : Int32)) ∧ k_Rm_in nl Ln xs d (am_aL σ7 (p1.getD 0) (2 : Int32).toNatClampNeg) (0 : Int64) (2 : Int64) σ7 (fun a38 σ37 => am_ext σ7 σ37 → ∀ w41 : Int32, w41 = (if a38 = true then (0 : Int32) else (-2 : Int32)) → F w41 σ37)) ∧ (p0 = (16 : Int32) → (am_ar σ7 1001 p1 (2 : Int32)) ∧ (am_ar σ7 1001 p1 (0 : Int32)) ∧ (am_ar σ7 1000 (am_fR σ7 13048 this) ((am_aL σ7 (p1.getD 0) (0 : Int32).toNatClampNeg).toInt32)) ∧ k_Ro_root nl Ln xs d this (am_aI σ7 ((am_fR σ7 13048 this).getD 0) ((am_aL σ7 (p1.getD 0) (0 : Int32).toNatClampNeg).toInt32).toNatClampNeg) σ7 (fun a47 σ46 => am_ext σ7 σ46 → (am_ar σ46 1000 (am_fR σ7 13040 this) a47) ∧ k_Rm_in nl Ln xs d (am_aL σ7 (p1.getD 0) (2 : Int32).toNatClampNeg) (0 : Int64) (((am_aI σ46 ((am_fR σ7 13040 this).getD 0) a47.toNatClampNeg) - (1 : Int32)).toInt64) σ46 (fun a50 σ49 => am_ext σ46 σ49 → (a50 = true → (am_ar σ49 1001 p1 (3 : Int32)) ∧ k_Rm_in nl Ln xs d (am_aL σ49 (p1.getD 0) (3 : Int32).toNatClampNeg) (0 : Int64) (1 : Int64) σ49 (fun a54 σ53 => am_ext σ49 σ53 → (a54 = true → (am_ar σ53 1001 p1 (4 : Int32)) ∧ k_Rm_in nl Ln xs d (am_aL σ53 (p1.getD 0) (4 : Int32).toNatClampNeg) (0 : Int64) (1000000000000 : Int64) σ53 (fun a58 σ57 => am_ext σ53 σ57 → (a58 = true → (am_ar σ57 1001 p1 (5 : Int32)) ∧ k_Rm_in nl Ln xs d (am_aL σ57 (p1.getD 0) (5 : Int32).toNatClampNeg) (0 : Int64) (10949 : Int64) σ57 (fun a62 σ61 => am_ext σ57 σ61 → ∀ w69 : Int32, w69 = (if a62 = true then (0 : Int32) else (-2 : Int32)) → F w69 σ61)) ∧ (¬ (a58 = true) → ∀ w73 : Int32, w73 = (if (0 : Int32) = 0 then (-2 : Int32) else (0 : Int32)) → F w73 σ57))) ∧ (¬ (a54 = true) → ∀ w77 : Int32, w77 = (if (0 : Int32) = 0 then (-2 : Int32) else (0 : Int32)) → F w77 σ53))) ∧ (¬ (a50 = true) → ∀ w81 : Int32, w81 = (if (0 : Int32) = 0 then (-2 : Int32) else (0 : Int32)) → F w81 σ49)))) ∧ (p0 = (17 : Int32) → (am_ar σ7 1001 p1 (2 : Int32)) ∧ k_Rm_in nl Ln xs d (am_aL σ7 (p1.getD 0) (2 : Int32).toNatClampNeg) (1 : Int64) (5 : Int64) σ7 (fun a85 σ84 => am_ext σ7 σ84 → (a85 = true → (am_ar σ84 1001 p1 (3 : Int32)) ∧ k_Rm_in nl Ln xs d (am_aL σ84 (p1.getD 0) (3 : Int32).toNatClampNeg) (0 : Int64) (1000000000000 : Int64) σ84 (fun a89 σ88 => am_ext σ84 σ88 → ∀ w96 : Int32, w96 = (if a89 = true then (0 : Int32) else (-2 : Int32)) → F w96 σ88)) ∧ (¬ (a85 = true) → ∀ w100 : Int32, w100 = (if (0 : Int32) = 0 then (-2 : Int32) else (0 : Int32)) → F w100 σ84))) ∧ (p0 = (18 : Int32) ∨ p0 = (19 : Int32) → (am_ar σ7 1001 p1 (2 : Int32)) ∧ k_Rm_in nl Ln xs d (am_aL σ7 (p1.getD 0) (2 : Int32).toNatClampNeg) (0 : Int64) (1000000000000 : Int64) σ7 (fun a104 σ103 => am_ext σ7 σ103 → ∀ w107 : Int32, w107 = (if a104 = true then (0 : Int32) else (-2 : Int32)) → F w107 σ103)) ∧ ((p0.toInt < 12 ∨ 19 < p0.toInt) ∨ p0 = (14 : Int32) → ∀ w111 : Int32, w111 = (if (1 : Int32) = 0 then (-2 : Int32) else (0 : Int32)) → F w111 σ7)) ∧ (¬ (a8 = true) → F (-2 : Int32) σ7))) ∧ (¬ (a4 = true) → F (-2 : Int32) σ3))) : k_Ro_numbers nl Ln xs (d + 1) this p0 p1 σ F := by
  obtain ⟨j0, j1, j2, j3, j4, j7, j10, j11, j12, j13, j14, j17, j20, j23, j25, j26, j27, j28, j29, j76, j77, j78, j79, j80, j83, j86, j89, j90, j91, j92, j93, j96, j99, j102, j103, j106, j107, j108, j111, j112, j113, j114, j115, j118, j121, j122, j125, j126, j127, j128, j129, j132, j135, j136, j139, j140, j141, j142, j143, j144, j147, j148, j149, j152, j153, j154, j155, j156, j157, j160, j161, j162, j163, j164, j167, j170, j171, j172, j173, j174, j175, j178, j181, j182, j183, j184, j185, j188, j191, j194, j195, j196, j197, j198, j201, j204, j207, j208, j211, j212, j213, j216, j217, j218, j219, j220, j223, j226, j229, j230, j231, j232, j233, j236, j239, j242, j243, j246, j247, j248, j251, j252, j253, j254, j255, j258, j261, j262, j265, j266, j269, j270, j273, j275, -⟩ := P_Ro_numbers nl Ln xs
  have elo : am_lo 4 [am_ov (some this), .int p0, am_ov p1] = [some (am_ov (some this)), some (.int p0), some (am_ov p1), none] := by simp only [am_lo, am_in_ov, am_in_int, am_in_long, am_in_nil]; rfl
  unfold k_Ro_numbers
  rw [elo]
  refine s_aload_n j0 rfl rfl ?_
  refine s_aload_n j1 rfl rfl ?_
  refine s_iconst j2 rfl kc_ic_0 ?_
  obtain ⟨ho1, h⟩ := h
  refine s_laload j3 rfl ho1 ?_
  obtain ⟨ho2, h⟩ := h
  refine s_virt j4 rfl rfl rfl rfl ho2 (by decide) (in_Ro_isCase _ _) (am_r8 rfl) (am_bB h (fun a4 σ3 h hx3 => ?_))
  replace h := h hx3
  refine s_ifn j7 rfl rfl am_cb_eq (fun hc5 => ?_) (fun hc5 => ?_)
  · replace h := h.2 hc5
    refine s_bipush j23 rfl kc_bi_m2 ?_
    exact s_retI j25 rfl h
  · replace h := h.1 hc5
    refine s_aload_n j10 rfl rfl ?_
    refine s_iconst j11 rfl kc_ic_1 ?_
    obtain ⟨ho6, h⟩ := h
    refine s_laload j12 rfl ho6 ?_
    refine s_lconst j13 rfl rfl ?_
    refine s_ldc2 j14 rfl kc_ll_10949 ?_
    refine s_stat j17 rfl rfl rfl rfl (by decide) (in_Rm_in _ _ _) (am_r8 rfl) (am_bB h (fun a8 σ7 h hx7 => ?_))
    replace h := h hx7
    refine s_if j20 rfl rfl am_cb_ne (fun hc9 => ?_) (fun hc9 => ?_)
    · replace h := h.1 hc9
      refine s_iconst j26 rfl kc_ic_1 ?_
      refine s_istore_n j27 rfl (n := 4) (L' := [some (am_ov (some this)), some (.int p0), some (am_ov p1), some (.int (1 : Int32))]) rfl (by decide) (am_st1_R [_, _] _ _ _ _) ?_
      refine s_iload_n j28 rfl rfl ?_
      by_cases hr113 : p0.toInt < 12 ∨ 19 < p0.toInt
      · refine s_tsw j29 (t := 265) ((am_sw_out hr113).trans rfl) ?_
        replace h := h.2.2.2.2.2.2 (Or.inl hr113)
        refine s_iload_n j265 rfl rfl ?_
        have K110 : ∀ (w111 : Int32), w111 = (if (1 : Int32) = 0 then (-2 : Int32) else (0 : Int32)) → am_C (TT nl Ln xs) (d + 1) 207 275 [some (am_ov (some this)), some (.int p0), some (am_ov p1), some (.int (1 : Int32))] [.int w111] σ7 (am_qI F) := by
          intro w111 hw112
          replace h := h w111 hw112
          exact s_retI j275 rfl h
        refine s_if j266 rfl rfl am_cc_eq (fun hc109 => ?_) (fun hc109 => ?_)
        · refine s_bipush j273 rfl kc_bi_m2 ?_
          exact K110 _ (am_t1 hc109 rfl)
        · refine s_iconst j269 rfl kc_ic_0 ?_
          refine s_goto j270 rfl rfl ?_
          exact K110 _ (am_t2 hc109 rfl)
      · obtain ⟨k114, hk115, hv116⟩ := am_sw_in hr113
        have hk1152 : k114 < 8 := by omega
        clear hk115
        match k114, hk1152, hv116 with
        | 0, _, hv116 =>
          have hs : p0 = (12 : Int32) := am_te hv116 (by decide)
          refine s_tsw j29 (t := 76) (by show am_sw 29 236 12 19 #[47, 82, 236, 96, 110, 187, 222, 222] p0.toInt = _; rw [hv116]; rfl) ?_
          replace h := h.1 hs
          refine s_aload_n j76 rfl rfl ?_
          refine s_iconst j77 rfl kc_ic_2 ?_
          obtain ⟨ho10, h⟩ := h
          refine s_laload j78 rfl ho10 ?_
          refine s_lconst j79 rfl rfl ?_
          refine s_ldc2 j80 rfl kc_ll_2 ?_
          refine s_stat j83 rfl rfl rfl rfl (by decide) (in_Rm_in _ _ _) (am_r8 rfl) (am_bB h (fun a12 σ11 h hx11 => ?_))
          replace h := h hx11
          refine s_ifn j86 rfl rfl am_cb_eq (fun hc13 => ?_) (fun hc13 => ?_)
          · replace h := h.2 hc13
            refine s_iconst j106 rfl kc_ic_0 ?_
            refine s_istore_n j107 rfl (n := 4) (L' := [some (am_ov (some this)), some (.int p0), some (am_ov p1), some (.int (0 : Int32))]) rfl (by decide) (am_st1_R [_, _] _ _ _ _) ?_
            refine s_goto j108 rfl rfl ?_
            refine s_iload_n j265 rfl rfl ?_
            have K26 : ∀ (w27 : Int32), w27 = (if (0 : Int32) = 0 then (-2 : Int32) else (0 : Int32)) → am_C (TT nl Ln xs) (d + 1) 207 275 [some (am_ov (some this)), some (.int p0), some (am_ov p1), some (.int (0 : Int32))] [.int w27] σ11 (am_qI F) := by
              intro w27 hw28
              replace h := h w27 hw28
              exact s_retI j275 rfl h
            refine s_if j266 rfl rfl am_cc_eq (fun hc25 => ?_) (fun hc25 => ?_)
            · refine s_bipush j273 rfl kc_bi_m2 ?_
              exact K26 _ (am_t1 hc25 rfl)
            · refine s_iconst j269 rfl kc_ic_0 ?_
              refine s_goto j270 rfl rfl ?_
              exact K26 _ (am_t2 hc25 rfl)
          · replace h := h.1 hc13
            refine s_aload_n j89 rfl rfl ?_
            refine s_iconst j90 rfl kc_ic_3 ?_
            obtain ⟨ho14, h⟩ := h
            refine s_laload j91 rfl ho14 ?_
            refine s_lconst j92 rfl rfl ?_
            refine s_ldc2 j93 rfl kc_ll_1000000000000 ?_
            refine s_stat j96 rfl rfl rfl rfl (by decide) (in_Rm_in _ _ _) (am_r8 rfl) (am_bB h (fun a16 σ15 h hx15 => ?_))
            replace h := h hx15
            have K18 : ∀ (w19 : Int32), w19 = (if a16 = true then (1 : Int32) else 0) → am_C (TT nl Ln xs) (d + 1) 207 107 [some (am_ov (some this)), some (.int p0), some (am_ov p1), some (.int (1 : Int32))] [.int w19] σ15 (am_qI F) := by
              intro w19 hw20
              subst hw20
              refine s_istore_n j107 rfl (n := 4) (L' := [some (am_ov (some this)), some (.int p0), some (am_ov p1), some (.int (if a16 = true then (1 : Int32) else 0))]) rfl (by decide) (am_st1_R [_, _] _ _ _ _) ?_
              refine s_goto j108 rfl rfl ?_
              refine s_iload_n j265 rfl rfl ?_
              have K22 : ∀ (w23 : Int32), w23 = (if a16 = true then (0 : Int32) else (-2 : Int32)) → am_C (TT nl Ln xs) (d + 1) 207 275 [some (am_ov (some this)), some (.int p0), some (am_ov p1), some (.int (if a16 = true then (1 : Int32) else 0))] [.int w23] σ15 (am_qI F) := by
                intro w23 hw24
                replace h := h w23 hw24
                exact s_retI j275 rfl h
              refine s_ifn j266 rfl rfl am_cb_eq (fun hc21 => ?_) (fun hc21 => ?_)
              · refine s_bipush j273 rfl kc_bi_m2 ?_
                exact K22 _ (am_t2 hc21 rfl)
              · refine s_iconst j269 rfl kc_ic_0 ?_
                refine s_goto j270 rfl rfl ?_
                exact K22 _ (am_t1 hc21 rfl)
            refine s_ifn j99 rfl rfl am_cb_eq (fun hc17 => ?_) (fun hc17 => ?_)
            · refine s_iconst j106 rfl kc_ic_0 ?_
              exact K18 _ (am_e0 (Iff.trans Iff.rfl (am_p10 hc17)))
            · refine s_iconst j102 rfl kc_ic_1 ?_
              refine s_goto j103 rfl rfl ?_
              exact K18 _ (am_e1 (Iff.trans Iff.rfl (am_p9 hc17)))
        | 1, _, hv116 =>
          have hs : p0 = (13 : Int32) := am_te hv116 (by decide)
          refine s_tsw j29 (t := 111) (by show am_sw 29 236 12 19 #[47, 82, 236, 96, 110, 187, 222, 222] p0.toInt = _; rw [hv116]; rfl) ?_
          replace h := h.2.1 hs
          refine s_aload_n j111 rfl rfl ?_
          refine s_iconst j112 rfl kc_ic_2 ?_
          obtain ⟨ho29, h⟩ := h
          refine s_laload j113 rfl ho29 ?_
          refine s_lconst j114 rfl rfl ?_
          refine s_ldc2 j115 rfl kc_ll_1000000000000 ?_
          refine s_stat j118 rfl rfl rfl rfl (by decide) (in_Rm_in _ _ _) (am_r8 rfl) (am_bB h (fun a31 σ30 h hx30 => ?_))
          replace h := h hx30
          refine s_istore_n j121 rfl (n := 4) (L' := [some (am_ov (some this)), some (.int p0), some (am_ov p1), some (.int (if a31 = true then (1 : Int32) else 0))]) rfl (by decide) (am_st1_R [_, _] _ _ _ _) ?_
          refine s_goto j122 rfl rfl ?_
          refine s_iload_n j265 rfl rfl ?_
          have K33 : ∀ (w34 : Int32), w34 = (if a31 = true then (0 : Int32) else (-2 : Int32)) → am_C (TT nl Ln xs) (d + 1) 207 275 [some (am_ov (some this)), some (.int p0), some (am_ov p1), some (.int (if a31 = true then (1 : Int32) else 0))] [.int w34] σ30 (am_qI F) := by
            intro w34 hw35
            replace h := h w34 hw35
            exact s_retI j275 rfl h
          refine s_ifn j266 rfl rfl am_cb_eq (fun hc32 => ?_) (fun hc32 => ?_)
          · refine s_bipush j273 rfl kc_bi_m2 ?_
            exact K33 _ (am_t2 hc32 rfl)
          · refine s_iconst j269 rfl kc_ic_0 ?_
            refine s_goto j270 rfl rfl ?_
            exact K33 _ (am_t1 hc32 rfl)
        | 2, _, hv116 =>
          have hs : p0 = (14 : Int32) := am_te hv116 (by decide)
          refine s_tsw j29 (t := 265) (by show am_sw 29 236 12 19 #[47, 82, 236, 96, 110, 187, 222, 222] p0.toInt = _; rw [hv116]; rfl) ?_
          replace h := h.2.2.2.2.2.2 (Or.inr hs)
          refine s_iload_n j265 rfl rfl ?_
          have K110 : ∀ (w111 : Int32), w111 = (if (1 : Int32) = 0 then (-2 : Int32) else (0 : Int32)) → am_C (TT nl Ln xs) (d + 1) 207 275 [some (am_ov (some this)), some (.int p0), some (am_ov p1), some (.int (1 : Int32))] [.int w111] σ7 (am_qI F) := by
            intro w111 hw112
            replace h := h w111 hw112
            exact s_retI j275 rfl h
          refine s_if j266 rfl rfl am_cc_eq (fun hc109 => ?_) (fun hc109 => ?_)
          · refine s_bipush j273 rfl kc_bi_m2 ?_
            exact K110 _ (am_t1 hc109 rfl)
          · refine s_iconst j269 rfl kc_ic_0 ?_
            refine s_goto j270 rfl rfl ?_
            exact K110 _ (am_t2 hc109 rfl)
        | 3, _, hv116 =>
          have hs : p0 = (15 : Int32) := am_te hv116 (by decide)
          refine s_tsw j29 (t := 125) (by show am_sw 29 236 12 19 #[47, 82, 236, 96, 110, 187, 222, 222] p0.toInt = _; rw [hv116]; rfl) ?_
          replace h := h.2.2.1 hs
          refine s_aload_n j125 rfl rfl ?_
          refine s_iconst j126 rfl kc_ic_2 ?_
          obtain ⟨ho36, h⟩ := h
          refine s_laload j127 rfl ho36 ?_
          refine s_lconst j128 rfl rfl ?_
          refine s_ldc2 j129 rfl kc_ll_2 ?_
          refine s_stat j132 rfl rfl rfl rfl (by decide) (in_Rm_in _ _ _) (am_r8 rfl) (am_bB h (fun a38 σ37 h hx37 => ?_))
          replace h := h hx37
          refine s_istore_n j135 rfl (n := 4) (L' := [some (am_ov (some this)), some (.int p0), some (am_ov p1), some (.int (if a38 = true then (1 : Int32) else 0))]) rfl (by decide) (am_st1_R [_, _] _ _ _ _) ?_
          refine s_goto j136 rfl rfl ?_
          refine s_iload_n j265 rfl rfl ?_
          have K40 : ∀ (w41 : Int32), w41 = (if a38 = true then (0 : Int32) else (-2 : Int32)) → am_C (TT nl Ln xs) (d + 1) 207 275 [some (am_ov (some this)), some (.int p0), some (am_ov p1), some (.int (if a38 = true then (1 : Int32) else 0))] [.int w41] σ37 (am_qI F) := by
            intro w41 hw42
            replace h := h w41 hw42
            exact s_retI j275 rfl h
          refine s_ifn j266 rfl rfl am_cb_eq (fun hc39 => ?_) (fun hc39 => ?_)
          · refine s_bipush j273 rfl kc_bi_m2 ?_
            exact K40 _ (am_t2 hc39 rfl)
          · refine s_iconst j269 rfl kc_ic_0 ?_
            refine s_goto j270 rfl rfl ?_
            exact K40 _ (am_t1 hc39 rfl)
        | 4, _, hv116 =>
          have hs : p0 = (16 : Int32) := am_te hv116 (by decide)
          refine s_tsw j29 (t := 139) (by show am_sw 29 236 12 19 #[47, 82, 236, 96, 110, 187, 222, 222] p0.toInt = _; rw [hv116]; rfl) ?_
          replace h := h.2.2.2.1 hs
          refine s_aload_n j139 rfl rfl ?_
          refine s_iconst j140 rfl kc_ic_2 ?_
          obtain ⟨ho43, h⟩ := h
          refine s_laload j141 rfl ho43 ?_
          refine s_lconst j142 rfl rfl ?_
          refine s_aload_n j143 rfl rfl ?_
          refine s_gfR j144 rfl (am_is_ext hx7 (am_is_ext hx3 ho2)) ?_
          refine s_aload_n j147 rfl rfl ?_
          refine s_aload_n j148 rfl rfl ?_
          refine s_gfR j149 rfl (am_is_ext hx7 (am_is_ext hx3 ho2)) ?_
          refine s_aload_n j152 rfl rfl ?_
          refine s_iconst j153 rfl kc_ic_0 ?_
          obtain ⟨ho44, h⟩ := h
          refine s_laload j154 rfl ho44 ?_
          refine s_g j155 rfl rfl rfl rfl rfl rfl ?_
          obtain ⟨ho45, h⟩ := h
          refine s_iaload j156 rfl ho45 ?_
          refine s_virt j157 rfl rfl rfl rfl (am_is_ext hx7 (am_is_ext hx3 ho2)) (by decide) (in_Ro_root _ _) (am_r8 rfl) (am_bI h (fun a47 σ46 h hx46 => ?_))
          replace h := h hx46
          obtain ⟨ho48, h⟩ := h
          refine s_iaload j160 rfl ho48 ?_
          refine s_iconst j161 rfl kc_ic_1 ?_
          refine s_g j162 rfl rfl rfl rfl rfl rfl ?_
          refine s_g j163 rfl rfl rfl rfl rfl rfl ?_
          refine s_stat j164 rfl rfl rfl rfl (by decide) (in_Rm_in _ _ _) (am_r8 rfl) (am_bB h (fun a50 σ49 h hx49 => ?_))
          replace h := h hx49
          refine s_ifn j167 rfl rfl am_cb_eq (fun hc51 => ?_) (fun hc51 => ?_)
          · replace h := h.2 hc51
            refine s_iconst j211 rfl kc_ic_0 ?_
            refine s_istore_n j212 rfl (n := 4) (L' := [some (am_ov (some this)), some (.int p0), some (am_ov p1), some (.int (0 : Int32))]) rfl (by decide) (am_st1_R [_, _] _ _ _ _) ?_
            refine s_goto j213 rfl rfl ?_
            refine s_iload_n j265 rfl rfl ?_
            have K80 : ∀ (w81 : Int32), w81 = (if (0 : Int32) = 0 then (-2 : Int32) else (0 : Int32)) → am_C (TT nl Ln xs) (d + 1) 207 275 [some (am_ov (some this)), some (.int p0), some (am_ov p1), some (.int (0 : Int32))] [.int w81] σ49 (am_qI F) := by
              intro w81 hw82
              replace h := h w81 hw82
              exact s_retI j275 rfl h
            refine s_if j266 rfl rfl am_cc_eq (fun hc79 => ?_) (fun hc79 => ?_)
            · refine s_bipush j273 rfl kc_bi_m2 ?_
              exact K80 _ (am_t1 hc79 rfl)
            · refine s_iconst j269 rfl kc_ic_0 ?_
              refine s_goto j270 rfl rfl ?_
              exact K80 _ (am_t2 hc79 rfl)
          · replace h := h.1 hc51
            refine s_aload_n j170 rfl rfl ?_
            refine s_iconst j171 rfl kc_ic_3 ?_
            obtain ⟨ho52, h⟩ := h
            refine s_laload j172 rfl ho52 ?_
            refine s_lconst j173 rfl rfl ?_
            refine s_lconst j174 rfl rfl ?_
            refine s_stat j175 rfl rfl rfl rfl (by decide) (in_Rm_in _ _ _) (am_r8 rfl) (am_bB h (fun a54 σ53 h hx53 => ?_))
            replace h := h hx53
            refine s_ifn j178 rfl rfl am_cb_eq (fun hc55 => ?_) (fun hc55 => ?_)
            · replace h := h.2 hc55
              refine s_iconst j211 rfl kc_ic_0 ?_
              refine s_istore_n j212 rfl (n := 4) (L' := [some (am_ov (some this)), some (.int p0), some (am_ov p1), some (.int (0 : Int32))]) rfl (by decide) (am_st1_R [_, _] _ _ _ _) ?_
              refine s_goto j213 rfl rfl ?_
              refine s_iload_n j265 rfl rfl ?_
              have K76 : ∀ (w77 : Int32), w77 = (if (0 : Int32) = 0 then (-2 : Int32) else (0 : Int32)) → am_C (TT nl Ln xs) (d + 1) 207 275 [some (am_ov (some this)), some (.int p0), some (am_ov p1), some (.int (0 : Int32))] [.int w77] σ53 (am_qI F) := by
                intro w77 hw78
                replace h := h w77 hw78
                exact s_retI j275 rfl h
              refine s_if j266 rfl rfl am_cc_eq (fun hc75 => ?_) (fun hc75 => ?_)
              · refine s_bipush j273 rfl kc_bi_m2 ?_
                exact K76 _ (am_t1 hc75 rfl)
              · refine s_iconst j269 rfl kc_ic_0 ?_
                refine s_goto j270 rfl rfl ?_
                exact K76 _ (am_t2 hc75 rfl)
            · replace h := h.1 hc55
              refine s_aload_n j181 rfl rfl ?_
              refine s_iconst j182 rfl kc_ic_4 ?_
              obtain ⟨ho56, h⟩ := h
              refine s_laload j183 rfl ho56 ?_
              refine s_lconst j184 rfl rfl ?_
              refine s_ldc2 j185 rfl kc_ll_1000000000000 ?_
              refine s_stat j188 rfl rfl rfl rfl (by decide) (in_Rm_in _ _ _) (am_r8 rfl) (am_bB h (fun a58 σ57 h hx57 => ?_))
              replace h := h hx57
              refine s_ifn j191 rfl rfl am_cb_eq (fun hc59 => ?_) (fun hc59 => ?_)
              · replace h := h.2 hc59
                refine s_iconst j211 rfl kc_ic_0 ?_
                refine s_istore_n j212 rfl (n := 4) (L' := [some (am_ov (some this)), some (.int p0), some (am_ov p1), some (.int (0 : Int32))]) rfl (by decide) (am_st1_R [_, _] _ _ _ _) ?_
                refine s_goto j213 rfl rfl ?_
                refine s_iload_n j265 rfl rfl ?_
                have K72 : ∀ (w73 : Int32), w73 = (if (0 : Int32) = 0 then (-2 : Int32) else (0 : Int32)) → am_C (TT nl Ln xs) (d + 1) 207 275 [some (am_ov (some this)), some (.int p0), some (am_ov p1), some (.int (0 : Int32))] [.int w73] σ57 (am_qI F) := by
                  intro w73 hw74
                  replace h := h w73 hw74
                  exact s_retI j275 rfl h
                refine s_if j266 rfl rfl am_cc_eq (fun hc71 => ?_) (fun hc71 => ?_)
                · refine s_bipush j273 rfl kc_bi_m2 ?_
                  exact K72 _ (am_t1 hc71 rfl)
                · refine s_iconst j269 rfl kc_ic_0 ?_
                  refine s_goto j270 rfl rfl ?_
                  exact K72 _ (am_t2 hc71 rfl)
              · replace h := h.1 hc59
                refine s_aload_n j194 rfl rfl ?_
                refine s_iconst j195 rfl kc_ic_5 ?_
                obtain ⟨ho60, h⟩ := h
                refine s_laload j196 rfl ho60 ?_
                refine s_lconst j197 rfl rfl ?_
                refine s_ldc2 j198 rfl kc_ll_10949 ?_
                refine s_stat j201 rfl rfl rfl rfl (by decide) (in_Rm_in _ _ _) (am_r8 rfl) (am_bB h (fun a62 σ61 h hx61 => ?_))
                replace h := h hx61
                have K64 : ∀ (w65 : Int32), w65 = (if a62 = true then (1 : Int32) else 0) → am_C (TT nl Ln xs) (d + 1) 207 212 [some (am_ov (some this)), some (.int p0), some (am_ov p1), some (.int (1 : Int32))] [.int w65] σ61 (am_qI F) := by
                  intro w65 hw66
                  subst hw66
                  refine s_istore_n j212 rfl (n := 4) (L' := [some (am_ov (some this)), some (.int p0), some (am_ov p1), some (.int (if a62 = true then (1 : Int32) else 0))]) rfl (by decide) (am_st1_R [_, _] _ _ _ _) ?_
                  refine s_goto j213 rfl rfl ?_
                  refine s_iload_n j265 rfl rfl ?_
                  have K68 : ∀ (w69 : Int32), w69 = (if a62 = true then (0 : Int32) else (-2 : Int32)) → am_C (TT nl Ln xs) (d + 1) 207 275 [some (am_ov (some this)), some (.int p0), some (am_ov p1), some (.int (if a62 = true then (1 : Int32) else 0))] [.int w69] σ61 (am_qI F) := by
                    intro w69 hw70
                    replace h := h w69 hw70
                    exact s_retI j275 rfl h
                  refine s_ifn j266 rfl rfl am_cb_eq (fun hc67 => ?_) (fun hc67 => ?_)
                  · refine s_bipush j273 rfl kc_bi_m2 ?_
                    exact K68 _ (am_t2 hc67 rfl)
                  · refine s_iconst j269 rfl kc_ic_0 ?_
                    refine s_goto j270 rfl rfl ?_
                    exact K68 _ (am_t1 hc67 rfl)
                refine s_ifn j204 rfl rfl am_cb_eq (fun hc63 => ?_) (fun hc63 => ?_)
                · refine s_iconst j211 rfl kc_ic_0 ?_
                  exact K64 _ (am_e0 (Iff.trans Iff.rfl (am_p10 hc63)))
                · refine s_iconst j207 rfl kc_ic_1 ?_
                  refine s_goto j208 rfl rfl ?_
                  exact K64 _ (am_e1 (Iff.trans Iff.rfl (am_p9 hc63)))
        | 5, _, hv116 =>
          have hs : p0 = (17 : Int32) := am_te hv116 (by decide)
          refine s_tsw j29 (t := 216) (by show am_sw 29 236 12 19 #[47, 82, 236, 96, 110, 187, 222, 222] p0.toInt = _; rw [hv116]; rfl) ?_
          replace h := h.2.2.2.2.1 hs
          refine s_aload_n j216 rfl rfl ?_
          refine s_iconst j217 rfl kc_ic_2 ?_
          obtain ⟨ho83, h⟩ := h
          refine s_laload j218 rfl ho83 ?_
          refine s_lconst j219 rfl rfl ?_
          refine s_ldc2 j220 rfl kc_ll_5 ?_
          refine s_stat j223 rfl rfl rfl rfl (by decide) (in_Rm_in _ _ _) (am_r8 rfl) (am_bB h (fun a85 σ84 h hx84 => ?_))
          replace h := h hx84
          refine s_ifn j226 rfl rfl am_cb_eq (fun hc86 => ?_) (fun hc86 => ?_)
          · replace h := h.2 hc86
            refine s_iconst j246 rfl kc_ic_0 ?_
            refine s_istore_n j247 rfl (n := 4) (L' := [some (am_ov (some this)), some (.int p0), some (am_ov p1), some (.int (0 : Int32))]) rfl (by decide) (am_st1_R [_, _] _ _ _ _) ?_
            refine s_goto j248 rfl rfl ?_
            refine s_iload_n j265 rfl rfl ?_
            have K99 : ∀ (w100 : Int32), w100 = (if (0 : Int32) = 0 then (-2 : Int32) else (0 : Int32)) → am_C (TT nl Ln xs) (d + 1) 207 275 [some (am_ov (some this)), some (.int p0), some (am_ov p1), some (.int (0 : Int32))] [.int w100] σ84 (am_qI F) := by
              intro w100 hw101
              replace h := h w100 hw101
              exact s_retI j275 rfl h
            refine s_if j266 rfl rfl am_cc_eq (fun hc98 => ?_) (fun hc98 => ?_)
            · refine s_bipush j273 rfl kc_bi_m2 ?_
              exact K99 _ (am_t1 hc98 rfl)
            · refine s_iconst j269 rfl kc_ic_0 ?_
              refine s_goto j270 rfl rfl ?_
              exact K99 _ (am_t2 hc98 rfl)
          · replace h := h.1 hc86
            refine s_aload_n j229 rfl rfl ?_
            refine s_iconst j230 rfl kc_ic_3 ?_
            obtain ⟨ho87, h⟩ := h
            refine s_laload j231 rfl ho87 ?_
            refine s_lconst j232 rfl rfl ?_
            refine s_ldc2 j233 rfl kc_ll_1000000000000 ?_
            refine s_stat j236 rfl rfl rfl rfl (by decide) (in_Rm_in _ _ _) (am_r8 rfl) (am_bB h (fun a89 σ88 h hx88 => ?_))
            replace h := h hx88
            have K91 : ∀ (w92 : Int32), w92 = (if a89 = true then (1 : Int32) else 0) → am_C (TT nl Ln xs) (d + 1) 207 247 [some (am_ov (some this)), some (.int p0), some (am_ov p1), some (.int (1 : Int32))] [.int w92] σ88 (am_qI F) := by
              intro w92 hw93
              subst hw93
              refine s_istore_n j247 rfl (n := 4) (L' := [some (am_ov (some this)), some (.int p0), some (am_ov p1), some (.int (if a89 = true then (1 : Int32) else 0))]) rfl (by decide) (am_st1_R [_, _] _ _ _ _) ?_
              refine s_goto j248 rfl rfl ?_
              refine s_iload_n j265 rfl rfl ?_
              have K95 : ∀ (w96 : Int32), w96 = (if a89 = true then (0 : Int32) else (-2 : Int32)) → am_C (TT nl Ln xs) (d + 1) 207 275 [some (am_ov (some this)), some (.int p0), some (am_ov p1), some (.int (if a89 = true then (1 : Int32) else 0))] [.int w96] σ88 (am_qI F) := by
                intro w96 hw97
                replace h := h w96 hw97
                exact s_retI j275 rfl h
              refine s_ifn j266 rfl rfl am_cb_eq (fun hc94 => ?_) (fun hc94 => ?_)
              · refine s_bipush j273 rfl kc_bi_m2 ?_
                exact K95 _ (am_t2 hc94 rfl)
              · refine s_iconst j269 rfl kc_ic_0 ?_
                refine s_goto j270 rfl rfl ?_
                exact K95 _ (am_t1 hc94 rfl)
            refine s_ifn j239 rfl rfl am_cb_eq (fun hc90 => ?_) (fun hc90 => ?_)
            · refine s_iconst j246 rfl kc_ic_0 ?_
              exact K91 _ (am_e0 (Iff.trans Iff.rfl (am_p10 hc90)))
            · refine s_iconst j242 rfl kc_ic_1 ?_
              refine s_goto j243 rfl rfl ?_
              exact K91 _ (am_e1 (Iff.trans Iff.rfl (am_p9 hc90)))
        | 6, _, hv116 =>
          have hs : p0 = (18 : Int32) := am_te hv116 (by decide)
          refine s_tsw j29 (t := 251) (by show am_sw 29 236 12 19 #[47, 82, 236, 96, 110, 187, 222, 222] p0.toInt = _; rw [hv116]; rfl) ?_
          replace h := h.2.2.2.2.2.1 (Or.inl hs)
          refine s_aload_n j251 rfl rfl ?_
          refine s_iconst j252 rfl kc_ic_2 ?_
          obtain ⟨ho102, h⟩ := h
          refine s_laload j253 rfl ho102 ?_
          refine s_lconst j254 rfl rfl ?_
          refine s_ldc2 j255 rfl kc_ll_1000000000000 ?_
          refine s_stat j258 rfl rfl rfl rfl (by decide) (in_Rm_in _ _ _) (am_r8 rfl) (am_bB h (fun a104 σ103 h hx103 => ?_))
          replace h := h hx103
          refine s_istore_n j261 rfl (n := 4) (L' := [some (am_ov (some this)), some (.int p0), some (am_ov p1), some (.int (if a104 = true then (1 : Int32) else 0))]) rfl (by decide) (am_st1_R [_, _] _ _ _ _) ?_
          refine s_goto j262 rfl rfl ?_
          refine s_iload_n j265 rfl rfl ?_
          have K106 : ∀ (w107 : Int32), w107 = (if a104 = true then (0 : Int32) else (-2 : Int32)) → am_C (TT nl Ln xs) (d + 1) 207 275 [some (am_ov (some this)), some (.int p0), some (am_ov p1), some (.int (if a104 = true then (1 : Int32) else 0))] [.int w107] σ103 (am_qI F) := by
            intro w107 hw108
            replace h := h w107 hw108
            exact s_retI j275 rfl h
          refine s_ifn j266 rfl rfl am_cb_eq (fun hc105 => ?_) (fun hc105 => ?_)
          · refine s_bipush j273 rfl kc_bi_m2 ?_
            exact K106 _ (am_t2 hc105 rfl)
          · refine s_iconst j269 rfl kc_ic_0 ?_
            refine s_goto j270 rfl rfl ?_
            exact K106 _ (am_t1 hc105 rfl)
        | 7, _, hv116 =>
          have hs : p0 = (19 : Int32) := am_te hv116 (by decide)
          refine s_tsw j29 (t := 251) (by show am_sw 29 236 12 19 #[47, 82, 236, 96, 110, 187, 222, 222] p0.toInt = _; rw [hv116]; rfl) ?_
          replace h := h.2.2.2.2.2.1 (Or.inr hs)
          refine s_aload_n j251 rfl rfl ?_
          refine s_iconst j252 rfl kc_ic_2 ?_
          obtain ⟨ho102, h⟩ := h
          refine s_laload j253 rfl ho102 ?_
          refine s_lconst j254 rfl rfl ?_
          refine s_ldc2 j255 rfl kc_ll_1000000000000 ?_
          refine s_stat j258 rfl rfl rfl rfl (by decide) (in_Rm_in _ _ _) (am_r8 rfl) (am_bB h (fun a104 σ103 h hx103 => ?_))
          replace h := h hx103
          refine s_istore_n j261 rfl (n := 4) (L' := [some (am_ov (some this)), some (.int p0), some (am_ov p1), some (.int (if a104 = true then (1 : Int32) else 0))]) rfl (by decide) (am_st1_R [_, _] _ _ _ _) ?_
          refine s_goto j262 rfl rfl ?_
          refine s_iload_n j265 rfl rfl ?_
          have K106 : ∀ (w107 : Int32), w107 = (if a104 = true then (0 : Int32) else (-2 : Int32)) → am_C (TT nl Ln xs) (d + 1) 207 275 [some (am_ov (some this)), some (.int p0), some (am_ov p1), some (.int (if a104 = true then (1 : Int32) else 0))] [.int w107] σ103 (am_qI F) := by
            intro w107 hw108
            replace h := h w107 hw108
            exact s_retI j275 rfl h
          refine s_ifn j266 rfl rfl am_cb_eq (fun hc105 => ?_) (fun hc105 => ?_)
          · refine s_bipush j273 rfl kc_bi_m2 ?_
            exact K106 _ (am_t2 hc105 rfl)
          · refine s_iconst j269 rfl kc_ic_0 ?_
            refine s_goto j270 rfl rfl ?_
            exact K106 _ (am_t1 hc105 rfl)
        | n + 8, hk1152, _ => exact absurd hk1152 (by omega)
    · replace h := h.2 hc9
      refine s_bipush j23 rfl kc_bi_m2 ?_
      exact s_retI j25 rfl h
