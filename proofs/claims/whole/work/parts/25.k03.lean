/-! statements of methods, 3 (by wip/whole/gensteps.py) -/
theorem P_Wk_giveCents (nl : Bool) (Ln : Nat) (xs : Nat → Int32) : am_Jl (TT nl Ln xs) 55 [(0, .lload_n 1, 1, []), (1, .lstore 4, 3, []), (3, .iconst 0, 4, []), (4, .istore 6, 6, [])] := dk_ck (by decide +kernel)
set_option maxRecDepth 4096 in
theorem w_Wk_giveCents {nl : Bool} {Ln : Nat} {xs : Nat → Int32} {d : Nat} {this : Nat} {p0 : Int64} {p1 : Int32} {σ : am_S} {F : Int64 → am_S → Prop} (h : c_Wk_giveCents_6 nl Ln xs (d + 1) this p0 p1 p0 (0 : Int32) σ F) : k_Wk_giveCents nl Ln xs (d + 1) this p0 p1 σ F := by
  obtain ⟨j0, j1, j3, j4, -⟩ := P_Wk_giveCents nl Ln xs
  have elo : am_lo 7 [am_ov (some this), .long p0, .int p1] = [some (am_ov (some this)), some (.long p0), none, some (.int p1), none, none, none] := by simp only [am_lo, am_in_ov, am_in_int, am_in_long, am_in_nil]; rfl
  unfold k_Wk_giveCents
  rw [elo]
  refine s_lload_n j0 rfl rfl ?_
  refine s_lstore j1 rfl (n := 7) (L' := [some (am_ov (some this)), some (.long p0), none, some (.int p1), some (.long p0), none, none]) rfl (by decide) rfl ?_
  refine s_iconst j3 rfl kc_ic_0 ?_
  refine s_istore j4 rfl (n := 7) (L' := [some (am_ov (some this)), some (.long p0), none, some (.int p1), some (.long p0), none, some (.int (0 : Int32))]) rfl (by decide) rfl ?_
  exact h
theorem P_Wk_giveCents_6 (nl : Bool) (Ln : Nat) (xs : Nat → Int32) : am_Jl (TT nl Ln xs) 55 [(6, .iload 6, 8, []), (8, .iload_n 3, 9, []), (9, .if_icmp .ge 66, 12, []), (12, .lload 4, 14, []), (14, .lconst 0, 15, []), (15, .lcmp, 16, []), (16, .ifCond .le 59, 19, []), (19, .aload_n 0, 20, []), (20, .getfield 35, 23, [9, 2, 18, 2]), (23, .aload_n 0, 24, []), (24, .getfield 38, 27, [9, 2, 19, 2]), (27, .iload 6, 29, []), (29, .iaload, 30, []), (30, .laload, 31, []), (31, .aload_n 0, 32, []), (32, .getfield 32, 35, [9, 2, 17, 2]), (35, .aload_n 0, 36, []), (36, .getfield 38, 39, [9, 2, 19, 2]), (39, .iload 6, 41, []), (41, .iaload, 42, []), (42, .laload, 43, []), (43, .lcmp, 44, []), (44, .ifCond .ge 25, 47, []), (47, .aload_n 0, 48, []), (48, .getfield 35, 51, [9, 2, 18, 2]), (51, .aload_n 0, 52, []), (52, .getfield 38, 55, [9, 2, 19, 2]), (55, .iload 6, 57, []), (57, .iaload, 58, []), (58, .dup2, 59, []), (59, .laload, 60, []), (60, .lconst 1, 61, []), (61, .ladd, 62, []), (62, .lastore, 63, []), (63, .lload 4, 65, []), (65, .lconst 1, 66, []), (66, .lsub, 67, []), (67, .lstore 4, 69, []), (69, .iinc 6 1, 72, []), (72, .goto (-66), 75, []), (75, .lload 4, 77, []), (77, .lreturn, 78, [2])] := dk_ck (by decide +kernel)
set_option maxRecDepth 4096 in
theorem w_Wk_giveCents_6 {nl : Bool} {Ln : Nat} {xs : Nat → Int32} {d : Nat} {this : Nat} {x1 : Int64} {x3 : Int32} {x4 : Int64} {x6 : Int32} {σ : am_S} {F : Int64 → am_S → Prop} (h : (x6 < x3 → ((0 : Int64) < x4 → (am_is σ (some this) 2) ∧ (am_ar σ 1000 (am_fR σ 2019 this) x6) ∧ (am_ar σ 1001 (am_fR σ 2018 this) (am_aI σ ((am_fR σ 2019 this).getD 0) x6.toNatClampNeg)) ∧ (am_ar σ 1000 (am_fR σ 2019 this) x6) ∧ (am_ar σ 1001 (am_fR σ 2017 this) (am_aI σ ((am_fR σ 2019 this).getD 0) x6.toNatClampNeg)) ∧ ((am_aL σ ((am_fR σ 2018 this).getD 0) (am_aI σ ((am_fR σ 2019 this).getD 0) x6.toNatClampNeg).toNatClampNeg) < (am_aL σ ((am_fR σ 2017 this).getD 0) (am_aI σ ((am_fR σ 2019 this).getD 0) x6.toNatClampNeg).toNatClampNeg) → (am_ar σ 1000 (am_fR σ 2019 this) x6) ∧ (am_ar σ 1001 (am_fR σ 2018 this) (am_aI σ ((am_fR σ 2019 this).getD 0) x6.toNatClampNeg)) ∧ (am_ar σ 1001 (am_fR σ 2018 this) (am_aI σ ((am_fR σ 2019 this).getD 0) x6.toNatClampNeg)) ∧ ∀ σ12, σ12 = am_saL σ ((am_fR σ 2018 this).getD 0) (am_aI σ ((am_fR σ 2019 this).getD 0) x6.toNatClampNeg).toNatClampNeg ((am_aL σ ((am_fR σ 2018 this).getD 0) (am_aI σ ((am_fR σ 2019 this).getD 0) x6.toNatClampNeg).toNatClampNeg) + (1 : Int64)) → ∀ v15 : Int64, v15 = (x4 - (1 : Int64)) → c_Wk_giveCents_6 nl Ln xs (d + 1) this x1 x3 v15 (x6 + (1 : Int32)) σ12 F) ∧ (¬ ((am_aL σ ((am_fR σ 2018 this).getD 0) (am_aI σ ((am_fR σ 2019 this).getD 0) x6.toNatClampNeg).toNatClampNeg) < (am_aL σ ((am_fR σ 2017 this).getD 0) (am_aI σ ((am_fR σ 2019 this).getD 0) x6.toNatClampNeg).toNatClampNeg)) → c_Wk_giveCents_6 nl Ln xs (d + 1) this x1 x3 x4 (x6 + (1 : Int32)) σ F)) ∧ (¬ ((0 : Int64) < x4) → F x4 σ)) ∧ (¬ (x6 < x3) → F x4 σ)) : c_Wk_giveCents_6 nl Ln xs (d + 1) this x1 x3 x4 x6 σ F := by
  obtain ⟨j6, j8, j9, j12, j14, j15, j16, j19, j20, j23, j24, j27, j29, j30, j31, j32, j35, j36, j39, j41, j42, j43, j44, j47, j48, j51, j52, j55, j57, j58, j59, j60, j61, j62, j63, j65, j66, j67, j69, j72, j75, j77, -⟩ := P_Wk_giveCents_6 nl Ln xs
  unfold c_Wk_giveCents_6
  refine s_iload j6 rfl rfl ?_
  refine s_iload_n j8 rfl rfl ?_
  refine s_icn j9 rfl rfl am_cc_ge (fun hc1 => ?_) (fun hc1 => ?_)
  · replace h := h.2 hc1
    refine s_lload j75 rfl rfl ?_
    exact s_retL j77 rfl h
  · replace h := h.1 hc1
    refine s_lload j12 rfl rfl ?_
    refine s_lconst j14 rfl rfl ?_
    refine s_g j15 rfl rfl rfl rfl rfl rfl ?_
    refine s_ifn j16 rfl rfl am_cl_le (fun hc2 => ?_) (fun hc2 => ?_)
    · replace h := h.2 hc2
      refine s_lload j75 rfl rfl ?_
      exact s_retL j77 rfl h
    · replace h := h.1 hc2
      refine s_aload_n j19 rfl rfl ?_
      obtain ⟨ho3, h⟩ := h
      refine s_gfR j20 rfl ho3 ?_
      refine s_aload_n j23 rfl rfl ?_
      refine s_gfR j24 rfl ho3 ?_
      refine s_iload j27 rfl rfl ?_
      obtain ⟨ho4, h⟩ := h
      refine s_iaload j29 rfl ho4 ?_
      obtain ⟨ho5, h⟩ := h
      refine s_laload j30 rfl ho5 ?_
      refine s_aload_n j31 rfl rfl ?_
      refine s_gfR j32 rfl ho3 ?_
      refine s_aload_n j35 rfl rfl ?_
      refine s_gfR j36 rfl ho3 ?_
      refine s_iload j39 rfl rfl ?_
      obtain ⟨ho6, h⟩ := h
      refine s_iaload j41 rfl ho6 ?_
      obtain ⟨ho7, h⟩ := h
      refine s_laload j42 rfl ho7 ?_
      refine s_g j43 rfl rfl rfl rfl rfl rfl ?_
      refine s_ifn j44 rfl rfl am_cl_ge (fun hc8 => ?_) (fun hc8 => ?_)
      · replace h := h.2 hc8
        refine s_iinc (L' := [some (am_ov (some this)), some (.long x1), none, some (.int x3), some (.long x4), none, some (.int (x6 + (1 : Int32)))]) j69 rfl rfl kc_ic_1 rfl ?_
        refine s_goto j72 rfl rfl ?_
        exact h
      · replace h := h.1 hc8
        refine s_aload_n j47 rfl rfl ?_
        refine s_gfR j48 rfl ho3 ?_
        refine s_aload_n j51 rfl rfl ?_
        refine s_gfR j52 rfl ho3 ?_
        refine s_iload j55 rfl rfl ?_
        obtain ⟨ho9, h⟩ := h
        refine s_iaload j57 rfl ho9 ?_
        refine s_dup2 j58 rfl (am_cov _) ?_
        obtain ⟨ho10, h⟩ := h
        refine s_laload j59 rfl ho10 ?_
        refine s_lconst j60 rfl rfl ?_
        refine s_g j61 rfl rfl rfl rfl rfl rfl ?_
        obtain ⟨ho11, h⟩ := h
        refine s_lastore j62 rfl ho11 (fun σ12 e13 => ?_)
        replace h := h σ12 e13
        have ek14 : am_kd σ12 = am_kd σ := by rw [e13]
        refine s_lload j63 rfl rfl ?_
        refine s_lconst j65 rfl rfl ?_
        refine s_g j66 rfl rfl rfl rfl rfl rfl ?_
        refine s_lstoreV j67 rfl (n := 7) (L' := fun w => [some (am_ov (some this)), some (.long x1), none, some (.int x3), some (.long w), none, some (.int x6)]) rfl (by decide) (fun _ => rfl) (fun v15 hv16 => ?_)
        replace h := h v15 hv16
        refine s_iinc (L' := [some (am_ov (some this)), some (.long x1), none, some (.int x3), some (.long v15), none, some (.int (x6 + (1 : Int32)))]) j69 rfl rfl kc_ic_1 rfl ?_
        refine s_goto j72 rfl rfl ?_
        exact h
theorem P_Wk_shareByRounds (nl : Bool) (Ln : Nat) (xs : Nat → Int32) : am_Jl (TT nl Ln xs) 56 [(0, .lload_n 1, 1, []), (1, .lstore 4, 3, []), (3, .iconst 0, 4, []), (4, .istore 6, 6, [])] := dk_ck (by decide +kernel)
set_option maxRecDepth 4096 in
theorem w_Wk_shareByRounds {nl : Bool} {Ln : Nat} {xs : Nat → Int32} {d : Nat} {this : Nat} {p0 : Int64} {p1 : Int32} {σ : am_S} {F : am_S → Prop} (h : c_Wk_shareByRounds_6 nl Ln xs (d + 1) this p0 p1 p0 (0 : Int32) none none none none none none σ F) : k_Wk_shareByRounds nl Ln xs (d + 1) this p0 p1 σ F := by
  obtain ⟨j0, j1, j3, j4, -⟩ := P_Wk_shareByRounds nl Ln xs
  have elo : am_lo 13 [am_ov (some this), .long p0, .int p1] = [some (am_ov (some this)), some (.long p0), none, some (.int p1), none, none, none, none, none, none, none, none, none] := by simp only [am_lo, am_in_ov, am_in_int, am_in_long, am_in_nil]; rfl
  unfold k_Wk_shareByRounds
  rw [elo]
  refine s_lload_n j0 rfl rfl ?_
  refine s_lstore j1 rfl (n := 13) (L' := [some (am_ov (some this)), some (.long p0), none, some (.int p1), some (.long p0), none, none, none, none, none, none, none, none]) rfl (by decide) rfl ?_
  refine s_iconst j3 rfl kc_ic_0 ?_
  refine s_istore j4 rfl (n := 13) (L' := [some (am_ov (some this)), some (.long p0), none, some (.int p1), some (.long p0), none, some (.int (0 : Int32)), none, none, none, none, none, none]) rfl (by decide) rfl ?_
  exact h
theorem P_Wk_shareByRounds_6 (nl : Bool) (Ln : Nat) (xs : Nat → Int32) : am_Jl (TT nl Ln xs) 56 [(6, .iload 6, 8, []), (8, .bipush 14, 10, []), (10, .if_icmp .ge 173, 13, []), (13, .lload 4, 15, []), (15, .lconst 0, 16, []), (16, .lcmp, 17, []), (17, .ifCond .le 166, 20, []), (20, .iconst 0, 21, []), (21, .istore 7, 23, []), (23, .iconst 0, 24, []), (24, .istore 8, 26, []), (183, .return_, 184, [0])] := dk_ck (by decide +kernel)
set_option maxRecDepth 4096 in
theorem w_Wk_shareByRounds_6 {nl : Bool} {Ln : Nat} {xs : Nat → Int32} {d : Nat} {this : Nat} {x1 : Int64} {x3 : Int32} {x4 : Int64} {x6 : Int32} {x7 : Option Value} {x8 : Option Value} {x9 : Option Value} {x10 : Option Value} {x11 : Option Value} {x12 : Option Value} {σ : am_S} {F : am_S → Prop} (h : (x6 < (14 : Int32) → ((0 : Int64) < x4 → c_Wk_shareByRounds_26 nl Ln xs (d + 1) this x1 x3 x4 x6 (0 : Int32) (0 : Int32) x9 x10 x11 x12 σ F) ∧ (¬ ((0 : Int64) < x4) → F σ)) ∧ (¬ (x6 < (14 : Int32)) → F σ)) : c_Wk_shareByRounds_6 nl Ln xs (d + 1) this x1 x3 x4 x6 x7 x8 x9 x10 x11 x12 σ F := by
  obtain ⟨j6, j8, j10, j13, j15, j16, j17, j20, j21, j23, j24, j183, -⟩ := P_Wk_shareByRounds_6 nl Ln xs
  unfold c_Wk_shareByRounds_6
  refine s_iload j6 rfl rfl ?_
  refine s_bipush j8 rfl kc_bi_14 ?_
  refine s_icn j10 rfl rfl am_cc_ge (fun hc1 => ?_) (fun hc1 => ?_)
  · replace h := h.2 hc1
    exact s_retV j183 rfl h
  · replace h := h.1 hc1
    refine s_lload j13 rfl rfl ?_
    refine s_lconst j15 rfl rfl ?_
    refine s_g j16 rfl rfl rfl rfl rfl rfl ?_
    refine s_ifn j17 rfl rfl am_cl_le (fun hc2 => ?_) (fun hc2 => ?_)
    · replace h := h.2 hc2
      exact s_retV j183 rfl h
    · replace h := h.1 hc2
      refine s_iconst j20 rfl kc_ic_0 ?_
      refine s_istore j21 rfl (n := 13) (L' := [some (am_ov (some this)), some (.long x1), none, some (.int x3), some (.long x4), none, some (.int x6), some (.int (0 : Int32)), x8, x9, x10, x11, x12]) rfl (by decide) rfl ?_
      refine s_iconst j23 rfl kc_ic_0 ?_
      refine s_istore j24 rfl (n := 13) (L' := [some (am_ov (some this)), some (.long x1), none, some (.int x3), some (.long x4), none, some (.int x6), some (.int (0 : Int32)), some (.int (0 : Int32)), x9, x10, x11, x12]) rfl (by decide) rfl ?_
      exact h
theorem P_Wk_shareByRounds_26 (nl : Bool) (Ln : Nat) (xs : Nat → Int32) : am_Jl (TT nl Ln xs) 56 [(26, .iload 8, 28, []), (28, .iload_n 3, 29, []), (29, .if_icmp .ge 47, 32, []), (32, .iload 7, 34, []), (34, .aload_n 0, 35, []), (35, .getfield 35, 38, [9, 2, 18, 2]), (38, .aload_n 0, 39, []), (39, .getfield 38, 42, [9, 2, 19, 2]), (42, .iload 8, 44, []), (44, .iaload, 45, []), (45, .laload, 46, []), (46, .aload_n 0, 47, []), (47, .getfield 32, 50, [9, 2, 17, 2]), (50, .aload_n 0, 51, []), (51, .getfield 38, 54, [9, 2, 19, 2]), (54, .iload 8, 56, []), (56, .iaload, 57, []), (57, .laload, 58, []), (58, .lcmp, 59, []), (59, .ifCond .ge 7, 62, []), (62, .iconst 1, 63, []), (63, .goto 4, 66, []), (66, .iconst 0, 67, []), (67, .iadd, 68, []), (68, .istore 7, 70, []), (70, .iinc 8 1, 73, []), (73, .goto (-47), 76, []), (76, .iload 7, 78, []), (78, .ifCond .ne 4, 81, []), (81, .return_, 82, [0]), (82, .lload 4, 84, []), (84, .iload 7, 86, []), (86, .i2l, 87, []), (87, .ldiv, 88, []), (88, .lstore 8, 90, []), (90, .iconst 0, 91, []), (91, .istore 10, 93, [])] := dk_ck (by decide +kernel)
set_option maxRecDepth 4096 in
theorem w_Wk_shareByRounds_26 {nl : Bool} {Ln : Nat} {xs : Nat → Int32} {d : Nat} {this : Nat} {x1 : Int64} {x3 : Int32} {x4 : Int64} {x6 : Int32} {x7 : Int32} {x8 : Int32} {x9 : Option Value} {x10 : Option Value} {x11 : Option Value} {x12 : Option Value} {σ : am_S} {F : am_S → Prop} (h : (x8 < x3 → (am_is σ (some this) 2) ∧ (am_ar σ 1000 (am_fR σ 2019 this) x8) ∧ (am_ar σ 1001 (am_fR σ 2018 this) (am_aI σ ((am_fR σ 2019 this).getD 0) x8.toNatClampNeg)) ∧ (am_ar σ 1000 (am_fR σ 2019 this) x8) ∧ (am_ar σ 1001 (am_fR σ 2017 this) (am_aI σ ((am_fR σ 2019 this).getD 0) x8.toNatClampNeg)) ∧ ∀ v11 : Int32, v11 = (x7 + (if (am_aL σ ((am_fR σ 2018 this).getD 0) (am_aI σ ((am_fR σ 2019 this).getD 0) x8.toNatClampNeg).toNatClampNeg) < (am_aL σ ((am_fR σ 2017 this).getD 0) (am_aI σ ((am_fR σ 2019 this).getD 0) x8.toNatClampNeg).toNatClampNeg) then (1 : Int32) else 0)) → c_Wk_shareByRounds_26 nl Ln xs (d + 1) this x1 x3 x4 x6 v11 (x8 + (1 : Int32)) x9 x10 x11 x12 σ F) ∧ (¬ (x8 < x3) → (x7 = 0 → F σ) ∧ (¬ (x7 = 0) → (x7.toInt64 ≠ 0) ∧ ∀ v15 : Int64, v15 = (x4 / x7.toInt64) → c_Wk_shareByRounds_93 nl Ln xs (d + 1) this x1 x3 x4 x6 x7 v15 (0 : Int32) x11 x12 σ F))) : c_Wk_shareByRounds_26 nl Ln xs (d + 1) this x1 x3 x4 x6 x7 x8 x9 x10 x11 x12 σ F := by
  obtain ⟨j26, j28, j29, j32, j34, j35, j38, j39, j42, j44, j45, j46, j47, j50, j51, j54, j56, j57, j58, j59, j62, j63, j66, j67, j68, j70, j73, j76, j78, j81, j82, j84, j86, j87, j88, j90, j91, -⟩ := P_Wk_shareByRounds_26 nl Ln xs
  unfold c_Wk_shareByRounds_26
  refine s_iload j26 rfl rfl ?_
  refine s_iload_n j28 rfl rfl ?_
  refine s_icn j29 rfl rfl am_cc_ge (fun hc1 => ?_) (fun hc1 => ?_)
  · replace h := h.2 hc1
    refine s_iload j76 rfl rfl ?_
    refine s_ifn j78 rfl rfl am_cc_ne (fun hc13 => ?_) (fun hc13 => ?_)
    · replace h := h.2 hc13
      refine s_lload j82 rfl rfl ?_
      refine s_iload j84 rfl rfl ?_
      refine s_g j86 rfl rfl rfl rfl rfl rfl ?_
      obtain ⟨ho14, h⟩ := h
      refine s_ldiv j87 rfl ho14 ?_
      refine s_lstoreV j88 rfl (n := 13) (L' := fun w => [some (am_ov (some this)), some (.long x1), none, some (.int x3), some (.long x4), none, some (.int x6), some (.int x7), some (.long w), none, x10, x11, x12]) rfl (by decide) (fun _ => rfl) (fun v15 hv16 => ?_)
      replace h := h v15 hv16
      refine s_iconst j90 rfl kc_ic_0 ?_
      refine s_istore j91 rfl (n := 13) (L' := [some (am_ov (some this)), some (.long x1), none, some (.int x3), some (.long x4), none, some (.int x6), some (.int x7), some (.long v15), none, some (.int (0 : Int32)), x11, x12]) rfl (by decide) rfl ?_
      exact h
    · replace h := h.1 hc13
      exact s_retV j81 rfl h
  · replace h := h.1 hc1
    refine s_iload j32 rfl rfl ?_
    refine s_aload_n j34 rfl rfl ?_
    obtain ⟨ho2, h⟩ := h
    refine s_gfR j35 rfl ho2 ?_
    refine s_aload_n j38 rfl rfl ?_
    refine s_gfR j39 rfl ho2 ?_
    refine s_iload j42 rfl rfl ?_
    obtain ⟨ho3, h⟩ := h
    refine s_iaload j44 rfl ho3 ?_
    obtain ⟨ho4, h⟩ := h
    refine s_laload j45 rfl ho4 ?_
    refine s_aload_n j46 rfl rfl ?_
    refine s_gfR j47 rfl ho2 ?_
    refine s_aload_n j50 rfl rfl ?_
    refine s_gfR j51 rfl ho2 ?_
    refine s_iload j54 rfl rfl ?_
    obtain ⟨ho5, h⟩ := h
    refine s_iaload j56 rfl ho5 ?_
    obtain ⟨ho6, h⟩ := h
    refine s_laload j57 rfl ho6 ?_
    refine s_g j58 rfl rfl rfl rfl rfl rfl ?_
    have K8 : ∀ (w9 : Int32), w9 = (if (am_aL σ ((am_fR σ 2018 this).getD 0) (am_aI σ ((am_fR σ 2019 this).getD 0) x8.toNatClampNeg).toNatClampNeg) < (am_aL σ ((am_fR σ 2017 this).getD 0) (am_aI σ ((am_fR σ 2019 this).getD 0) x8.toNatClampNeg).toNatClampNeg) then (1 : Int32) else 0) → am_C (TT nl Ln xs) (d + 1) 56 67 [some (am_ov (some this)), some (.long x1), none, some (.int x3), some (.long x4), none, some (.int x6), some (.int x7), some (.int x8), x9, x10, x11, x12] [.int w9, .int x7] σ (am_qV F) := by
      intro w9 hw10
      subst hw10
      refine s_g j67 rfl rfl rfl rfl rfl rfl ?_
      refine s_istoreV j68 rfl (n := 13) (L' := fun w => [some (am_ov (some this)), some (.long x1), none, some (.int x3), some (.long x4), none, some (.int x6), some (.int w), some (.int x8), x9, x10, x11, x12]) rfl (by decide) (fun _ => rfl) (fun v11 hv12 => ?_)
      replace h := h v11 hv12
      refine s_iinc (L' := [some (am_ov (some this)), some (.long x1), none, some (.int x3), some (.long x4), none, some (.int x6), some (.int v11), some (.int (x8 + (1 : Int32))), x9, x10, x11, x12]) j70 rfl rfl kc_ic_1 rfl ?_
      refine s_goto j73 rfl rfl ?_
      exact h
    refine s_ifn j59 rfl rfl am_cl_ge (fun hc7 => ?_) (fun hc7 => ?_)
    · refine s_iconst j66 rfl kc_ic_0 ?_
      exact K8 _ (am_e0 (Iff.trans Iff.rfl (am_p10 hc7)))
    · refine s_iconst j62 rfl kc_ic_1 ?_
      refine s_goto j63 rfl rfl ?_
      exact K8 _ (am_e1 (Iff.trans Iff.rfl (am_p9 hc7)))
theorem P_Wk_shareByRounds_93 (nl : Bool) (Ln : Nat) (xs : Nat → Int32) : am_Jl (TT nl Ln xs) 56 [(93, .iload 10, 95, []), (95, .iload_n 3, 96, []), (96, .if_icmp .ge 65, 99, []), (99, .aload_n 0, 100, []), (100, .getfield 32, 103, [9, 2, 17, 2]), (103, .aload_n 0, 104, []), (104, .getfield 38, 107, [9, 2, 19, 2]), (107, .iload 10, 109, []), (109, .iaload, 110, []), (110, .laload, 111, []), (111, .aload_n 0, 112, []), (112, .getfield 35, 115, [9, 2, 18, 2]), (115, .aload_n 0, 116, []), (116, .getfield 38, 119, [9, 2, 19, 2]), (119, .iload 10, 121, []), (121, .iaload, 122, []), (122, .laload, 123, []), (123, .lsub, 124, []), (124, .lload 8, 126, []), (126, .invokestatic 104, 129, [12, 49, 4, 2]), (129, .lstore 11, 131, []), (131, .aload_n 0, 132, []), (132, .getfield 35, 135, [9, 2, 18, 2]), (135, .aload_n 0, 136, []), (136, .getfield 38, 139, [9, 2, 19, 2]), (139, .iload 10, 141, []), (141, .iaload, 142, []), (142, .dup2, 143, []), (143, .laload, 144, []), (144, .lload 11, 146, []), (146, .ladd, 147, []), (147, .lastore, 148, []), (148, .lload 4, 150, []), (150, .lload 11, 152, []), (152, .lsub, 153, []), (153, .lstore 4, 155, []), (155, .iinc 10 1, 158, []), (158, .goto (-65), 161, []), (161, .lload 8, 163, []), (163, .lconst 0, 164, []), (164, .lcmp, 165, []), (165, .ifCond .ne 12, 168, []), (168, .aload_n 0, 169, []), (169, .lload 4, 171, []), (171, .iload_n 3, 172, []), (172, .invokevirtual 369, 175, [10, 55, 3, 7, 3]), (175, .lstore 4, 177, []), (177, .iinc 6 1, 180, []), (180, .goto (-174), 183, [])] := dk_ck (by decide +kernel)
set_option maxRecDepth 4096 in
theorem w_Wk_shareByRounds_93 {nl : Bool} {Ln : Nat} {xs : Nat → Int32} {d : Nat} {this : Nat} {x1 : Int64} {x3 : Int32} {x4 : Int64} {x6 : Int32} {x7 : Int32} {x8 : Int64} {x10 : Int32} {x11 : Option Value} {x12 : Option Value} {σ : am_S} {F : am_S → Prop} (h : (x10 < x3 → (am_is σ (some this) 2) ∧ (am_ar σ 1000 (am_fR σ 2019 this) x10) ∧ (am_ar σ 1001 (am_fR σ 2017 this) (am_aI σ ((am_fR σ 2019 this).getD 0) x10.toNatClampNeg)) ∧ (am_ar σ 1000 (am_fR σ 2019 this) x10) ∧ (am_ar σ 1001 (am_fR σ 2018 this) (am_aI σ ((am_fR σ 2019 this).getD 0) x10.toNatClampNeg)) ∧ k_Math_min nl Ln xs d ((am_aL σ ((am_fR σ 2017 this).getD 0) (am_aI σ ((am_fR σ 2019 this).getD 0) x10.toNatClampNeg).toNatClampNeg) - (am_aL σ ((am_fR σ 2018 this).getD 0) (am_aI σ ((am_fR σ 2019 this).getD 0) x10.toNatClampNeg).toNatClampNeg)) x8 σ (fun a8 σ7 => am_ext σ σ7 → (am_ar σ7 1000 (am_fR σ7 2019 this) x10) ∧ (am_ar σ7 1001 (am_fR σ7 2018 this) (am_aI σ7 ((am_fR σ7 2019 this).getD 0) x10.toNatClampNeg)) ∧ (am_ar σ7 1001 (am_fR σ7 2018 this) (am_aI σ7 ((am_fR σ7 2019 this).getD 0) x10.toNatClampNeg)) ∧ ∀ σ12, σ12 = am_saL σ7 ((am_fR σ7 2018 this).getD 0) (am_aI σ7 ((am_fR σ7 2019 this).getD 0) x10.toNatClampNeg).toNatClampNeg ((am_aL σ7 ((am_fR σ7 2018 this).getD 0) (am_aI σ7 ((am_fR σ7 2019 this).getD 0) x10.toNatClampNeg).toNatClampNeg) + a8) → ∀ v15 : Int64, v15 = (x4 - a8) → c_Wk_shareByRounds_93 nl Ln xs (d + 1) this x1 x3 v15 x6 x7 x8 (x10 + (1 : Int32)) (some (.long a8)) none σ12 F)) ∧ (¬ (x10 < x3) → (x8 = (0 : Int64) → (am_is σ (some this) 2) ∧ k_Wk_giveCents nl Ln xs d this x4 x3 σ (fun a20 σ19 => am_ext σ σ19 → c_Wk_shareByRounds_6 nl Ln xs (d + 1) this x1 x3 a20 (x6 + (1 : Int32)) (some (.int x7)) (some (.long x8)) none (some (.int x10)) x11 x12 σ19 F)) ∧ (¬ (x8 = (0 : Int64)) → c_Wk_shareByRounds_6 nl Ln xs (d + 1) this x1 x3 x4 (x6 + (1 : Int32)) (some (.int x7)) (some (.long x8)) none (some (.int x10)) x11 x12 σ F))) : c_Wk_shareByRounds_93 nl Ln xs (d + 1) this x1 x3 x4 x6 x7 x8 x10 x11 x12 σ F := by
  obtain ⟨j93, j95, j96, j99, j100, j103, j104, j107, j109, j110, j111, j112, j115, j116, j119, j121, j122, j123, j124, j126, j129, j131, j132, j135, j136, j139, j141, j142, j143, j144, j146, j147, j148, j150, j152, j153, j155, j158, j161, j163, j164, j165, j168, j169, j171, j172, j175, j177, j180, -⟩ := P_Wk_shareByRounds_93 nl Ln xs
  unfold c_Wk_shareByRounds_93
  refine s_iload j93 rfl rfl ?_
  refine s_iload_n j95 rfl rfl ?_
  refine s_icn j96 rfl rfl am_cc_ge (fun hc1 => ?_) (fun hc1 => ?_)
  · replace h := h.2 hc1
    refine s_lload j161 rfl rfl ?_
    refine s_lconst j163 rfl rfl ?_
    refine s_g j164 rfl rfl rfl rfl rfl rfl ?_
    refine s_ifn j165 rfl rfl am_cl_ne (fun hc17 => ?_) (fun hc17 => ?_)
    · replace h := h.2 hc17
      refine s_iinc (L' := [some (am_ov (some this)), some (.long x1), none, some (.int x3), some (.long x4), none, some (.int (x6 + (1 : Int32))), some (.int x7), some (.long x8), none, some (.int x10), x11, x12]) j177 rfl rfl kc_ic_1 rfl ?_
      refine s_goto j180 rfl rfl ?_
      exact h
    · replace h := h.1 hc17
      refine s_aload_n j168 rfl rfl ?_
      refine s_lload j169 rfl rfl ?_
      refine s_iload_n j171 rfl rfl ?_
      obtain ⟨ho18, h⟩ := h
      refine s_virt j172 rfl rfl rfl rfl ho18 (by decide) (in_Wk_giveCents _ _ _) (am_r8 rfl) (am_bL h (fun a20 σ19 h hx19 => ?_))
      replace h := h hx19
      refine s_lstore j175 rfl (n := 13) (L' := [some (am_ov (some this)), some (.long x1), none, some (.int x3), some (.long a20), none, some (.int x6), some (.int x7), some (.long x8), none, some (.int x10), x11, x12]) rfl (by decide) rfl ?_
      refine s_iinc (L' := [some (am_ov (some this)), some (.long x1), none, some (.int x3), some (.long a20), none, some (.int (x6 + (1 : Int32))), some (.int x7), some (.long x8), none, some (.int x10), x11, x12]) j177 rfl rfl kc_ic_1 rfl ?_
      refine s_goto j180 rfl rfl ?_
      exact h
  · replace h := h.1 hc1
    refine s_aload_n j99 rfl rfl ?_
    obtain ⟨ho2, h⟩ := h
    refine s_gfR j100 rfl ho2 ?_
    refine s_aload_n j103 rfl rfl ?_
    refine s_gfR j104 rfl ho2 ?_
    refine s_iload j107 rfl rfl ?_
    obtain ⟨ho3, h⟩ := h
    refine s_iaload j109 rfl ho3 ?_
    obtain ⟨ho4, h⟩ := h
    refine s_laload j110 rfl ho4 ?_
    refine s_aload_n j111 rfl rfl ?_
    refine s_gfR j112 rfl ho2 ?_
    refine s_aload_n j115 rfl rfl ?_
    refine s_gfR j116 rfl ho2 ?_
    refine s_iload j119 rfl rfl ?_
    obtain ⟨ho5, h⟩ := h
    refine s_iaload j121 rfl ho5 ?_
    obtain ⟨ho6, h⟩ := h
    refine s_laload j122 rfl ho6 ?_
    refine s_g j123 rfl rfl rfl rfl rfl rfl ?_
    refine s_lload j124 rfl rfl ?_
    refine s_stat j126 rfl rfl rfl rfl (by decide) (in_Math_min _ _) (am_r8 rfl) (am_bL h (fun a8 σ7 h hx7 => ?_))
    replace h := h hx7
    refine s_lstore j129 rfl (n := 13) (L' := [some (am_ov (some this)), some (.long x1), none, some (.int x3), some (.long x4), none, some (.int x6), some (.int x7), some (.long x8), none, some (.int x10), some (.long a8), none]) rfl (by decide) rfl ?_
    refine s_aload_n j131 rfl rfl ?_
    refine s_gfR j132 rfl (am_is_ext hx7 ho2) ?_
    refine s_aload_n j135 rfl rfl ?_
    refine s_gfR j136 rfl (am_is_ext hx7 ho2) ?_
    refine s_iload j139 rfl rfl ?_
    obtain ⟨ho9, h⟩ := h
    refine s_iaload j141 rfl ho9 ?_
    refine s_dup2 j142 rfl (am_cov _) ?_
    obtain ⟨ho10, h⟩ := h
    refine s_laload j143 rfl ho10 ?_
    refine s_lload j144 rfl rfl ?_
    refine s_g j146 rfl rfl rfl rfl rfl rfl ?_
    obtain ⟨ho11, h⟩ := h
    refine s_lastore j147 rfl ho11 (fun σ12 e13 => ?_)
    replace h := h σ12 e13
    have ek14 : am_kd σ12 = am_kd σ7 := by rw [e13]
    refine s_lload j148 rfl rfl ?_
    refine s_lload j150 rfl rfl ?_
    refine s_g j152 rfl rfl rfl rfl rfl rfl ?_
    refine s_lstoreV j153 rfl (n := 13) (L' := fun w => [some (am_ov (some this)), some (.long x1), none, some (.int x3), some (.long w), none, some (.int x6), some (.int x7), some (.long x8), none, some (.int x10), some (.long a8), none]) rfl (by decide) (fun _ => rfl) (fun v15 hv16 => ?_)
    replace h := h v15 hv16
    refine s_iinc (L' := [some (am_ov (some this)), some (.long x1), none, some (.int x3), some (.long v15), none, some (.int x6), some (.int x7), some (.long x8), none, some (.int (x10 + (1 : Int32))), some (.long a8), none]) j155 rfl rfl kc_ic_1 rfl ?_
    refine s_goto j158 rfl rfl ?_
    exact h
theorem P_Wk_shareByRanks (nl : Bool) (Ln : Nat) (xs : Nat → Int32) : am_Jl (TT nl Ln xs) 57 [(0, .lload_n 1, 1, []), (1, .lstore 4, 3, []), (3, .iconst 0, 4, []), (4, .istore 6, 6, [])] := dk_ck (by decide +kernel)
set_option maxRecDepth 4096 in
theorem w_Wk_shareByRanks {nl : Bool} {Ln : Nat} {xs : Nat → Int32} {d : Nat} {this : Nat} {p0 : Int64} {p1 : Int32} {σ : am_S} {F : am_S → Prop} (h : c_Wk_shareByRanks_6 nl Ln xs (d + 1) this p0 p1 p0 (0 : Int32) σ F) : k_Wk_shareByRanks nl Ln xs (d + 1) this p0 p1 σ F := by
  obtain ⟨j0, j1, j3, j4, -⟩ := P_Wk_shareByRanks nl Ln xs
  have elo : am_lo 7 [am_ov (some this), .long p0, .int p1] = [some (am_ov (some this)), some (.long p0), none, some (.int p1), none, none, none] := by simp only [am_lo, am_in_ov, am_in_int, am_in_long, am_in_nil]; rfl
  unfold k_Wk_shareByRanks
  rw [elo]
  refine s_lload_n j0 rfl rfl ?_
  refine s_lstore j1 rfl (n := 7) (L' := [some (am_ov (some this)), some (.long p0), none, some (.int p1), some (.long p0), none, none]) rfl (by decide) rfl ?_
  refine s_iconst j3 rfl kc_ic_0 ?_
  refine s_istore j4 rfl (n := 7) (L' := [some (am_ov (some this)), some (.long p0), none, some (.int p1), some (.long p0), none, some (.int (0 : Int32))]) rfl (by decide) rfl ?_
  exact h
theorem P_Wk_shareByRanks_6 (nl : Bool) (Ln : Nat) (xs : Nat → Int32) : am_Jl (TT nl Ln xs) 57 [(6, .iload 6, 8, []), (8, .iload_n 3, 9, []), (9, .if_icmp .ge 55, 12, []), (12, .aload_n 0, 13, []), (13, .getfield 35, 16, [9, 2, 18, 2]), (16, .aload_n 0, 17, []), (17, .getfield 38, 20, [9, 2, 19, 2]), (20, .iload 6, 22, []), (22, .iaload, 23, []), (23, .aload_n 0, 24, []), (24, .getfield 32, 27, [9, 2, 17, 2]), (27, .aload_n 0, 28, []), (28, .getfield 38, 31, [9, 2, 19, 2]), (31, .iload 6, 33, []), (33, .iaload, 34, []), (34, .laload, 35, []), (35, .lload 4, 37, []), (37, .invokestatic 104, 40, [12, 49, 4, 2]), (40, .lastore, 41, []), (41, .lload 4, 43, []), (43, .aload_n 0, 44, []), (44, .getfield 35, 47, [9, 2, 18, 2]), (47, .aload_n 0, 48, []), (48, .getfield 38, 51, [9, 2, 19, 2]), (51, .iload 6, 53, []), (53, .iaload, 54, []), (54, .laload, 55, []), (55, .lsub, 56, []), (56, .lstore 4, 58, []), (58, .iinc 6 1, 61, []), (61, .goto (-55), 64, []), (64, .return_, 65, [0])] := dk_ck (by decide +kernel)
set_option maxRecDepth 4096 in
theorem w_Wk_shareByRanks_6 {nl : Bool} {Ln : Nat} {xs : Nat → Int32} {d : Nat} {this : Nat} {x1 : Int64} {x3 : Int32} {x4 : Int64} {x6 : Int32} {σ : am_S} {F : am_S → Prop} (h : (x6 < x3 → (am_is σ (some this) 2) ∧ (am_ar σ 1000 (am_fR σ 2019 this) x6) ∧ (am_ar σ 1000 (am_fR σ 2019 this) x6) ∧ (am_ar σ 1001 (am_fR σ 2017 this) (am_aI σ ((am_fR σ 2019 this).getD 0) x6.toNatClampNeg)) ∧ k_Math_min nl Ln xs d (am_aL σ ((am_fR σ 2017 this).getD 0) (am_aI σ ((am_fR σ 2019 this).getD 0) x6.toNatClampNeg).toNatClampNeg) x4 σ (fun a7 σ6 => am_ext σ σ6 → (am_ar σ6 1001 (am_fR σ 2018 this) (am_aI σ ((am_fR σ 2019 this).getD 0) x6.toNatClampNeg)) ∧ ∀ σ9, σ9 = am_saL σ6 ((am_fR σ 2018 this).getD 0) (am_aI σ ((am_fR σ 2019 this).getD 0) x6.toNatClampNeg).toNatClampNeg a7 → (am_ar σ9 1000 (am_fR σ9 2019 this) x6) ∧ (am_ar σ9 1001 (am_fR σ9 2018 this) (am_aI σ9 ((am_fR σ9 2019 this).getD 0) x6.toNatClampNeg)) ∧ ∀ v14 : Int64, v14 = (x4 - (am_aL σ9 ((am_fR σ9 2018 this).getD 0) (am_aI σ9 ((am_fR σ9 2019 this).getD 0) x6.toNatClampNeg).toNatClampNeg)) → c_Wk_shareByRanks_6 nl Ln xs (d + 1) this x1 x3 v14 (x6 + (1 : Int32)) σ9 F)) ∧ (¬ (x6 < x3) → F σ)) : c_Wk_shareByRanks_6 nl Ln xs (d + 1) this x1 x3 x4 x6 σ F := by
  obtain ⟨j6, j8, j9, j12, j13, j16, j17, j20, j22, j23, j24, j27, j28, j31, j33, j34, j35, j37, j40, j41, j43, j44, j47, j48, j51, j53, j54, j55, j56, j58, j61, j64, -⟩ := P_Wk_shareByRanks_6 nl Ln xs
  unfold c_Wk_shareByRanks_6
  refine s_iload j6 rfl rfl ?_
  refine s_iload_n j8 rfl rfl ?_
  refine s_icn j9 rfl rfl am_cc_ge (fun hc1 => ?_) (fun hc1 => ?_)
  · replace h := h.2 hc1
    exact s_retV j64 rfl h
  · replace h := h.1 hc1
    refine s_aload_n j12 rfl rfl ?_
    obtain ⟨ho2, h⟩ := h
    refine s_gfR j13 rfl ho2 ?_
    refine s_aload_n j16 rfl rfl ?_
    refine s_gfR j17 rfl ho2 ?_
    refine s_iload j20 rfl rfl ?_
    obtain ⟨ho3, h⟩ := h
    refine s_iaload j22 rfl ho3 ?_
    refine s_aload_n j23 rfl rfl ?_
    refine s_gfR j24 rfl ho2 ?_
    refine s_aload_n j27 rfl rfl ?_
    refine s_gfR j28 rfl ho2 ?_
    refine s_iload j31 rfl rfl ?_
    obtain ⟨ho4, h⟩ := h
    refine s_iaload j33 rfl ho4 ?_
    obtain ⟨ho5, h⟩ := h
    refine s_laload j34 rfl ho5 ?_
    refine s_lload j35 rfl rfl ?_
    refine s_stat j37 rfl rfl rfl rfl (by decide) (in_Math_min _ _) (am_r8 rfl) (am_bL h (fun a7 σ6 h hx6 => ?_))
    replace h := h hx6
    obtain ⟨ho8, h⟩ := h
    refine s_lastore j40 rfl ho8 (fun σ9 e10 => ?_)
    replace h := h σ9 e10
    have ek11 : am_kd σ9 = am_kd σ6 := by rw [e10]
    refine s_lload j41 rfl rfl ?_
    refine s_aload_n j43 rfl rfl ?_
    refine s_gfR j44 rfl (am_is_kd ek11 (am_is_ext hx6 ho2)) ?_
    refine s_aload_n j47 rfl rfl ?_
    refine s_gfR j48 rfl (am_is_kd ek11 (am_is_ext hx6 ho2)) ?_
    refine s_iload j51 rfl rfl ?_
    obtain ⟨ho12, h⟩ := h
    refine s_iaload j53 rfl ho12 ?_
    obtain ⟨ho13, h⟩ := h
    refine s_laload j54 rfl ho13 ?_
    refine s_g j55 rfl rfl rfl rfl rfl rfl ?_
    refine s_lstoreV j56 rfl (n := 7) (L' := fun w => [some (am_ov (some this)), some (.long x1), none, some (.int x3), some (.long w), none, some (.int x6)]) rfl (by decide) (fun _ => rfl) (fun v14 hv15 => ?_)
    replace h := h v14 hv15
    refine s_iinc (L' := [some (am_ov (some this)), some (.long x1), none, some (.int x3), some (.long v14), none, some (.int (x6 + (1 : Int32)))]) j58 rfl rfl kc_ic_1 rfl ?_
    refine s_goto j61 rfl rfl ?_
    exact h
theorem P_Wk_putInOrder (nl : Bool) (Ln : Nat) (xs : Nat → Int32) : am_Jl (TT nl Ln xs) 58 [(0, .aload_n 0, 1, []), (1, .getfield 181, 4, [9, 2, 7, 2]), (4, .bipush 9, 6, []), (6, .invokestatic 185, 9, [12, 35, 4, 2]), (9, .astore_n 1, 10, []), (10, .aload_n 1, 11, []), (11, .ifnull 15, 14, []), (14, .aload_n 1, 15, []), (15, .getfield 189, 18, [9, 8, 1, 0]), (18, .iconst 3, 19, []), (19, .if_icmp .ne 7, 22, []), (22, .iconst 1, 23, []), (23, .goto 4, 26, []), (26, .iconst 0, 27, []), (27, .istore_n 2, 28, []), (28, .aload_n 0, 29, []), (29, .getfield 124, 32, [9, 2, 5, 2]), (32, .getfield 200, 35, [9, 10, 2, 0]), (35, .sipush 365, 38, []), (38, .idiv, 39, []), (39, .istore_n 3, 40, []), (40, .iconst 0, 41, []), (41, .istore 4, 43, []), (43, .iconst 0, 44, []), (44, .istore 5, 46, [])] := dk_ck (by decide +kernel)
set_option maxRecDepth 4096 in
theorem w_Wk_putInOrder {nl : Bool} {Ln : Nat} {xs : Nat → Int32} {d : Nat} {this : Nat} {σ : am_S} {F : Int32 → am_S → Prop} (h : (am_is σ (some this) 2) ∧ k_Nd_lastOf nl Ln xs d (am_fR σ 2007 this) (9 : Int32) σ (fun a3 σ2 => am_ext σ σ2 → (¬ (a3 = none) → am_is σ2 a3 8) ∧ (am_is σ2 (am_fR σ2 2005 this) 10) ∧ ∀ v11 : Int32, v11 = ((am_fI σ2 10002 ((am_fR σ2 2005 this).getD 0)) / (365 : Int32)) → c_Wk_putInOrder_46 nl Ln xs (d + 1) this a3 (if ¬ (a3 = none) ∧ ((am_fI σ2 8001 (a3.getD 0)) = (3 : Int32)) then (1 : Int32) else 0) v11 (0 : Int32) (0 : Int32) none none none σ2 F)) : k_Wk_putInOrder nl Ln xs (d + 1) this σ F := by
  obtain ⟨j0, j1, j4, j6, j9, j10, j11, j14, j15, j18, j19, j22, j23, j26, j27, j28, j29, j32, j35, j38, j39, j40, j41, j43, j44, -⟩ := P_Wk_putInOrder nl Ln xs
  have elo : am_lo 9 [am_ov (some this)] = [some (am_ov (some this)), none, none, none, none, none, none, none, none] := by simp only [am_lo, am_in_ov, am_in_int, am_in_long, am_in_nil]; rfl
  unfold k_Wk_putInOrder
  rw [elo]
  refine s_aload_n j0 rfl rfl ?_
  obtain ⟨ho1, h⟩ := h
  refine s_gfR j1 rfl ho1 ?_
  refine s_bipush j4 rfl kc_bi_9 ?_
  refine s_stat j6 rfl rfl rfl rfl (by decide) (in_Nd_lastOf _ _) (am_r8 rfl) (am_bR h (fun a3 σ2 h hx2 => ?_))
  replace h := h hx2
  refine s_astore_n j9 rfl (n := 9) (L' := [some (am_ov (some this)), some (am_ov a3), none, none, none, none, none, none, none]) rfl (by decide) (am_st1_R [] _ _ _ _) ?_
  refine s_aload_n j10 rfl rfl ?_
  obtain ⟨ho5, h⟩ := h
  have K7 : ∀ (w8 : Int32), w8 = (if ¬ (a3 = none) ∧ ((am_fI σ2 8001 (a3.getD 0)) = (3 : Int32)) then (1 : Int32) else 0) → am_C (TT nl Ln xs) (d + 1) 58 27 [some (am_ov (some this)), some (am_ov a3), none, none, none, none, none, none, none] [.int w8] σ2 (am_qI F) := by
    intro w8 hw9
    subst hw9
    refine s_istore_n j27 rfl (n := 9) (L' := [some (am_ov (some this)), some (am_ov a3), some (.int (if ¬ (a3 = none) ∧ ((am_fI σ2 8001 (a3.getD 0)) = (3 : Int32)) then (1 : Int32) else 0)), none, none, none, none, none, none]) rfl (by decide) (am_st1_R [_] _ _ _ _) ?_
    refine s_aload_n j28 rfl rfl ?_
    refine s_gfR j29 rfl (am_is_ext hx2 ho1) ?_
    obtain ⟨ho10, h⟩ := h
    refine s_gfI j32 rfl ho10 ?_
    refine s_sipush j35 rfl kc_si_365 ?_
    refine s_idiv j38 rfl (by decide) ?_
    refine s_istore_nV j39 rfl (n := 9) (L' := fun w => [some (am_ov (some this)), some (am_ov a3), some (.int (if ¬ (a3 = none) ∧ ((am_fI σ2 8001 (a3.getD 0)) = (3 : Int32)) then (1 : Int32) else 0)), some (.int w), none, none, none, none, none]) rfl (by decide) (fun _ => rfl) (fun v11 hv12 => ?_)
    replace h := h v11 hv12
    refine s_iconst j40 rfl kc_ic_0 ?_
    refine s_istore j41 rfl (n := 9) (L' := [some (am_ov (some this)), some (am_ov a3), some (.int (if ¬ (a3 = none) ∧ ((am_fI σ2 8001 (a3.getD 0)) = (3 : Int32)) then (1 : Int32) else 0)), some (.int v11), some (.int (0 : Int32)), none, none, none, none]) rfl (by decide) rfl ?_
    refine s_iconst j43 rfl kc_ic_0 ?_
    refine s_istore j44 rfl (n := 9) (L' := [some (am_ov (some this)), some (am_ov a3), some (.int (if ¬ (a3 = none) ∧ ((am_fI σ2 8001 (a3.getD 0)) = (3 : Int32)) then (1 : Int32) else 0)), some (.int v11), some (.int (0 : Int32)), some (.int (0 : Int32)), none, none, none]) rfl (by decide) rfl ?_
    exact h
  refine s_ifnull j11 rfl rfl (fun hc4 => ?_) (fun hc4 => ?_)
  · refine s_iconst j26 rfl kc_ic_0 ?_
    exact K7 _ (am_e0 (Iff.trans Iff.rfl (am_p6 hc4)))
  · refine s_aload_n j14 rfl rfl ?_
    refine s_gfI j15 rfl (ho5 hc4) ?_
    refine s_iconst j18 rfl kc_ic_3 ?_
    refine s_icn j19 rfl rfl am_cc_ne (fun hc6 => ?_) (fun hc6 => ?_)
    · refine s_iconst j26 rfl kc_ic_0 ?_
      exact K7 _ (am_e0 (am_p5 hc4 (Iff.trans Iff.rfl (am_p10 hc6))))
    · refine s_iconst j22 rfl kc_ic_1 ?_
      refine s_goto j23 rfl rfl ?_
      exact K7 _ (am_e1 (am_p5 hc4 (Iff.trans Iff.rfl (am_p9 hc6))))
theorem P_Wk_putInOrder_46 (nl : Bool) (Ln : Nat) (xs : Nat → Int32) : am_Jl (TT nl Ln xs) 58 [(46, .iload 5, 48, []), (48, .aload_n 0, 49, []), (49, .getfield 73, 52, [9, 2, 3, 2]), (52, .getfield 339, 55, [9, 6, 14, 0]), (55, .if_icmp .ge 180, 58, []), (58, .iload 4, 60, []), (60, .bipush 100, 62, []), (62, .if_icmp .ge 173, 65, []), (65, .aload_n 0, 66, []), (66, .getfield 73, 69, [9, 2, 3, 2]), (69, .getfield 77, 72, [9, 6, 6, 2]), (72, .iload 5, 74, []), (74, .aaload, 75, []), (75, .astore 6, 77, []), (77, .aload 6, 79, []), (79, .getfield 313, 82, [9, 11, 3, 0]), (82, .aload_n 0, 83, []), (83, .getfield 91, 86, [9, 2, 8, 0]), (86, .if_icmp .gt 143, 89, []), (89, .aload_n 0, 90, []), (90, .getfield 73, 93, [9, 2, 3, 2]), (93, .aload 6, 95, []), (95, .aload_n 0, 96, []), (96, .getfield 163, 99, [9, 2, 6, 2]), (99, .iload_n 3, 100, []), (100, .aload_n 0, 101, []), (101, .getfield 95, 104, [9, 2, 9, 0]), (104, .invokevirtual 342, 107, [10, 59, 7, 5, 5]), (107, .ifCond .ne 6, 110, []), (110, .goto 119, 113, []), (113, .iload_n 2, 114, []), (114, .ifCond .eq 30, 117, []), (117, .aload 6, 119, []), (119, .aload_n 0, 120, []), (120, .getfield 95, 123, [9, 2, 9, 0]), (123, .aload_n 0, 124, []), (124, .getfield 91, 127, [9, 2, 8, 0]), (127, .invokevirtual 346, 130, [10, 18, 12, 5, 3]), (130, .ifCond .eq 14, 133, []), (133, .aload 6, 135, []), (135, .getfield 120, 138, [9, 11, 2, 2]), (138, .getfield 200, 141, [9, 10, 2, 0]), (141, .goto 4, 144, []), (144, .iconst (-1), 145, []), (145, .istore 7, 147, []), (147, .iload 4, 149, []), (149, .istore 8, 151, []), (229, .iinc 5 1, 232, []), (232, .goto (-186), 235, []), (235, .iload 4, 237, []), (237, .ireturn, 238, [1])] := dk_ck (by decide +kernel)
set_option maxRecDepth 4096 in
theorem w_Wk_putInOrder_46 {nl : Bool} {Ln : Nat} {xs : Nat → Int32} {d : Nat} {this : Nat} {x1 : Option Nat} {x2 : Int32} {x3 : Int32} {x4 : Int32} {x5 : Int32} {x6 : Option Value} {x7 : Option Value} {x8 : Option Value} {σ : am_S} {F : Int32 → am_S → Prop} (h : (am_is σ (some this) 2) ∧ (am_is σ (am_fR σ 2003 this) 6) ∧ (x5 < (am_fI σ 6014 ((am_fR σ 2003 this).getD 0)) → (x4 < (100 : Int32) → (am_ar σ 2011 (am_fR σ 6006 ((am_fR σ 2003 this).getD 0)) x5) ∧ ∀ v6 : Option Nat, v6 = (am_aR σ ((am_fR σ 6006 ((am_fR σ 2003 this).getD 0)).getD 0) x5.toNatClampNeg) → (am_is σ v6 11) ∧ ((am_fI σ 2008 this) < (am_fI σ 11003 (v6.getD 0)) → c_Wk_putInOrder_46 nl Ln xs (d + 1) this x1 x2 x3 x4 (x5 + (1 : Int32)) (some (am_ov v6)) x7 x8 σ F) ∧ (¬ ((am_fI σ 2008 this) < (am_fI σ 11003 (v6.getD 0))) → k_Bk_isOfCover nl Ln xs d ((am_fR σ 2003 this).getD 0) v6 (am_fR σ 2006 this) x3 (am_fI σ 2009 this) σ (fun a11 σ10 => am_ext σ σ10 → (a11 = true → (x2 = 0 → c_Wk_putInOrder_151 nl Ln xs (d + 1) this x1 x2 x3 x4 x5 v6 (-1 : Int32) x4 σ10 F) ∧ (¬ (x2 = 0) → k_Cs_isOpen nl Ln xs d (v6.getD 0) (am_fI σ10 2009 this) (am_fI σ10 2008 this) σ10 (fun a15 σ14 => am_ext σ10 σ14 → ((a15 = true) → am_is σ14 (am_fR σ14 11002 (v6.getD 0)) 10) ∧ ∀ w19 : Int32, w19 = (if a15 = true then (am_fI σ14 10002 ((am_fR σ14 11002 (v6.getD 0)).getD 0)) else (-1 : Int32)) → c_Wk_putInOrder_151 nl Ln xs (d + 1) this x1 x2 x3 x4 x5 v6 w19 x4 σ14 F))) ∧ (¬ (a11 = true) → c_Wk_putInOrder_46 nl Ln xs (d + 1) this x1 x2 x3 x4 (x5 + (1 : Int32)) (some (am_ov v6)) x7 x8 σ10 F)))) ∧ (¬ (x4 < (100 : Int32)) → F x4 σ)) ∧ (¬ (x5 < (am_fI σ 6014 ((am_fR σ 2003 this).getD 0))) → F x4 σ)) : c_Wk_putInOrder_46 nl Ln xs (d + 1) this x1 x2 x3 x4 x5 x6 x7 x8 σ F := by
  obtain ⟨j46, j48, j49, j52, j55, j58, j60, j62, j65, j66, j69, j72, j74, j75, j77, j79, j82, j83, j86, j89, j90, j93, j95, j96, j99, j100, j101, j104, j107, j110, j113, j114, j117, j119, j120, j123, j124, j127, j130, j133, j135, j138, j141, j144, j145, j147, j149, j229, j232, j235, j237, -⟩ := P_Wk_putInOrder_46 nl Ln xs
  unfold c_Wk_putInOrder_46
  refine s_iload j46 rfl rfl ?_
  refine s_aload_n j48 rfl rfl ?_
  obtain ⟨ho1, h⟩ := h
  refine s_gfR j49 rfl ho1 ?_
  obtain ⟨ho2, h⟩ := h
  refine s_gfI j52 rfl ho2 ?_
  refine s_icn j55 rfl rfl am_cc_ge (fun hc3 => ?_) (fun hc3 => ?_)
  · replace h := h.2 hc3
    refine s_iload j235 rfl rfl ?_
    exact s_retI j237 rfl h
  · replace h := h.1 hc3
    refine s_iload j58 rfl rfl ?_
    refine s_bipush j60 rfl kc_bi_100 ?_
    refine s_icn j62 rfl rfl am_cc_ge (fun hc4 => ?_) (fun hc4 => ?_)
    · replace h := h.2 hc4
      refine s_iload j235 rfl rfl ?_
      exact s_retI j237 rfl h
    · replace h := h.1 hc4
      refine s_aload_n j65 rfl rfl ?_
      refine s_gfR j66 rfl ho1 ?_
      refine s_gfR j69 rfl ho2 ?_
      refine s_iload j72 rfl rfl ?_
      obtain ⟨ho5, h⟩ := h
      refine s_aaload (k := 2011) (by decide) kq_2011 j74 rfl ho5 ?_
      refine s_astoreV j75 rfl (n := 9) (L' := fun w => [some (am_ov (some this)), some (am_ov x1), some (.int x2), some (.int x3), some (.int x4), some (.int x5), some (am_ov w), x7, x8]) rfl (by decide) (fun _ => rfl) (fun v6 hv7 => ?_)
      replace h := h v6 hv7
      refine s_aload j77 rfl rfl ?_
      obtain ⟨ho8, h⟩ := h
      refine s_gfI j79 rfl ho8 ?_
      refine s_aload_n j82 rfl rfl ?_
      refine s_gfI j83 rfl ho1 ?_
      refine s_ic j86 rfl rfl am_cc_gt (fun hc9 => ?_) (fun hc9 => ?_)
      · replace h := h.1 hc9
        refine s_iinc (L' := [some (am_ov (some this)), some (am_ov x1), some (.int x2), some (.int x3), some (.int x4), some (.int (x5 + (1 : Int32))), some (am_ov v6), x7, x8]) j229 rfl rfl kc_ic_1 rfl ?_
        refine s_goto j232 rfl rfl ?_
        exact h
      · replace h := h.2 hc9
        refine s_aload_n j89 rfl rfl ?_
        refine s_gfR j90 rfl ho1 ?_
        refine s_aload j93 rfl rfl ?_
        refine s_aload_n j95 rfl rfl ?_
        refine s_gfR j96 rfl ho1 ?_
        refine s_iload_n j99 rfl rfl ?_
        refine s_aload_n j100 rfl rfl ?_
        refine s_gfI j101 rfl ho1 ?_
        refine s_virt j104 rfl rfl rfl rfl ho2 (by decide) (in_Bk_isOfCover _ _ _ _ _) (am_r8 rfl) (am_bB h (fun a11 σ10 h hx10 => ?_))
        replace h := h hx10
        refine s_if j107 rfl rfl am_cb_ne (fun hc12 => ?_) (fun hc12 => ?_)
        · replace h := h.1 hc12
          refine s_iload_n j113 rfl rfl ?_
          refine s_if j114 rfl rfl am_cc_eq (fun hc13 => ?_) (fun hc13 => ?_)
          · replace h := h.1 hc13
            refine s_iconst j144 rfl kc_ic_m1 ?_
            refine s_istore j145 rfl (n := 9) (L' := [some (am_ov (some this)), some (am_ov x1), some (.int x2), some (.int x3), some (.int x4), some (.int x5), some (am_ov v6), some (.int (-1 : Int32)), x8]) rfl (by decide) (am_st1_R [_, _, _, _, _, _] _ _ _ _) ?_
            refine s_iload j147 rfl rfl ?_
            refine s_istore j149 rfl (n := 9) (L' := [some (am_ov (some this)), some (am_ov x1), some (.int x2), some (.int x3), some (.int x4), some (.int x5), some (am_ov v6), some (.int (-1 : Int32)), some (.int x4)]) rfl (by decide) rfl ?_
            exact h
          · replace h := h.2 hc13
            refine s_aload j117 rfl rfl ?_
            refine s_aload_n j119 rfl rfl ?_
            refine s_gfI j120 rfl (am_is_ext hx10 ho1) ?_
            refine s_aload_n j123 rfl rfl ?_
            refine s_gfI j124 rfl (am_is_ext hx10 ho1) ?_
            refine s_virt j127 rfl rfl rfl rfl (am_is_ext hx10 ho8) (by decide) (in_Cs_isOpen _ _ _) (am_r8 rfl) (am_bB h (fun a15 σ14 h hx14 => ?_))
            replace h := h hx14
            obtain ⟨ho17, h⟩ := h
            have K18 : ∀ (w19 : Int32), w19 = (if a15 = true then (am_fI σ14 10002 ((am_fR σ14 11002 (v6.getD 0)).getD 0)) else (-1 : Int32)) → am_C (TT nl Ln xs) (d + 1) 58 145 [some (am_ov (some this)), some (am_ov x1), some (.int x2), some (.int x3), some (.int x4), some (.int x5), some (am_ov v6), x7, x8] [.int w19] σ14 (am_qI F) := by
              intro w19 hw20
              replace h := h w19 hw20
              refine s_istore j145 rfl (n := 9) (L' := [some (am_ov (some this)), some (am_ov x1), some (.int x2), some (.int x3), some (.int x4), some (.int x5), some (am_ov v6), some (.int w19), x8]) rfl (by decide) (am_st1_R [_, _, _, _, _, _] _ _ _ _) ?_
              refine s_iload j147 rfl rfl ?_
              refine s_istore j149 rfl (n := 9) (L' := [some (am_ov (some this)), some (am_ov x1), some (.int x2), some (.int x3), some (.int x4), some (.int x5), some (am_ov v6), some (.int w19), some (.int x4)]) rfl (by decide) rfl ?_
              exact h
            refine s_ifn j130 rfl rfl am_cb_eq (fun hc16 => ?_) (fun hc16 => ?_)
            · refine s_iconst j144 rfl kc_ic_m1 ?_
              exact K18 _ (am_t2 hc16 rfl)
            · refine s_aload j133 rfl rfl ?_
              refine s_gfR j135 rfl (am_is_ext hx14 (am_is_ext hx10 ho8)) ?_
              refine s_gfI j138 rfl (ho17 hc16) ?_
              refine s_goto j141 rfl rfl ?_
              exact K18 _ (am_t1 hc16 rfl)
        · replace h := h.2 hc12
          refine s_goto j110 rfl rfl ?_
          refine s_iinc (L' := [some (am_ov (some this)), some (am_ov x1), some (.int x2), some (.int x3), some (.int x4), some (.int (x5 + (1 : Int32))), some (am_ov v6), x7, x8]) j229 rfl rfl kc_ic_1 rfl ?_
          refine s_goto j232 rfl rfl ?_
          exact h
theorem P_Wk_putInOrder_151 (nl : Bool) (Ln : Nat) (xs : Nat → Int32) : am_Jl (TT nl Ln xs) 58 [(151, .iload 8, 153, []), (153, .ifCond .le 55, 156, []), (156, .aload_n 0, 157, []), (157, .getfield 29, 160, [9, 2, 16, 2]), (160, .iload 8, 162, []), (162, .iconst 1, 163, []), (163, .isub, 164, []), (164, .iaload, 165, []), (165, .iload 7, 167, []), (167, .if_icmp .le 41, 170, []), (170, .aload_n 0, 171, []), (171, .getfield 29, 174, [9, 2, 16, 2]), (174, .iload 8, 176, []), (176, .aload_n 0, 177, []), (177, .getfield 29, 180, [9, 2, 16, 2]), (180, .iload 8, 182, []), (182, .iconst 1, 183, []), (183, .isub, 184, []), (184, .iaload, 185, []), (185, .iastore, 186, []), (186, .aload_n 0, 187, []), (187, .getfield 26, 190, [9, 2, 15, 2]), (190, .iload 8, 192, []), (192, .aload_n 0, 193, []), (193, .getfield 26, 196, [9, 2, 15, 2]), (196, .iload 8, 198, []), (198, .iconst 1, 199, []), (199, .isub, 200, []), (200, .iaload, 201, []), (201, .iastore, 202, []), (202, .iinc 8 (-1), 205, []), (205, .goto (-54), 208, []), (208, .aload_n 0, 209, []), (209, .getfield 29, 212, [9, 2, 16, 2]), (212, .iload 8, 214, []), (214, .iload 7, 216, []), (216, .iastore, 217, []), (217, .aload_n 0, 218, []), (218, .getfield 26, 221, [9, 2, 15, 2]), (221, .iload 8, 223, []), (223, .iload 5, 225, []), (225, .iastore, 226, []), (226, .iinc 4 1, 229, []), (229, .iinc 5 1, 232, []), (232, .goto (-186), 235, [])] := dk_ck (by decide +kernel)
set_option maxRecDepth 4096 in
theorem w_Wk_putInOrder_151 {nl : Bool} {Ln : Nat} {xs : Nat → Int32} {d : Nat} {this : Nat} {x1 : Option Nat} {x2 : Int32} {x3 : Int32} {x4 : Int32} {x5 : Int32} {x6 : Option Nat} {x7 : Int32} {x8 : Int32} {σ : am_S} {F : Int32 → am_S → Prop} (h : (0 < x8 → (am_is σ (some this) 2) ∧ (am_ar σ 1000 (am_fR σ 2016 this) (x8 - (1 : Int32))) ∧ (x7 < (am_aI σ ((am_fR σ 2016 this).getD 0) (x8 - (1 : Int32)).toNatClampNeg) → (am_ar σ 1000 (am_fR σ 2016 this) (x8 - (1 : Int32))) ∧ (am_ar σ 1000 (am_fR σ 2016 this) x8) ∧ ∀ σ7, σ7 = am_saI σ ((am_fR σ 2016 this).getD 0) x8.toNatClampNeg (am_aI σ ((am_fR σ 2016 this).getD 0) (x8 - (1 : Int32)).toNatClampNeg) → (am_ar σ7 1000 (am_fR σ7 2015 this) (x8 - (1 : Int32))) ∧ (am_ar σ7 1000 (am_fR σ7 2015 this) x8) ∧ ∀ σ12, σ12 = am_saI σ7 ((am_fR σ7 2015 this).getD 0) x8.toNatClampNeg (am_aI σ7 ((am_fR σ7 2015 this).getD 0) (x8 - (1 : Int32)).toNatClampNeg) → c_Wk_putInOrder_151 nl Ln xs (d + 1) this x1 x2 x3 x4 x5 x6 x7 (x8 + (-1 : Int32)) σ12 F) ∧ (¬ (x7 < (am_aI σ ((am_fR σ 2016 this).getD 0) (x8 - (1 : Int32)).toNatClampNeg)) → (am_ar σ 1000 (am_fR σ 2016 this) x8) ∧ ∀ σ16, σ16 = am_saI σ ((am_fR σ 2016 this).getD 0) x8.toNatClampNeg x7 → (am_ar σ16 1000 (am_fR σ16 2015 this) x8) ∧ ∀ σ20, σ20 = am_saI σ16 ((am_fR σ16 2015 this).getD 0) x8.toNatClampNeg x5 → c_Wk_putInOrder_46 nl Ln xs (d + 1) this x1 x2 x3 (x4 + (1 : Int32)) (x5 + (1 : Int32)) (some (am_ov x6)) (some (.int x7)) (some (.int x8)) σ20 F)) ∧ (¬ (0 < x8) → (am_is σ (some this) 2) ∧ (am_ar σ 1000 (am_fR σ 2016 this) x8) ∧ ∀ σ25, σ25 = am_saI σ ((am_fR σ 2016 this).getD 0) x8.toNatClampNeg x7 → (am_ar σ25 1000 (am_fR σ25 2015 this) x8) ∧ ∀ σ29, σ29 = am_saI σ25 ((am_fR σ25 2015 this).getD 0) x8.toNatClampNeg x5 → c_Wk_putInOrder_46 nl Ln xs (d + 1) this x1 x2 x3 (x4 + (1 : Int32)) (x5 + (1 : Int32)) (some (am_ov x6)) (some (.int x7)) (some (.int x8)) σ29 F)) : c_Wk_putInOrder_151 nl Ln xs (d + 1) this x1 x2 x3 x4 x5 x6 x7 x8 σ F := by
  obtain ⟨j151, j153, j156, j157, j160, j162, j163, j164, j165, j167, j170, j171, j174, j176, j177, j180, j182, j183, j184, j185, j186, j187, j190, j192, j193, j196, j198, j199, j200, j201, j202, j205, j208, j209, j212, j214, j216, j217, j218, j221, j223, j225, j226, j229, j232, -⟩ := P_Wk_putInOrder_151 nl Ln xs
  unfold c_Wk_putInOrder_151
  refine s_iload j151 rfl rfl ?_
  refine s_ifn j153 rfl rfl am_cc_le (fun hc1 => ?_) (fun hc1 => ?_)
  · replace h := h.2 hc1
    refine s_aload_n j208 rfl rfl ?_
    obtain ⟨ho23, h⟩ := h
    refine s_gfR j209 rfl ho23 ?_
    refine s_iload j212 rfl rfl ?_
    refine s_iload j214 rfl rfl ?_
    obtain ⟨ho24, h⟩ := h
    refine s_iastore j216 rfl ho24 (fun σ25 e26 => ?_)
    replace h := h σ25 e26
    have ek27 : am_kd σ25 = am_kd σ := by rw [e26]
    refine s_aload_n j217 rfl rfl ?_
    refine s_gfR j218 rfl (am_is_kd ek27 ho23) ?_
    refine s_iload j221 rfl rfl ?_
    refine s_iload j223 rfl rfl ?_
    obtain ⟨ho28, h⟩ := h
    refine s_iastore j225 rfl ho28 (fun σ29 e30 => ?_)
    replace h := h σ29 e30
    have ek31 : am_kd σ29 = am_kd σ25 := by rw [e30]
    refine s_iinc (L' := [some (am_ov (some this)), some (am_ov x1), some (.int x2), some (.int x3), some (.int (x4 + (1 : Int32))), some (.int x5), some (am_ov x6), some (.int x7), some (.int x8)]) j226 rfl rfl kc_ic_1 rfl ?_
    refine s_iinc (L' := [some (am_ov (some this)), some (am_ov x1), some (.int x2), some (.int x3), some (.int (x4 + (1 : Int32))), some (.int (x5 + (1 : Int32))), some (am_ov x6), some (.int x7), some (.int x8)]) j229 rfl rfl kc_ic_1 rfl ?_
    refine s_goto j232 rfl rfl ?_
    exact h
  · replace h := h.1 hc1
    refine s_aload_n j156 rfl rfl ?_
    obtain ⟨ho2, h⟩ := h
    refine s_gfR j157 rfl ho2 ?_
    refine s_iload j160 rfl rfl ?_
    refine s_iconst j162 rfl kc_ic_1 ?_
    refine s_g j163 rfl rfl rfl rfl rfl rfl ?_
    obtain ⟨ho3, h⟩ := h
    refine s_iaload j164 rfl ho3 ?_
    refine s_iload j165 rfl rfl ?_
    refine s_icn j167 rfl rfl am_cc_le (fun hc4 => ?_) (fun hc4 => ?_)
    · replace h := h.2 hc4
      refine s_aload_n j208 rfl rfl ?_
      refine s_gfR j209 rfl ho2 ?_
      refine s_iload j212 rfl rfl ?_
      refine s_iload j214 rfl rfl ?_
      obtain ⟨ho15, h⟩ := h
      refine s_iastore j216 rfl ho15 (fun σ16 e17 => ?_)
      replace h := h σ16 e17
      have ek18 : am_kd σ16 = am_kd σ := by rw [e17]
      refine s_aload_n j217 rfl rfl ?_
      refine s_gfR j218 rfl (am_is_kd ek18 ho2) ?_
      refine s_iload j221 rfl rfl ?_
      refine s_iload j223 rfl rfl ?_
      obtain ⟨ho19, h⟩ := h
      refine s_iastore j225 rfl ho19 (fun σ20 e21 => ?_)
      replace h := h σ20 e21
      have ek22 : am_kd σ20 = am_kd σ16 := by rw [e21]
      refine s_iinc (L' := [some (am_ov (some this)), some (am_ov x1), some (.int x2), some (.int x3), some (.int (x4 + (1 : Int32))), some (.int x5), some (am_ov x6), some (.int x7), some (.int x8)]) j226 rfl rfl kc_ic_1 rfl ?_
      refine s_iinc (L' := [some (am_ov (some this)), some (am_ov x1), some (.int x2), some (.int x3), some (.int (x4 + (1 : Int32))), some (.int (x5 + (1 : Int32))), some (am_ov x6), some (.int x7), some (.int x8)]) j229 rfl rfl kc_ic_1 rfl ?_
      refine s_goto j232 rfl rfl ?_
      exact h
    · replace h := h.1 hc4
      refine s_aload_n j170 rfl rfl ?_
      refine s_gfR j171 rfl ho2 ?_
      refine s_iload j174 rfl rfl ?_
      refine s_aload_n j176 rfl rfl ?_
      refine s_gfR j177 rfl ho2 ?_
      refine s_iload j180 rfl rfl ?_
      refine s_iconst j182 rfl kc_ic_1 ?_
      refine s_g j183 rfl rfl rfl rfl rfl rfl ?_
      obtain ⟨ho5, h⟩ := h
      refine s_iaload j184 rfl ho5 ?_
      obtain ⟨ho6, h⟩ := h
      refine s_iastore j185 rfl ho6 (fun σ7 e8 => ?_)
      replace h := h σ7 e8
      have ek9 : am_kd σ7 = am_kd σ := by rw [e8]
      refine s_aload_n j186 rfl rfl ?_
      refine s_gfR j187 rfl (am_is_kd ek9 ho2) ?_
      refine s_iload j190 rfl rfl ?_
      refine s_aload_n j192 rfl rfl ?_
      refine s_gfR j193 rfl (am_is_kd ek9 ho2) ?_
      refine s_iload j196 rfl rfl ?_
      refine s_iconst j198 rfl kc_ic_1 ?_
      refine s_g j199 rfl rfl rfl rfl rfl rfl ?_
      obtain ⟨ho10, h⟩ := h
      refine s_iaload j200 rfl ho10 ?_
      obtain ⟨ho11, h⟩ := h
      refine s_iastore j201 rfl ho11 (fun σ12 e13 => ?_)
      replace h := h σ12 e13
      have ek14 : am_kd σ12 = am_kd σ7 := by rw [e13]
      refine s_iinc (L' := [some (am_ov (some this)), some (am_ov x1), some (.int x2), some (.int x3), some (.int x4), some (.int x5), some (am_ov x6), some (.int x7), some (.int (x8 + (-1 : Int32)))]) j202 rfl rfl kc_ic_m1 rfl ?_
      refine s_goto j205 rfl rfl ?_
      exact h
theorem P_Bk_isOfCover (nl : Bool) (Ln : Nat) (xs : Nat → Int32) : am_Jl (TT nl Ln xs) 59 [(0, .aload_n 1, 1, []), (1, .getfield 462, 4, [9, 11, 4, 0]), (4, .iload 4, 6, []), (6, .if_icmp .gt 33, 9, []), (9, .aload_n 1, 10, []), (10, .getfield 404, 13, [9, 11, 2, 2]), (13, .getfield 312, 16, [9, 10, 2, 0]), (16, .sipush 365, 19, []), (19, .idiv, 20, []), (20, .iload_n 3, 21, []), (21, .if_icmp .ne 18, 24, []), (24, .aload_n 0, 25, []), (25, .aload_n 1, 26, []), (26, .iload 4, 28, []), (28, .invokevirtual 463, 31, [10, 27, 7, 7, 3]), (31, .aload_n 2, 32, []), (32, .if_acmp .ne 7, 35, []), (35, .iconst 1, 36, []), (36, .goto 4, 39, []), (39, .iconst 0, 40, []), (40, .ireturn, 41, [4])] := dk_ck (by decide +kernel)
set_option maxRecDepth 4096 in
theorem w_Bk_isOfCover {nl : Bool} {Ln : Nat} {xs : Nat → Int32} {d : Nat} {this : Nat} {p0 : Option Nat} {p1 : Option Nat} {p2 : Int32} {p3 : Int32} {σ : am_S} {F : Bool → am_S → Prop} (h : (am_is σ p0 11) ∧ (p3 < (am_fI σ 11004 (p0.getD 0)) → F false σ) ∧ (¬ (p3 < (am_fI σ 11004 (p0.getD 0))) → (am_is σ (am_fR σ 11002 (p0.getD 0)) 10) ∧ (((am_fI σ 10002 ((am_fR σ 11002 (p0.getD 0)).getD 0)) / (365 : Int32)) = p2 → (am_is σ (some this) 6) ∧ k_Bk_coverOf nl Ln xs d this p0 p3 σ (fun a7 σ6 => am_ext σ σ6 → (am_hi a7) ∧ (am_hi p1) ∧ F (decide (a7 = p1)) σ6)) ∧ (¬ (((am_fI σ 10002 ((am_fR σ 11002 (p0.getD 0)).getD 0)) / (365 : Int32)) = p2) → F false σ))) : k_Bk_isOfCover nl Ln xs (d + 1) this p0 p1 p2 p3 σ F := by
  obtain ⟨j0, j1, j4, j6, j9, j10, j13, j16, j19, j20, j21, j24, j25, j26, j28, j31, j32, j35, j36, j39, j40, -⟩ := P_Bk_isOfCover nl Ln xs
  have elo : am_lo 5 [am_ov (some this), am_ov p0, am_ov p1, .int p2, .int p3] = [some (am_ov (some this)), some (am_ov p0), some (am_ov p1), some (.int p2), some (.int p3)] := by simp only [am_lo, am_in_ov, am_in_int, am_in_long, am_in_nil]; rfl
  unfold k_Bk_isOfCover
  rw [elo]
  refine s_aload_n j0 rfl rfl ?_
  obtain ⟨ho1, h⟩ := h
  refine s_gfI j1 rfl ho1 ?_
  refine s_iload j4 rfl rfl ?_
  refine s_ic j6 rfl rfl am_cc_gt (fun hc2 => ?_) (fun hc2 => ?_)
  · replace h := h.1 hc2
    refine s_iconst j39 rfl kc_ic_0 ?_
    exact s_retZ0 j40 rfl h
  · replace h := h.2 hc2
    refine s_aload_n j9 rfl rfl ?_
    refine s_gfR j10 rfl ho1 ?_
    obtain ⟨ho3, h⟩ := h
    refine s_gfI j13 rfl ho3 ?_
    refine s_sipush j16 rfl kc_si_365 ?_
    refine s_idiv j19 rfl (by decide) ?_
    refine s_iload_n j20 rfl rfl ?_
    refine s_icn j21 rfl rfl am_cc_ne (fun hc4 => ?_) (fun hc4 => ?_)
    · replace h := h.2 hc4
      refine s_iconst j39 rfl kc_ic_0 ?_
      exact s_retZ0 j40 rfl h
    · replace h := h.1 hc4
      refine s_aload_n j24 rfl rfl ?_
      refine s_aload_n j25 rfl rfl ?_
      refine s_iload j26 rfl rfl ?_
      obtain ⟨ho5, h⟩ := h
      refine s_virt j28 rfl rfl rfl rfl ho5 (by decide) (in_Bk_coverOf _ _ _) (am_r8 rfl) (am_bR h (fun a7 σ6 h hx6 => ?_))
      replace h := h hx6
      refine s_aload_n j31 rfl rfl ?_
      obtain ⟨ho8, h⟩ := h
      obtain ⟨ho9, h⟩ := h
      have K11 : ∀ (w12 : Int32), w12 = (if a7 = p1 then (1 : Int32) else 0) → am_C (TT nl Ln xs) (d + 1) 59 40 [some (am_ov (some this)), some (am_ov p0), some (am_ov p1), some (.int p2), some (.int p3)] [.int w12] σ6 (am_qB F) := by
        intro w12 hw13
        subst hw13
        exact s_retZ j40 rfl h
      refine s_acmp_ne j32 rfl rfl ho8 ho9 (fun hc10 => ?_) (fun hc10 => ?_)
      · refine s_iconst j39 rfl kc_ic_0 ?_
        exact K11 _ (am_e0 (Iff.trans Iff.rfl (am_p10 hc10)))
      · refine s_iconst j35 rfl kc_ic_1 ?_
        refine s_goto j36 rfl rfl ?_
        exact K11 _ (am_e1 (Iff.trans Iff.rfl (am_p9 hc10)))
theorem P_Cs_sumOf (nl : Bool) (Ln : Nat) (xs : Nat → Int32) : am_Jl (TT nl Ln xs) 60 [(0, .lconst 0, 1, []), (1, .lstore 4, 3, []), (3, .aload_n 0, 4, []), (4, .getfield 9, 7, [9, 11, 5, 2]), (7, .astore 6, 9, [])] := dk_ck (by decide +kernel)
set_option maxRecDepth 4096 in
theorem w_Cs_sumOf {nl : Bool} {Ln : Nat} {xs : Nat → Int32} {d : Nat} {this : Nat} {p0 : Int32} {p1 : Int32} {p2 : Int32} {σ : am_S} {F : Int64 → am_S → Prop} (h : (am_is σ (some this) 11) ∧ ∀ v2 : Option Nat, v2 = (am_fR σ 11005 this) → c_Cs_sumOf_9 nl Ln xs (d + 1) this p0 p1 p2 (0 : Int64) v2 σ F) : k_Cs_sumOf nl Ln xs (d + 1) this p0 p1 p2 σ F := by
  obtain ⟨j0, j1, j3, j4, j7, -⟩ := P_Cs_sumOf nl Ln xs
  have elo : am_lo 7 [am_ov (some this), .int p0, .int p1, .int p2] = [some (am_ov (some this)), some (.int p0), some (.int p1), some (.int p2), none, none, none] := by simp only [am_lo, am_in_ov, am_in_int, am_in_long, am_in_nil]; rfl
  unfold k_Cs_sumOf
  rw [elo]
  refine s_lconst j0 rfl rfl ?_
  refine s_lstore j1 rfl (n := 7) (L' := [some (am_ov (some this)), some (.int p0), some (.int p1), some (.int p2), some (.long (0 : Int64)), none, none]) rfl (by decide) rfl ?_
  refine s_aload_n j3 rfl rfl ?_
  obtain ⟨ho1, h⟩ := h
  refine s_gfR j4 rfl ho1 ?_
  refine s_astoreV j7 rfl (n := 7) (L' := fun w => [some (am_ov (some this)), some (.int p0), some (.int p1), some (.int p2), some (.long (0 : Int64)), none, some (am_ov w)]) rfl (by decide) (fun _ => rfl) (fun v2 hv3 => ?_)
  replace h := h v2 hv3
  exact h
theorem P_Cs_sumOf_9 (nl : Bool) (Ln : Nat) (xs : Nat → Int32) : am_Jl (TT nl Ln xs) 60 [(9, .aload 6, 11, []), (11, .ifnull 50, 14, []), (14, .aload 6, 16, []), (16, .getfield 38, 19, [9, 7, 0, 0]), (19, .iload_n 1, 20, []), (20, .if_icmp .ne 31, 23, []), (23, .aload 6, 25, []), (25, .getfield 28, 28, [9, 7, 2, 0]), (28, .iload_n 2, 29, []), (29, .if_icmp .gt 22, 32, []), (32, .aload 6, 34, []), (34, .getfield 35, 37, [9, 7, 6, 0]), (37, .iload_n 3, 38, []), (38, .if_icmp .gt 13, 41, []), (41, .lload 4, 43, []), (43, .aload 6, 45, []), (45, .getfield 41, 48, [9, 7, 3, 1]), (48, .ladd, 49, []), (49, .lstore 4, 51, []), (51, .aload 6, 53, []), (53, .getfield 21, 56, [9, 7, 5, 2]), (56, .astore 6, 58, []), (58, .goto (-49), 61, []), (61, .lload 4, 63, []), (63, .lreturn, 64, [2])] := dk_ck (by decide +kernel)
set_option maxRecDepth 4096 in
theorem w_Cs_sumOf_9 {nl : Bool} {Ln : Nat} {xs : Nat → Int32} {d : Nat} {this : Nat} {x1 : Int32} {x2 : Int32} {x3 : Int32} {x4 : Int64} {x6 : Option Nat} {σ : am_S} {F : Int64 → am_S → Prop} (h : (x6 = none → F x4 σ) ∧ (¬ (x6 = none) → (am_is σ x6 7) ∧ ∀ w7 : Int64, w7 = (if (am_fI σ 7000 (x6.getD 0)) = x1 then (if x2 < (am_fI σ 7002 (x6.getD 0)) then x4 else (if x3 < (am_fI σ 7006 (x6.getD 0)) then x4 else (x4 + (am_fL σ 7003 (x6.getD 0))))) else x4) → ∀ v9 : Option Nat, v9 = (am_fR σ 7005 (x6.getD 0)) → c_Cs_sumOf_9 nl Ln xs (d + 1) this x1 x2 x3 w7 v9 σ F)) : c_Cs_sumOf_9 nl Ln xs (d + 1) this x1 x2 x3 x4 x6 σ F := by
  obtain ⟨j9, j11, j14, j16, j19, j20, j23, j25, j28, j29, j32, j34, j37, j38, j41, j43, j45, j48, j49, j51, j53, j56, j58, j61, j63, -⟩ := P_Cs_sumOf_9 nl Ln xs
  unfold c_Cs_sumOf_9
  refine s_aload j9 rfl rfl ?_
  refine s_ifnull j11 rfl rfl (fun hc1 => ?_) (fun hc1 => ?_)
  · replace h := h.1 hc1
    refine s_lload j61 rfl rfl ?_
    exact s_retL j63 rfl h
  · replace h := h.2 hc1
    refine s_aload j14 rfl rfl ?_
    obtain ⟨ho2, h⟩ := h
    refine s_gfI j16 rfl ho2 ?_
    refine s_iload_n j19 rfl rfl ?_
    have K6 : ∀ (w7 : Int64), w7 = (if (am_fI σ 7000 (x6.getD 0)) = x1 then (if x2 < (am_fI σ 7002 (x6.getD 0)) then x4 else (if x3 < (am_fI σ 7006 (x6.getD 0)) then x4 else (x4 + (am_fL σ 7003 (x6.getD 0))))) else x4) → am_C (TT nl Ln xs) (d + 1) 60 51 [some (am_ov (some this)), some (.int x1), some (.int x2), some (.int x3), some (.long w7), none, some (am_ov x6)] [] σ (am_qL F) := by
      intro w7 hw8
      replace h := h w7 hw8
      refine s_aload j51 rfl rfl ?_
      refine s_gfR j53 rfl ho2 ?_
      refine s_astoreV j56 rfl (n := 7) (L' := fun w => [some (am_ov (some this)), some (.int x1), some (.int x2), some (.int x3), some (.long w7), none, some (am_ov w)]) rfl (by decide) (fun _ => rfl) (fun v9 hv10 => ?_)
      replace h := h v9 hv10
      refine s_goto j58 rfl rfl ?_
      exact h
    refine s_icn j20 rfl rfl am_cc_ne (fun hc3 => ?_) (fun hc3 => ?_)
    · exact K6 _ (am_t2 hc3 rfl)
    · refine s_aload j23 rfl rfl ?_
      refine s_gfI j25 rfl ho2 ?_
      refine s_iload_n j28 rfl rfl ?_
      refine s_ic j29 rfl rfl am_cc_gt (fun hc4 => ?_) (fun hc4 => ?_)
      · exact K6 _ (am_t1 hc3 (am_t1 hc4 rfl))
      · refine s_aload j32 rfl rfl ?_
        refine s_gfI j34 rfl ho2 ?_
        refine s_iload_n j37 rfl rfl ?_
        refine s_ic j38 rfl rfl am_cc_gt (fun hc5 => ?_) (fun hc5 => ?_)
        · exact K6 _ (am_t1 hc3 (am_t2 hc4 (am_t1 hc5 rfl)))
        · refine s_lload j41 rfl rfl ?_
          refine s_aload j43 rfl rfl ?_
          refine s_gfL j45 rfl ho2 ?_
          refine s_g j48 rfl rfl rfl rfl rfl rfl ?_
          refine s_lstore j49 rfl (n := 7) (L' := [some (am_ov (some this)), some (.int x1), some (.int x2), some (.int x3), some (.long (x4 + (am_fL σ 7003 (x6.getD 0)))), none, some (am_ov x6)]) rfl (by decide) rfl ?_
          exact K6 _ (am_t1 hc3 (am_t2 hc4 (am_t2 hc5 rfl)))
theorem P_Wk_interestRow (nl : Bool) (Ln : Nat) (xs : Nat → Int32) : am_Jl (TT nl Ln xs) 61 [(0, .aload_n 0, 1, []), (1, .bipush 8, 3, []), (3, .lconst 0, 4, []), (4, .invokevirtual 57, 7, [10, 34, 3, 5, 3]), (7, .lstore_n 1, 8, []), (8, .aload_n 0, 9, []), (9, .lload_n 1, 10, []), (10, .lconst 0, 11, []), (11, .lcmp, 12, []), (12, .ifCond .ne 7, 15, []), (15, .lconst 0, 16, []), (16, .goto 7, 19, []), (19, .aload_n 0, 20, []), (20, .invokevirtual 323, 23, [10, 62, 3, 8, 1])] := dk_ck (by decide +kernel)
set_option maxRecDepth 4096 in
theorem w_Wk_interestRow {nl : Bool} {Ln : Nat} {xs : Nat → Int32} {d : Nat} {this : Nat} {σ : am_S} {F : am_S → Prop} (h : (am_is σ (some this) 2) ∧ k_Wk_numberOf nl Ln xs d this (8 : Int32) (0 : Int64) σ (fun a3 σ2 => am_ext σ σ2 → (a3 = (0 : Int64) → c_Wk_interestRow_23 nl Ln xs (d + 1) this a3 (some this) (0 : Int64) σ2 F) ∧ (¬ (a3 = (0 : Int64)) → k_Wk_centsByDays nl Ln xs d this σ2 (fun a6 σ5 => am_ext σ2 σ5 → c_Wk_interestRow_23 nl Ln xs (d + 1) this a3 (some this) a6 σ5 F)))) : k_Wk_interestRow nl Ln xs (d + 1) this σ F := by
  obtain ⟨j0, j1, j3, j4, j7, j8, j9, j10, j11, j12, j15, j16, j19, j20, -⟩ := P_Wk_interestRow nl Ln xs
  have elo : am_lo 5 [am_ov (some this)] = [some (am_ov (some this)), none, none, none, none] := by simp only [am_lo, am_in_ov, am_in_int, am_in_long, am_in_nil]; rfl
  unfold k_Wk_interestRow
  rw [elo]
  refine s_aload_n j0 rfl rfl ?_
  refine s_bipush j1 rfl kc_bi_8 ?_
  refine s_lconst j3 rfl rfl ?_
  obtain ⟨ho1, h⟩ := h
  refine s_virt j4 rfl rfl rfl rfl ho1 (by decide) (in_Wk_numberOf _ _ _) (am_r8 rfl) (am_bL h (fun a3 σ2 h hx2 => ?_))
  replace h := h hx2
  refine s_lstore_n j7 rfl (n := 5) (L' := [some (am_ov (some this)), some (.long a3), none, none, none]) rfl (by decide) (am_st2_R [] _ _ _ _ _) ?_
  refine s_aload_n j8 rfl rfl ?_
  refine s_lload_n j9 rfl rfl ?_
  refine s_lconst j10 rfl rfl ?_
  refine s_g j11 rfl rfl rfl rfl rfl rfl ?_
  refine s_ifn j12 rfl rfl am_cl_ne (fun hc4 => ?_) (fun hc4 => ?_)
  · replace h := h.2 hc4
    refine s_aload_n j19 rfl rfl ?_
    refine s_virt j20 rfl rfl rfl rfl (am_is_ext hx2 ho1) (by decide) (in_Wk_centsByDays _) (am_r8 rfl) (am_bL h (fun a6 σ5 h hx5 => ?_))
    replace h := h hx5
    exact h
  · replace h := h.1 hc4
    refine s_lconst j15 rfl rfl ?_
    refine s_goto j16 rfl rfl ?_
    exact h
theorem P_Wk_interestRow_23 (nl : Bool) (Ln : Nat) (xs : Nat → Int32) : am_Jl (TT nl Ln xs) 61 [(23, .lload_n 1, 24, []), (24, .invokevirtual 320, 27, [10, 48, 3, 5, 3]), (27, .lstore_n 3, 28, []), (28, .aload_n 0, 29, []), (29, .getfield 12, 32, [9, 2, 2, 2]), (32, .getfield 49, 35, [9, 3, 7, 3]), (35, .ifCond .ne 15, 38, []), (38, .aload_n 0, 39, []), (39, .bipush 11, 41, []), (41, .iconst 0, 42, []), (42, .lload_n 3, 43, []), (43, .ldc2_w 327, 46, [6, 3650000]), (46, .ldiv, 47, []), (47, .invokevirtual 107, 50, [10, 38, 3, 5, 4]), (50, .return_, 51, [0])] := dk_ck (by decide +kernel)
set_option maxRecDepth 4096 in
theorem w_Wk_interestRow_23 {nl : Bool} {Ln : Nat} {xs : Nat → Int32} {d : Nat} {this : Nat} {x1 : Int64} {y0 : Option Nat} {y1 : Int64} {σ : am_S} {F : am_S → Prop} (h : (am_is σ y0 2) ∧ k_Wk_times nl Ln xs d (y0.getD 0) y1 x1 σ (fun a3 σ2 => am_ext σ σ2 → (am_is σ2 (some this) 2) ∧ (am_is σ2 (am_fR σ2 2002 this) 3) ∧ ((am_fI σ2 3007 ((am_fR σ2 2002 this).getD 0)) = 0 → k_Wk_addRow nl Ln xs d this (11 : Int32) (0 : Int32) (a3 / (3650000 : Int64)) σ2 (fun σ7 => am_ext σ2 σ7 → F σ7)) ∧ (¬ ((am_fI σ2 3007 ((am_fR σ2 2002 this).getD 0)) = 0) → F σ2))) : c_Wk_interestRow_23 nl Ln xs (d + 1) this x1 y0 y1 σ F := by
  obtain ⟨j23, j24, j27, j28, j29, j32, j35, j38, j39, j41, j42, j43, j46, j47, j50, -⟩ := P_Wk_interestRow_23 nl Ln xs
  unfold c_Wk_interestRow_23
  refine s_lload_n j23 rfl rfl ?_
  obtain ⟨ho1, h⟩ := h
  refine s_virt j24 rfl rfl rfl rfl ho1 (by decide) (in_Wk_times _ _ _) (am_r8 rfl) (am_bL h (fun a3 σ2 h hx2 => ?_))
  replace h := h hx2
  refine s_lstore_n j27 rfl (n := 5) (L' := [some (am_ov (some this)), some (.long x1), none, some (.long a3), none]) rfl (by decide) rfl ?_
  refine s_aload_n j28 rfl rfl ?_
  obtain ⟨ho4, h⟩ := h
  refine s_gfR j29 rfl ho4 ?_
  obtain ⟨ho5, h⟩ := h
  refine s_gfZ j32 rfl ho5 ?_
  refine s_ifn j35 rfl rfl am_cc_ne (fun hc6 => ?_) (fun hc6 => ?_)
  · replace h := h.2 hc6
    exact s_retV j50 rfl h
  · replace h := h.1 hc6
    refine s_aload_n j38 rfl rfl ?_
    refine s_bipush j39 rfl kc_bi_11 ?_
    refine s_iconst j41 rfl kc_ic_0 ?_
    refine s_lload_n j42 rfl rfl ?_
    refine s_ldc2 j43 rfl kc_ll_3650000 ?_
    refine s_ldiv j46 rfl (by decide) ?_
    refine s_virt j47 rfl rfl rfl rfl ho4 (by decide) (in_Wk_addRow _ _ _ _) (am_r8 rfl) (am_bV h (fun σ7 h hx7 => ?_))
    replace h := h hx7
    exact s_retV j50 rfl h
theorem P_Wk_centsByDays (nl : Bool) (Ln : Nat) (xs : Nat → Int32) : am_Jl (TT nl Ln xs) 62 [(0, .lconst 0, 1, []), (1, .lstore_n 1, 2, []), (2, .aload_n 0, 3, []), (3, .getfield 87, 6, [9, 2, 4, 2]), (6, .aload_n 0, 7, []), (7, .getfield 95, 10, [9, 2, 9, 0]), (10, .invokevirtual 329, 13, [10, 63, 12, 2, 2]), (13, .lstore_n 3, 14, []), (14, .aload_n 0, 15, []), (15, .getfield 91, 18, [9, 2, 8, 0]), (18, .istore 5, 20, []), (20, .aload_n 0, 21, []), (21, .getfield 87, 24, [9, 2, 4, 2]), (24, .getfield 230, 27, [9, 11, 5, 2]), (27, .astore 6, 29, [])] := dk_ck (by decide +kernel)
set_option maxRecDepth 4096 in
theorem w_Wk_centsByDays {nl : Bool} {Ln : Nat} {xs : Nat → Int32} {d : Nat} {this : Nat} {σ : am_S} {F : Int64 → am_S → Prop} (h : (am_is σ (some this) 2) ∧ (am_is σ (am_fR σ 2004 this) 11) ∧ k_Cs_paidOfWorth nl Ln xs d ((am_fR σ 2004 this).getD 0) (am_fI σ 2009 this) σ (fun a4 σ3 => am_ext σ σ3 → ∀ v5 : Int32, v5 = (am_fI σ3 2008 this) → (am_is σ3 (am_fR σ3 2004 this) 11) ∧ ∀ v8 : Option Nat, v8 = (am_fR σ3 11005 ((am_fR σ3 2004 this).getD 0)) → c_Wk_centsByDays_29 nl Ln xs (d + 1) this (0 : Int64) a4 v5 v8 none σ3 F)) : k_Wk_centsByDays nl Ln xs (d + 1) this σ F := by
  obtain ⟨j0, j1, j2, j3, j6, j7, j10, j13, j14, j15, j18, j20, j21, j24, j27, -⟩ := P_Wk_centsByDays nl Ln xs
  have elo : am_lo 8 [am_ov (some this)] = [some (am_ov (some this)), none, none, none, none, none, none, none] := by simp only [am_lo, am_in_ov, am_in_int, am_in_long, am_in_nil]; rfl
  unfold k_Wk_centsByDays
  rw [elo]
  refine s_lconst j0 rfl rfl ?_
  refine s_lstore_n j1 rfl (n := 8) (L' := [some (am_ov (some this)), some (.long (0 : Int64)), none, none, none, none, none, none]) rfl (by decide) (am_st2_R [] _ _ _ _ _) ?_
  refine s_aload_n j2 rfl rfl ?_
  obtain ⟨ho1, h⟩ := h
  refine s_gfR j3 rfl ho1 ?_
  refine s_aload_n j6 rfl rfl ?_
  refine s_gfI j7 rfl ho1 ?_
  obtain ⟨ho2, h⟩ := h
  refine s_virt j10 rfl rfl rfl rfl ho2 (by decide) (in_Cs_paidOfWorth _ _) (am_r8 rfl) (am_bL h (fun a4 σ3 h hx3 => ?_))
  replace h := h hx3
  refine s_lstore_n j13 rfl (n := 8) (L' := [some (am_ov (some this)), some (.long (0 : Int64)), none, some (.long a4), none, none, none, none]) rfl (by decide) rfl ?_
  refine s_aload_n j14 rfl rfl ?_
  refine s_gfI j15 rfl (am_is_ext hx3 ho1) ?_
  refine s_istoreV j18 rfl (n := 8) (L' := fun w => [some (am_ov (some this)), some (.long (0 : Int64)), none, some (.long a4), none, some (.int w), none, none]) rfl (by decide) (fun _ => rfl) (fun v5 hv6 => ?_)
  replace h := h v5 hv6
  refine s_aload_n j20 rfl rfl ?_
  refine s_gfR j21 rfl (am_is_ext hx3 ho1) ?_
  obtain ⟨ho7, h⟩ := h
  refine s_gfR j24 rfl ho7 ?_
  refine s_astoreV j27 rfl (n := 8) (L' := fun w => [some (am_ov (some this)), some (.long (0 : Int64)), none, some (.long a4), none, some (.int v5), some (am_ov w), none]) rfl (by decide) (fun _ => rfl) (fun v8 hv9 => ?_)
  replace h := h v8 hv9
  exact h
theorem P_Wk_centsByDays_29 (nl : Bool) (Ln : Nat) (xs : Nat → Int32) : am_Jl (TT nl Ln xs) 62 [(29, .aload 6, 31, []), (31, .ifnull 82, 34, []), (34, .aload 6, 36, []), (36, .bipush 13, 38, []), (38, .aload_n 0, 39, []), (39, .getfield 95, 42, [9, 2, 9, 0]), (42, .sipush 10949, 45, []), (45, .invokevirtual 233, 48, [10, 20, 8, 4, 4]), (48, .ifCond .eq 55, 51, []), (51, .aload 6, 53, []), (53, .getfield 332, 56, [9, 7, 6, 0]), (56, .iconst 1, 57, []), (57, .iadd, 58, []), (58, .iload 5, 60, []), (60, .invokestatic 333, 63, [12, 65, 2, 2]), (63, .istore 7, 65, []), (65, .lload_n 1, 66, []), (66, .iload 5, 68, []), (68, .iload 7, 70, []), (70, .isub, 71, []), (71, .i2l, 72, []), (72, .aload_n 0, 73, []), (73, .getfield 83, 76, [9, 2, 11, 1]), (76, .lload_n 3, 77, []), (77, .lsub, 78, []), (78, .lconst 0, 79, []), (79, .invokestatic 65, 82, [12, 46, 4, 2]), (82, .lmul, 83, []), (83, .ladd, 84, []), (84, .lstore_n 1, 85, []), (85, .iload 7, 87, []), (87, .istore 5, 89, []), (89, .lload_n 3, 90, []), (90, .aload 6, 92, []), (92, .getfield 215, 95, [9, 7, 3, 1]), (95, .aload 6, 97, []), (97, .getfield 336, 100, [9, 7, 9, 1]), (100, .lsub, 101, []), (101, .lsub, 102, []), (102, .lstore_n 3, 103, []), (103, .aload 6, 105, []), (105, .getfield 246, 108, [9, 7, 5, 2]), (108, .astore 6, 110, []), (110, .goto (-81), 113, []), (113, .lload_n 1, 114, []), (114, .iload 5, 116, []), (116, .aload_n 0, 117, []), (117, .getfield 87, 120, [9, 2, 4, 2]), (120, .getfield 313, 123, [9, 11, 3, 0]), (123, .isub, 124, []), (124, .i2l, 125, []), (125, .aload_n 0, 126, []), (126, .getfield 83, 129, [9, 2, 11, 1]), (129, .lload_n 3, 130, []), (130, .lsub, 131, []), (131, .lconst 0, 132, []), (132, .invokestatic 65, 135, [12, 46, 4, 2]), (135, .lmul, 136, []), (136, .ladd, 137, []), (137, .lreturn, 138, [2])] := dk_ck (by decide +kernel)
set_option maxRecDepth 4096 in
theorem w_Wk_centsByDays_29 {nl : Bool} {Ln : Nat} {xs : Nat → Int32} {d : Nat} {this : Nat} {x1 : Int64} {x3 : Int64} {x5 : Int32} {x6 : Option Nat} {x7 : Option Value} {σ : am_S} {F : Int64 → am_S → Prop} (h : (x6 = none → (am_is σ (some this) 2) ∧ (am_is σ (am_fR σ 2004 this) 11) ∧ k_Math_max nl Ln xs d ((am_fL σ 2011 this) - x3) (0 : Int64) σ (fun a5 σ4 => am_ext σ σ4 → F (x1 + ((x5 - (am_fI σ 11003 ((am_fR σ 2004 this).getD 0))).toInt64 * a5)) σ4)) ∧ (¬ (x6 = none) → (am_is σ (some this) 2) ∧ (am_is σ x6 7) ∧ k_En_counts nl Ln xs d (x6.getD 0) (13 : Int32) (am_fI σ 2009 this) (10949 : Int32) σ (fun a9 σ8 => am_ext σ σ8 → (a9 = true → k_Math_min2 nl Ln xs d ((am_fI σ8 7006 (x6.getD 0)) + (1 : Int32)) x5 σ8 (fun a12 σ11 => am_ext σ8 σ11 → k_Math_max nl Ln xs d ((am_fL σ11 2011 this) - x3) (0 : Int64) σ11 (fun a14 σ13 => am_ext σ11 σ13 → ∀ v15 : Int64, v15 = (x1 + ((x5 - a12).toInt64 * a14)) → ∀ v17 : Int64, v17 = (x3 - ((am_fL σ13 7003 (x6.getD 0)) - (am_fL σ13 7009 (x6.getD 0)))) → ∀ v19 : Option Nat, v19 = (am_fR σ13 7005 (x6.getD 0)) → c_Wk_centsByDays_29 nl Ln xs (d + 1) this v15 v17 a12 v19 (some (.int a12)) σ13 F))) ∧ (¬ (a9 = true) → ∀ v21 : Option Nat, v21 = (am_fR σ8 7005 (x6.getD 0)) → c_Wk_centsByDays_29 nl Ln xs (d + 1) this x1 x3 x5 v21 x7 σ8 F)))) : c_Wk_centsByDays_29 nl Ln xs (d + 1) this x1 x3 x5 x6 x7 σ F := by
  obtain ⟨j29, j31, j34, j36, j38, j39, j42, j45, j48, j51, j53, j56, j57, j58, j60, j63, j65, j66, j68, j70, j71, j72, j73, j76, j77, j78, j79, j82, j83, j84, j85, j87, j89, j90, j92, j95, j97, j100, j101, j102, j103, j105, j108, j110, j113, j114, j116, j117, j120, j123, j124, j125, j126, j129, j130, j131, j132, j135, j136, j137, -⟩ := P_Wk_centsByDays_29 nl Ln xs
  unfold c_Wk_centsByDays_29
  refine s_aload j29 rfl rfl ?_
  refine s_ifnull j31 rfl rfl (fun hc1 => ?_) (fun hc1 => ?_)
  · replace h := h.1 hc1
    refine s_lload_n j113 rfl rfl ?_
    refine s_iload j114 rfl rfl ?_
    refine s_aload_n j116 rfl rfl ?_
    obtain ⟨ho2, h⟩ := h
    refine s_gfR j117 rfl ho2 ?_
    obtain ⟨ho3, h⟩ := h
    refine s_gfI j120 rfl ho3 ?_
    refine s_g j123 rfl rfl rfl rfl rfl rfl ?_
    refine s_g j124 rfl rfl rfl rfl rfl rfl ?_
    refine s_aload_n j125 rfl rfl ?_
    refine s_gfL j126 rfl ho2 ?_
    refine s_lload_n j129 rfl rfl ?_
    refine s_g j130 rfl rfl rfl rfl rfl rfl ?_
    refine s_lconst j131 rfl rfl ?_
    refine s_stat j132 rfl rfl rfl rfl (by decide) (in_Math_max _ _) (am_r8 rfl) (am_bL h (fun a5 σ4 h hx4 => ?_))
    replace h := h hx4
    refine s_g j135 rfl rfl rfl rfl rfl rfl ?_
    refine s_g j136 rfl rfl rfl rfl rfl rfl ?_
    exact s_retL j137 rfl h
  · replace h := h.2 hc1
    refine s_aload j34 rfl rfl ?_
    refine s_bipush j36 rfl kc_bi_13 ?_
    refine s_aload_n j38 rfl rfl ?_
    obtain ⟨ho6, h⟩ := h
    refine s_gfI j39 rfl ho6 ?_
    refine s_sipush j42 rfl kc_si_10949 ?_
    obtain ⟨ho7, h⟩ := h
    refine s_virt j45 rfl rfl rfl rfl ho7 (by decide) (in_En_counts _ _ _ _) (am_r8 rfl) (am_bB h (fun a9 σ8 h hx8 => ?_))
    replace h := h hx8
    refine s_ifn j48 rfl rfl am_cb_eq (fun hc10 => ?_) (fun hc10 => ?_)
    · replace h := h.2 hc10
      refine s_aload j103 rfl rfl ?_
      refine s_gfR j105 rfl (am_is_ext hx8 ho7) ?_
      refine s_astoreV j108 rfl (n := 8) (L' := fun w => [some (am_ov (some this)), some (.long x1), none, some (.long x3), none, some (.int x5), some (am_ov w), x7]) rfl (by decide) (fun _ => rfl) (fun v21 hv22 => ?_)
      replace h := h v21 hv22
      refine s_goto j110 rfl rfl ?_
      exact h
    · replace h := h.1 hc10
      refine s_aload j51 rfl rfl ?_
      refine s_gfI j53 rfl (am_is_ext hx8 ho7) ?_
      refine s_iconst j56 rfl kc_ic_1 ?_
      refine s_g j57 rfl rfl rfl rfl rfl rfl ?_
      refine s_iload j58 rfl rfl ?_
      refine s_stat j60 rfl rfl rfl rfl (by decide) (in_Math_min2 _ _) (am_r8 rfl) (am_bI h (fun a12 σ11 h hx11 => ?_))
      replace h := h hx11
      refine s_istore j63 rfl (n := 8) (L' := [some (am_ov (some this)), some (.long x1), none, some (.long x3), none, some (.int x5), some (am_ov x6), some (.int a12)]) rfl (by decide) (am_st1_R [_, _, _, _, _, _] _ _ _ _) ?_
      refine s_lload_n j65 rfl rfl ?_
      refine s_iload j66 rfl rfl ?_
      refine s_iload j68 rfl rfl ?_
      refine s_g j70 rfl rfl rfl rfl rfl rfl ?_
      refine s_g j71 rfl rfl rfl rfl rfl rfl ?_
      refine s_aload_n j72 rfl rfl ?_
      refine s_gfL j73 rfl (am_is_ext hx11 (am_is_ext hx8 ho6)) ?_
      refine s_lload_n j76 rfl rfl ?_
      refine s_g j77 rfl rfl rfl rfl rfl rfl ?_
      refine s_lconst j78 rfl rfl ?_
      refine s_stat j79 rfl rfl rfl rfl (by decide) (in_Math_max _ _) (am_r8 rfl) (am_bL h (fun a14 σ13 h hx13 => ?_))
      replace h := h hx13
      refine s_g j82 rfl rfl rfl rfl rfl rfl ?_
      refine s_g j83 rfl rfl rfl rfl rfl rfl ?_
      refine s_lstore_nV j84 rfl (n := 8) (L' := fun w => [some (am_ov (some this)), some (.long w), none, some (.long x3), none, some (.int x5), some (am_ov x6), some (.int a12)]) rfl (by decide) (fun _ => am_st2_R [] _ _ _ _ _) (fun v15 hv16 => ?_)
      replace h := h v15 hv16
      refine s_iload j85 rfl rfl ?_
      refine s_istore j87 rfl (n := 8) (L' := [some (am_ov (some this)), some (.long v15), none, some (.long x3), none, some (.int a12), some (am_ov x6), some (.int a12)]) rfl (by decide) rfl ?_
      refine s_lload_n j89 rfl rfl ?_
      refine s_aload j90 rfl rfl ?_
      refine s_gfL j92 rfl (am_is_ext hx13 (am_is_ext hx11 (am_is_ext hx8 ho7))) ?_
      refine s_aload j95 rfl rfl ?_
      refine s_gfL j97 rfl (am_is_ext hx13 (am_is_ext hx11 (am_is_ext hx8 ho7))) ?_
      refine s_g j100 rfl rfl rfl rfl rfl rfl ?_
      refine s_g j101 rfl rfl rfl rfl rfl rfl ?_
      refine s_lstore_nV j102 rfl (n := 8) (L' := fun w => [some (am_ov (some this)), some (.long v15), none, some (.long w), none, some (.int a12), some (am_ov x6), some (.int a12)]) rfl (by decide) (fun _ => rfl) (fun v17 hv18 => ?_)
      replace h := h v17 hv18
      refine s_aload j103 rfl rfl ?_
      refine s_gfR j105 rfl (am_is_ext hx13 (am_is_ext hx11 (am_is_ext hx8 ho7))) ?_
      refine s_astoreV j108 rfl (n := 8) (L' := fun w => [some (am_ov (some this)), some (.long v15), none, some (.long v17), none, some (.int a12), some (am_ov w), some (.int a12)]) rfl (by decide) (fun _ => rfl) (fun v19 hv20 => ?_)
      replace h := h v19 hv20
      refine s_goto j110 rfl rfl ?_
      exact h
theorem P_Cs_paidOfWorth (nl : Bool) (Ln : Nat) (xs : Nat → Int32) : am_Jl (TT nl Ln xs) 63 [(0, .aload_n 0, 1, []), (1, .bipush 13, 3, []), (3, .iload_n 1, 4, []), (4, .sipush 10949, 7, []), (7, .invokevirtual 48, 10, [10, 60, 12, 7, 4]), (10, .aload_n 0, 11, []), (11, .iload_n 1, 12, []), (12, .invokevirtual 52, 15, [10, 64, 12, 5, 2]), (15, .lsub, 16, []), (16, .lreturn, 17, [2])] := dk_ck (by decide +kernel)
set_option maxRecDepth 4096 in
theorem w_Cs_paidOfWorth {nl : Bool} {Ln : Nat} {xs : Nat → Int32} {d : Nat} {this : Nat} {p0 : Int32} {σ : am_S} {F : Int64 → am_S → Prop} (h : (am_is σ (some this) 11) ∧ k_Cs_sumOf nl Ln xs d this (13 : Int32) p0 (10949 : Int32) σ (fun a3 σ2 => am_ext σ σ2 → k_Cs_paidOfInterest nl Ln xs d this p0 σ2 (fun a5 σ4 => am_ext σ2 σ4 → F (a3 - a5) σ4))) : k_Cs_paidOfWorth nl Ln xs (d + 1) this p0 σ F := by
  obtain ⟨j0, j1, j3, j4, j7, j10, j11, j12, j15, j16, -⟩ := P_Cs_paidOfWorth nl Ln xs
  have elo : am_lo 2 [am_ov (some this), .int p0] = [some (am_ov (some this)), some (.int p0)] := by simp only [am_lo, am_in_ov, am_in_int, am_in_long, am_in_nil]; rfl
  unfold k_Cs_paidOfWorth
  rw [elo]
  refine s_aload_n j0 rfl rfl ?_
  refine s_bipush j1 rfl kc_bi_13 ?_
  refine s_iload_n j3 rfl rfl ?_
  refine s_sipush j4 rfl kc_si_10949 ?_
  obtain ⟨ho1, h⟩ := h
  refine s_virt j7 rfl rfl rfl rfl ho1 (by decide) (in_Cs_sumOf _ _ _ _) (am_r8 rfl) (am_bL h (fun a3 σ2 h hx2 => ?_))
  replace h := h hx2
  refine s_aload_n j10 rfl rfl ?_
  refine s_iload_n j11 rfl rfl ?_
  refine s_virt j12 rfl rfl rfl rfl (am_is_ext hx2 ho1) (by decide) (in_Cs_paidOfInterest _ _) (am_r8 rfl) (am_bL h (fun a5 σ4 h hx4 => ?_))
  replace h := h hx4
  refine s_g j15 rfl rfl rfl rfl rfl rfl ?_
  exact s_retL j16 rfl h
theorem P_Cs_paidOfInterest (nl : Bool) (Ln : Nat) (xs : Nat → Int32) : am_Jl (TT nl Ln xs) 64 [(0, .lconst 0, 1, []), (1, .lstore_n 2, 2, []), (2, .aload_n 0, 3, []), (3, .getfield 9, 6, [9, 11, 5, 2]), (6, .astore 4, 8, [])] := dk_ck (by decide +kernel)
set_option maxRecDepth 4096 in
theorem w_Cs_paidOfInterest {nl : Bool} {Ln : Nat} {xs : Nat → Int32} {d : Nat} {this : Nat} {p0 : Int32} {σ : am_S} {F : Int64 → am_S → Prop} (h : (am_is σ (some this) 11) ∧ ∀ v2 : Option Nat, v2 = (am_fR σ 11005 this) → c_Cs_paidOfInterest_8 nl Ln xs (d + 1) this p0 (0 : Int64) v2 σ F) : k_Cs_paidOfInterest nl Ln xs (d + 1) this p0 σ F := by
  obtain ⟨j0, j1, j2, j3, j6, -⟩ := P_Cs_paidOfInterest nl Ln xs
  have elo : am_lo 5 [am_ov (some this), .int p0] = [some (am_ov (some this)), some (.int p0), none, none, none] := by simp only [am_lo, am_in_ov, am_in_int, am_in_long, am_in_nil]; rfl
  unfold k_Cs_paidOfInterest
  rw [elo]
  refine s_lconst j0 rfl rfl ?_
  refine s_lstore_n j1 rfl (n := 5) (L' := [some (am_ov (some this)), some (.int p0), some (.long (0 : Int64)), none, none]) rfl (by decide) rfl ?_
  refine s_aload_n j2 rfl rfl ?_
  obtain ⟨ho1, h⟩ := h
  refine s_gfR j3 rfl ho1 ?_
  refine s_astoreV j6 rfl (n := 5) (L' := fun w => [some (am_ov (some this)), some (.int p0), some (.long (0 : Int64)), none, some (am_ov w)]) rfl (by decide) (fun _ => rfl) (fun v2 hv3 => ?_)
  replace h := h v2 hv3
  exact h
theorem P_Cs_paidOfInterest_8 (nl : Bool) (Ln : Nat) (xs : Nat → Int32) : am_Jl (TT nl Ln xs) 64 [(8, .aload 4, 10, []), (10, .ifnull 34, 13, []), (13, .lload_n 2, 14, []), (14, .aload 4, 16, []), (16, .getfield 28, 19, [9, 7, 2, 0]), (19, .iload_n 1, 20, []), (20, .if_icmp .gt 11, 23, []), (23, .aload 4, 25, []), (25, .getfield 45, 28, [9, 7, 9, 1]), (28, .goto 4, 31, []), (31, .lconst 0, 32, []), (32, .ladd, 33, []), (33, .lstore_n 2, 34, []), (34, .aload 4, 36, []), (36, .getfield 21, 39, [9, 7, 5, 2]), (39, .astore 4, 41, []), (41, .goto (-33), 44, []), (44, .lload_n 2, 45, []), (45, .lreturn, 46, [2])] := dk_ck (by decide +kernel)
set_option maxRecDepth 4096 in
theorem w_Cs_paidOfInterest_8 {nl : Bool} {Ln : Nat} {xs : Nat → Int32} {d : Nat} {this : Nat} {x1 : Int32} {x2 : Int64} {x4 : Option Nat} {σ : am_S} {F : Int64 → am_S → Prop} (h : (x4 = none → F x2 σ) ∧ (¬ (x4 = none) → (am_is σ x4 7) ∧ ∀ w5 : Int64, w5 = (if x1 < (am_fI σ 7002 (x4.getD 0)) then (0 : Int64) else (am_fL σ 7009 (x4.getD 0))) → ∀ v7 : Int64, v7 = (x2 + w5) → ∀ v9 : Option Nat, v9 = (am_fR σ 7005 (x4.getD 0)) → c_Cs_paidOfInterest_8 nl Ln xs (d + 1) this x1 v7 v9 σ F)) : c_Cs_paidOfInterest_8 nl Ln xs (d + 1) this x1 x2 x4 σ F := by
  obtain ⟨j8, j10, j13, j14, j16, j19, j20, j23, j25, j28, j31, j32, j33, j34, j36, j39, j41, j44, j45, -⟩ := P_Cs_paidOfInterest_8 nl Ln xs
  unfold c_Cs_paidOfInterest_8
  refine s_aload j8 rfl rfl ?_
  refine s_ifnull j10 rfl rfl (fun hc1 => ?_) (fun hc1 => ?_)
  · replace h := h.1 hc1
    refine s_lload_n j44 rfl rfl ?_
    exact s_retL j45 rfl h
  · replace h := h.2 hc1
    refine s_lload_n j13 rfl rfl ?_
    refine s_aload j14 rfl rfl ?_
    obtain ⟨ho2, h⟩ := h
    refine s_gfI j16 rfl ho2 ?_
    refine s_iload_n j19 rfl rfl ?_
    have K4 : ∀ (w5 : Int64), w5 = (if x1 < (am_fI σ 7002 (x4.getD 0)) then (0 : Int64) else (am_fL σ 7009 (x4.getD 0))) → am_C (TT nl Ln xs) (d + 1) 64 32 [some (am_ov (some this)), some (.int x1), some (.long x2), none, some (am_ov x4)] [.long w5, .long x2] σ (am_qL F) := by
      intro w5 hw6
      replace h := h w5 hw6
      refine s_g j32 rfl rfl rfl rfl rfl rfl ?_
      refine s_lstore_nV j33 rfl (n := 5) (L' := fun w => [some (am_ov (some this)), some (.int x1), some (.long w), none, some (am_ov x4)]) rfl (by decide) (fun _ => rfl) (fun v7 hv8 => ?_)
      replace h := h v7 hv8
      refine s_aload j34 rfl rfl ?_
      refine s_gfR j36 rfl ho2 ?_
      refine s_astoreV j39 rfl (n := 5) (L' := fun w => [some (am_ov (some this)), some (.int x1), some (.long v7), none, some (am_ov w)]) rfl (by decide) (fun _ => rfl) (fun v9 hv10 => ?_)
      replace h := h v9 hv10
      refine s_goto j41 rfl rfl ?_
      exact h
    refine s_ic j20 rfl rfl am_cc_gt (fun hc3 => ?_) (fun hc3 => ?_)
    · refine s_lconst j31 rfl rfl ?_
      exact K4 _ (am_t1 hc3 rfl)
    · refine s_aload j23 rfl rfl ?_
      refine s_gfL j25 rfl ho2 ?_
      refine s_goto j28 rfl rfl ?_
      exact K4 _ (am_t2 hc3 rfl)
theorem P_Math_min2 (nl : Bool) (Ln : Nat) (xs : Nat → Int32) : am_Jl (TT nl Ln xs) 65 [(0, .iload_n 0, 1, []), (1, .iload_n 1, 2, []), (2, .if_icmp .gt 7, 5, []), (5, .iload_n 0, 6, []), (6, .goto 4, 9, []), (9, .iload_n 1, 10, []), (10, .ireturn, 11, [1])] := dk_ck (by decide +kernel)
set_option maxRecDepth 4096 in
theorem w_Math_min2 {nl : Bool} {Ln : Nat} {xs : Nat → Int32} {d : Nat} {p0 : Int32} {p1 : Int32} {σ : am_S} {F : Int32 → am_S → Prop} (h : ∀ w3 : Int32, w3 = (if p1 < p0 then p1 else p0) → F w3 σ) : k_Math_min2 nl Ln xs (d + 1) p0 p1 σ F := by
  obtain ⟨j0, j1, j2, j5, j6, j9, j10, -⟩ := P_Math_min2 nl Ln xs
  have elo : am_lo 2 [.int p0, .int p1] = [some (.int p0), some (.int p1)] := by simp only [am_lo, am_in_ov, am_in_int, am_in_long, am_in_nil]; rfl
  unfold k_Math_min2
  rw [elo]
  refine s_iload_n j0 rfl rfl ?_
  refine s_iload_n j1 rfl rfl ?_
  have K2 : ∀ (w3 : Int32), w3 = (if p1 < p0 then p1 else p0) → am_C (TT nl Ln xs) (d + 1) 65 10 [some (.int p0), some (.int p1)] [.int w3] σ (am_qI F) := by
    intro w3 hw4
    replace h := h w3 hw4
    exact s_retI j10 rfl h
  refine s_ic j2 rfl rfl am_cc_gt (fun hc1 => ?_) (fun hc1 => ?_)
  · refine s_iload_n j9 rfl rfl ?_
    exact K2 _ (am_t1 hc1 rfl)
  · refine s_iload_n j5 rfl rfl ?_
    refine s_goto j6 rfl rfl ?_
    exact K2 _ (am_t2 hc1 rfl)
theorem P_Bk_interestIn (nl : Bool) (Ln : Nat) (xs : Nat → Int32) : am_Jl (TT nl Ln xs) 66 [(0, .aload_n 0, 1, []), (1, .getfield 50, 4, [9, 6, 0, 2]), (4, .getfield 412, 7, [9, 2, 2, 2]), (7, .bipush 11, 9, []), (9, .invokevirtual 416, 12, [10, 67, 4, 3, 2]), (12, .aload_n 1, 13, []), (13, .aload_n 0, 14, []), (14, .getfield 82, 17, [9, 6, 15, 0]), (17, .invokevirtual 421, 20, [10, 64, 12, 5, 2]), (20, .lsub, 21, []), (21, .lstore 4, 23, []), (23, .lload_n 2, 24, []), (24, .lload 4, 26, []), (26, .lconst 0, 27, []), (27, .invokestatic 424, 30, [12, 46, 4, 2]), (30, .invokestatic 430, 33, [12, 49, 4, 2]), (33, .lreturn, 34, [2])] := dk_ck (by decide +kernel)
set_option maxRecDepth 4096 in
theorem w_Bk_interestIn {nl : Bool} {Ln : Nat} {xs : Nat → Int32} {d : Nat} {this : Nat} {p0 : Option Nat} {p1 : Int64} {σ : am_S} {F : Int64 → am_S → Prop} (h : (am_is σ (some this) 6) ∧ (am_is σ (am_fR σ 6000 this) 2) ∧ (am_is σ (am_fR σ 2002 ((am_fR σ 6000 this).getD 0)) 3) ∧ k_Vw_centsOf nl Ln xs d ((am_fR σ 2002 ((am_fR σ 6000 this).getD 0)).getD 0) (11 : Int32) σ (fun a5 σ4 => am_ext σ σ4 → (am_is σ4 p0 11) ∧ k_Cs_paidOfInterest nl Ln xs d (p0.getD 0) (am_fI σ4 6015 this) σ4 (fun a8 σ7 => am_ext σ4 σ7 → ∀ v9 : Int64, v9 = (a5 - a8) → k_Math_max nl Ln xs d v9 (0 : Int64) σ7 (fun a12 σ11 => am_ext σ7 σ11 → k_Math_min nl Ln xs d p1 a12 σ11 (fun a14 σ13 => am_ext σ11 σ13 → F a14 σ13))))) : k_Bk_interestIn nl Ln xs (d + 1) this p0 p1 σ F := by
  obtain ⟨j0, j1, j4, j7, j9, j12, j13, j14, j17, j20, j21, j23, j24, j26, j27, j30, j33, -⟩ := P_Bk_interestIn nl Ln xs
  have elo : am_lo 6 [am_ov (some this), am_ov p0, .long p1] = [some (am_ov (some this)), some (am_ov p0), some (.long p1), none, none, none] := by simp only [am_lo, am_in_ov, am_in_int, am_in_long, am_in_nil]; rfl
  unfold k_Bk_interestIn
  rw [elo]
  refine s_aload_n j0 rfl rfl ?_
  obtain ⟨ho1, h⟩ := h
  refine s_gfR j1 rfl ho1 ?_
  obtain ⟨ho2, h⟩ := h
  refine s_gfR j4 rfl ho2 ?_
  refine s_bipush j7 rfl kc_bi_11 ?_
  obtain ⟨ho3, h⟩ := h
  refine s_virt j9 rfl rfl rfl rfl ho3 (by decide) (in_Vw_centsOf _ _) (am_r8 rfl) (am_bL h (fun a5 σ4 h hx4 => ?_))
  replace h := h hx4
  refine s_aload_n j12 rfl rfl ?_
  refine s_aload_n j13 rfl rfl ?_
  refine s_gfI j14 rfl (am_is_ext hx4 ho1) ?_
  obtain ⟨ho6, h⟩ := h
  refine s_virt j17 rfl rfl rfl rfl ho6 (by decide) (in_Cs_paidOfInterest _ _) (am_r8 rfl) (am_bL h (fun a8 σ7 h hx7 => ?_))
  replace h := h hx7
  refine s_g j20 rfl rfl rfl rfl rfl rfl ?_
  refine s_lstoreV j21 rfl (n := 6) (L' := fun w => [some (am_ov (some this)), some (am_ov p0), some (.long p1), none, some (.long w), none]) rfl (by decide) (fun _ => rfl) (fun v9 hv10 => ?_)
  replace h := h v9 hv10
  refine s_lload_n j23 rfl rfl ?_
  refine s_lload j24 rfl rfl ?_
  refine s_lconst j26 rfl rfl ?_
  refine s_stat j27 rfl rfl rfl rfl (by decide) (in_Math_max _ _) (am_r8 rfl) (am_bL h (fun a12 σ11 h hx11 => ?_))
  replace h := h hx11
  refine s_stat j30 rfl rfl rfl rfl (by decide) (in_Math_min _ _) (am_r8 rfl) (am_bL h (fun a14 σ13 h hx13 => ?_))
  replace h := h hx13
  exact s_retL j33 rfl h
theorem P_Vw_centsOf (nl : Bool) (Ln : Nat) (xs : Nat → Int32) : am_Jl (TT nl Ln xs) 67 [(0, .iconst 0, 1, []), (1, .istore_n 2, 2, [])] := dk_ck (by decide +kernel)
set_option maxRecDepth 4096 in
theorem w_Vw_centsOf {nl : Bool} {Ln : Nat} {xs : Nat → Int32} {d : Nat} {this : Nat} {p0 : Int32} {σ : am_S} {F : Int64 → am_S → Prop} (h : c_Vw_centsOf_2 nl Ln xs (d + 1) this p0 (0 : Int32) σ F) : k_Vw_centsOf nl Ln xs (d + 1) this p0 σ F := by
  obtain ⟨j0, j1, -⟩ := P_Vw_centsOf nl Ln xs
  have elo : am_lo 3 [am_ov (some this), .int p0] = [some (am_ov (some this)), some (.int p0), none] := by simp only [am_lo, am_in_ov, am_in_int, am_in_long, am_in_nil]; rfl
  unfold k_Vw_centsOf
  rw [elo]
  refine s_iconst j0 rfl kc_ic_0 ?_
  refine s_istore_n j1 rfl (n := 3) (L' := [some (am_ov (some this)), some (.int p0), some (.int (0 : Int32))]) rfl (by decide) rfl ?_
  exact h
theorem P_Vw_centsOf_2 (nl : Bool) (Ln : Nat) (xs : Nat → Int32) : am_Jl (TT nl Ln xs) 67 [(2, .iload_n 2, 3, []), (3, .aload_n 0, 4, []), (4, .getfield 25, 7, [9, 3, 4, 0]), (7, .if_icmp .ge 26, 10, []), (10, .aload_n 0, 11, []), (11, .getfield 9, 14, [9, 3, 0, 2]), (14, .iload_n 2, 15, []), (15, .iaload, 16, []), (16, .iload_n 1, 17, []), (17, .if_icmp .ne 10, 20, []), (20, .aload_n 0, 21, []), (21, .getfield 18, 24, [9, 3, 2, 2]), (24, .iload_n 2, 25, []), (25, .laload, 26, []), (26, .lreturn, 27, [2]), (27, .iinc 2 1, 30, []), (30, .goto (-28), 33, []), (33, .lconst 0, 34, []), (34, .lreturn, 35, [2])] := dk_ck (by decide +kernel)
set_option maxRecDepth 4096 in
theorem w_Vw_centsOf_2 {nl : Bool} {Ln : Nat} {xs : Nat → Int32} {d : Nat} {this : Nat} {x1 : Int32} {x2 : Int32} {σ : am_S} {F : Int64 → am_S → Prop} (h : (am_is σ (some this) 3) ∧ (x2 < (am_fI σ 3004 this) → (am_ar σ 1000 (am_fR σ 3000 this) x2) ∧ ((am_aI σ ((am_fR σ 3000 this).getD 0) x2.toNatClampNeg) = x1 → (am_ar σ 1001 (am_fR σ 3002 this) x2) ∧ F (am_aL σ ((am_fR σ 3002 this).getD 0) x2.toNatClampNeg) σ) ∧ (¬ ((am_aI σ ((am_fR σ 3000 this).getD 0) x2.toNatClampNeg) = x1) → c_Vw_centsOf_2 nl Ln xs (d + 1) this x1 (x2 + (1 : Int32)) σ F)) ∧ (¬ (x2 < (am_fI σ 3004 this)) → F (0 : Int64) σ)) : c_Vw_centsOf_2 nl Ln xs (d + 1) this x1 x2 σ F := by
  obtain ⟨j2, j3, j4, j7, j10, j11, j14, j15, j16, j17, j20, j21, j24, j25, j26, j27, j30, j33, j34, -⟩ := P_Vw_centsOf_2 nl Ln xs
  unfold c_Vw_centsOf_2
  refine s_iload_n j2 rfl rfl ?_
  refine s_aload_n j3 rfl rfl ?_
  obtain ⟨ho1, h⟩ := h
  refine s_gfI j4 rfl ho1 ?_
  refine s_icn j7 rfl rfl am_cc_ge (fun hc2 => ?_) (fun hc2 => ?_)
  · replace h := h.2 hc2
    refine s_lconst j33 rfl rfl ?_
    exact s_retL j34 rfl h
  · replace h := h.1 hc2
    refine s_aload_n j10 rfl rfl ?_
    refine s_gfR j11 rfl ho1 ?_
    refine s_iload_n j14 rfl rfl ?_
    obtain ⟨ho3, h⟩ := h
    refine s_iaload j15 rfl ho3 ?_
    refine s_iload_n j16 rfl rfl ?_
    refine s_icn j17 rfl rfl am_cc_ne (fun hc4 => ?_) (fun hc4 => ?_)
    · replace h := h.2 hc4
      refine s_iinc (L' := [some (am_ov (some this)), some (.int x1), some (.int (x2 + (1 : Int32)))]) j27 rfl rfl kc_ic_1 rfl ?_
      refine s_goto j30 rfl rfl ?_
      exact h
    · replace h := h.1 hc4
      refine s_aload_n j20 rfl rfl ?_
      refine s_gfR j21 rfl ho1 ?_
      refine s_iload_n j24 rfl rfl ?_
      obtain ⟨ho5, h⟩ := h
      refine s_laload j25 rfl ho5 ?_
      exact s_retL j26 rfl h
theorem P_Bk_isTooMuch (nl : Bool) (Ln : Nat) (xs : Nat → Int32) : am_Jl (TT nl Ln xs) 68 [(0, .aload_n 0, 1, []), (1, .getfield 50, 4, [9, 6, 0, 2]), (4, .getfield 412, 7, [9, 2, 2, 2]), (7, .astore 6, 9, []), (9, .aload 6, 11, []), (11, .getfield 433, 14, [9, 3, 6, 0]), (14, .ifCond .ne 13, 17, []), (17, .lload_n 2, 18, []), (18, .aload 6, 20, []), (20, .invokevirtual 436, 23, [10, 69, 4, 4, 1]), (23, .lcmp, 24, []), (24, .ifCond .le 5, 27, []), (27, .iconst 1, 28, []), (28, .ireturn, 29, [4]), (29, .aload_n 0, 30, []), (30, .getfield 50, 33, [9, 6, 0, 2]), (33, .getfield 440, 36, [9, 2, 7, 2]), (36, .iconst 4, 37, []), (37, .invokestatic 443, 40, [12, 35, 4, 2]), (40, .astore 7, 42, []), (42, .aload 7, 44, []), (44, .ifnonnull 5, 47, []), (47, .iconst 0, 48, []), (48, .ireturn, 49, [4]), (49, .aload_n 0, 50, []), (50, .aload_n 0, 51, []), (51, .getfield 50, 54, [9, 6, 0, 2]), (54, .getfield 447, 57, [9, 2, 6, 2]), (57, .aload_n 1, 58, []), (58, .getfield 404, 61, [9, 11, 2, 2]), (61, .getfield 312, 64, [9, 10, 2, 0]), (64, .sipush 365, 67, []), (67, .idiv, 68, []), (68, .aload_n 0, 69, []), (69, .getfield 82, 72, [9, 6, 15, 0]), (72, .invokevirtual 451, 75, [10, 70, 7, 7, 4]), (75, .lstore 8, 77, []), (77, .lload_n 2, 78, []), (78, .lload 4, 80, []), (80, .lsub, 81, []), (81, .aload 7, 83, []), (83, .getfield 455, 86, [9, 8, 1, 0]), (86, .i2l, 87, []), (87, .lload 8, 89, []), (89, .lsub, 90, []), (90, .lcmp, 91, []), (91, .ifCond .le 7, 94, []), (94, .iconst 1, 95, []), (95, .goto 4, 98, []), (98, .iconst 0, 99, []), (99, .ireturn, 100, [4])] := dk_ck (by decide +kernel)
set_option maxRecDepth 4096 in
theorem w_Bk_isTooMuch {nl : Bool} {Ln : Nat} {xs : Nat → Int32} {d : Nat} {this : Nat} {p0 : Option Nat} {p1 : Int64} {p2 : Int64} {σ : am_S} {F : Bool → am_S → Prop} (h : (am_is σ (some this) 6) ∧ (am_is σ (am_fR σ 6000 this) 2) ∧ ∀ v3 : Option Nat, v3 = (am_fR σ 2002 ((am_fR σ 6000 this).getD 0)) → (am_is σ v3 3) ∧ ((am_fI σ 3006 (v3.getD 0)) = 0 → k_Vw_total nl Ln xs d (v3.getD 0) σ (fun a8 σ7 => am_ext σ σ7 → (a8 < p1 → F true σ7) ∧ (¬ (a8 < p1) → (am_is σ7 (am_fR σ7 6000 this) 2) ∧ k_Nd_lastOf nl Ln xs d (am_fR σ7 2007 ((am_fR σ7 6000 this).getD 0)) (4 : Int32) σ7 (fun a12 σ11 => am_ext σ7 σ11 → (a12 = none → F false σ11) ∧ (¬ (a12 = none) → (am_is σ11 (am_fR σ11 6000 this) 2) ∧ (am_is σ11 p0 11) ∧ (am_is σ11 (am_fR σ11 11002 (p0.getD 0)) 10) ∧ k_Bk_usedOf nl Ln xs d this (am_fR σ11 2006 ((am_fR σ11 6000 this).getD 0)) ((am_fI σ11 10002 ((am_fR σ11 11002 (p0.getD 0)).getD 0)) / (365 : Int32)) (am_fI σ11 6015 this) σ11 (fun a18 σ17 => am_ext σ11 σ17 → (am_is σ17 a12 8) ∧ F (decide (((am_fI σ17 8001 (a12.getD 0)).toInt64 - a18) < (p1 - p2))) σ17)))))) ∧ (¬ ((am_fI σ 3006 (v3.getD 0)) = 0) → F true σ)) : k_Bk_isTooMuch nl Ln xs (d + 1) this p0 p1 p2 σ F := by
  obtain ⟨j0, j1, j4, j7, j9, j11, j14, j17, j18, j20, j23, j24, j27, j28, j29, j30, j33, j36, j37, j40, j42, j44, j47, j48, j49, j50, j51, j54, j57, j58, j61, j64, j67, j68, j69, j72, j75, j77, j78, j80, j81, j83, j86, j87, j89, j90, j91, j94, j95, j98, j99, -⟩ := P_Bk_isTooMuch nl Ln xs
  have elo : am_lo 10 [am_ov (some this), am_ov p0, .long p1, .long p2] = [some (am_ov (some this)), some (am_ov p0), some (.long p1), none, some (.long p2), none, none, none, none, none] := by simp only [am_lo, am_in_ov, am_in_int, am_in_long, am_in_nil]; rfl
  unfold k_Bk_isTooMuch
  rw [elo]
  refine s_aload_n j0 rfl rfl ?_
  obtain ⟨ho1, h⟩ := h
  refine s_gfR j1 rfl ho1 ?_
  obtain ⟨ho2, h⟩ := h
  refine s_gfR j4 rfl ho2 ?_
  refine s_astoreV j7 rfl (n := 10) (L' := fun w => [some (am_ov (some this)), some (am_ov p0), some (.long p1), none, some (.long p2), none, some (am_ov w), none, none, none]) rfl (by decide) (fun _ => rfl) (fun v3 hv4 => ?_)
  replace h := h v3 hv4
  refine s_aload j9 rfl rfl ?_
  obtain ⟨ho5, h⟩ := h
  refine s_gfI j11 rfl ho5 ?_
  refine s_ifn j14 rfl rfl am_cc_ne (fun hc6 => ?_) (fun hc6 => ?_)
  · replace h := h.2 hc6
    refine s_iconst j27 rfl kc_ic_1 ?_
    exact s_retZ1 j28 rfl h
  · replace h := h.1 hc6
    refine s_lload_n j17 rfl rfl ?_
    refine s_aload j18 rfl rfl ?_
    refine s_virt j20 rfl rfl rfl rfl ho5 (by decide) (in_Vw_total _) (am_r8 rfl) (am_bL h (fun a8 σ7 h hx7 => ?_))
    replace h := h hx7
    refine s_g j23 rfl rfl rfl rfl rfl rfl ?_
    refine s_ifn j24 rfl rfl am_cl_le (fun hc9 => ?_) (fun hc9 => ?_)
    · replace h := h.2 hc9
      refine s_aload_n j29 rfl rfl ?_
      refine s_gfR j30 rfl (am_is_ext hx7 ho1) ?_
      obtain ⟨ho10, h⟩ := h
      refine s_gfR j33 rfl ho10 ?_
      refine s_iconst j36 rfl kc_ic_4 ?_
      refine s_stat j37 rfl rfl rfl rfl (by decide) (in_Nd_lastOf _ _) (am_r8 rfl) (am_bR h (fun a12 σ11 h hx11 => ?_))
      replace h := h hx11
      refine s_astore j40 rfl (n := 10) (L' := [some (am_ov (some this)), some (am_ov p0), some (.long p1), none, some (.long p2), none, some (am_ov v3), some (am_ov a12), none, none]) rfl (by decide) (am_st1_R [_, _, _, _, _, _] _ _ _ _) ?_
      refine s_aload j42 rfl rfl ?_
      refine s_ifnonnull j44 rfl rfl (fun hc13 => ?_) (fun hc13 => ?_)
      · replace h := h.2 hc13
        refine s_aload_n j49 rfl rfl ?_
        refine s_aload_n j50 rfl rfl ?_
        refine s_gfR j51 rfl (am_is_ext hx11 (am_is_ext hx7 ho1)) ?_
        obtain ⟨ho14, h⟩ := h
        refine s_gfR j54 rfl ho14 ?_
        refine s_aload_n j57 rfl rfl ?_
        obtain ⟨ho15, h⟩ := h
        refine s_gfR j58 rfl ho15 ?_
        obtain ⟨ho16, h⟩ := h
        refine s_gfI j61 rfl ho16 ?_
        refine s_sipush j64 rfl kc_si_365 ?_
        refine s_idiv j67 rfl (by decide) ?_
        refine s_aload_n j68 rfl rfl ?_
        refine s_gfI j69 rfl (am_is_ext hx11 (am_is_ext hx7 ho1)) ?_
        refine s_virt j72 rfl rfl rfl rfl (am_is_ext hx11 (am_is_ext hx7 ho1)) (by decide) (in_Bk_usedOf _ _ _ _) (am_r8 rfl) (am_bL h (fun a18 σ17 h hx17 => ?_))
        replace h := h hx17
        refine s_lstore j75 rfl (n := 10) (L' := [some (am_ov (some this)), some (am_ov p0), some (.long p1), none, some (.long p2), none, some (am_ov v3), some (am_ov a12), some (.long a18), none]) rfl (by decide) (am_st2_R [_, _, _, _, _, _, _] _ _ _ _ _) ?_
        refine s_lload_n j77 rfl rfl ?_
        refine s_lload j78 rfl rfl ?_
        refine s_g j80 rfl rfl rfl rfl rfl rfl ?_
        refine s_aload j81 rfl rfl ?_
        obtain ⟨ho19, h⟩ := h
        refine s_gfI j83 rfl ho19 ?_
        refine s_g j86 rfl rfl rfl rfl rfl rfl ?_
        refine s_lload j87 rfl rfl ?_
        refine s_g j89 rfl rfl rfl rfl rfl rfl ?_
        refine s_g j90 rfl rfl rfl rfl rfl rfl ?_
        have K21 : ∀ (w22 : Int32), w22 = (if ((am_fI σ17 8001 (a12.getD 0)).toInt64 - a18) < (p1 - p2) then (1 : Int32) else 0) → am_C (TT nl Ln xs) (d + 1) 68 99 [some (am_ov (some this)), some (am_ov p0), some (.long p1), none, some (.long p2), none, some (am_ov v3), some (am_ov a12), some (.long a18), none] [.int w22] σ17 (am_qB F) := by
          intro w22 hw23
          subst hw23
          exact s_retZ j99 rfl h
        refine s_ifn j91 rfl rfl am_cl_le (fun hc20 => ?_) (fun hc20 => ?_)
        · refine s_iconst j98 rfl kc_ic_0 ?_
          exact K21 _ (am_e0 (Iff.trans Iff.rfl (am_p10 hc20)))
        · refine s_iconst j94 rfl kc_ic_1 ?_
          refine s_goto j95 rfl rfl ?_
          exact K21 _ (am_e1 (Iff.trans Iff.rfl (am_p9 hc20)))
      · replace h := h.1 hc13
        refine s_iconst j47 rfl kc_ic_0 ?_
        exact s_retZ0 j48 rfl h
    · replace h := h.1 hc9
      refine s_iconst j27 rfl kc_ic_1 ?_
      exact s_retZ1 j28 rfl h
theorem P_Vw_total (nl : Bool) (Ln : Nat) (xs : Nat → Int32) : am_Jl (TT nl Ln xs) 69 [(0, .lconst 0, 1, []), (1, .lstore_n 1, 2, []), (2, .iconst 0, 3, []), (3, .istore_n 3, 4, [])] := dk_ck (by decide +kernel)
set_option maxRecDepth 4096 in
theorem w_Vw_total {nl : Bool} {Ln : Nat} {xs : Nat → Int32} {d : Nat} {this : Nat} {σ : am_S} {F : Int64 → am_S → Prop} (h : c_Vw_total_4 nl Ln xs (d + 1) this (0 : Int64) (0 : Int32) σ F) : k_Vw_total nl Ln xs (d + 1) this σ F := by
  obtain ⟨j0, j1, j2, j3, -⟩ := P_Vw_total nl Ln xs
  have elo : am_lo 4 [am_ov (some this)] = [some (am_ov (some this)), none, none, none] := by simp only [am_lo, am_in_ov, am_in_int, am_in_long, am_in_nil]; rfl
  unfold k_Vw_total
  rw [elo]
  refine s_lconst j0 rfl rfl ?_
  refine s_lstore_n j1 rfl (n := 4) (L' := [some (am_ov (some this)), some (.long (0 : Int64)), none, none]) rfl (by decide) (am_st2_R [] _ _ _ _ _) ?_
  refine s_iconst j2 rfl kc_ic_0 ?_
  refine s_istore_n j3 rfl (n := 4) (L' := [some (am_ov (some this)), some (.long (0 : Int64)), none, some (.int (0 : Int32))]) rfl (by decide) rfl ?_
  exact h
theorem P_Vw_total_4 (nl : Bool) (Ln : Nat) (xs : Nat → Int32) : am_Jl (TT nl Ln xs) 69 [(4, .iload_n 3, 5, []), (5, .aload_n 0, 6, []), (6, .getfield 25, 9, [9, 3, 4, 0]), (9, .if_icmp .ge 18, 12, []), (12, .lload_n 1, 13, []), (13, .aload_n 0, 14, []), (14, .getfield 18, 17, [9, 3, 2, 2]), (17, .iload_n 3, 18, []), (18, .laload, 19, []), (19, .ladd, 20, []), (20, .lstore_n 1, 21, []), (21, .iinc 3 1, 24, []), (24, .goto (-20), 27, []), (27, .lload_n 1, 28, []), (28, .lreturn, 29, [2])] := dk_ck (by decide +kernel)
set_option maxRecDepth 4096 in
theorem w_Vw_total_4 {nl : Bool} {Ln : Nat} {xs : Nat → Int32} {d : Nat} {this : Nat} {x1 : Int64} {x3 : Int32} {σ : am_S} {F : Int64 → am_S → Prop} (h : (am_is σ (some this) 3) ∧ (x3 < (am_fI σ 3004 this) → (am_ar σ 1001 (am_fR σ 3002 this) x3) ∧ ∀ v4 : Int64, v4 = (x1 + (am_aL σ ((am_fR σ 3002 this).getD 0) x3.toNatClampNeg)) → c_Vw_total_4 nl Ln xs (d + 1) this v4 (x3 + (1 : Int32)) σ F) ∧ (¬ (x3 < (am_fI σ 3004 this)) → F x1 σ)) : c_Vw_total_4 nl Ln xs (d + 1) this x1 x3 σ F := by
  obtain ⟨j4, j5, j6, j9, j12, j13, j14, j17, j18, j19, j20, j21, j24, j27, j28, -⟩ := P_Vw_total_4 nl Ln xs
  unfold c_Vw_total_4
  refine s_iload_n j4 rfl rfl ?_
  refine s_aload_n j5 rfl rfl ?_
  obtain ⟨ho1, h⟩ := h
  refine s_gfI j6 rfl ho1 ?_
  refine s_icn j9 rfl rfl am_cc_ge (fun hc2 => ?_) (fun hc2 => ?_)
  · replace h := h.2 hc2
    refine s_lload_n j27 rfl rfl ?_
    exact s_retL j28 rfl h
  · replace h := h.1 hc2
    refine s_lload_n j12 rfl rfl ?_
    refine s_aload_n j13 rfl rfl ?_
    refine s_gfR j14 rfl ho1 ?_
    refine s_iload_n j17 rfl rfl ?_
    obtain ⟨ho3, h⟩ := h
    refine s_laload j18 rfl ho3 ?_
    refine s_g j19 rfl rfl rfl rfl rfl rfl ?_
    refine s_lstore_nV j20 rfl (n := 4) (L' := fun w => [some (am_ov (some this)), some (.long w), none, some (.int x3)]) rfl (by decide) (fun _ => am_st2_R [] _ _ _ _ _) (fun v4 hv5 => ?_)
    replace h := h v4 hv5
    refine s_iinc (L' := [some (am_ov (some this)), some (.long v4), none, some (.int (x3 + (1 : Int32)))]) j21 rfl rfl kc_ic_1 rfl ?_
    refine s_goto j24 rfl rfl ?_
    exact h
theorem P_Bk_usedOf (nl : Bool) (Ln : Nat) (xs : Nat → Int32) : am_Jl (TT nl Ln xs) 70 [(0, .lconst 0, 1, []), (1, .lstore 4, 3, []), (3, .iconst 0, 4, []), (4, .istore 6, 6, [])] := dk_ck (by decide +kernel)
set_option maxRecDepth 4096 in
theorem w_Bk_usedOf {nl : Bool} {Ln : Nat} {xs : Nat → Int32} {d : Nat} {this : Nat} {p0 : Option Nat} {p1 : Int32} {p2 : Int32} {σ : am_S} {F : Int64 → am_S → Prop} (h : c_Bk_usedOf_6 nl Ln xs (d + 1) this p0 p1 p2 (0 : Int64) (0 : Int32) σ F) : k_Bk_usedOf nl Ln xs (d + 1) this p0 p1 p2 σ F := by
  obtain ⟨j0, j1, j3, j4, -⟩ := P_Bk_usedOf nl Ln xs
  have elo : am_lo 7 [am_ov (some this), am_ov p0, .int p1, .int p2] = [some (am_ov (some this)), some (am_ov p0), some (.int p1), some (.int p2), none, none, none] := by simp only [am_lo, am_in_ov, am_in_int, am_in_long, am_in_nil]; rfl
  unfold k_Bk_usedOf
  rw [elo]
  refine s_lconst j0 rfl rfl ?_
  refine s_lstore j1 rfl (n := 7) (L' := [some (am_ov (some this)), some (am_ov p0), some (.int p1), some (.int p2), some (.long (0 : Int64)), none, none]) rfl (by decide) rfl ?_
  refine s_iconst j3 rfl kc_ic_0 ?_
  refine s_istore j4 rfl (n := 7) (L' := [some (am_ov (some this)), some (am_ov p0), some (.int p1), some (.int p2), some (.long (0 : Int64)), none, some (.int (0 : Int32))]) rfl (by decide) rfl ?_
  exact h
theorem P_Bk_usedOf_6 (nl : Bool) (Ln : Nat) (xs : Nat → Int32) : am_Jl (TT nl Ln xs) 70 [(6, .iload 6, 8, []), (8, .aload_n 0, 9, []), (9, .getfield 79, 12, [9, 6, 14, 0]), (12, .if_icmp .ge 59, 15, []), (15, .aload_n 0, 16, []), (16, .aload_n 0, 17, []), (17, .getfield 32, 20, [9, 6, 6, 2]), (20, .iload 6, 22, []), (22, .aaload, 23, []), (23, .aload_n 1, 24, []), (24, .iload_n 2, 25, []), (25, .iload_n 3, 26, []), (26, .invokevirtual 467, 29, [10, 59, 7, 5, 5]), (29, .ifCond .eq 36, 32, []), (32, .lload 4, 34, []), (34, .aload_n 0, 35, []), (35, .getfield 32, 38, [9, 6, 6, 2]), (38, .iload 6, 40, []), (40, .aaload, 41, []), (41, .iload_n 3, 42, []), (42, .invokevirtual 387, 45, [10, 63, 12, 2, 2]), (45, .aload_n 0, 46, []), (46, .getfield 32, 49, [9, 6, 6, 2]), (49, .iload 6, 51, []), (51, .aaload, 52, []), (52, .bipush 19, 54, []), (54, .iload_n 3, 55, []), (55, .sipush 10949, 58, []), (58, .invokevirtual 383, 61, [10, 60, 12, 7, 4]), (61, .lsub, 62, []), (62, .ladd, 63, []), (63, .lstore 4, 65, []), (65, .iinc 6 1, 68, []), (68, .goto (-62), 71, []), (71, .lload 4, 73, []), (73, .lreturn, 74, [2])] := dk_ck (by decide +kernel)
set_option maxRecDepth 4096 in
theorem w_Bk_usedOf_6 {nl : Bool} {Ln : Nat} {xs : Nat → Int32} {d : Nat} {this : Nat} {x1 : Option Nat} {x2 : Int32} {x3 : Int32} {x4 : Int64} {x6 : Int32} {σ : am_S} {F : Int64 → am_S → Prop} (h : (am_is σ (some this) 6) ∧ (x6 < (am_fI σ 6014 this) → (am_ar σ 2011 (am_fR σ 6006 this) x6) ∧ k_Bk_isOfCover nl Ln xs d this (am_aR σ ((am_fR σ 6006 this).getD 0) x6.toNatClampNeg) x1 x2 x3 σ (fun a5 σ4 => am_ext σ σ4 → (a5 = true → (am_ar σ4 2011 (am_fR σ4 6006 this) x6) ∧ (am_is σ4 (am_aR σ4 ((am_fR σ4 6006 this).getD 0) x6.toNatClampNeg) 11) ∧ k_Cs_paidOfWorth nl Ln xs d ((am_aR σ4 ((am_fR σ4 6006 this).getD 0) x6.toNatClampNeg).getD 0) x3 σ4 (fun a10 σ9 => am_ext σ4 σ9 → (am_ar σ9 2011 (am_fR σ9 6006 this) x6) ∧ (am_is σ9 (am_aR σ9 ((am_fR σ9 6006 this).getD 0) x6.toNatClampNeg) 11) ∧ k_Cs_sumOf nl Ln xs d ((am_aR σ9 ((am_fR σ9 6006 this).getD 0) x6.toNatClampNeg).getD 0) (19 : Int32) x3 (10949 : Int32) σ9 (fun a14 σ13 => am_ext σ9 σ13 → ∀ v15 : Int64, v15 = (x4 + (a10 - a14)) → c_Bk_usedOf_6 nl Ln xs (d + 1) this x1 x2 x3 v15 (x6 + (1 : Int32)) σ13 F))) ∧ (¬ (a5 = true) → c_Bk_usedOf_6 nl Ln xs (d + 1) this x1 x2 x3 x4 (x6 + (1 : Int32)) σ4 F))) ∧ (¬ (x6 < (am_fI σ 6014 this)) → F x4 σ)) : c_Bk_usedOf_6 nl Ln xs (d + 1) this x1 x2 x3 x4 x6 σ F := by
  obtain ⟨j6, j8, j9, j12, j15, j16, j17, j20, j22, j23, j24, j25, j26, j29, j32, j34, j35, j38, j40, j41, j42, j45, j46, j49, j51, j52, j54, j55, j58, j61, j62, j63, j65, j68, j71, j73, -⟩ := P_Bk_usedOf_6 nl Ln xs
  unfold c_Bk_usedOf_6
  refine s_iload j6 rfl rfl ?_
  refine s_aload_n j8 rfl rfl ?_
  obtain ⟨ho1, h⟩ := h
  refine s_gfI j9 rfl ho1 ?_
  refine s_icn j12 rfl rfl am_cc_ge (fun hc2 => ?_) (fun hc2 => ?_)
  · replace h := h.2 hc2
    refine s_lload j71 rfl rfl ?_
    exact s_retL j73 rfl h
  · replace h := h.1 hc2
    refine s_aload_n j15 rfl rfl ?_
    refine s_aload_n j16 rfl rfl ?_
    refine s_gfR j17 rfl ho1 ?_
    refine s_iload j20 rfl rfl ?_
    obtain ⟨ho3, h⟩ := h
    refine s_aaload (k := 2011) (by decide) kq_2011 j22 rfl ho3 ?_
    refine s_aload_n j23 rfl rfl ?_
    refine s_iload_n j24 rfl rfl ?_
    refine s_iload_n j25 rfl rfl ?_
    refine s_virt j26 rfl rfl rfl rfl ho1 (by decide) (in_Bk_isOfCover _ _ _ _ _) (am_r8 rfl) (am_bB h (fun a5 σ4 h hx4 => ?_))
    replace h := h hx4
    refine s_ifn j29 rfl rfl am_cb_eq (fun hc6 => ?_) (fun hc6 => ?_)
    · replace h := h.2 hc6
      refine s_iinc (L' := [some (am_ov (some this)), some (am_ov x1), some (.int x2), some (.int x3), some (.long x4), none, some (.int (x6 + (1 : Int32)))]) j65 rfl rfl kc_ic_1 rfl ?_
      refine s_goto j68 rfl rfl ?_
      exact h
    · replace h := h.1 hc6
      refine s_lload j32 rfl rfl ?_
      refine s_aload_n j34 rfl rfl ?_
      refine s_gfR j35 rfl (am_is_ext hx4 ho1) ?_
      refine s_iload j38 rfl rfl ?_
      obtain ⟨ho7, h⟩ := h
      refine s_aaload (k := 2011) (by decide) kq_2011 j40 rfl ho7 ?_
      refine s_iload_n j41 rfl rfl ?_
      obtain ⟨ho8, h⟩ := h
      refine s_virt j42 rfl rfl rfl rfl ho8 (by decide) (in_Cs_paidOfWorth _ _) (am_r8 rfl) (am_bL h (fun a10 σ9 h hx9 => ?_))
      replace h := h hx9
      refine s_aload_n j45 rfl rfl ?_
      refine s_gfR j46 rfl (am_is_ext hx9 (am_is_ext hx4 ho1)) ?_
      refine s_iload j49 rfl rfl ?_
      obtain ⟨ho11, h⟩ := h
      refine s_aaload (k := 2011) (by decide) kq_2011 j51 rfl ho11 ?_
      refine s_bipush j52 rfl kc_bi_19 ?_
      refine s_iload_n j54 rfl rfl ?_
      refine s_sipush j55 rfl kc_si_10949 ?_
      obtain ⟨ho12, h⟩ := h
      refine s_virt j58 rfl rfl rfl rfl ho12 (by decide) (in_Cs_sumOf _ _ _ _) (am_r8 rfl) (am_bL h (fun a14 σ13 h hx13 => ?_))
      replace h := h hx13
      refine s_g j61 rfl rfl rfl rfl rfl rfl ?_
      refine s_g j62 rfl rfl rfl rfl rfl rfl ?_
      refine s_lstoreV j63 rfl (n := 7) (L' := fun w => [some (am_ov (some this)), some (am_ov x1), some (.int x2), some (.int x3), some (.long w), none, some (.int x6)]) rfl (by decide) (fun _ => rfl) (fun v15 hv16 => ?_)
      replace h := h v15 hv16
      refine s_iinc (L' := [some (am_ov (some this)), some (am_ov x1), some (.int x2), some (.int x3), some (.long v15), none, some (.int (x6 + (1 : Int32)))]) j65 rfl rfl kc_ic_1 rfl ?_
      refine s_goto j68 rfl rfl ?_
      exact h
theorem P_Sk_drawEntry (nl : Bool) (Ln : Nat) (xs : Nat → Int32) : am_Jl (TT nl Ln xs) 71 [(0, .aload_n 0, 1, []), (1, .getfield 7, 4, [9, 5, 0, 2]), (4, .ifnonnull 13, 7, []), (7, .new 13, 10, [2, 7, 10]), (10, .dup, 11, []), (11, .invokespecial 15, 14, [11, 72, 8, 1, 1]), (14, .goto 7, 17, []), (17, .aload_n 0, 18, []), (18, .getfield 7, 21, [9, 5, 0, 2])] := dk_ck (by decide +kernel)
set_option maxRecDepth 4096 in
theorem w_Sk_drawEntry {nl : Bool} {Ln : Nat} {xs : Nat → Int32} {d : Nat} {this : Nat} {p0 : Int32} {p1 : Int32} {p2 : Int32} {p3 : Int64} {p4 : Option Nat} {p5 : Option Nat} {σ : am_S} {F : Option Nat → am_S → Prop} (h : (am_is σ (some this) 5) ∧ ((am_fR σ 5000 this) = none → ∀ σ3, σ3 = am_new σ 8 0 10 → am_ext σ σ3 → am_fz σ3 (am_nx σ) → k_En_init nl Ln xs d (am_nx σ) σ3 (fun σ5 => am_ext σ3 σ5 → c_Sk_drawEntry_21 nl Ln xs (d + 1) this p0 p1 p2 p3 p4 p5 (some (am_nx σ)) σ5 F)) ∧ (¬ ((am_fR σ 5000 this) = none) → c_Sk_drawEntry_21 nl Ln xs (d + 1) this p0 p1 p2 p3 p4 p5 (am_fR σ 5000 this) σ F)) : k_Sk_drawEntry nl Ln xs (d + 1) this p0 p1 p2 p3 p4 p5 σ F := by
  obtain ⟨j0, j1, j4, j7, j10, j11, j14, j17, j18, -⟩ := P_Sk_drawEntry nl Ln xs
  have elo : am_lo 9 [am_ov (some this), .int p0, .int p1, .int p2, .long p3, am_ov p4, am_ov p5] = [some (am_ov (some this)), some (.int p0), some (.int p1), some (.int p2), some (.long p3), none, some (am_ov p4), some (am_ov p5), none] := by simp only [am_lo, am_in_ov, am_in_int, am_in_long, am_in_nil]; rfl
  unfold k_Sk_drawEntry
  rw [elo]
  refine s_aload_n j0 rfl rfl ?_
  obtain ⟨ho1, h⟩ := h
  refine s_gfR j1 rfl ho1 ?_
  refine s_ifnonnull j4 rfl rfl (fun hc2 => ?_) (fun hc2 => ?_)
  · replace h := h.2 hc2
    refine s_aload_n j17 rfl rfl ?_
    refine s_gfR j18 rfl ho1 ?_
    exact h
  · replace h := h.1 hc2
    refine s_new j7 rfl (fun σ3 e4 e4x e4z => ?_)
    replace h := h σ3 e4 e4x e4z
    refine s_dup j10 rfl (am_cov _) ?_
    refine s_spec j11 rfl rfl rfl rfl (by decide) (in_En_init _) (am_r8 rfl) (am_bV h (fun σ5 h hx5 => ?_))
    replace h := h hx5
    refine s_goto j14 rfl rfl ?_
    exact h
theorem P_Sk_drawEntry_21 (nl : Bool) (Ln : Nat) (xs : Nat → Int32) : am_Jl (TT nl Ln xs) 71 [(21, .astore 8, 23, []), (23, .aload_n 0, 24, []), (24, .aload 8, 26, []), (26, .getfield 16, 29, [9, 7, 5, 2]), (29, .putfield 7, 32, [9, 5, 0, 2]), (32, .aload 8, 34, []), (34, .iload_n 1, 35, []), (35, .putfield 19, 38, [9, 7, 0, 0]), (38, .aload 8, 40, []), (40, .iload_n 2, 41, []), (41, .putfield 23, 44, [9, 7, 1, 0]), (44, .aload 8, 46, []), (46, .iload_n 3, 47, []), (47, .putfield 26, 50, [9, 7, 2, 0]), (50, .aload 8, 52, []), (52, .lload 4, 54, []), (54, .putfield 29, 57, [9, 7, 3, 1]), (57, .aload 8, 59, []), (59, .aload 6, 61, []), (61, .putfield 33, 64, [9, 7, 4, 2]), (64, .aload 8, 66, []), (66, .aload 7, 68, []), (68, .putfield 16, 71, [9, 7, 5, 2]), (71, .aload 8, 73, []), (73, .areturn, 74, [3])] := dk_ck (by decide +kernel)
set_option maxRecDepth 4096 in
theorem w_Sk_drawEntry_21 {nl : Bool} {Ln : Nat} {xs : Nat → Int32} {d : Nat} {this : Nat} {x1 : Int32} {x2 : Int32} {x3 : Int32} {x4 : Int64} {x6 : Option Nat} {x7 : Option Nat} {y0 : Option Nat} {σ : am_S} {F : Option Nat → am_S → Prop} (h : (am_is σ y0 7) ∧ (am_is σ (some this) 5) ∧ ∀ σ3, σ3 = am_sfR σ 5000 this (am_fR σ 7005 (y0.getD 0)) → ∀ σ6, σ6 = am_sfI σ3 7000 (y0.getD 0) x1 → ∀ σ9, σ9 = am_sfI σ6 7001 (y0.getD 0) x2 → ∀ σ12, σ12 = am_sfI σ9 7002 (y0.getD 0) x3 → ∀ σ15, σ15 = am_sfL σ12 7003 (y0.getD 0) x4 → ∀ σ18, σ18 = am_sfR σ15 7004 (y0.getD 0) x6 → ∀ σ21, σ21 = am_sfR σ18 7005 (y0.getD 0) x7 → F y0 σ21) : c_Sk_drawEntry_21 nl Ln xs (d + 1) this x1 x2 x3 x4 x6 x7 y0 σ F := by
  obtain ⟨j21, j23, j24, j26, j29, j32, j34, j35, j38, j40, j41, j44, j46, j47, j50, j52, j54, j57, j59, j61, j64, j66, j68, j71, j73, -⟩ := P_Sk_drawEntry_21 nl Ln xs
  unfold c_Sk_drawEntry_21
  refine s_astore j21 rfl (n := 9) (L' := [some (am_ov (some this)), some (.int x1), some (.int x2), some (.int x3), some (.long x4), none, some (am_ov x6), some (am_ov x7), some (am_ov y0)]) rfl (by decide) (am_st1_R [_, _, _, _, _, _, _] _ _ _ _) ?_
  refine s_aload_n j23 rfl rfl ?_
  refine s_aload j24 rfl rfl ?_
  obtain ⟨ho1, h⟩ := h
  refine s_gfR j26 rfl ho1 ?_
  obtain ⟨ho2, h⟩ := h
  refine s_pfR j29 rfl ho2 (fun σ3 e4 => ?_)
  replace h := h σ3 e4
  have ek5 : am_kd σ3 = am_kd σ := by rw [e4]
  refine s_aload j32 rfl rfl ?_
  refine s_iload_n j34 rfl rfl ?_
  refine s_pfI j35 rfl (am_is_kd ek5 ho1) (fun σ6 e7 => ?_)
  replace h := h σ6 e7
  have ek8 : am_kd σ6 = am_kd σ3 := by rw [e7]
  refine s_aload j38 rfl rfl ?_
  refine s_iload_n j40 rfl rfl ?_
  refine s_pfI j41 rfl (am_is_kd ek8 (am_is_kd ek5 ho1)) (fun σ9 e10 => ?_)
  replace h := h σ9 e10
  have ek11 : am_kd σ9 = am_kd σ6 := by rw [e10]
  refine s_aload j44 rfl rfl ?_
  refine s_iload_n j46 rfl rfl ?_
  refine s_pfI j47 rfl (am_is_kd ek11 (am_is_kd ek8 (am_is_kd ek5 ho1))) (fun σ12 e13 => ?_)
  replace h := h σ12 e13
  have ek14 : am_kd σ12 = am_kd σ9 := by rw [e13]
  refine s_aload j50 rfl rfl ?_
  refine s_lload j52 rfl rfl ?_
  refine s_pfL j54 rfl (am_is_kd ek14 (am_is_kd ek11 (am_is_kd ek8 (am_is_kd ek5 ho1)))) (fun σ15 e16 => ?_)
  replace h := h σ15 e16
  have ek17 : am_kd σ15 = am_kd σ12 := by rw [e16]
  refine s_aload j57 rfl rfl ?_
  refine s_aload j59 rfl rfl ?_
  refine s_pfR j61 rfl (am_is_kd ek17 (am_is_kd ek14 (am_is_kd ek11 (am_is_kd ek8 (am_is_kd ek5 ho1))))) (fun σ18 e19 => ?_)
  replace h := h σ18 e19
  have ek20 : am_kd σ18 = am_kd σ15 := by rw [e19]
  refine s_aload j64 rfl rfl ?_
  refine s_aload j66 rfl rfl ?_
  refine s_pfR j68 rfl (am_is_kd ek20 (am_is_kd ek17 (am_is_kd ek14 (am_is_kd ek11 (am_is_kd ek8 (am_is_kd ek5 ho1)))))) (fun σ21 e22 => ?_)
  replace h := h σ21 e22
  have ek23 : am_kd σ21 = am_kd σ18 := by rw [e22]
  refine s_aload j71 rfl rfl ?_
  exact s_retR j73 rfl h
theorem P_En_init (nl : Bool) (Ln : Nat) (xs : Nat → Int32) : am_Jl (TT nl Ln xs) 72 [(0, .aload_n 0, 1, []), (1, .invokespecial 1, 4, [13]), (4, .return_, 5, [0])] := dk_ck (by decide +kernel)
set_option maxRecDepth 4096 in
theorem w_En_init {nl : Bool} {Ln : Nat} {xs : Nat → Int32} {d : Nat} {this : Nat} {σ : am_S} {F : am_S → Prop} (h : F σ) : k_En_init nl Ln xs (d + 1) this σ F := by
  obtain ⟨j0, j1, j4, -⟩ := P_En_init nl Ln xs
  have elo : am_lo 1 [am_ov (some this)] = [some (am_ov (some this))] := by simp only [am_lo, am_in_ov, am_in_int, am_in_long, am_in_nil]; rfl
  unfold k_En_init
  rw [elo]
  refine s_aload_n j0 rfl rfl ?_
  refine s_obj j1 rfl (am_r8 rfl) ?_
  exact s_retV j4 rfl h
theorem P_Bk_logDeed (nl : Bool) (Ln : Nat) (xs : Nat → Int32) : am_Jl (TT nl Ln xs) 73 [(0, .aload_n 1, 1, []), (1, .iload_n 2, 2, []), (2, .laload, 3, []), (3, .l2i, 4, []), (4, .istore 4, 6, []), (6, .aload_n 0, 7, []), (7, .getfield 12, 10, [9, 6, 3, 2]), (10, .iload 4, 12, []), (12, .i2l, 13, []), (13, .invokevirtual 201, 16, [10, 74, 2, 7, 2]), (16, .iconst 1, 17, []), (17, .istore 5, 19, [])] := dk_ck (by decide +kernel)
set_option maxRecDepth 4096 in
theorem w_Bk_logDeed {nl : Bool} {Ln : Nat} {xs : Nat → Int32} {d : Nat} {this : Nat} {p0 : Option Nat} {p1 : Int32} {p2 : Option Nat} {σ : am_S} {F : am_S → Prop} (h : (am_ar σ 1001 p0 p1) ∧ ∀ v2 : Int32, v2 = (am_aL σ (p0.getD 0) p1.toNatClampNeg).toInt32 → (am_is σ (some this) 6) ∧ (am_is σ (am_fR σ 6003 this) 1) ∧ k_By_putNumber nl Ln xs d ((am_fR σ 6003 this).getD 0) v2.toInt64 σ (fun σ6 => am_ext σ σ6 → c_Bk_logDeed_19 nl Ln xs (d + 1) this p0 p1 p2 v2 (1 : Int32) σ6 F)) : k_Bk_logDeed nl Ln xs (d + 1) this p0 p1 p2 σ F := by
  obtain ⟨j0, j1, j2, j3, j4, j6, j7, j10, j12, j13, j16, j17, -⟩ := P_Bk_logDeed nl Ln xs
  have elo : am_lo 6 [am_ov (some this), am_ov p0, .int p1, am_ov p2] = [some (am_ov (some this)), some (am_ov p0), some (.int p1), some (am_ov p2), none, none] := by simp only [am_lo, am_in_ov, am_in_int, am_in_long, am_in_nil]; rfl
  unfold k_Bk_logDeed
  rw [elo]
  refine s_aload_n j0 rfl rfl ?_
  refine s_iload_n j1 rfl rfl ?_
  obtain ⟨ho1, h⟩ := h
  refine s_laload j2 rfl ho1 ?_
  refine s_g j3 rfl rfl rfl rfl rfl rfl ?_
  refine s_istoreV j4 rfl (n := 6) (L' := fun w => [some (am_ov (some this)), some (am_ov p0), some (.int p1), some (am_ov p2), some (.int w), none]) rfl (by decide) (fun _ => am_st1_R [_, _, _] _ _ _ _) (fun v2 hv3 => ?_)
  replace h := h v2 hv3
  refine s_aload_n j6 rfl rfl ?_
  obtain ⟨ho4, h⟩ := h
  refine s_gfR j7 rfl ho4 ?_
  refine s_iload j10 rfl rfl ?_
  refine s_g j12 rfl rfl rfl rfl rfl rfl ?_
  obtain ⟨ho5, h⟩ := h
  refine s_virt j13 rfl rfl rfl rfl ho5 (by decide) (in_By_putNumber _ _) (am_r8 rfl) (am_bV h (fun σ6 h hx6 => ?_))
  replace h := h hx6
  refine s_iconst j16 rfl kc_ic_1 ?_
  refine s_istore j17 rfl (n := 6) (L' := [some (am_ov (some this)), some (am_ov p0), some (.int p1), some (am_ov p2), some (.int v2), some (.int (1 : Int32))]) rfl (by decide) rfl ?_
  exact h
theorem P_Bk_logDeed_19 (nl : Bool) (Ln : Nat) (xs : Nat → Int32) : am_Jl (TT nl Ln xs) 73 [(19, .iload 5, 21, []), (21, .getstatic 205, 24, [7, 506, 0]), (24, .iload 4, 26, []), (26, .iaload, 27, []), (27, .if_icmp .gt 22, 30, []), (30, .aload_n 0, 31, []), (31, .getfield 12, 34, [9, 6, 3, 2]), (34, .aload_n 1, 35, []), (35, .iload_n 2, 36, []), (36, .iload 5, 38, []), (38, .iadd, 39, []), (39, .laload, 40, []), (40, .invokevirtual 201, 43, [10, 74, 2, 7, 2]), (43, .iinc 5 1, 46, []), (46, .goto (-27), 49, []), (49, .iload 4, 51, []), (51, .bipush 6, 53, []), (53, .if_icmp .ne 47, 56, []), (56, .aload_n 0, 57, []), (57, .getfield 12, 60, [9, 6, 3, 2]), (60, .aload_n 3, 61, []), (61, .getfield 208, 64, [9, 1, 1, 0]), (64, .i2l, 65, []), (65, .invokevirtual 201, 68, [10, 74, 2, 7, 2]), (68, .iconst 0, 69, []), (69, .istore 5, 71, []), (100, .return_, 101, [0])] := dk_ck (by decide +kernel)
set_option maxRecDepth 4096 in
theorem w_Bk_logDeed_19 {nl : Bool} {Ln : Nat} {xs : Nat → Int32} {d : Nat} {this : Nat} {x1 : Option Nat} {x2 : Int32} {x3 : Option Nat} {x4 : Int32} {x5 : Int32} {σ : am_S} {F : am_S → Prop} (h : ((am_kd σ 506).1 = 0) ∧ (0 ≤ x4.toInt) ∧ (x4.toInt < am_rl (am_tz (TT nl Ln xs)) 506) ∧ ((am_rv (am_tz (TT nl Ln xs)) 506 x4.toNatClampNeg) < x5 → (x4 = (6 : Int32) → (am_is σ (some this) 6) ∧ (am_is σ x3 1) ∧ (am_is σ (am_fR σ 6003 this) 1) ∧ k_By_putNumber nl Ln xs d ((am_fR σ 6003 this).getD 0) ((am_fI σ 1001 (x3.getD 0)).toInt64) σ (fun σ9 => am_ext σ σ9 → c_Bk_logDeed_71 nl Ln xs (d + 1) this x1 x2 x3 x4 (0 : Int32) σ9 F)) ∧ (¬ (x4 = (6 : Int32)) → F σ)) ∧ (¬ ((am_rv (am_tz (TT nl Ln xs)) 506 x4.toNatClampNeg) < x5) → (am_is σ (some this) 6) ∧ (am_ar σ 1001 x1 (x2 + x5)) ∧ (am_is σ (am_fR σ 6003 this) 1) ∧ k_By_putNumber nl Ln xs d ((am_fR σ 6003 this).getD 0) (am_aL σ (x1.getD 0) (x2 + x5).toNatClampNeg) σ (fun σ14 => am_ext σ σ14 → c_Bk_logDeed_19 nl Ln xs (d + 1) this x1 x2 x3 x4 (x5 + (1 : Int32)) σ14 F))) : c_Bk_logDeed_19 nl Ln xs (d + 1) this x1 x2 x3 x4 x5 σ F := by
  obtain ⟨j19, j21, j24, j26, j27, j30, j31, j34, j35, j36, j38, j39, j40, j43, j46, j49, j51, j53, j56, j57, j60, j61, j64, j65, j68, j69, j100, -⟩ := P_Bk_logDeed_19 nl Ln xs
  unfold c_Bk_logDeed_19
  refine s_iload j19 rfl rfl ?_
  refine s_static j21 rfl ?_
  refine s_iload j24 rfl rfl ?_
  obtain ⟨ho1, h⟩ := h
  obtain ⟨ho2, h⟩ := h
  obtain ⟨ho3, h⟩ := h
  refine s_ialoadR j26 rfl (by decide) ho1 rfl ho2 ho3 ?_
  refine s_ic j27 rfl rfl am_cc_gt (fun hc4 => ?_) (fun hc4 => ?_)
  · replace h := h.1 hc4
    refine s_iload j49 rfl rfl ?_
    refine s_bipush j51 rfl kc_bi_6 ?_
    refine s_icn j53 rfl rfl am_cc_ne (fun hc5 => ?_) (fun hc5 => ?_)
    · replace h := h.2 hc5
      exact s_retV j100 rfl h
    · replace h := h.1 hc5
      refine s_aload_n j56 rfl rfl ?_
      obtain ⟨ho6, h⟩ := h
      refine s_gfR j57 rfl ho6 ?_
      refine s_aload_n j60 rfl rfl ?_
      obtain ⟨ho7, h⟩ := h
      refine s_gfI j61 rfl ho7 ?_
      refine s_g j64 rfl rfl rfl rfl rfl rfl ?_
      obtain ⟨ho8, h⟩ := h
      refine s_virt j65 rfl rfl rfl rfl ho8 (by decide) (in_By_putNumber _ _) (am_r8 rfl) (am_bV h (fun σ9 h hx9 => ?_))
      replace h := h hx9
      refine s_iconst j68 rfl kc_ic_0 ?_
      refine s_istore j69 rfl (n := 6) (L' := [some (am_ov (some this)), some (am_ov x1), some (.int x2), some (am_ov x3), some (.int x4), some (.int (0 : Int32))]) rfl (by decide) rfl ?_
      exact h
  · replace h := h.2 hc4
    refine s_aload_n j30 rfl rfl ?_
    obtain ⟨ho11, h⟩ := h
    refine s_gfR j31 rfl ho11 ?_
    refine s_aload_n j34 rfl rfl ?_
    refine s_iload_n j35 rfl rfl ?_
    refine s_iload j36 rfl rfl ?_
    refine s_g j38 rfl rfl rfl rfl rfl rfl ?_
    obtain ⟨ho12, h⟩ := h
    refine s_laload j39 rfl ho12 ?_
    obtain ⟨ho13, h⟩ := h
    refine s_virt j40 rfl rfl rfl rfl ho13 (by decide) (in_By_putNumber _ _) (am_r8 rfl) (am_bV h (fun σ14 h hx14 => ?_))
    replace h := h hx14
    refine s_iinc (L' := [some (am_ov (some this)), some (am_ov x1), some (.int x2), some (am_ov x3), some (.int x4), some (.int (x5 + (1 : Int32)))]) j43 rfl rfl kc_ic_1 rfl ?_
    refine s_goto j46 rfl rfl ?_
    exact h
theorem P_Bk_logDeed_71 (nl : Bool) (Ln : Nat) (xs : Nat → Int32) : am_Jl (TT nl Ln xs) 73 [(71, .iload 5, 73, []), (73, .aload_n 3, 74, []), (74, .getfield 208, 77, [9, 1, 1, 0]), (77, .if_icmp .ge 23, 80, []), (80, .aload_n 0, 81, []), (81, .getfield 12, 84, [9, 6, 3, 2]), (84, .aload_n 3, 85, []), (85, .iload 5, 87, []), (87, .invokevirtual 211, 90, [10, 77, 2, 2, 2]), (90, .i2l, 91, []), (91, .invokevirtual 201, 94, [10, 74, 2, 7, 2]), (94, .iinc 5 1, 97, []), (97, .goto (-26), 100, []), (100, .return_, 101, [0])] := dk_ck (by decide +kernel)
set_option maxRecDepth 4096 in
theorem w_Bk_logDeed_71 {nl : Bool} {Ln : Nat} {xs : Nat → Int32} {d : Nat} {this : Nat} {x1 : Option Nat} {x2 : Int32} {x3 : Option Nat} {x4 : Int32} {x5 : Int32} {σ : am_S} {F : am_S → Prop} (h : (am_is σ x3 1) ∧ (x5 < (am_fI σ 1001 (x3.getD 0)) → (am_is σ (some this) 6) ∧ k_By_byteAt nl Ln xs d (x3.getD 0) x5 σ (fun a5 σ4 => am_ext σ σ4 → (am_is σ4 (am_fR σ 6003 this) 1) ∧ k_By_putNumber nl Ln xs d ((am_fR σ 6003 this).getD 0) a5.toInt64 σ4 (fun σ7 => am_ext σ4 σ7 → c_Bk_logDeed_71 nl Ln xs (d + 1) this x1 x2 x3 x4 (x5 + (1 : Int32)) σ7 F))) ∧ (¬ (x5 < (am_fI σ 1001 (x3.getD 0))) → F σ)) : c_Bk_logDeed_71 nl Ln xs (d + 1) this x1 x2 x3 x4 x5 σ F := by
  obtain ⟨j71, j73, j74, j77, j80, j81, j84, j85, j87, j90, j91, j94, j97, j100, -⟩ := P_Bk_logDeed_71 nl Ln xs
  unfold c_Bk_logDeed_71
  refine s_iload j71 rfl rfl ?_
  refine s_aload_n j73 rfl rfl ?_
  obtain ⟨ho1, h⟩ := h
  refine s_gfI j74 rfl ho1 ?_
  refine s_icn j77 rfl rfl am_cc_ge (fun hc2 => ?_) (fun hc2 => ?_)
  · replace h := h.2 hc2
    exact s_retV j100 rfl h
  · replace h := h.1 hc2
    refine s_aload_n j80 rfl rfl ?_
    obtain ⟨ho3, h⟩ := h
    refine s_gfR j81 rfl ho3 ?_
    refine s_aload_n j84 rfl rfl ?_
    refine s_iload j85 rfl rfl ?_
    refine s_virt j87 rfl rfl rfl rfl ho1 (by decide) (in_By_byteAt _ _) (am_r8 rfl) (am_bI h (fun a5 σ4 h hx4 => ?_))
    replace h := h hx4
    refine s_g j90 rfl rfl rfl rfl rfl rfl ?_
    obtain ⟨ho6, h⟩ := h
    refine s_virt j91 rfl rfl rfl rfl ho6 (by decide) (in_By_putNumber _ _) (am_r8 rfl) (am_bV h (fun σ7 h hx7 => ?_))
    replace h := h hx7
    refine s_iinc (L' := [some (am_ov (some this)), some (am_ov x1), some (.int x2), some (am_ov x3), some (.int x4), some (.int (x5 + (1 : Int32)))]) j94 rfl rfl kc_ic_1 rfl ?_
    refine s_goto j97 rfl rfl ?_
    exact h
theorem P_By_putNumber (nl : Bool) (Ln : Nat) (xs : Nat → Int32) : am_Jl (TT nl Ln xs) 74 [(0, .lload_n 1, 1, []), (1, .iconst 1, 2, []), (2, .lshl, 3, []), (3, .lload_n 1, 4, []), (4, .bipush 63, 6, []), (6, .lshr, 7, []), (7, .lxor, 8, []), (8, .lstore_n 3, 9, []), (9, .iconst 0, 10, []), (10, .istore 5, 12, [])] := dk_ck (by decide +kernel)
set_option maxRecDepth 4096 in
theorem w_By_putNumber {nl : Bool} {Ln : Nat} {xs : Nat → Int32} {d : Nat} {this : Nat} {p0 : Int64} {σ : am_S} {F : am_S → Prop} (h : ∀ v1 : Int64, v1 = ((p0 <<< ((1 : Int32).toInt64 &&& 63)) ^^^ (p0 >>> ((63 : Int32).toInt64 &&& 63))) → c_By_putNumber_12 nl Ln xs (d + 1) this p0 v1 (0 : Int32) none σ F) : k_By_putNumber nl Ln xs (d + 1) this p0 σ F := by
  obtain ⟨j0, j1, j2, j3, j4, j6, j7, j8, j9, j10, -⟩ := P_By_putNumber nl Ln xs
  have elo : am_lo 7 [am_ov (some this), .long p0] = [some (am_ov (some this)), some (.long p0), none, none, none, none, none] := by simp only [am_lo, am_in_ov, am_in_int, am_in_long, am_in_nil]; rfl
  unfold k_By_putNumber
  rw [elo]
  refine s_lload_n j0 rfl rfl ?_
  refine s_iconst j1 rfl kc_ic_1 ?_
  refine s_g j2 rfl rfl rfl rfl rfl rfl ?_
  refine s_lload_n j3 rfl rfl ?_
  refine s_bipush j4 rfl kc_bi_63 ?_
  refine s_g j6 rfl rfl rfl rfl rfl rfl ?_
  refine s_g j7 rfl rfl rfl rfl rfl rfl ?_
  refine s_lstore_nV j8 rfl (n := 7) (L' := fun w => [some (am_ov (some this)), some (.long p0), none, some (.long w), none, none, none]) rfl (by decide) (fun _ => rfl) (fun v1 hv2 => ?_)
  replace h := h v1 hv2
  refine s_iconst j9 rfl kc_ic_0 ?_
  refine s_istore j10 rfl (n := 7) (L' := [some (am_ov (some this)), some (.long p0), none, some (.long v1), none, some (.int (0 : Int32)), none]) rfl (by decide) rfl ?_
  exact h
theorem P_By_putNumber_12 (nl : Bool) (Ln : Nat) (xs : Nat → Int32) : am_Jl (TT nl Ln xs) 74 [(12, .iload 5, 14, []), (14, .bipush 10, 16, []), (16, .if_icmp .ge 50, 19, []), (19, .lload_n 3, 20, []), (20, .ldc2_w 50, 23, [6, 127]), (23, .land, 24, []), (24, .l2i, 25, []), (25, .istore 6, 27, []), (27, .lload_n 3, 28, []), (28, .bipush 7, 30, []), (30, .lushr, 31, []), (31, .lstore_n 3, 32, []), (32, .aload_n 0, 33, []), (33, .lload_n 3, 34, []), (34, .lconst 0, 35, []), (35, .lcmp, 36, []), (36, .ifCond .ne 8, 39, []), (39, .iload 6, 41, []), (41, .goto 9, 44, []), (44, .iload 6, 46, []), (46, .sipush 128, 49, []), (49, .iadd, 50, []), (66, .return_, 67, [0])] := dk_ck (by decide +kernel)
set_option maxRecDepth 4096 in
theorem w_By_putNumber_12 {nl : Bool} {Ln : Nat} {xs : Nat → Int32} {d : Nat} {this : Nat} {x1 : Int64} {x3 : Int64} {x5 : Int32} {x6 : Option Value} {σ : am_S} {F : am_S → Prop} (h : (x5 < (10 : Int32) → ∀ v2 : Int32, v2 = (x3 &&& (127 : Int64)).toInt32 → ∀ v4 : Int64, v4 = ((x3.toUInt64 >>> ((7 : Int32).toInt64.toUInt64 &&& Int64.toUInt64 63)).toInt64) → ∀ w8 : Int32, w8 = (if v4 = (0 : Int64) then v2 else (v2 + (128 : Int32))) → c_By_putNumber_50 nl Ln xs (d + 1) this x1 v4 x5 v2 (some this) w8 σ F) ∧ (¬ (x5 < (10 : Int32)) → F σ)) : c_By_putNumber_12 nl Ln xs (d + 1) this x1 x3 x5 x6 σ F := by
  obtain ⟨j12, j14, j16, j19, j20, j23, j24, j25, j27, j28, j30, j31, j32, j33, j34, j35, j36, j39, j41, j44, j46, j49, j66, -⟩ := P_By_putNumber_12 nl Ln xs
  unfold c_By_putNumber_12
  refine s_iload j12 rfl rfl ?_
  refine s_bipush j14 rfl kc_bi_10 ?_
  refine s_icn j16 rfl rfl am_cc_ge (fun hc1 => ?_) (fun hc1 => ?_)
  · replace h := h.2 hc1
    exact s_retV j66 rfl h
  · replace h := h.1 hc1
    refine s_lload_n j19 rfl rfl ?_
    refine s_ldc2 j20 rfl kc_ll_127 ?_
    refine s_g j23 rfl rfl rfl rfl rfl rfl ?_
    refine s_g j24 rfl rfl rfl rfl rfl rfl ?_
    refine s_istoreV j25 rfl (n := 7) (L' := fun w => [some (am_ov (some this)), some (.long x1), none, some (.long x3), none, some (.int x5), some (.int w)]) rfl (by decide) (fun _ => rfl) (fun v2 hv3 => ?_)
    replace h := h v2 hv3
    refine s_lload_n j27 rfl rfl ?_
    refine s_bipush j28 rfl kc_bi_7 ?_
    refine s_g j30 rfl rfl rfl rfl rfl rfl ?_
    refine s_lstore_nV j31 rfl (n := 7) (L' := fun w => [some (am_ov (some this)), some (.long x1), none, some (.long w), none, some (.int x5), some (.int v2)]) rfl (by decide) (fun _ => rfl) (fun v4 hv5 => ?_)
    replace h := h v4 hv5
    refine s_aload_n j32 rfl rfl ?_
    refine s_lload_n j33 rfl rfl ?_
    refine s_lconst j34 rfl rfl ?_
    refine s_g j35 rfl rfl rfl rfl rfl rfl ?_
    have K7 : ∀ (w8 : Int32), w8 = (if v4 = (0 : Int64) then v2 else (v2 + (128 : Int32))) → am_C (TT nl Ln xs) (d + 1) 74 50 [some (am_ov (some this)), some (.long x1), none, some (.long v4), none, some (.int x5), some (.int v2)] [.int w8, am_ov (some this)] σ (am_qV F) := by
      intro w8 hw9
      replace h := h w8 hw9
      exact h
    refine s_ifn j36 rfl rfl am_cl_ne (fun hc6 => ?_) (fun hc6 => ?_)
    · refine s_iload j44 rfl rfl ?_
      refine s_sipush j46 rfl kc_si_128 ?_
      refine s_g j49 rfl rfl rfl rfl rfl rfl ?_
      exact K7 _ (am_t2 hc6 rfl)
    · refine s_iload j39 rfl rfl ?_
      refine s_goto j41 rfl rfl ?_
      exact K7 _ (am_t1 hc6 rfl)
theorem P_By_putNumber_50 (nl : Bool) (Ln : Nat) (xs : Nat → Int32) : am_Jl (TT nl Ln xs) 74 [(50, .invokevirtual 36, 53, [10, 75, 2, 2, 2]), (53, .lload_n 3, 54, []), (54, .lconst 0, 55, []), (55, .lcmp, 56, []), (56, .ifCond .ne 4, 59, []), (59, .return_, 60, [0]), (60, .iinc 5 1, 63, []), (63, .goto (-51), 66, [])] := dk_ck (by decide +kernel)
set_option maxRecDepth 4096 in
theorem w_By_putNumber_50 {nl : Bool} {Ln : Nat} {xs : Nat → Int32} {d : Nat} {this : Nat} {x1 : Int64} {x3 : Int64} {x5 : Int32} {x6 : Int32} {y0 : Option Nat} {y1 : Int32} {σ : am_S} {F : am_S → Prop} (h : (am_is σ y0 1) ∧ k_By_put nl Ln xs d (y0.getD 0) y1 σ (fun σ2 => am_ext σ σ2 → (x3 = (0 : Int64) → F σ2) ∧ (¬ (x3 = (0 : Int64)) → c_By_putNumber_12 nl Ln xs (d + 1) this x1 x3 (x5 + (1 : Int32)) (some (.int x6)) σ2 F))) : c_By_putNumber_50 nl Ln xs (d + 1) this x1 x3 x5 x6 y0 y1 σ F := by
  obtain ⟨j50, j53, j54, j55, j56, j59, j60, j63, -⟩ := P_By_putNumber_50 nl Ln xs
  unfold c_By_putNumber_50
  obtain ⟨ho1, h⟩ := h
  refine s_virt j50 rfl rfl rfl rfl ho1 (by decide) (in_By_put _ _) (am_r8 rfl) (am_bV h (fun σ2 h hx2 => ?_))
  replace h := h hx2
  refine s_lload_n j53 rfl rfl ?_
  refine s_lconst j54 rfl rfl ?_
  refine s_g j55 rfl rfl rfl rfl rfl rfl ?_
  refine s_ifn j56 rfl rfl am_cl_ne (fun hc4 => ?_) (fun hc4 => ?_)
  · replace h := h.2 hc4
    refine s_iinc (L' := [some (am_ov (some this)), some (.long x1), none, some (.long x3), none, some (.int (x5 + (1 : Int32))), some (.int x6)]) j60 rfl rfl kc_ic_1 rfl ?_
    refine s_goto j63 rfl rfl ?_
    exact h
  · replace h := h.1 hc4
    exact s_retV j59 rfl h
theorem P_By_put (nl : Bool) (Ln : Nat) (xs : Nat → Int32) : am_Jl (TT nl Ln xs) 75 [(0, .aload_n 0, 1, []), (1, .getfield 15, 4, [9, 1, 1, 0]), (4, .aload_n 0, 5, []), (5, .getfield 9, 8, [9, 1, 0, 2]), (8, .arraylength, 9, []), (9, .if_icmp .lt 30, 12, []), (12, .aload_n 0, 13, []), (13, .getfield 15, 16, [9, 1, 1, 0]), (16, .ldc 19, 18, [4, 268435456]), (18, .if_icmp .lt 4, 21, []), (21, .return_, 22, [0]), (22, .aload_n 0, 23, []), (23, .aload_n 0, 24, []), (24, .getfield 9, 27, [9, 1, 0, 2]), (27, .iconst 2, 28, []), (28, .aload_n 0, 29, []), (29, .getfield 15, 32, [9, 1, 1, 0]), (32, .imul, 33, []), (33, .invokestatic 20, 36, [12, 76, 3, 2]), (36, .putfield 9, 39, [9, 1, 0, 2]), (39, .aload_n 0, 40, []), (40, .getfield 9, 43, [9, 1, 0, 2]), (43, .aload_n 0, 44, []), (44, .getfield 15, 47, [9, 1, 1, 0]), (47, .iload_n 1, 48, []), (48, .i2b, 49, []), (49, .bastore, 50, []), (50, .aload_n 0, 51, []), (51, .dup, 52, []), (52, .getfield 15, 55, [9, 1, 1, 0]), (55, .iconst 1, 56, []), (56, .iadd, 57, []), (57, .putfield 15, 60, [9, 1, 1, 0]), (60, .return_, 61, [0])] := dk_ck (by decide +kernel)
set_option maxRecDepth 4096 in
theorem w_By_put {nl : Bool} {Ln : Nat} {xs : Nat → Int32} {d : Nat} {this : Nat} {p0 : Int32} {σ : am_S} {F : am_S → Prop} (h : (am_is σ (some this) 1) ∧ (∃ n, (am_fR σ 1000 this) = some n ∧ (am_kd σ n).1 = 1002) ∧ ((am_fI σ 1001 this) < (Int32.ofNat (am_kd σ ((am_fR σ 1000 this).getD 0)).2) → (am_ar σ 1002 (am_fR σ 1000 this) (am_fI σ 1001 this)) ∧ ∀ σ5, σ5 = am_saI σ ((am_fR σ 1000 this).getD 0) (am_fI σ 1001 this).toNatClampNeg (vp_nar .byte p0.toInt8.toInt32) → ∀ σ8, σ8 = am_sfI σ5 1001 this ((am_fI σ5 1001 this) + (1 : Int32)) → F σ8) ∧ (¬ ((am_fI σ 1001 this) < (Int32.ofNat (am_kd σ ((am_fR σ 1000 this).getD 0)).2)) → ((am_fI σ 1001 this) < (268435456 : Int32) → k_Arr_copyOf nl Ln xs d (am_fR σ 1000 this) ((2 : Int32) * (am_fI σ 1001 this)) σ (fun a13 σ12 => am_ext σ σ12 → ∀ σ14, σ14 = am_sfR σ12 1000 this a13 → (am_ar σ14 1002 (am_fR σ14 1000 this) (am_fI σ14 1001 this)) ∧ ∀ σ18, σ18 = am_saI σ14 ((am_fR σ14 1000 this).getD 0) (am_fI σ14 1001 this).toNatClampNeg (vp_nar .byte p0.toInt8.toInt32) → ∀ σ21, σ21 = am_sfI σ18 1001 this ((am_fI σ18 1001 this) + (1 : Int32)) → F σ21)) ∧ (¬ ((am_fI σ 1001 this) < (268435456 : Int32)) → F σ))) : k_By_put nl Ln xs (d + 1) this p0 σ F := by
  obtain ⟨j0, j1, j4, j5, j8, j9, j12, j13, j16, j18, j21, j22, j23, j24, j27, j28, j29, j32, j33, j36, j39, j40, j43, j44, j47, j48, j49, j50, j51, j52, j55, j56, j57, j60, -⟩ := P_By_put nl Ln xs
  have elo : am_lo 2 [am_ov (some this), .int p0] = [some (am_ov (some this)), some (.int p0)] := by simp only [am_lo, am_in_ov, am_in_int, am_in_long, am_in_nil]; rfl
  unfold k_By_put
  rw [elo]
  refine s_aload_n j0 rfl rfl ?_
  obtain ⟨ho1, h⟩ := h
  refine s_gfI j1 rfl ho1 ?_
  refine s_aload_n j4 rfl rfl ?_
  refine s_gfR j5 rfl ho1 ?_
  obtain ⟨ho2, h⟩ := h
  refine s_len (k := 1002) kn_1002 (by decide) j8 rfl ho2 ?_
  refine s_ic j9 rfl rfl am_cc_lt (fun hc3 => ?_) (fun hc3 => ?_)
  · replace h := h.1 hc3
    refine s_aload_n j39 rfl rfl ?_
    refine s_gfR j40 rfl ho1 ?_
    refine s_aload_n j43 rfl rfl ?_
    refine s_gfI j44 rfl ho1 ?_
    refine s_iload_n j47 rfl rfl ?_
    refine s_g j48 rfl rfl rfl rfl rfl rfl ?_
    obtain ⟨ho4, h⟩ := h
    refine s_bastore j49 rfl ho4 (fun σ5 e6 => ?_)
    replace h := h σ5 e6
    have ek7 : am_kd σ5 = am_kd σ := by rw [e6]
    refine s_aload_n j50 rfl rfl ?_
    refine s_dup j51 rfl (am_cov _) ?_
    refine s_gfI j52 rfl (am_is_kd ek7 ho1) ?_
    refine s_iconst j55 rfl kc_ic_1 ?_
    refine s_g j56 rfl rfl rfl rfl rfl rfl ?_
    refine s_pfI j57 rfl (am_is_kd ek7 ho1) (fun σ8 e9 => ?_)
    replace h := h σ8 e9
    have ek10 : am_kd σ8 = am_kd σ5 := by rw [e9]
    exact s_retV j60 rfl h
  · replace h := h.2 hc3
    refine s_aload_n j12 rfl rfl ?_
    refine s_gfI j13 rfl ho1 ?_
    refine s_ldcI j16 rfl kc_li_268435456 ?_
    refine s_ic j18 rfl rfl am_cc_lt (fun hc11 => ?_) (fun hc11 => ?_)
    · replace h := h.1 hc11
      refine s_aload_n j22 rfl rfl ?_
      refine s_aload_n j23 rfl rfl ?_
      refine s_gfR j24 rfl ho1 ?_
      refine s_iconst j27 rfl kc_ic_2 ?_
      refine s_aload_n j28 rfl rfl ?_
      refine s_gfI j29 rfl ho1 ?_
      refine s_g j32 rfl rfl rfl rfl rfl rfl ?_
      refine s_stat j33 rfl rfl rfl rfl (by decide) (in_Arr_copyOf _ _) (am_r8 rfl) (am_bR h (fun a13 σ12 h hx12 => ?_))
      replace h := h hx12
      refine s_pfR j36 rfl (am_is_ext hx12 ho1) (fun σ14 e15 => ?_)
      replace h := h σ14 e15
      have ek16 : am_kd σ14 = am_kd σ12 := by rw [e15]
      refine s_aload_n j39 rfl rfl ?_
      refine s_gfR j40 rfl (am_is_kd ek16 (am_is_ext hx12 ho1)) ?_
      refine s_aload_n j43 rfl rfl ?_
      refine s_gfI j44 rfl (am_is_kd ek16 (am_is_ext hx12 ho1)) ?_
      refine s_iload_n j47 rfl rfl ?_
      refine s_g j48 rfl rfl rfl rfl rfl rfl ?_
      obtain ⟨ho17, h⟩ := h
      refine s_bastore j49 rfl ho17 (fun σ18 e19 => ?_)
      replace h := h σ18 e19
      have ek20 : am_kd σ18 = am_kd σ14 := by rw [e19]
      refine s_aload_n j50 rfl rfl ?_
      refine s_dup j51 rfl (am_cov _) ?_
      refine s_gfI j52 rfl (am_is_kd ek20 (am_is_kd ek16 (am_is_ext hx12 ho1))) ?_
      refine s_iconst j55 rfl kc_ic_1 ?_
      refine s_g j56 rfl rfl rfl rfl rfl rfl ?_
      refine s_pfI j57 rfl (am_is_kd ek20 (am_is_kd ek16 (am_is_ext hx12 ho1))) (fun σ21 e22 => ?_)
      replace h := h σ21 e22
      have ek23 : am_kd σ21 = am_kd σ18 := by rw [e22]
      exact s_retV j60 rfl h
    · replace h := h.2 hc11
      exact s_retV j21 rfl h
