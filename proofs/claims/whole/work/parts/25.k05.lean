/-! statements of methods, 5 (by wip/whole/gensteps.py) -/
theorem P_Rd_readOr (nl : Bool) (Ln : Nat) (xs : Nat → Int32) : am_Jl (TT nl Ln xs) 100 [(0, .aload_n 0, 1, []), (1, .iload_n 1, 2, []), (2, .invokevirtual 111, 5, [10, 101, 5, 5, 2]), (5, .astore_n 2, 6, []), (6, .aload_n 2, 7, []), (7, .ifnull 17, 10, []), (10, .aload_n 0, 11, []), (11, .getfield 9, 14, [9, 4, 0, 2]), (14, .aload_n 0, 15, []), (15, .getfield 25, 18, [9, 4, 3, 0]), (18, .iaload, 19, []), (19, .bipush 12, 21, []), (21, .if_icmp .eq 5, 24, []), (24, .aload_n 2, 25, []), (25, .areturn, 26, [3]), (26, .aload_n 2, 27, []), (27, .astore_n 3, 28, []), (28, .iconst 0, 29, []), (29, .istore 4, 31, [])] := dk_ck (by decide +kernel)
set_option maxRecDepth 4096 in
theorem w_Rd_readOr {nl : Bool} {Ln : Nat} {xs : Nat → Int32} {d : Nat} {this : Nat} {p0 : Int32} {σ : am_S} {F : Option Nat → am_S → Prop} (h : (am_is σ (some this) 4) ∧ k_Rd_readAnd nl Ln xs d this p0 σ (fun a3 σ2 => am_ext σ σ2 → (a3 = none → F a3 σ2) ∧ (¬ (a3 = none) → (am_ar σ2 1000 (am_fR σ2 4000 this) (am_fI σ2 4003 this)) ∧ ((am_aI σ2 ((am_fR σ2 4000 this).getD 0) (am_fI σ2 4003 this).toNatClampNeg) = (12 : Int32) → c_Rd_readOr_31 nl Ln xs (d + 1) this p0 a3 a3 (0 : Int32) σ2 F) ∧ (¬ ((am_aI σ2 ((am_fR σ2 4000 this).getD 0) (am_fI σ2 4003 this).toNatClampNeg) = (12 : Int32)) → F a3 σ2)))) : k_Rd_readOr nl Ln xs (d + 1) this p0 σ F := by
  obtain ⟨j0, j1, j2, j5, j6, j7, j10, j11, j14, j15, j18, j19, j21, j24, j25, j26, j27, j28, j29, -⟩ := P_Rd_readOr nl Ln xs
  have elo : am_lo 5 [am_ov (some this), .int p0] = [some (am_ov (some this)), some (.int p0), none, none, none] := by simp only [am_lo, am_in_ov, am_in_int, am_in_long, am_in_nil]; rfl
  unfold k_Rd_readOr
  rw [elo]
  refine s_aload_n j0 rfl rfl ?_
  refine s_iload_n j1 rfl rfl ?_
  obtain ⟨ho1, h⟩ := h
  refine s_virt j2 rfl rfl rfl rfl ho1 (by decide) (in_Rd_readAnd _ _) (am_r8 rfl) (am_bR h (fun a3 σ2 h hx2 => ?_))
  replace h := h hx2
  refine s_astore_n j5 rfl (n := 5) (L' := [some (am_ov (some this)), some (.int p0), some (am_ov a3), none, none]) rfl (by decide) rfl ?_
  refine s_aload_n j6 rfl rfl ?_
  refine s_ifnull j7 rfl rfl (fun hc4 => ?_) (fun hc4 => ?_)
  · replace h := h.1 hc4
    refine s_aload_n j24 rfl rfl ?_
    exact s_retR j25 rfl h
  · replace h := h.2 hc4
    refine s_aload_n j10 rfl rfl ?_
    refine s_gfR j11 rfl (am_is_ext hx2 ho1) ?_
    refine s_aload_n j14 rfl rfl ?_
    refine s_gfI j15 rfl (am_is_ext hx2 ho1) ?_
    obtain ⟨ho5, h⟩ := h
    refine s_iaload j18 rfl ho5 ?_
    refine s_bipush j19 rfl kc_bi_12 ?_
    refine s_ic j21 rfl rfl am_cc_eq (fun hc6 => ?_) (fun hc6 => ?_)
    · replace h := h.1 hc6
      refine s_aload_n j26 rfl rfl ?_
      refine s_astore_n j27 rfl (n := 5) (L' := [some (am_ov (some this)), some (.int p0), some (am_ov a3), some (am_ov a3), none]) rfl (by decide) (am_st1_R [_, _] _ _ _ _) ?_
      refine s_iconst j28 rfl kc_ic_0 ?_
      refine s_istore j29 rfl (n := 5) (L' := [some (am_ov (some this)), some (.int p0), some (am_ov a3), some (am_ov a3), some (.int (0 : Int32))]) rfl (by decide) (am_st1_R [_, _, _] _ _ _ _) ?_
      exact h
    · replace h := h.2 hc6
      refine s_aload_n j24 rfl rfl ?_
      exact s_retR j25 rfl h
theorem P_Rd_readOr_31 (nl : Bool) (Ln : Nat) (xs : Nat → Int32) : am_Jl (TT nl Ln xs) 100 [(31, .iload 4, 33, []), (33, .sipush 400, 36, []), (36, .if_icmp .ge 51, 39, []), (39, .aload_n 3, 40, []), (40, .ifnull 47, 43, []), (43, .aload_n 0, 44, []), (44, .getfield 9, 47, [9, 4, 0, 2]), (47, .aload_n 0, 48, []), (48, .getfield 25, 51, [9, 4, 3, 0]), (51, .iaload, 52, []), (52, .bipush 12, 54, []), (54, .if_icmp .ne 33, 57, []), (57, .aload_n 0, 58, []), (58, .dup, 59, []), (59, .getfield 25, 62, [9, 4, 3, 0]), (62, .iconst 1, 63, []), (63, .iadd, 64, []), (64, .putfield 25, 67, [9, 4, 3, 0]), (67, .aload_n 3, 68, []), (68, .aload_n 0, 69, []), (69, .iload_n 1, 70, []), (70, .invokevirtual 111, 73, [10, 101, 5, 5, 2]), (73, .putfield 49, 76, [9, 8, 3, 2]), (76, .aload_n 3, 77, []), (77, .getfield 49, 80, [9, 8, 3, 2]), (80, .astore_n 3, 81, []), (81, .iinc 4 1, 84, []), (84, .goto (-53), 87, [])] := dk_ck (by decide +kernel)
set_option maxRecDepth 4096 in
theorem w_Rd_readOr_31 {nl : Bool} {Ln : Nat} {xs : Nat → Int32} {d : Nat} {this : Nat} {x1 : Int32} {x2 : Option Nat} {x3 : Option Nat} {x4 : Int32} {σ : am_S} {F : Option Nat → am_S → Prop} (h : (x4 < (400 : Int32) → (x3 = none → c_Rd_readOr_87 nl Ln xs (d + 1) this x1 x2 x3 x4 σ F) ∧ (¬ (x3 = none) → (am_is σ (some this) 4) ∧ (am_ar σ 1000 (am_fR σ 4000 this) (am_fI σ 4003 this)) ∧ ((am_aI σ ((am_fR σ 4000 this).getD 0) (am_fI σ 4003 this).toNatClampNeg) = (12 : Int32) → ∀ σ6, σ6 = am_sfI σ 4003 this ((am_fI σ 4003 this) + (1 : Int32)) → k_Rd_readAnd nl Ln xs d this x1 σ6 (fun a10 σ9 => am_ext σ6 σ9 → (am_is σ9 x3 8) ∧ ∀ σ12, σ12 = am_sfR σ9 8003 (x3.getD 0) a10 → ∀ v15 : Option Nat, v15 = (am_fR σ12 8003 (x3.getD 0)) → c_Rd_readOr_31 nl Ln xs (d + 1) this x1 x2 v15 (x4 + (1 : Int32)) σ12 F)) ∧ (¬ ((am_aI σ ((am_fR σ 4000 this).getD 0) (am_fI σ 4003 this).toNatClampNeg) = (12 : Int32)) → c_Rd_readOr_87 nl Ln xs (d + 1) this x1 x2 x3 x4 σ F))) ∧ (¬ (x4 < (400 : Int32)) → c_Rd_readOr_87 nl Ln xs (d + 1) this x1 x2 x3 x4 σ F)) : c_Rd_readOr_31 nl Ln xs (d + 1) this x1 x2 x3 x4 σ F := by
  obtain ⟨j31, j33, j36, j39, j40, j43, j44, j47, j48, j51, j52, j54, j57, j58, j59, j62, j63, j64, j67, j68, j69, j70, j73, j76, j77, j80, j81, j84, -⟩ := P_Rd_readOr_31 nl Ln xs
  unfold c_Rd_readOr_31
  refine s_iload j31 rfl rfl ?_
  refine s_sipush j33 rfl kc_si_400 ?_
  refine s_icn j36 rfl rfl am_cc_ge (fun hc1 => ?_) (fun hc1 => ?_)
  · replace h := h.2 hc1
    exact h
  · replace h := h.1 hc1
    refine s_aload_n j39 rfl rfl ?_
    refine s_ifnull j40 rfl rfl (fun hc2 => ?_) (fun hc2 => ?_)
    · replace h := h.1 hc2
      exact h
    · replace h := h.2 hc2
      refine s_aload_n j43 rfl rfl ?_
      obtain ⟨ho3, h⟩ := h
      refine s_gfR j44 rfl ho3 ?_
      refine s_aload_n j47 rfl rfl ?_
      refine s_gfI j48 rfl ho3 ?_
      obtain ⟨ho4, h⟩ := h
      refine s_iaload j51 rfl ho4 ?_
      refine s_bipush j52 rfl kc_bi_12 ?_
      refine s_icn j54 rfl rfl am_cc_ne (fun hc5 => ?_) (fun hc5 => ?_)
      · replace h := h.2 hc5
        exact h
      · replace h := h.1 hc5
        refine s_aload_n j57 rfl rfl ?_
        refine s_dup j58 rfl (am_cov _) ?_
        refine s_gfI j59 rfl ho3 ?_
        refine s_iconst j62 rfl kc_ic_1 ?_
        refine s_g j63 rfl rfl rfl rfl rfl rfl ?_
        refine s_pfI j64 rfl ho3 (fun σ6 e7 => ?_)
        replace h := h σ6 e7
        have ek8 : am_kd σ6 = am_kd σ := by rw [e7]
        refine s_aload_n j67 rfl rfl ?_
        refine s_aload_n j68 rfl rfl ?_
        refine s_iload_n j69 rfl rfl ?_
        refine s_virt j70 rfl rfl rfl rfl (am_is_kd ek8 ho3) (by decide) (in_Rd_readAnd _ _) (am_r8 rfl) (am_bR h (fun a10 σ9 h hx9 => ?_))
        replace h := h hx9
        obtain ⟨ho11, h⟩ := h
        refine s_pfR j73 rfl ho11 (fun σ12 e13 => ?_)
        replace h := h σ12 e13
        have ek14 : am_kd σ12 = am_kd σ9 := by rw [e13]
        refine s_aload_n j76 rfl rfl ?_
        refine s_gfR j77 rfl (am_is_kd ek14 ho11) ?_
        refine s_astore_nV j80 rfl (n := 5) (L' := fun w => [some (am_ov (some this)), some (.int x1), some (am_ov x2), some (am_ov w), some (.int x4)]) rfl (by decide) (fun _ => am_st1_R [_, _] _ _ _ _) (fun v15 hv16 => ?_)
        replace h := h v15 hv16
        refine s_iinc (L' := [some (am_ov (some this)), some (.int x1), some (am_ov x2), some (am_ov v15), some (.int (x4 + (1 : Int32)))]) j81 rfl rfl kc_ic_1 (am_st1_R [_, _, _] _ _ _ _) ?_
        refine s_goto j84 rfl rfl ?_
        exact h
theorem P_Rd_readOr_87 (nl : Bool) (Ln : Nat) (xs : Nat → Int32) : am_Jl (TT nl Ln xs) 100 [(87, .aload_n 0, 88, []), (88, .bipush 12, 90, []), (90, .iconst 0, 91, []), (91, .aload_n 2, 92, []), (92, .invokevirtual 99, 95, [10, 97, 5, 5, 4]), (95, .areturn, 96, [3])] := dk_ck (by decide +kernel)
set_option maxRecDepth 4096 in
theorem w_Rd_readOr_87 {nl : Bool} {Ln : Nat} {xs : Nat → Int32} {d : Nat} {this : Nat} {x1 : Int32} {x2 : Option Nat} {x3 : Option Nat} {x4 : Int32} {σ : am_S} {F : Option Nat → am_S → Prop} (h : (am_is σ (some this) 4) ∧ k_Rd_makeNode nl Ln xs d this (12 : Int32) (0 : Int32) x2 σ (fun a3 σ2 => am_ext σ σ2 → F a3 σ2)) : c_Rd_readOr_87 nl Ln xs (d + 1) this x1 x2 x3 x4 σ F := by
  obtain ⟨j87, j88, j90, j91, j92, j95, -⟩ := P_Rd_readOr_87 nl Ln xs
  unfold c_Rd_readOr_87
  refine s_aload_n j87 rfl rfl ?_
  refine s_bipush j88 rfl kc_bi_12 ?_
  refine s_iconst j90 rfl kc_ic_0 ?_
  refine s_aload_n j91 rfl rfl ?_
  obtain ⟨ho1, h⟩ := h
  refine s_virt j92 rfl rfl rfl rfl ho1 (by decide) (in_Rd_makeNode _ _ _ _) (am_r8 rfl) (am_bR h (fun a3 σ2 h hx2 => ?_))
  replace h := h hx2
  exact s_retR j95 rfl h
theorem P_Rd_readAnd (nl : Bool) (Ln : Nat) (xs : Nat → Int32) : am_Jl (TT nl Ln xs) 101 [(0, .aload_n 0, 1, []), (1, .iload_n 1, 2, []), (2, .invokevirtual 114, 5, [10, 102, 5, 5, 2]), (5, .astore_n 2, 6, []), (6, .aload_n 2, 7, []), (7, .ifnull 17, 10, []), (10, .aload_n 0, 11, []), (11, .getfield 9, 14, [9, 4, 0, 2]), (14, .aload_n 0, 15, []), (15, .getfield 25, 18, [9, 4, 3, 0]), (18, .iaload, 19, []), (19, .bipush 13, 21, []), (21, .if_icmp .eq 5, 24, []), (24, .aload_n 2, 25, []), (25, .areturn, 26, [3]), (26, .aload_n 2, 27, []), (27, .astore_n 3, 28, []), (28, .iconst 0, 29, []), (29, .istore 4, 31, [])] := dk_ck (by decide +kernel)
set_option maxRecDepth 4096 in
theorem w_Rd_readAnd {nl : Bool} {Ln : Nat} {xs : Nat → Int32} {d : Nat} {this : Nat} {p0 : Int32} {σ : am_S} {F : Option Nat → am_S → Prop} (h : (am_is σ (some this) 4) ∧ k_Rd_readNot nl Ln xs d this p0 σ (fun a3 σ2 => am_ext σ σ2 → (a3 = none → F a3 σ2) ∧ (¬ (a3 = none) → (am_ar σ2 1000 (am_fR σ2 4000 this) (am_fI σ2 4003 this)) ∧ ((am_aI σ2 ((am_fR σ2 4000 this).getD 0) (am_fI σ2 4003 this).toNatClampNeg) = (13 : Int32) → c_Rd_readAnd_31 nl Ln xs (d + 1) this p0 a3 a3 (0 : Int32) σ2 F) ∧ (¬ ((am_aI σ2 ((am_fR σ2 4000 this).getD 0) (am_fI σ2 4003 this).toNatClampNeg) = (13 : Int32)) → F a3 σ2)))) : k_Rd_readAnd nl Ln xs (d + 1) this p0 σ F := by
  obtain ⟨j0, j1, j2, j5, j6, j7, j10, j11, j14, j15, j18, j19, j21, j24, j25, j26, j27, j28, j29, -⟩ := P_Rd_readAnd nl Ln xs
  have elo : am_lo 5 [am_ov (some this), .int p0] = [some (am_ov (some this)), some (.int p0), none, none, none] := by simp only [am_lo, am_in_ov, am_in_int, am_in_long, am_in_nil]; rfl
  unfold k_Rd_readAnd
  rw [elo]
  refine s_aload_n j0 rfl rfl ?_
  refine s_iload_n j1 rfl rfl ?_
  obtain ⟨ho1, h⟩ := h
  refine s_virt j2 rfl rfl rfl rfl ho1 (by decide) (in_Rd_readNot _ _) (am_r8 rfl) (am_bR h (fun a3 σ2 h hx2 => ?_))
  replace h := h hx2
  refine s_astore_n j5 rfl (n := 5) (L' := [some (am_ov (some this)), some (.int p0), some (am_ov a3), none, none]) rfl (by decide) rfl ?_
  refine s_aload_n j6 rfl rfl ?_
  refine s_ifnull j7 rfl rfl (fun hc4 => ?_) (fun hc4 => ?_)
  · replace h := h.1 hc4
    refine s_aload_n j24 rfl rfl ?_
    exact s_retR j25 rfl h
  · replace h := h.2 hc4
    refine s_aload_n j10 rfl rfl ?_
    refine s_gfR j11 rfl (am_is_ext hx2 ho1) ?_
    refine s_aload_n j14 rfl rfl ?_
    refine s_gfI j15 rfl (am_is_ext hx2 ho1) ?_
    obtain ⟨ho5, h⟩ := h
    refine s_iaload j18 rfl ho5 ?_
    refine s_bipush j19 rfl kc_bi_13 ?_
    refine s_ic j21 rfl rfl am_cc_eq (fun hc6 => ?_) (fun hc6 => ?_)
    · replace h := h.1 hc6
      refine s_aload_n j26 rfl rfl ?_
      refine s_astore_n j27 rfl (n := 5) (L' := [some (am_ov (some this)), some (.int p0), some (am_ov a3), some (am_ov a3), none]) rfl (by decide) (am_st1_R [_, _] _ _ _ _) ?_
      refine s_iconst j28 rfl kc_ic_0 ?_
      refine s_istore j29 rfl (n := 5) (L' := [some (am_ov (some this)), some (.int p0), some (am_ov a3), some (am_ov a3), some (.int (0 : Int32))]) rfl (by decide) (am_st1_R [_, _, _] _ _ _ _) ?_
      exact h
    · replace h := h.2 hc6
      refine s_aload_n j24 rfl rfl ?_
      exact s_retR j25 rfl h
theorem P_Rd_readAnd_31 (nl : Bool) (Ln : Nat) (xs : Nat → Int32) : am_Jl (TT nl Ln xs) 101 [(31, .iload 4, 33, []), (33, .sipush 400, 36, []), (36, .if_icmp .ge 51, 39, []), (39, .aload_n 3, 40, []), (40, .ifnull 47, 43, []), (43, .aload_n 0, 44, []), (44, .getfield 9, 47, [9, 4, 0, 2]), (47, .aload_n 0, 48, []), (48, .getfield 25, 51, [9, 4, 3, 0]), (51, .iaload, 52, []), (52, .bipush 13, 54, []), (54, .if_icmp .ne 33, 57, []), (57, .aload_n 0, 58, []), (58, .dup, 59, []), (59, .getfield 25, 62, [9, 4, 3, 0]), (62, .iconst 1, 63, []), (63, .iadd, 64, []), (64, .putfield 25, 67, [9, 4, 3, 0]), (67, .aload_n 3, 68, []), (68, .aload_n 0, 69, []), (69, .iload_n 1, 70, []), (70, .invokevirtual 114, 73, [10, 102, 5, 5, 2]), (73, .putfield 49, 76, [9, 8, 3, 2]), (76, .aload_n 3, 77, []), (77, .getfield 49, 80, [9, 8, 3, 2]), (80, .astore_n 3, 81, []), (81, .iinc 4 1, 84, []), (84, .goto (-53), 87, [])] := dk_ck (by decide +kernel)
set_option maxRecDepth 4096 in
theorem w_Rd_readAnd_31 {nl : Bool} {Ln : Nat} {xs : Nat → Int32} {d : Nat} {this : Nat} {x1 : Int32} {x2 : Option Nat} {x3 : Option Nat} {x4 : Int32} {σ : am_S} {F : Option Nat → am_S → Prop} (h : (x4 < (400 : Int32) → (x3 = none → c_Rd_readAnd_87 nl Ln xs (d + 1) this x1 x2 x3 x4 σ F) ∧ (¬ (x3 = none) → (am_is σ (some this) 4) ∧ (am_ar σ 1000 (am_fR σ 4000 this) (am_fI σ 4003 this)) ∧ ((am_aI σ ((am_fR σ 4000 this).getD 0) (am_fI σ 4003 this).toNatClampNeg) = (13 : Int32) → ∀ σ6, σ6 = am_sfI σ 4003 this ((am_fI σ 4003 this) + (1 : Int32)) → k_Rd_readNot nl Ln xs d this x1 σ6 (fun a10 σ9 => am_ext σ6 σ9 → (am_is σ9 x3 8) ∧ ∀ σ12, σ12 = am_sfR σ9 8003 (x3.getD 0) a10 → ∀ v15 : Option Nat, v15 = (am_fR σ12 8003 (x3.getD 0)) → c_Rd_readAnd_31 nl Ln xs (d + 1) this x1 x2 v15 (x4 + (1 : Int32)) σ12 F)) ∧ (¬ ((am_aI σ ((am_fR σ 4000 this).getD 0) (am_fI σ 4003 this).toNatClampNeg) = (13 : Int32)) → c_Rd_readAnd_87 nl Ln xs (d + 1) this x1 x2 x3 x4 σ F))) ∧ (¬ (x4 < (400 : Int32)) → c_Rd_readAnd_87 nl Ln xs (d + 1) this x1 x2 x3 x4 σ F)) : c_Rd_readAnd_31 nl Ln xs (d + 1) this x1 x2 x3 x4 σ F := by
  obtain ⟨j31, j33, j36, j39, j40, j43, j44, j47, j48, j51, j52, j54, j57, j58, j59, j62, j63, j64, j67, j68, j69, j70, j73, j76, j77, j80, j81, j84, -⟩ := P_Rd_readAnd_31 nl Ln xs
  unfold c_Rd_readAnd_31
  refine s_iload j31 rfl rfl ?_
  refine s_sipush j33 rfl kc_si_400 ?_
  refine s_icn j36 rfl rfl am_cc_ge (fun hc1 => ?_) (fun hc1 => ?_)
  · replace h := h.2 hc1
    exact h
  · replace h := h.1 hc1
    refine s_aload_n j39 rfl rfl ?_
    refine s_ifnull j40 rfl rfl (fun hc2 => ?_) (fun hc2 => ?_)
    · replace h := h.1 hc2
      exact h
    · replace h := h.2 hc2
      refine s_aload_n j43 rfl rfl ?_
      obtain ⟨ho3, h⟩ := h
      refine s_gfR j44 rfl ho3 ?_
      refine s_aload_n j47 rfl rfl ?_
      refine s_gfI j48 rfl ho3 ?_
      obtain ⟨ho4, h⟩ := h
      refine s_iaload j51 rfl ho4 ?_
      refine s_bipush j52 rfl kc_bi_13 ?_
      refine s_icn j54 rfl rfl am_cc_ne (fun hc5 => ?_) (fun hc5 => ?_)
      · replace h := h.2 hc5
        exact h
      · replace h := h.1 hc5
        refine s_aload_n j57 rfl rfl ?_
        refine s_dup j58 rfl (am_cov _) ?_
        refine s_gfI j59 rfl ho3 ?_
        refine s_iconst j62 rfl kc_ic_1 ?_
        refine s_g j63 rfl rfl rfl rfl rfl rfl ?_
        refine s_pfI j64 rfl ho3 (fun σ6 e7 => ?_)
        replace h := h σ6 e7
        have ek8 : am_kd σ6 = am_kd σ := by rw [e7]
        refine s_aload_n j67 rfl rfl ?_
        refine s_aload_n j68 rfl rfl ?_
        refine s_iload_n j69 rfl rfl ?_
        refine s_virt j70 rfl rfl rfl rfl (am_is_kd ek8 ho3) (by decide) (in_Rd_readNot _ _) (am_r8 rfl) (am_bR h (fun a10 σ9 h hx9 => ?_))
        replace h := h hx9
        obtain ⟨ho11, h⟩ := h
        refine s_pfR j73 rfl ho11 (fun σ12 e13 => ?_)
        replace h := h σ12 e13
        have ek14 : am_kd σ12 = am_kd σ9 := by rw [e13]
        refine s_aload_n j76 rfl rfl ?_
        refine s_gfR j77 rfl (am_is_kd ek14 ho11) ?_
        refine s_astore_nV j80 rfl (n := 5) (L' := fun w => [some (am_ov (some this)), some (.int x1), some (am_ov x2), some (am_ov w), some (.int x4)]) rfl (by decide) (fun _ => am_st1_R [_, _] _ _ _ _) (fun v15 hv16 => ?_)
        replace h := h v15 hv16
        refine s_iinc (L' := [some (am_ov (some this)), some (.int x1), some (am_ov x2), some (am_ov v15), some (.int (x4 + (1 : Int32)))]) j81 rfl rfl kc_ic_1 (am_st1_R [_, _, _] _ _ _ _) ?_
        refine s_goto j84 rfl rfl ?_
        exact h
theorem P_Rd_readAnd_87 (nl : Bool) (Ln : Nat) (xs : Nat → Int32) : am_Jl (TT nl Ln xs) 101 [(87, .aload_n 0, 88, []), (88, .bipush 13, 90, []), (90, .iconst 0, 91, []), (91, .aload_n 2, 92, []), (92, .invokevirtual 99, 95, [10, 97, 5, 5, 4]), (95, .areturn, 96, [3])] := dk_ck (by decide +kernel)
set_option maxRecDepth 4096 in
theorem w_Rd_readAnd_87 {nl : Bool} {Ln : Nat} {xs : Nat → Int32} {d : Nat} {this : Nat} {x1 : Int32} {x2 : Option Nat} {x3 : Option Nat} {x4 : Int32} {σ : am_S} {F : Option Nat → am_S → Prop} (h : (am_is σ (some this) 4) ∧ k_Rd_makeNode nl Ln xs d this (13 : Int32) (0 : Int32) x2 σ (fun a3 σ2 => am_ext σ σ2 → F a3 σ2)) : c_Rd_readAnd_87 nl Ln xs (d + 1) this x1 x2 x3 x4 σ F := by
  obtain ⟨j87, j88, j90, j91, j92, j95, -⟩ := P_Rd_readAnd_87 nl Ln xs
  unfold c_Rd_readAnd_87
  refine s_aload_n j87 rfl rfl ?_
  refine s_bipush j88 rfl kc_bi_13 ?_
  refine s_iconst j90 rfl kc_ic_0 ?_
  refine s_aload_n j91 rfl rfl ?_
  obtain ⟨ho1, h⟩ := h
  refine s_virt j92 rfl rfl rfl rfl ho1 (by decide) (in_Rd_makeNode _ _ _ _) (am_r8 rfl) (am_bR h (fun a3 σ2 h hx2 => ?_))
  replace h := h hx2
  exact s_retR j95 rfl h
theorem P_Rd_readNot (nl : Bool) (Ln : Nat) (xs : Nat → Int32) : am_Jl (TT nl Ln xs) 102 [(0, .aload_n 0, 1, []), (1, .getfield 9, 4, [9, 4, 0, 2]), (4, .aload_n 0, 5, []), (5, .getfield 25, 8, [9, 4, 3, 0]), (8, .iaload, 9, []), (9, .istore_n 2, 10, []), (10, .iload_n 2, 11, []), (11, .bipush 14, 13, []), (13, .if_icmp .eq 9, 16, []), (16, .iload_n 2, 17, []), (17, .bipush 27, 19, []), (19, .if_icmp .ne 14, 22, [])] := dk_ck (by decide +kernel)
set_option maxRecDepth 4096 in
theorem w_Rd_readNot {nl : Bool} {Ln : Nat} {xs : Nat → Int32} {d : Nat} {this : Nat} {p0 : Int32} {σ : am_S} {F : Option Nat → am_S → Prop} (h : (am_is σ (some this) 4) ∧ (am_ar σ 1000 (am_fR σ 4000 this) (am_fI σ 4003 this)) ∧ ∀ v3 : Int32, v3 = (am_aI σ ((am_fR σ 4000 this).getD 0) (am_fI σ 4003 this).toNatClampNeg) → (v3 = (14 : Int32) → c_Rd_readNot_22 nl Ln xs (d + 1) this p0 v3 σ F) ∧ (¬ (v3 = (14 : Int32)) → (v3 = (27 : Int32) → c_Rd_readNot_22 nl Ln xs (d + 1) this p0 v3 σ F) ∧ (¬ (v3 = (27 : Int32)) → c_Rd_readNot_33 nl Ln xs (d + 1) this p0 v3 σ F))) : k_Rd_readNot nl Ln xs (d + 1) this p0 σ F := by
  obtain ⟨j0, j1, j4, j5, j8, j9, j10, j11, j13, j16, j17, j19, -⟩ := P_Rd_readNot nl Ln xs
  have elo : am_lo 5 [am_ov (some this), .int p0] = [some (am_ov (some this)), some (.int p0), none, none, none] := by simp only [am_lo, am_in_ov, am_in_int, am_in_long, am_in_nil]; rfl
  unfold k_Rd_readNot
  rw [elo]
  refine s_aload_n j0 rfl rfl ?_
  obtain ⟨ho1, h⟩ := h
  refine s_gfR j1 rfl ho1 ?_
  refine s_aload_n j4 rfl rfl ?_
  refine s_gfI j5 rfl ho1 ?_
  obtain ⟨ho2, h⟩ := h
  refine s_iaload j8 rfl ho2 ?_
  refine s_istore_nV j9 rfl (n := 5) (L' := fun w => [some (am_ov (some this)), some (.int p0), some (.int w), none, none]) rfl (by decide) (fun _ => rfl) (fun v3 hv4 => ?_)
  replace h := h v3 hv4
  refine s_iload_n j10 rfl rfl ?_
  refine s_bipush j11 rfl kc_bi_14 ?_
  refine s_ic j13 rfl rfl am_cc_eq (fun hc5 => ?_) (fun hc5 => ?_)
  · replace h := h.1 hc5
    exact h
  · replace h := h.2 hc5
    refine s_iload_n j16 rfl rfl ?_
    refine s_bipush j17 rfl kc_bi_27 ?_
    refine s_icn j19 rfl rfl am_cc_ne (fun hc6 => ?_) (fun hc6 => ?_)
    · replace h := h.2 hc6
      exact h
    · replace h := h.1 hc6
      exact h
theorem P_Rd_readNot_22 (nl : Bool) (Ln : Nat) (xs : Nat → Int32) : am_Jl (TT nl Ln xs) 102 [(22, .iload_n 1, 23, []), (23, .bipush 20, 25, []), (25, .if_icmp .lt 8, 28, []), (28, .aload_n 0, 29, []), (29, .invokevirtual 46, 32, [10, 103, 5, 1, 1]), (32, .areturn, 33, [3])] := dk_ck (by decide +kernel)
set_option maxRecDepth 4096 in
theorem w_Rd_readNot_22 {nl : Bool} {Ln : Nat} {xs : Nat → Int32} {d : Nat} {this : Nat} {x1 : Int32} {x2 : Int32} {σ : am_S} {F : Option Nat → am_S → Prop} (h : (x1 < (20 : Int32) → c_Rd_readNot_33 nl Ln xs (d + 1) this x1 x2 σ F) ∧ (¬ (x1 < (20 : Int32)) → (am_is σ (some this) 4) ∧ k_Rd_fail nl Ln xs d this σ (fun a4 σ3 => am_ext σ σ3 → F a4 σ3))) : c_Rd_readNot_22 nl Ln xs (d + 1) this x1 x2 σ F := by
  obtain ⟨j22, j23, j25, j28, j29, j32, -⟩ := P_Rd_readNot_22 nl Ln xs
  unfold c_Rd_readNot_22
  refine s_iload_n j22 rfl rfl ?_
  refine s_bipush j23 rfl kc_bi_20 ?_
  refine s_ic j25 rfl rfl am_cc_lt (fun hc1 => ?_) (fun hc1 => ?_)
  · replace h := h.1 hc1
    exact h
  · replace h := h.2 hc1
    refine s_aload_n j28 rfl rfl ?_
    obtain ⟨ho2, h⟩ := h
    refine s_virt j29 rfl rfl rfl rfl ho2 (by decide) (in_Rd_fail _) (am_r8 rfl) (am_bR h (fun a4 σ3 h hx3 => ?_))
    replace h := h hx3
    exact s_retR j32 rfl h
theorem P_Rd_readNot_33 (nl : Bool) (Ln : Nat) (xs : Nat → Int32) : am_Jl (TT nl Ln xs) 102 [(33, .iload_n 2, 34, []), (34, .bipush 14, 36, []), (36, .if_icmp .ne 37, 39, []), (39, .aload_n 0, 40, []), (40, .dup, 41, []), (41, .getfield 25, 44, [9, 4, 3, 0]), (44, .iconst 1, 45, []), (45, .iadd, 46, []), (46, .putfield 25, 49, [9, 4, 3, 0]), (49, .aload_n 0, 50, []), (50, .iload_n 1, 51, []), (51, .iconst 1, 52, []), (52, .iadd, 53, []), (53, .invokevirtual 114, 56, [10, 102, 5, 5, 2]), (56, .astore_n 3, 57, []), (57, .aload_n 3, 58, []), (58, .ifnonnull 7, 61, []), (61, .aconst_null, 62, []), (62, .goto 10, 65, []), (65, .aload_n 0, 66, []), (66, .iload_n 2, 67, []), (67, .iconst 0, 68, []), (68, .aload_n 3, 69, []), (69, .invokevirtual 99, 72, [10, 97, 5, 5, 4]), (72, .areturn, 73, [3]), (73, .iload_n 2, 74, []), (74, .bipush 27, 76, []), (76, .if_icmp .ne 38, 79, []), (79, .aload_n 0, 80, []), (80, .dup, 81, []), (81, .getfield 25, 84, [9, 4, 3, 0]), (84, .iconst 1, 85, []), (85, .iadd, 86, []), (86, .putfield 25, 89, [9, 4, 3, 0]), (89, .aload_n 0, 90, []), (90, .iload_n 1, 91, []), (91, .iconst 1, 92, []), (92, .iadd, 93, []), (93, .invokevirtual 107, 96, [10, 100, 5, 5, 2]), (96, .astore_n 3, 97, []), (97, .aload_n 0, 98, []), (98, .bipush 28, 100, []), (100, .bipush 28, 102, []), (102, .invokevirtual 103, 105, [10, 99, 5, 3, 3]), (105, .ifCond .eq 7, 108, []), (108, .aload_n 3, 109, []), (109, .goto 4, 112, []), (112, .aconst_null, 113, []), (113, .areturn, 114, [3]), (114, .aload_n 0, 115, []), (115, .bipush 15, 117, []), (117, .bipush 19, 119, []), (119, .invokevirtual 103, 122, [10, 99, 5, 3, 3]), (122, .ifCond .ne 5, 125, []), (125, .aconst_null, 126, []), (126, .areturn, 127, [3]), (127, .iload_n 2, 128, []), (128, .bipush 19, 130, []), (130, .if_icmp .ne 15, 133, []), (133, .aload_n 0, 134, []), (134, .getfield 9, 137, [9, 4, 0, 2]), (137, .aload_n 0, 138, []), (138, .getfield 25, 141, [9, 4, 3, 0]), (141, .iaload, 142, []), (142, .goto 12, 145, []), (145, .aload_n 0, 146, []), (146, .getfield 15, 149, [9, 4, 1, 2]), (149, .aload_n 0, 150, []), (150, .getfield 25, 153, [9, 4, 3, 0]), (153, .iaload, 154, [])] := dk_ck (by decide +kernel)
set_option maxRecDepth 4096 in
theorem w_Rd_readNot_33 {nl : Bool} {Ln : Nat} {xs : Nat → Int32} {d : Nat} {this : Nat} {x1 : Int32} {x2 : Int32} {σ : am_S} {F : Option Nat → am_S → Prop} (h : (x2 = (14 : Int32) → (am_is σ (some this) 4) ∧ ∀ σ3, σ3 = am_sfI σ 4003 this ((am_fI σ 4003 this) + (1 : Int32)) → k_Rd_readNot nl Ln xs d this (x1 + (1 : Int32)) σ3 (fun a7 σ6 => am_ext σ3 σ6 → (a7 = none → F none σ6) ∧ (¬ (a7 = none) → k_Rd_makeNode nl Ln xs d this x2 (0 : Int32) a7 σ6 (fun a10 σ9 => am_ext σ6 σ9 → F a10 σ9)))) ∧ (¬ (x2 = (14 : Int32)) → (x2 = (27 : Int32) → (am_is σ (some this) 4) ∧ ∀ σ13, σ13 = am_sfI σ 4003 this ((am_fI σ 4003 this) + (1 : Int32)) → k_Rd_readOr nl Ln xs d this (x1 + (1 : Int32)) σ13 (fun a17 σ16 => am_ext σ13 σ16 → k_Rd_take nl Ln xs d this (28 : Int32) (28 : Int32) σ16 (fun a19 σ18 => am_ext σ16 σ18 → ∀ w22 : Option Nat, w22 = (if a19 = true then a17 else none) → F w22 σ18))) ∧ (¬ (x2 = (27 : Int32)) → (am_is σ (some this) 4) ∧ k_Rd_take nl Ln xs d this (15 : Int32) (19 : Int32) σ (fun a26 σ25 => am_ext σ σ25 → (a26 = true → ((x2 = (19 : Int32)) → am_ar σ25 1000 (am_fR σ25 4000 this) (am_fI σ25 4003 this)) ∧ (¬ (x2 = (19 : Int32)) → am_ar σ25 1000 (am_fR σ25 4001 this) (am_fI σ25 4003 this)) ∧ ∀ w32 : Int32, w32 = (if x2 = (19 : Int32) then (am_aI σ25 ((am_fR σ25 4000 this).getD 0) (am_fI σ25 4003 this).toNatClampNeg) else (am_aI σ25 ((am_fR σ25 4001 this).getD 0) (am_fI σ25 4003 this).toNatClampNeg)) → c_Rd_readNot_154 nl Ln xs (d + 1) this x1 x2 w32 σ25 F) ∧ (¬ (a26 = true) → F none σ25))))) : c_Rd_readNot_33 nl Ln xs (d + 1) this x1 x2 σ F := by
  obtain ⟨j33, j34, j36, j39, j40, j41, j44, j45, j46, j49, j50, j51, j52, j53, j56, j57, j58, j61, j62, j65, j66, j67, j68, j69, j72, j73, j74, j76, j79, j80, j81, j84, j85, j86, j89, j90, j91, j92, j93, j96, j97, j98, j100, j102, j105, j108, j109, j112, j113, j114, j115, j117, j119, j122, j125, j126, j127, j128, j130, j133, j134, j137, j138, j141, j142, j145, j146, j149, j150, j153, -⟩ := P_Rd_readNot_33 nl Ln xs
  unfold c_Rd_readNot_33
  refine s_iload_n j33 rfl rfl ?_
  refine s_bipush j34 rfl kc_bi_14 ?_
  refine s_icn j36 rfl rfl am_cc_ne (fun hc1 => ?_) (fun hc1 => ?_)
  · replace h := h.2 hc1
    refine s_iload_n j73 rfl rfl ?_
    refine s_bipush j74 rfl kc_bi_27 ?_
    refine s_icn j76 rfl rfl am_cc_ne (fun hc11 => ?_) (fun hc11 => ?_)
    · replace h := h.2 hc11
      refine s_aload_n j114 rfl rfl ?_
      refine s_bipush j115 rfl kc_bi_15 ?_
      refine s_bipush j117 rfl kc_bi_19 ?_
      obtain ⟨ho24, h⟩ := h
      refine s_virt j119 rfl rfl rfl rfl ho24 (by decide) (in_Rd_take _ _ _) (am_r8 rfl) (am_bB h (fun a26 σ25 h hx25 => ?_))
      replace h := h hx25
      refine s_if j122 rfl rfl am_cb_ne (fun hc27 => ?_) (fun hc27 => ?_)
      · replace h := h.1 hc27
        refine s_iload_n j127 rfl rfl ?_
        refine s_bipush j128 rfl kc_bi_19 ?_
        obtain ⟨ho29, h⟩ := h
        obtain ⟨ho30, h⟩ := h
        have K31 : ∀ (w32 : Int32), w32 = (if x2 = (19 : Int32) then (am_aI σ25 ((am_fR σ25 4000 this).getD 0) (am_fI σ25 4003 this).toNatClampNeg) else (am_aI σ25 ((am_fR σ25 4001 this).getD 0) (am_fI σ25 4003 this).toNatClampNeg)) → am_C (TT nl Ln xs) (d + 1) 102 154 [some (am_ov (some this)), some (.int x1), some (.int x2), none, none] [.int w32] σ25 (am_qR F) := by
          intro w32 hw33
          replace h := h w32 hw33
          exact h
        refine s_icn j130 rfl rfl am_cc_ne (fun hc28 => ?_) (fun hc28 => ?_)
        · refine s_aload_n j145 rfl rfl ?_
          refine s_gfR j146 rfl (am_is_ext hx25 ho24) ?_
          refine s_aload_n j149 rfl rfl ?_
          refine s_gfI j150 rfl (am_is_ext hx25 ho24) ?_
          refine s_iaload j153 rfl (ho30 hc28) ?_
          exact K31 _ (am_t2 hc28 rfl)
        · refine s_aload_n j133 rfl rfl ?_
          refine s_gfR j134 rfl (am_is_ext hx25 ho24) ?_
          refine s_aload_n j137 rfl rfl ?_
          refine s_gfI j138 rfl (am_is_ext hx25 ho24) ?_
          refine s_iaload j141 rfl (ho29 hc28) ?_
          refine s_goto j142 rfl rfl ?_
          exact K31 _ (am_t1 hc28 rfl)
      · replace h := h.2 hc27
        refine s_null j125 rfl ?_
        exact s_retR j126 rfl h
    · replace h := h.1 hc11
      refine s_aload_n j79 rfl rfl ?_
      refine s_dup j80 rfl (am_cov _) ?_
      obtain ⟨ho12, h⟩ := h
      refine s_gfI j81 rfl ho12 ?_
      refine s_iconst j84 rfl kc_ic_1 ?_
      refine s_g j85 rfl rfl rfl rfl rfl rfl ?_
      refine s_pfI j86 rfl ho12 (fun σ13 e14 => ?_)
      replace h := h σ13 e14
      have ek15 : am_kd σ13 = am_kd σ := by rw [e14]
      refine s_aload_n j89 rfl rfl ?_
      refine s_iload_n j90 rfl rfl ?_
      refine s_iconst j91 rfl kc_ic_1 ?_
      refine s_g j92 rfl rfl rfl rfl rfl rfl ?_
      refine s_virt j93 rfl rfl rfl rfl (am_is_kd ek15 ho12) (by decide) (in_Rd_readOr _ _) (am_r8 rfl) (am_bR h (fun a17 σ16 h hx16 => ?_))
      replace h := h hx16
      refine s_astore_n j96 rfl (n := 5) (L' := [some (am_ov (some this)), some (.int x1), some (.int x2), some (am_ov a17), none]) rfl (by decide) rfl ?_
      refine s_aload_n j97 rfl rfl ?_
      refine s_bipush j98 rfl kc_bi_28 ?_
      refine s_bipush j100 rfl kc_bi_28 ?_
      refine s_virt j102 rfl rfl rfl rfl (am_is_ext hx16 (am_is_kd ek15 ho12)) (by decide) (in_Rd_take _ _ _) (am_r8 rfl) (am_bB h (fun a19 σ18 h hx18 => ?_))
      replace h := h hx18
      have K21 : ∀ (w22 : Option Nat), w22 = (if a19 = true then a17 else none) → am_C (TT nl Ln xs) (d + 1) 102 113 [some (am_ov (some this)), some (.int x1), some (.int x2), some (am_ov a17), none] [am_ov w22] σ18 (am_qR F) := by
        intro w22 hw23
        replace h := h w22 hw23
        exact s_retR j113 rfl h
      refine s_ifn j105 rfl rfl am_cb_eq (fun hc20 => ?_) (fun hc20 => ?_)
      · refine s_null j112 rfl ?_
        exact K21 _ (am_t2 hc20 rfl)
      · refine s_aload_n j108 rfl rfl ?_
        refine s_goto j109 rfl rfl ?_
        exact K21 _ (am_t1 hc20 rfl)
  · replace h := h.1 hc1
    refine s_aload_n j39 rfl rfl ?_
    refine s_dup j40 rfl (am_cov _) ?_
    obtain ⟨ho2, h⟩ := h
    refine s_gfI j41 rfl ho2 ?_
    refine s_iconst j44 rfl kc_ic_1 ?_
    refine s_g j45 rfl rfl rfl rfl rfl rfl ?_
    refine s_pfI j46 rfl ho2 (fun σ3 e4 => ?_)
    replace h := h σ3 e4
    have ek5 : am_kd σ3 = am_kd σ := by rw [e4]
    refine s_aload_n j49 rfl rfl ?_
    refine s_iload_n j50 rfl rfl ?_
    refine s_iconst j51 rfl kc_ic_1 ?_
    refine s_g j52 rfl rfl rfl rfl rfl rfl ?_
    refine s_virt j53 rfl rfl rfl rfl (am_is_kd ek5 ho2) (by decide) (in_Rd_readNot _ _) (am_r8 rfl) (am_bR h (fun a7 σ6 h hx6 => ?_))
    replace h := h hx6
    refine s_astore_n j56 rfl (n := 5) (L' := [some (am_ov (some this)), some (.int x1), some (.int x2), some (am_ov a7), none]) rfl (by decide) rfl ?_
    refine s_aload_n j57 rfl rfl ?_
    refine s_ifnonnull j58 rfl rfl (fun hc8 => ?_) (fun hc8 => ?_)
    · replace h := h.2 hc8
      refine s_aload_n j65 rfl rfl ?_
      refine s_iload_n j66 rfl rfl ?_
      refine s_iconst j67 rfl kc_ic_0 ?_
      refine s_aload_n j68 rfl rfl ?_
      refine s_virt j69 rfl rfl rfl rfl (am_is_ext hx6 (am_is_kd ek5 ho2)) (by decide) (in_Rd_makeNode _ _ _ _) (am_r8 rfl) (am_bR h (fun a10 σ9 h hx9 => ?_))
      replace h := h hx9
      exact s_retR j72 rfl h
    · replace h := h.1 hc8
      refine s_null j61 rfl ?_
      refine s_goto j62 rfl rfl ?_
      exact s_retR j72 rfl h
theorem P_Rd_readNot_154 (nl : Bool) (Ln : Nat) (xs : Nat → Int32) : am_Jl (TT nl Ln xs) 102 [(154, .istore_n 3, 155, []), (155, .iload_n 2, 156, []), (156, .bipush 19, 158, []), (158, .if_icmp .ne 14, 161, []), (161, .aload_n 0, 162, []), (162, .bipush 20, 164, []), (164, .bipush 25, 166, []), (166, .invokevirtual 103, 169, [10, 99, 5, 3, 3]), (169, .goto 11, 172, []), (172, .aload_n 0, 173, []), (173, .bipush 26, 175, []), (175, .bipush 26, 177, []), (177, .invokevirtual 103, 180, [10, 99, 5, 3, 3])] := dk_ck (by decide +kernel)
set_option maxRecDepth 4096 in
theorem w_Rd_readNot_154 {nl : Bool} {Ln : Nat} {xs : Nat → Int32} {d : Nat} {this : Nat} {x1 : Int32} {x2 : Int32} {y0 : Int32} {σ : am_S} {F : Option Nat → am_S → Prop} (h : (x2 = (19 : Int32) → (am_is σ (some this) 4) ∧ k_Rd_take nl Ln xs d this (20 : Int32) (25 : Int32) σ (fun a4 σ3 => am_ext σ σ3 → c_Rd_readNot_180 nl Ln xs (d + 1) this x1 x2 y0 (if a4 = true then (1 : Int32) else 0) σ3 F)) ∧ (¬ (x2 = (19 : Int32)) → (am_is σ (some this) 4) ∧ k_Rd_take nl Ln xs d this (26 : Int32) (26 : Int32) σ (fun a7 σ6 => am_ext σ σ6 → c_Rd_readNot_180 nl Ln xs (d + 1) this x1 x2 y0 (if a7 = true then (1 : Int32) else 0) σ6 F))) : c_Rd_readNot_154 nl Ln xs (d + 1) this x1 x2 y0 σ F := by
  obtain ⟨j154, j155, j156, j158, j161, j162, j164, j166, j169, j172, j173, j175, j177, -⟩ := P_Rd_readNot_154 nl Ln xs
  unfold c_Rd_readNot_154
  refine s_istore_n j154 rfl (n := 5) (L' := [some (am_ov (some this)), some (.int x1), some (.int x2), some (.int y0), none]) rfl (by decide) rfl ?_
  refine s_iload_n j155 rfl rfl ?_
  refine s_bipush j156 rfl kc_bi_19 ?_
  refine s_icn j158 rfl rfl am_cc_ne (fun hc1 => ?_) (fun hc1 => ?_)
  · replace h := h.2 hc1
    refine s_aload_n j172 rfl rfl ?_
    refine s_bipush j173 rfl kc_bi_26 ?_
    refine s_bipush j175 rfl kc_bi_26 ?_
    obtain ⟨ho5, h⟩ := h
    refine s_virt j177 rfl rfl rfl rfl ho5 (by decide) (in_Rd_take _ _ _) (am_r8 rfl) (am_bB h (fun a7 σ6 h hx6 => ?_))
    replace h := h hx6
    exact h
  · replace h := h.1 hc1
    refine s_aload_n j161 rfl rfl ?_
    refine s_bipush j162 rfl kc_bi_20 ?_
    refine s_bipush j164 rfl kc_bi_25 ?_
    obtain ⟨ho2, h⟩ := h
    refine s_virt j166 rfl rfl rfl rfl ho2 (by decide) (in_Rd_take _ _ _) (am_r8 rfl) (am_bB h (fun a4 σ3 h hx3 => ?_))
    replace h := h hx3
    refine s_goto j169 rfl rfl ?_
    exact h
theorem P_Rd_readNot_180 (nl : Bool) (Ln : Nat) (xs : Nat → Int32) : am_Jl (TT nl Ln xs) 102 [(180, .istore 4, 182, []), (182, .iload 4, 184, []), (184, .ifCond .eq 13, 187, []), (187, .aload_n 0, 188, []), (188, .iload_n 2, 189, []), (189, .iload_n 3, 190, []), (190, .aconst_null, 191, []), (191, .invokevirtual 99, 194, [10, 97, 5, 5, 4]), (194, .goto 4, 197, []), (197, .aconst_null, 198, []), (198, .areturn, 199, [3])] := dk_ck (by decide +kernel)
set_option maxRecDepth 4096 in
theorem w_Rd_readNot_180 {nl : Bool} {Ln : Nat} {xs : Nat → Int32} {d : Nat} {this : Nat} {x1 : Int32} {x2 : Int32} {x3 : Int32} {y0 : Int32} {σ : am_S} {F : Option Nat → am_S → Prop} (h : (y0 = 0 → F none σ) ∧ (¬ (y0 = 0) → (am_is σ (some this) 4) ∧ k_Rd_makeNode nl Ln xs d this x2 x3 none σ (fun a4 σ3 => am_ext σ σ3 → F a4 σ3))) : c_Rd_readNot_180 nl Ln xs (d + 1) this x1 x2 x3 y0 σ F := by
  obtain ⟨j180, j182, j184, j187, j188, j189, j190, j191, j194, j197, j198, -⟩ := P_Rd_readNot_180 nl Ln xs
  unfold c_Rd_readNot_180
  refine s_istore j180 rfl (n := 5) (L' := [some (am_ov (some this)), some (.int x1), some (.int x2), some (.int x3), some (.int y0)]) rfl (by decide) rfl ?_
  refine s_iload j182 rfl rfl ?_
  refine s_if j184 rfl rfl am_cc_eq (fun hc1 => ?_) (fun hc1 => ?_)
  · replace h := h.1 hc1
    refine s_null j197 rfl ?_
    exact s_retR j198 rfl h
  · replace h := h.2 hc1
    refine s_aload_n j187 rfl rfl ?_
    refine s_iload_n j188 rfl rfl ?_
    refine s_iload_n j189 rfl rfl ?_
    refine s_null j190 rfl ?_
    obtain ⟨ho2, h⟩ := h
    refine s_virt j191 rfl rfl rfl rfl ho2 (by decide) (in_Rd_makeNode _ _ _ _) (am_r8 rfl) (am_bR h (fun a4 σ3 h hx3 => ?_))
    replace h := h hx3
    refine s_goto j194 rfl rfl ?_
    exact s_retR j198 rfl h
theorem P_Rd_fail (nl : Bool) (Ln : Nat) (xs : Nat → Int32) : am_Jl (TT nl Ln xs) 103 [(0, .aload_n 0, 1, []), (1, .getfield 32, 4, [9, 4, 5, 0]), (4, .iconst (-1), 5, []), (5, .if_icmp .ne 16, 8, []), (8, .aload_n 0, 9, []), (9, .aload_n 0, 10, []), (10, .getfield 18, 13, [9, 4, 2, 2]), (13, .aload_n 0, 14, []), (14, .getfield 25, 17, [9, 4, 3, 0]), (17, .iaload, 18, []), (18, .putfield 32, 21, [9, 4, 5, 0]), (21, .aconst_null, 22, []), (22, .areturn, 23, [3])] := dk_ck (by decide +kernel)
set_option maxRecDepth 4096 in
theorem w_Rd_fail {nl : Bool} {Ln : Nat} {xs : Nat → Int32} {d : Nat} {this : Nat} {σ : am_S} {F : Option Nat → am_S → Prop} (h : (am_is σ (some this) 4) ∧ ((am_fI σ 4005 this) = (-1 : Int32) → (am_ar σ 1000 (am_fR σ 4002 this) (am_fI σ 4003 this)) ∧ ∀ σ4, σ4 = am_sfI σ 4005 this (am_aI σ ((am_fR σ 4002 this).getD 0) (am_fI σ 4003 this).toNatClampNeg) → F none σ4) ∧ (¬ ((am_fI σ 4005 this) = (-1 : Int32)) → F none σ)) : k_Rd_fail nl Ln xs (d + 1) this σ F := by
  obtain ⟨j0, j1, j4, j5, j8, j9, j10, j13, j14, j17, j18, j21, j22, -⟩ := P_Rd_fail nl Ln xs
  have elo : am_lo 1 [am_ov (some this)] = [some (am_ov (some this))] := by simp only [am_lo, am_in_ov, am_in_int, am_in_long, am_in_nil]; rfl
  unfold k_Rd_fail
  rw [elo]
  refine s_aload_n j0 rfl rfl ?_
  obtain ⟨ho1, h⟩ := h
  refine s_gfI j1 rfl ho1 ?_
  refine s_iconst j4 rfl kc_ic_m1 ?_
  refine s_icn j5 rfl rfl am_cc_ne (fun hc2 => ?_) (fun hc2 => ?_)
  · replace h := h.2 hc2
    refine s_null j21 rfl ?_
    exact s_retR j22 rfl h
  · replace h := h.1 hc2
    refine s_aload_n j8 rfl rfl ?_
    refine s_aload_n j9 rfl rfl ?_
    refine s_gfR j10 rfl ho1 ?_
    refine s_aload_n j13 rfl rfl ?_
    refine s_gfI j14 rfl ho1 ?_
    obtain ⟨ho3, h⟩ := h
    refine s_iaload j17 rfl ho3 ?_
    refine s_pfI j18 rfl ho1 (fun σ4 e5 => ?_)
    replace h := h σ4 e5
    have ek6 : am_kd σ4 = am_kd σ := by rw [e5]
    refine s_null j21 rfl ?_
    exact s_retR j22 rfl h
theorem P_Rd_putBack (nl : Bool) (Ln : Nat) (xs : Nat → Int32) : am_Jl (TT nl Ln xs) 104 [(0, .aload_n 1, 1, []), (1, .astore_n 3, 2, [])] := dk_ck (by decide +kernel)
set_option maxRecDepth 4096 in
theorem w_Rd_putBack {nl : Bool} {Ln : Nat} {xs : Nat → Int32} {d : Nat} {this : Nat} {p0 : Option Nat} {σ : am_S} {F : am_S → Prop} (h : c_Rd_putBack_2 nl Ln xs (d + 1) this p0 none p0 σ F) : k_Rd_putBack nl Ln xs (d + 1) this p0 σ F := by
  obtain ⟨j0, j1, -⟩ := P_Rd_putBack nl Ln xs
  have elo : am_lo 4 [am_ov (some this), am_ov p0] = [some (am_ov (some this)), some (am_ov p0), none, none] := by simp only [am_lo, am_in_ov, am_in_int, am_in_long, am_in_nil]; rfl
  unfold k_Rd_putBack
  rw [elo]
  refine s_aload_n j0 rfl rfl ?_
  refine s_astore_n j1 rfl (n := 4) (L' := [some (am_ov (some this)), some (am_ov p0), none, some (am_ov p0)]) rfl (by decide) rfl ?_
  exact h
theorem P_Rd_putBack_2 (nl : Bool) (Ln : Nat) (xs : Nat → Int32) : am_Jl (TT nl Ln xs) 104 [(2, .aload_n 3, 3, []), (3, .ifnull 26, 6, []), (6, .aload_n 3, 7, []), (7, .getfield 62, 10, [9, 8, 4, 2]), (10, .astore_n 2, 11, []), (11, .aload_n 3, 12, []), (12, .aload_n 0, 13, []), (13, .getfield 58, 16, [9, 4, 6, 2]), (16, .putfield 62, 19, [9, 8, 4, 2]), (19, .aload_n 0, 20, []), (20, .aload_n 3, 21, []), (21, .putfield 58, 24, [9, 4, 6, 2]), (24, .aload_n 2, 25, []), (25, .astore_n 3, 26, []), (26, .goto (-24), 29, []), (29, .return_, 30, [0])] := dk_ck (by decide +kernel)
set_option maxRecDepth 4096 in
theorem w_Rd_putBack_2 {nl : Bool} {Ln : Nat} {xs : Nat → Int32} {d : Nat} {this : Nat} {x1 : Option Nat} {x2 : Option Value} {x3 : Option Nat} {σ : am_S} {F : am_S → Prop} (h : (x3 = none → F σ) ∧ (¬ (x3 = none) → (am_is σ x3 8) ∧ ∀ v3 : Option Nat, v3 = (am_fR σ 8004 (x3.getD 0)) → (am_is σ (some this) 4) ∧ ∀ σ6, σ6 = am_sfR σ 8004 (x3.getD 0) (am_fR σ 4006 this) → ∀ σ9, σ9 = am_sfR σ6 4006 this x3 → c_Rd_putBack_2 nl Ln xs (d + 1) this x1 (some (am_ov v3)) v3 σ9 F)) : c_Rd_putBack_2 nl Ln xs (d + 1) this x1 x2 x3 σ F := by
  obtain ⟨j2, j3, j6, j7, j10, j11, j12, j13, j16, j19, j20, j21, j24, j25, j26, j29, -⟩ := P_Rd_putBack_2 nl Ln xs
  unfold c_Rd_putBack_2
  refine s_aload_n j2 rfl rfl ?_
  refine s_ifnull j3 rfl rfl (fun hc1 => ?_) (fun hc1 => ?_)
  · replace h := h.1 hc1
    exact s_retV j29 rfl h
  · replace h := h.2 hc1
    refine s_aload_n j6 rfl rfl ?_
    obtain ⟨ho2, h⟩ := h
    refine s_gfR j7 rfl ho2 ?_
    refine s_astore_nV j10 rfl (n := 4) (L' := fun w => [some (am_ov (some this)), some (am_ov x1), some (am_ov w), some (am_ov x3)]) rfl (by decide) (fun _ => am_st1_R [_] _ _ _ _) (fun v3 hv4 => ?_)
    replace h := h v3 hv4
    refine s_aload_n j11 rfl rfl ?_
    refine s_aload_n j12 rfl rfl ?_
    obtain ⟨ho5, h⟩ := h
    refine s_gfR j13 rfl ho5 ?_
    refine s_pfR j16 rfl ho2 (fun σ6 e7 => ?_)
    replace h := h σ6 e7
    have ek8 : am_kd σ6 = am_kd σ := by rw [e7]
    refine s_aload_n j19 rfl rfl ?_
    refine s_aload_n j20 rfl rfl ?_
    refine s_pfR j21 rfl (am_is_kd ek8 ho5) (fun σ9 e10 => ?_)
    replace h := h σ9 e10
    have ek11 : am_kd σ9 = am_kd σ6 := by rw [e10]
    refine s_aload_n j24 rfl rfl ?_
    refine s_astore_n j25 rfl (n := 4) (L' := [some (am_ov (some this)), some (am_ov x1), some (am_ov v3), some (am_ov v3)]) rfl (by decide) (am_st1_R [_, _] _ _ _ _) ?_
    refine s_goto j26 rfl rfl ?_
    exact h
theorem P_Bk_tellPolicy (nl : Bool) (Ln : Nat) (xs : Nat → Int32) : am_Jl (TT nl Ln xs) 105 [(0, .aload_n 0, 1, []), (1, .iload_n 1, 2, []), (2, .invokevirtual 236, 5, [10, 82, 7, 2, 2]), (5, .ifCond .eq 6, 8, []), (8, .bipush (-7), 10, []), (10, .ireturn, 11, [1]), (11, .aload_n 0, 12, []), (12, .getfield 40, 15, [9, 6, 7, 2]), (15, .iload_n 1, 16, []), (16, .dup2, 17, []), (17, .iaload, 18, []), (18, .iconst 1, 19, []), (19, .iadd, 20, []), (20, .iastore, 21, []), (21, .aload_n 2, 22, []), (22, .aload_n 0, 23, []), (23, .getfield 58, 26, [9, 6, 2, 2]), (26, .iload_n 1, 27, []), (27, .iload_n 3, 28, []), (28, .aload_n 0, 29, []), (29, .getfield 82, 32, [9, 6, 15, 0]), (32, .iconst 1, 33, []), (33, .iadd, 34, []), (34, .lload 4, 36, []), (36, .aload 6, 38, []), (38, .aload_n 2, 39, []), (39, .getfield 121, 42, [9, 9, 4, 2]), (42, .invokevirtual 240, 45, [10, 71, 6, 9, 7]), (45, .putfield 121, 48, [9, 9, 4, 2]), (48, .iconst 1, 49, []), (49, .ireturn, 50, [1])] := dk_ck (by decide +kernel)
set_option maxRecDepth 4096 in
theorem w_Bk_tellPolicy {nl : Bool} {Ln : Nat} {xs : Nat → Int32} {d : Nat} {this : Nat} {p0 : Int32} {p1 : Option Nat} {p2 : Int32} {p3 : Int64} {p4 : Option Nat} {σ : am_S} {F : Int32 → am_S → Prop} (h : (am_is σ (some this) 6) ∧ k_Bk_isToldOut nl Ln xs d this p0 σ (fun a3 σ2 => am_ext σ σ2 → (a3 = true → F (-7 : Int32) σ2) ∧ (¬ (a3 = true) → (am_ar σ2 1000 (am_fR σ2 6007 this) p0) ∧ (am_ar σ2 1000 (am_fR σ2 6007 this) p0) ∧ ∀ σ7, σ7 = am_saI σ2 ((am_fR σ2 6007 this).getD 0) p0.toNatClampNeg ((am_aI σ2 ((am_fR σ2 6007 this).getD 0) p0.toNatClampNeg) + (1 : Int32)) → (am_is σ7 p1 9) ∧ (am_is σ7 (am_fR σ7 6002 this) 5) ∧ k_Sk_drawEntry nl Ln xs d ((am_fR σ7 6002 this).getD 0) p0 p2 ((am_fI σ7 6015 this) + (1 : Int32)) p3 p4 (am_fR σ7 9004 (p1.getD 0)) σ7 (fun a13 σ12 => am_ext σ7 σ12 → ∀ σ14, σ14 = am_sfR σ12 9004 (p1.getD 0) a13 → F (1 : Int32) σ14)))) : k_Bk_tellPolicy nl Ln xs (d + 1) this p0 p1 p2 p3 p4 σ F := by
  obtain ⟨j0, j1, j2, j5, j8, j10, j11, j12, j15, j16, j17, j18, j19, j20, j21, j22, j23, j26, j27, j28, j29, j32, j33, j34, j36, j38, j39, j42, j45, j48, j49, -⟩ := P_Bk_tellPolicy nl Ln xs
  have elo : am_lo 7 [am_ov (some this), .int p0, am_ov p1, .int p2, .long p3, am_ov p4] = [some (am_ov (some this)), some (.int p0), some (am_ov p1), some (.int p2), some (.long p3), none, some (am_ov p4)] := by simp only [am_lo, am_in_ov, am_in_int, am_in_long, am_in_nil]; rfl
  unfold k_Bk_tellPolicy
  rw [elo]
  refine s_aload_n j0 rfl rfl ?_
  refine s_iload_n j1 rfl rfl ?_
  obtain ⟨ho1, h⟩ := h
  refine s_virt j2 rfl rfl rfl rfl ho1 (by decide) (in_Bk_isToldOut _ _) (am_r8 rfl) (am_bB h (fun a3 σ2 h hx2 => ?_))
  replace h := h hx2
  refine s_ifn j5 rfl rfl am_cb_eq (fun hc4 => ?_) (fun hc4 => ?_)
  · replace h := h.2 hc4
    refine s_aload_n j11 rfl rfl ?_
    refine s_gfR j12 rfl (am_is_ext hx2 ho1) ?_
    refine s_iload_n j15 rfl rfl ?_
    refine s_dup2 j16 rfl (am_cov _) ?_
    obtain ⟨ho5, h⟩ := h
    refine s_iaload j17 rfl ho5 ?_
    refine s_iconst j18 rfl kc_ic_1 ?_
    refine s_g j19 rfl rfl rfl rfl rfl rfl ?_
    obtain ⟨ho6, h⟩ := h
    refine s_iastore j20 rfl ho6 (fun σ7 e8 => ?_)
    replace h := h σ7 e8
    have ek9 : am_kd σ7 = am_kd σ2 := by rw [e8]
    refine s_aload_n j21 rfl rfl ?_
    refine s_aload_n j22 rfl rfl ?_
    refine s_gfR j23 rfl (am_is_kd ek9 (am_is_ext hx2 ho1)) ?_
    refine s_iload_n j26 rfl rfl ?_
    refine s_iload_n j27 rfl rfl ?_
    refine s_aload_n j28 rfl rfl ?_
    refine s_gfI j29 rfl (am_is_kd ek9 (am_is_ext hx2 ho1)) ?_
    refine s_iconst j32 rfl kc_ic_1 ?_
    refine s_g j33 rfl rfl rfl rfl rfl rfl ?_
    refine s_lload j34 rfl rfl ?_
    refine s_aload j36 rfl rfl ?_
    refine s_aload_n j38 rfl rfl ?_
    obtain ⟨ho10, h⟩ := h
    refine s_gfR j39 rfl ho10 ?_
    obtain ⟨ho11, h⟩ := h
    refine s_virt j42 rfl rfl rfl rfl ho11 (by decide) (in_Sk_drawEntry _ _ _ _ _ _ _) (am_r8 rfl) (am_bR h (fun a13 σ12 h hx12 => ?_))
    replace h := h hx12
    refine s_pfR j45 rfl (am_is_ext hx12 ho10) (fun σ14 e15 => ?_)
    replace h := h σ14 e15
    have ek16 : am_kd σ14 = am_kd σ12 := by rw [e15]
    refine s_iconst j48 rfl kc_ic_1 ?_
    exact s_retI j49 rfl h
  · replace h := h.1 hc4
    refine s_bipush j8 rfl kc_bi_m7 ?_
    exact s_retI j10 rfl h
theorem P_Bk_tellOrMake (nl : Bool) (Ln : Nat) (xs : Nat → Int32) : am_Jl (TT nl Ln xs) 106 [(0, .aload_n 1, 1, []), (1, .iconst 0, 2, []), (2, .laload, 3, []), (3, .l2i, 4, []), (4, .tableswitch 119 1 11 #[60, 65, 71, 77, 83, 119, 89, 95, 101, 107, 113], 64, []), (123, .bipush (-2), 125, []), (125, .ireturn, 126, [1])] := dk_ck (by decide +kernel)
set_option maxRecDepth 4096 in
theorem w_Bk_tellOrMake {nl : Bool} {Ln : Nat} {xs : Nat → Int32} {d : Nat} {this : Nat} {p0 : Option Nat} {σ : am_S} {F : Int32 → am_S → Prop} (h : (am_ar σ 1001 p0 (0 : Int32)) ∧ ((am_aL σ (p0.getD 0) (0 : Int32).toNatClampNeg).toInt32 = (1 : Int32) → c_Bk_tellOrMake_64 nl Ln xs (d + 1) this p0 σ F) ∧ ((am_aL σ (p0.getD 0) (0 : Int32).toNatClampNeg).toInt32 = (2 : Int32) → c_Bk_tellOrMake_69 nl Ln xs (d + 1) this p0 σ F) ∧ ((am_aL σ (p0.getD 0) (0 : Int32).toNatClampNeg).toInt32 = (3 : Int32) → c_Bk_tellOrMake_75 nl Ln xs (d + 1) this p0 σ F) ∧ ((am_aL σ (p0.getD 0) (0 : Int32).toNatClampNeg).toInt32 = (4 : Int32) → c_Bk_tellOrMake_81 nl Ln xs (d + 1) this p0 σ F) ∧ ((am_aL σ (p0.getD 0) (0 : Int32).toNatClampNeg).toInt32 = (5 : Int32) → c_Bk_tellOrMake_87 nl Ln xs (d + 1) this p0 σ F) ∧ ((am_aL σ (p0.getD 0) (0 : Int32).toNatClampNeg).toInt32 = (7 : Int32) → c_Bk_tellOrMake_93 nl Ln xs (d + 1) this p0 σ F) ∧ ((am_aL σ (p0.getD 0) (0 : Int32).toNatClampNeg).toInt32 = (8 : Int32) → c_Bk_tellOrMake_99 nl Ln xs (d + 1) this p0 σ F) ∧ ((am_aL σ (p0.getD 0) (0 : Int32).toNatClampNeg).toInt32 = (9 : Int32) → c_Bk_tellOrMake_105 nl Ln xs (d + 1) this p0 σ F) ∧ ((am_aL σ (p0.getD 0) (0 : Int32).toNatClampNeg).toInt32 = (10 : Int32) → c_Bk_tellOrMake_111 nl Ln xs (d + 1) this p0 σ F) ∧ ((am_aL σ (p0.getD 0) (0 : Int32).toNatClampNeg).toInt32 = (11 : Int32) → c_Bk_tellOrMake_117 nl Ln xs (d + 1) this p0 σ F) ∧ ((((am_aL σ (p0.getD 0) (0 : Int32).toNatClampNeg).toInt32).toInt < 1 ∨ 11 < ((am_aL σ (p0.getD 0) (0 : Int32).toNatClampNeg).toInt32).toInt) ∨ (am_aL σ (p0.getD 0) (0 : Int32).toNatClampNeg).toInt32 = (6 : Int32) → F (-2 : Int32) σ)) : k_Bk_tellOrMake nl Ln xs (d + 1) this p0 σ F := by
  obtain ⟨j0, j1, j2, j3, j4, j123, j125, -⟩ := P_Bk_tellOrMake nl Ln xs
  have elo : am_lo 2 [am_ov (some this), am_ov p0] = [some (am_ov (some this)), some (am_ov p0)] := by simp only [am_lo, am_in_ov, am_in_int, am_in_long, am_in_nil]; rfl
  unfold k_Bk_tellOrMake
  rw [elo]
  refine s_aload_n j0 rfl rfl ?_
  refine s_iconst j1 rfl kc_ic_0 ?_
  obtain ⟨ho1, h⟩ := h
  refine s_laload j2 rfl ho1 ?_
  refine s_g j3 rfl rfl rfl rfl rfl rfl ?_
  by_cases hr2 : ((am_aL σ (p0.getD 0) (0 : Int32).toNatClampNeg).toInt32).toInt < 1 ∨ 11 < ((am_aL σ (p0.getD 0) (0 : Int32).toNatClampNeg).toInt32).toInt
  · refine s_tsw j4 (t := 123) ((am_sw_out hr2).trans rfl) ?_
    replace h := h.2.2.2.2.2.2.2.2.2.2 (Or.inl hr2)
    refine s_bipush j123 rfl kc_bi_m2 ?_
    exact s_retI j125 rfl h
  · obtain ⟨k3, hk4, hv5⟩ := am_sw_in hr2
    have hk42 : k3 < 11 := by omega
    clear hk4
    match k3, hk42, hv5 with
    | 0, _, hv5 =>
      have hs : (am_aL σ (p0.getD 0) (0 : Int32).toNatClampNeg).toInt32 = (1 : Int32) := am_te hv5 (by decide)
      refine s_tsw j4 (t := 64) (by show am_sw 4 119 1 11 #[60, 65, 71, 77, 83, 119, 89, 95, 101, 107, 113] ((am_aL σ (p0.getD 0) (0 : Int32).toNatClampNeg).toInt32).toInt = _; rw [hv5]; rfl) ?_
      replace h := h.1 hs
      exact h
    | 1, _, hv5 =>
      have hs : (am_aL σ (p0.getD 0) (0 : Int32).toNatClampNeg).toInt32 = (2 : Int32) := am_te hv5 (by decide)
      refine s_tsw j4 (t := 69) (by show am_sw 4 119 1 11 #[60, 65, 71, 77, 83, 119, 89, 95, 101, 107, 113] ((am_aL σ (p0.getD 0) (0 : Int32).toNatClampNeg).toInt32).toInt = _; rw [hv5]; rfl) ?_
      replace h := h.2.1 hs
      exact h
    | 2, _, hv5 =>
      have hs : (am_aL σ (p0.getD 0) (0 : Int32).toNatClampNeg).toInt32 = (3 : Int32) := am_te hv5 (by decide)
      refine s_tsw j4 (t := 75) (by show am_sw 4 119 1 11 #[60, 65, 71, 77, 83, 119, 89, 95, 101, 107, 113] ((am_aL σ (p0.getD 0) (0 : Int32).toNatClampNeg).toInt32).toInt = _; rw [hv5]; rfl) ?_
      replace h := h.2.2.1 hs
      exact h
    | 3, _, hv5 =>
      have hs : (am_aL σ (p0.getD 0) (0 : Int32).toNatClampNeg).toInt32 = (4 : Int32) := am_te hv5 (by decide)
      refine s_tsw j4 (t := 81) (by show am_sw 4 119 1 11 #[60, 65, 71, 77, 83, 119, 89, 95, 101, 107, 113] ((am_aL σ (p0.getD 0) (0 : Int32).toNatClampNeg).toInt32).toInt = _; rw [hv5]; rfl) ?_
      replace h := h.2.2.2.1 hs
      exact h
    | 4, _, hv5 =>
      have hs : (am_aL σ (p0.getD 0) (0 : Int32).toNatClampNeg).toInt32 = (5 : Int32) := am_te hv5 (by decide)
      refine s_tsw j4 (t := 87) (by show am_sw 4 119 1 11 #[60, 65, 71, 77, 83, 119, 89, 95, 101, 107, 113] ((am_aL σ (p0.getD 0) (0 : Int32).toNatClampNeg).toInt32).toInt = _; rw [hv5]; rfl) ?_
      replace h := h.2.2.2.2.1 hs
      exact h
    | 5, _, hv5 =>
      have hs : (am_aL σ (p0.getD 0) (0 : Int32).toNatClampNeg).toInt32 = (6 : Int32) := am_te hv5 (by decide)
      refine s_tsw j4 (t := 123) (by show am_sw 4 119 1 11 #[60, 65, 71, 77, 83, 119, 89, 95, 101, 107, 113] ((am_aL σ (p0.getD 0) (0 : Int32).toNatClampNeg).toInt32).toInt = _; rw [hv5]; rfl) ?_
      replace h := h.2.2.2.2.2.2.2.2.2.2 (Or.inr hs)
      refine s_bipush j123 rfl kc_bi_m2 ?_
      exact s_retI j125 rfl h
    | 6, _, hv5 =>
      have hs : (am_aL σ (p0.getD 0) (0 : Int32).toNatClampNeg).toInt32 = (7 : Int32) := am_te hv5 (by decide)
      refine s_tsw j4 (t := 93) (by show am_sw 4 119 1 11 #[60, 65, 71, 77, 83, 119, 89, 95, 101, 107, 113] ((am_aL σ (p0.getD 0) (0 : Int32).toNatClampNeg).toInt32).toInt = _; rw [hv5]; rfl) ?_
      replace h := h.2.2.2.2.2.1 hs
      exact h
    | 7, _, hv5 =>
      have hs : (am_aL σ (p0.getD 0) (0 : Int32).toNatClampNeg).toInt32 = (8 : Int32) := am_te hv5 (by decide)
      refine s_tsw j4 (t := 99) (by show am_sw 4 119 1 11 #[60, 65, 71, 77, 83, 119, 89, 95, 101, 107, 113] ((am_aL σ (p0.getD 0) (0 : Int32).toNatClampNeg).toInt32).toInt = _; rw [hv5]; rfl) ?_
      replace h := h.2.2.2.2.2.2.1 hs
      exact h
    | 8, _, hv5 =>
      have hs : (am_aL σ (p0.getD 0) (0 : Int32).toNatClampNeg).toInt32 = (9 : Int32) := am_te hv5 (by decide)
      refine s_tsw j4 (t := 105) (by show am_sw 4 119 1 11 #[60, 65, 71, 77, 83, 119, 89, 95, 101, 107, 113] ((am_aL σ (p0.getD 0) (0 : Int32).toNatClampNeg).toInt32).toInt = _; rw [hv5]; rfl) ?_
      replace h := h.2.2.2.2.2.2.2.1 hs
      exact h
    | 9, _, hv5 =>
      have hs : (am_aL σ (p0.getD 0) (0 : Int32).toNatClampNeg).toInt32 = (10 : Int32) := am_te hv5 (by decide)
      refine s_tsw j4 (t := 111) (by show am_sw 4 119 1 11 #[60, 65, 71, 77, 83, 119, 89, 95, 101, 107, 113] ((am_aL σ (p0.getD 0) (0 : Int32).toNatClampNeg).toInt32).toInt = _; rw [hv5]; rfl) ?_
      replace h := h.2.2.2.2.2.2.2.2.1 hs
      exact h
    | 10, _, hv5 =>
      have hs : (am_aL σ (p0.getD 0) (0 : Int32).toNatClampNeg).toInt32 = (11 : Int32) := am_te hv5 (by decide)
      refine s_tsw j4 (t := 117) (by show am_sw 4 119 1 11 #[60, 65, 71, 77, 83, 119, 89, 95, 101, 107, 113] ((am_aL σ (p0.getD 0) (0 : Int32).toNatClampNeg).toInt32).toInt = _; rw [hv5]; rfl) ?_
      replace h := h.2.2.2.2.2.2.2.2.2.1 hs
      exact h
    | n + 11, hk42, _ => exact absurd hk42 (by omega)
theorem P_Bk_tellOrMake_64 (nl : Bool) (Ln : Nat) (xs : Nat → Int32) : am_Jl (TT nl Ln xs) 106 [(64, .aload_n 0, 65, []), (65, .invokevirtual 170, 68, [10, 107, 7, 1, 1]), (68, .ireturn, 69, [1])] := dk_ck (by decide +kernel)
set_option maxRecDepth 4096 in
theorem w_Bk_tellOrMake_64 {nl : Bool} {Ln : Nat} {xs : Nat → Int32} {d : Nat} {this : Nat} {x1 : Option Nat} {σ : am_S} {F : Int32 → am_S → Prop} (h : (am_is σ (some this) 6) ∧ k_Bk_makePerson nl Ln xs d this σ (fun a3 σ2 => am_ext σ σ2 → F a3 σ2)) : c_Bk_tellOrMake_64 nl Ln xs (d + 1) this x1 σ F := by
  obtain ⟨j64, j65, j68, -⟩ := P_Bk_tellOrMake_64 nl Ln xs
  unfold c_Bk_tellOrMake_64
  refine s_aload_n j64 rfl rfl ?_
  obtain ⟨ho1, h⟩ := h
  refine s_virt j65 rfl rfl rfl rfl ho1 (by decide) (in_Bk_makePerson _) (am_r8 rfl) (am_bI h (fun a3 σ2 h hx2 => ?_))
  replace h := h hx2
  exact s_retI j68 rfl h
theorem P_Bk_tellOrMake_69 (nl : Bool) (Ln : Nat) (xs : Nat → Int32) : am_Jl (TT nl Ln xs) 106 [(69, .aload_n 0, 70, []), (70, .aload_n 1, 71, []), (71, .invokevirtual 174, 74, [10, 108, 7, 2, 2]), (74, .ireturn, 75, [1])] := dk_ck (by decide +kernel)
set_option maxRecDepth 4096 in
theorem w_Bk_tellOrMake_69 {nl : Bool} {Ln : Nat} {xs : Nat → Int32} {d : Nat} {this : Nat} {x1 : Option Nat} {σ : am_S} {F : Int32 → am_S → Prop} (h : (am_is σ (some this) 6) ∧ k_Bk_tellRank nl Ln xs d this x1 σ (fun a3 σ2 => am_ext σ σ2 → F a3 σ2)) : c_Bk_tellOrMake_69 nl Ln xs (d + 1) this x1 σ F := by
  obtain ⟨j69, j70, j71, j74, -⟩ := P_Bk_tellOrMake_69 nl Ln xs
  unfold c_Bk_tellOrMake_69
  refine s_aload_n j69 rfl rfl ?_
  refine s_aload_n j70 rfl rfl ?_
  obtain ⟨ho1, h⟩ := h
  refine s_virt j71 rfl rfl rfl rfl ho1 (by decide) (in_Bk_tellRank _ _) (am_r8 rfl) (am_bI h (fun a3 σ2 h hx2 => ?_))
  replace h := h hx2
  exact s_retI j74 rfl h
theorem P_Bk_tellOrMake_75 (nl : Bool) (Ln : Nat) (xs : Nat → Int32) : am_Jl (TT nl Ln xs) 106 [(75, .aload_n 0, 76, []), (76, .aload_n 1, 77, []), (77, .invokevirtual 177, 80, [10, 109, 7, 3, 2]), (80, .ireturn, 81, [1])] := dk_ck (by decide +kernel)
set_option maxRecDepth 4096 in
theorem w_Bk_tellOrMake_75 {nl : Bool} {Ln : Nat} {xs : Nat → Int32} {d : Nat} {this : Nat} {x1 : Option Nat} {σ : am_S} {F : Int32 → am_S → Prop} (h : (am_is σ (some this) 6) ∧ k_Bk_makePolicy nl Ln xs d this x1 σ (fun a3 σ2 => am_ext σ σ2 → F a3 σ2)) : c_Bk_tellOrMake_75 nl Ln xs (d + 1) this x1 σ F := by
  obtain ⟨j75, j76, j77, j80, -⟩ := P_Bk_tellOrMake_75 nl Ln xs
  unfold c_Bk_tellOrMake_75
  refine s_aload_n j75 rfl rfl ?_
  refine s_aload_n j76 rfl rfl ?_
  obtain ⟨ho1, h⟩ := h
  refine s_virt j77 rfl rfl rfl rfl ho1 (by decide) (in_Bk_makePolicy _ _) (am_r8 rfl) (am_bI h (fun a3 σ2 h hx2 => ?_))
  replace h := h hx2
  exact s_retI j80 rfl h
theorem P_Bk_tellOrMake_81 (nl : Bool) (Ln : Nat) (xs : Nat → Int32) : am_Jl (TT nl Ln xs) 106 [(81, .aload_n 0, 82, []), (82, .aload_n 1, 83, []), (83, .invokevirtual 180, 86, [10, 112, 7, 5, 2]), (86, .ireturn, 87, [1])] := dk_ck (by decide +kernel)
set_option maxRecDepth 4096 in
theorem w_Bk_tellOrMake_81 {nl : Bool} {Ln : Nat} {xs : Nat → Int32} {d : Nat} {this : Nat} {x1 : Option Nat} {σ : am_S} {F : Int32 → am_S → Prop} (h : (am_is σ (some this) 6) ∧ k_Bk_tellBundle nl Ln xs d this x1 σ (fun a3 σ2 => am_ext σ σ2 → F a3 σ2)) : c_Bk_tellOrMake_81 nl Ln xs (d + 1) this x1 σ F := by
  obtain ⟨j81, j82, j83, j86, -⟩ := P_Bk_tellOrMake_81 nl Ln xs
  unfold c_Bk_tellOrMake_81
  refine s_aload_n j81 rfl rfl ?_
  refine s_aload_n j82 rfl rfl ?_
  obtain ⟨ho1, h⟩ := h
  refine s_virt j83 rfl rfl rfl rfl ho1 (by decide) (in_Bk_tellBundle _ _) (am_r8 rfl) (am_bI h (fun a3 σ2 h hx2 => ?_))
  replace h := h hx2
  exact s_retI j86 rfl h
theorem P_Bk_tellOrMake_87 (nl : Bool) (Ln : Nat) (xs : Nat → Int32) : am_Jl (TT nl Ln xs) 106 [(87, .aload_n 0, 88, []), (88, .aload_n 1, 89, []), (89, .invokevirtual 183, 92, [10, 114, 7, 4, 2]), (92, .ireturn, 93, [1])] := dk_ck (by decide +kernel)
set_option maxRecDepth 4096 in
theorem w_Bk_tellOrMake_87 {nl : Bool} {Ln : Nat} {xs : Nat → Int32} {d : Nat} {this : Nat} {x1 : Option Nat} {σ : am_S} {F : Int32 → am_S → Prop} (h : (am_is σ (some this) 6) ∧ k_Bk_tellPeriod nl Ln xs d this x1 σ (fun a3 σ2 => am_ext σ σ2 → F a3 σ2)) : c_Bk_tellOrMake_87 nl Ln xs (d + 1) this x1 σ F := by
  obtain ⟨j87, j88, j89, j92, -⟩ := P_Bk_tellOrMake_87 nl Ln xs
  unfold c_Bk_tellOrMake_87
  refine s_aload_n j87 rfl rfl ?_
  refine s_aload_n j88 rfl rfl ?_
  obtain ⟨ho1, h⟩ := h
  refine s_virt j89 rfl rfl rfl rfl ho1 (by decide) (in_Bk_tellPeriod _ _) (am_r8 rfl) (am_bI h (fun a3 σ2 h hx2 => ?_))
  replace h := h hx2
  exact s_retI j92 rfl h
theorem P_Bk_tellOrMake_93 (nl : Bool) (Ln : Nat) (xs : Nat → Int32) : am_Jl (TT nl Ln xs) 106 [(93, .aload_n 0, 94, []), (94, .aload_n 1, 95, []), (95, .invokevirtual 186, 98, [10, 115, 7, 3, 2]), (98, .ireturn, 99, [1])] := dk_ck (by decide +kernel)
set_option maxRecDepth 4096 in
theorem w_Bk_tellOrMake_93 {nl : Bool} {Ln : Nat} {xs : Nat → Int32} {d : Nat} {this : Nat} {x1 : Option Nat} {σ : am_S} {F : Int32 → am_S → Prop} (h : (am_is σ (some this) 6) ∧ k_Bk_tellRule nl Ln xs d this x1 σ (fun a3 σ2 => am_ext σ σ2 → F a3 σ2)) : c_Bk_tellOrMake_93 nl Ln xs (d + 1) this x1 σ F := by
  obtain ⟨j93, j94, j95, j98, -⟩ := P_Bk_tellOrMake_93 nl Ln xs
  unfold c_Bk_tellOrMake_93
  refine s_aload_n j93 rfl rfl ?_
  refine s_aload_n j94 rfl rfl ?_
  obtain ⟨ho1, h⟩ := h
  refine s_virt j95 rfl rfl rfl rfl ho1 (by decide) (in_Bk_tellRule _ _) (am_r8 rfl) (am_bI h (fun a3 σ2 h hx2 => ?_))
  replace h := h hx2
  exact s_retI j98 rfl h
theorem P_Bk_tellOrMake_99 (nl : Bool) (Ln : Nat) (xs : Nat → Int32) : am_Jl (TT nl Ln xs) 106 [(99, .aload_n 0, 100, []), (100, .aload_n 1, 101, []), (101, .invokevirtual 189, 104, [10, 116, 7, 2, 2]), (104, .ireturn, 105, [1])] := dk_ck (by decide +kernel)
set_option maxRecDepth 4096 in
theorem w_Bk_tellOrMake_99 {nl : Bool} {Ln : Nat} {xs : Nat → Int32} {d : Nat} {this : Nat} {x1 : Option Nat} {σ : am_S} {F : Int32 → am_S → Prop} (h : (am_is σ (some this) 6) ∧ k_Bk_makeLoss nl Ln xs d this x1 σ (fun a3 σ2 => am_ext σ σ2 → F a3 σ2)) : c_Bk_tellOrMake_99 nl Ln xs (d + 1) this x1 σ F := by
  obtain ⟨j99, j100, j101, j104, -⟩ := P_Bk_tellOrMake_99 nl Ln xs
  unfold c_Bk_tellOrMake_99
  refine s_aload_n j99 rfl rfl ?_
  refine s_aload_n j100 rfl rfl ?_
  obtain ⟨ho1, h⟩ := h
  refine s_virt j101 rfl rfl rfl rfl ho1 (by decide) (in_Bk_makeLoss _ _) (am_r8 rfl) (am_bI h (fun a3 σ2 h hx2 => ?_))
  replace h := h hx2
  exact s_retI j104 rfl h
theorem P_Bk_tellOrMake_105 (nl : Bool) (Ln : Nat) (xs : Nat → Int32) : am_Jl (TT nl Ln xs) 106 [(105, .aload_n 0, 106, []), (106, .aload_n 1, 107, []), (107, .invokevirtual 192, 110, [10, 120, 7, 3, 2]), (110, .ireturn, 111, [1])] := dk_ck (by decide +kernel)
set_option maxRecDepth 4096 in
theorem w_Bk_tellOrMake_105 {nl : Bool} {Ln : Nat} {xs : Nat → Int32} {d : Nat} {this : Nat} {x1 : Option Nat} {σ : am_S} {F : Int32 → am_S → Prop} (h : (am_is σ (some this) 6) ∧ k_Bk_makePart nl Ln xs d this x1 σ (fun a3 σ2 => am_ext σ σ2 → F a3 σ2)) : c_Bk_tellOrMake_105 nl Ln xs (d + 1) this x1 σ F := by
  obtain ⟨j105, j106, j107, j110, -⟩ := P_Bk_tellOrMake_105 nl Ln xs
  unfold c_Bk_tellOrMake_105
  refine s_aload_n j105 rfl rfl ?_
  refine s_aload_n j106 rfl rfl ?_
  obtain ⟨ho1, h⟩ := h
  refine s_virt j107 rfl rfl rfl rfl ho1 (by decide) (in_Bk_makePart _ _) (am_r8 rfl) (am_bI h (fun a3 σ2 h hx2 => ?_))
  replace h := h hx2
  exact s_retI j110 rfl h
theorem P_Bk_tellOrMake_111 (nl : Bool) (Ln : Nat) (xs : Nat → Int32) : am_Jl (TT nl Ln xs) 106 [(111, .aload_n 0, 112, []), (112, .aload_n 1, 113, []), (113, .invokevirtual 195, 116, [10, 123, 7, 5, 2]), (116, .ireturn, 117, [1])] := dk_ck (by decide +kernel)
set_option maxRecDepth 4096 in
theorem w_Bk_tellOrMake_111 {nl : Bool} {Ln : Nat} {xs : Nat → Int32} {d : Nat} {this : Nat} {x1 : Option Nat} {σ : am_S} {F : Int32 → am_S → Prop} (h : (am_is σ (some this) 6) ∧ k_Bk_makeItem nl Ln xs d this x1 σ (fun a3 σ2 => am_ext σ σ2 → F a3 σ2)) : c_Bk_tellOrMake_111 nl Ln xs (d + 1) this x1 σ F := by
  obtain ⟨j111, j112, j113, j116, -⟩ := P_Bk_tellOrMake_111 nl Ln xs
  unfold c_Bk_tellOrMake_111
  refine s_aload_n j111 rfl rfl ?_
  refine s_aload_n j112 rfl rfl ?_
  obtain ⟨ho1, h⟩ := h
  refine s_virt j113 rfl rfl rfl rfl ho1 (by decide) (in_Bk_makeItem _ _) (am_r8 rfl) (am_bI h (fun a3 σ2 h hx2 => ?_))
  replace h := h hx2
  exact s_retI j116 rfl h
theorem P_Bk_tellOrMake_117 (nl : Bool) (Ln : Nat) (xs : Nat → Int32) : am_Jl (TT nl Ln xs) 106 [(117, .aload_n 0, 118, []), (118, .aload_n 1, 119, []), (119, .invokevirtual 198, 122, [10, 124, 7, 6, 2]), (122, .ireturn, 123, [1])] := dk_ck (by decide +kernel)
set_option maxRecDepth 4096 in
theorem w_Bk_tellOrMake_117 {nl : Bool} {Ln : Nat} {xs : Nat → Int32} {d : Nat} {this : Nat} {x1 : Option Nat} {σ : am_S} {F : Int32 → am_S → Prop} (h : (am_is σ (some this) 6) ∧ k_Bk_makeCase nl Ln xs d this x1 σ (fun a3 σ2 => am_ext σ σ2 → F a3 σ2)) : c_Bk_tellOrMake_117 nl Ln xs (d + 1) this x1 σ F := by
  obtain ⟨j117, j118, j119, j122, -⟩ := P_Bk_tellOrMake_117 nl Ln xs
  unfold c_Bk_tellOrMake_117
  refine s_aload_n j117 rfl rfl ?_
  refine s_aload_n j118 rfl rfl ?_
  obtain ⟨ho1, h⟩ := h
  refine s_virt j119 rfl rfl rfl rfl ho1 (by decide) (in_Bk_makeCase _ _) (am_r8 rfl) (am_bI h (fun a3 σ2 h hx2 => ?_))
  replace h := h hx2
  exact s_retI j122 rfl h
theorem P_Bk_makePerson (nl : Bool) (Ln : Nat) (xs : Nat → Int32) : am_Jl (TT nl Ln xs) 107 [(0, .aload_n 0, 1, []), (1, .getfield 69, 4, [9, 6, 11, 0]), (4, .bipush 100, 6, []), (6, .if_icmp .lt 6, 9, []), (9, .bipush (-7), 11, []), (11, .ireturn, 12, [1]), (12, .aload_n 0, 13, []), (13, .dup, 14, []), (14, .getfield 69, 17, [9, 6, 11, 0]), (17, .iconst 1, 18, []), (18, .iadd, 19, []), (19, .putfield 69, 22, [9, 6, 11, 0]), (22, .aload_n 0, 23, []), (23, .getfield 69, 26, [9, 6, 11, 0]), (26, .iconst 1, 27, []), (27, .isub, 28, []), (28, .ireturn, 29, [1])] := dk_ck (by decide +kernel)
set_option maxRecDepth 4096 in
theorem w_Bk_makePerson {nl : Bool} {Ln : Nat} {xs : Nat → Int32} {d : Nat} {this : Nat} {σ : am_S} {F : Int32 → am_S → Prop} (h : (am_is σ (some this) 6) ∧ ((am_fI σ 6011 this) < (100 : Int32) → ∀ σ3, σ3 = am_sfI σ 6011 this ((am_fI σ 6011 this) + (1 : Int32)) → F ((am_fI σ3 6011 this) - (1 : Int32)) σ3) ∧ (¬ ((am_fI σ 6011 this) < (100 : Int32)) → F (-7 : Int32) σ)) : k_Bk_makePerson nl Ln xs (d + 1) this σ F := by
  obtain ⟨j0, j1, j4, j6, j9, j11, j12, j13, j14, j17, j18, j19, j22, j23, j26, j27, j28, -⟩ := P_Bk_makePerson nl Ln xs
  have elo : am_lo 1 [am_ov (some this)] = [some (am_ov (some this))] := by simp only [am_lo, am_in_ov, am_in_int, am_in_long, am_in_nil]; rfl
  unfold k_Bk_makePerson
  rw [elo]
  refine s_aload_n j0 rfl rfl ?_
  obtain ⟨ho1, h⟩ := h
  refine s_gfI j1 rfl ho1 ?_
  refine s_bipush j4 rfl kc_bi_100 ?_
  refine s_ic j6 rfl rfl am_cc_lt (fun hc2 => ?_) (fun hc2 => ?_)
  · replace h := h.1 hc2
    refine s_aload_n j12 rfl rfl ?_
    refine s_dup j13 rfl (am_cov _) ?_
    refine s_gfI j14 rfl ho1 ?_
    refine s_iconst j17 rfl kc_ic_1 ?_
    refine s_g j18 rfl rfl rfl rfl rfl rfl ?_
    refine s_pfI j19 rfl ho1 (fun σ3 e4 => ?_)
    replace h := h σ3 e4
    have ek5 : am_kd σ3 = am_kd σ := by rw [e4]
    refine s_aload_n j22 rfl rfl ?_
    refine s_gfI j23 rfl (am_is_kd ek5 ho1) ?_
    refine s_iconst j26 rfl kc_ic_1 ?_
    refine s_g j27 rfl rfl rfl rfl rfl rfl ?_
    exact s_retI j28 rfl h
  · replace h := h.2 hc2
    refine s_bipush j9 rfl kc_bi_m7 ?_
    exact s_retI j11 rfl h
theorem P_Bk_tellRank (nl : Bool) (Ln : Nat) (xs : Nat → Int32) : am_Jl (TT nl Ln xs) 108 [(0, .aload_n 1, 1, []), (1, .iconst 1, 2, []), (2, .laload, 3, []), (3, .lconst 0, 4, []), (4, .lcmp, 5, []), (5, .ifCond .lt 31, 8, []), (8, .aload_n 1, 9, []), (9, .iconst 1, 10, []), (10, .laload, 11, []), (11, .ldc2_w 232, 14, [6, 6]), (14, .lcmp, 15, []), (15, .ifCond .ge 21, 18, []), (18, .aload_n 1, 19, []), (19, .iconst 2, 20, []), (20, .laload, 21, []), (21, .lconst 0, 22, []), (22, .lcmp, 23, []), (23, .ifCond .lt 13, 26, []), (26, .aload_n 1, 27, []), (27, .iconst 2, 28, []), (28, .laload, 29, []), (29, .ldc2_w 234, 32, [6, 9]), (32, .lcmp, 33, []), (33, .ifCond .le 6, 36, []), (36, .bipush (-2), 38, []), (38, .ireturn, 39, [1]), (39, .aload_n 0, 40, []), (40, .iconst 2, 41, []), (41, .invokevirtual 236, 44, [10, 82, 7, 2, 2]), (44, .ifCond .eq 6, 47, []), (47, .bipush (-7), 49, []), (49, .ireturn, 50, [1]), (50, .aload_n 0, 51, []), (51, .getfield 40, 54, [9, 6, 7, 2]), (54, .iconst 2, 55, []), (55, .dup2, 56, []), (56, .iaload, 57, []), (57, .iconst 1, 58, []), (58, .iadd, 59, []), (59, .iastore, 60, []), (60, .aload_n 0, 61, []), (61, .aload_n 0, 62, []), (62, .getfield 58, 65, [9, 6, 2, 2]), (65, .iconst 2, 66, []), (66, .aload_n 1, 67, []), (67, .iconst 1, 68, []), (68, .laload, 69, []), (69, .l2i, 70, []), (70, .aload_n 0, 71, []), (71, .getfield 82, 74, [9, 6, 15, 0]), (74, .iconst 1, 75, []), (75, .iadd, 76, []), (76, .aload_n 1, 77, []), (77, .iconst 2, 78, []), (78, .laload, 79, []), (79, .aconst_null, 80, []), (80, .aload_n 0, 81, []), (81, .getfield 65, 84, [9, 6, 10, 2]), (84, .invokevirtual 240, 87, [10, 71, 6, 9, 7]), (87, .putfield 65, 90, [9, 6, 10, 2]), (90, .iconst 1, 91, []), (91, .ireturn, 92, [1])] := dk_ck (by decide +kernel)
set_option maxRecDepth 4096 in
theorem w_Bk_tellRank {nl : Bool} {Ln : Nat} {xs : Nat → Int32} {d : Nat} {this : Nat} {p0 : Option Nat} {σ : am_S} {F : Int32 → am_S → Prop} (h : (am_ar σ 1001 p0 (1 : Int32)) ∧ ((am_aL σ (p0.getD 0) (1 : Int32).toNatClampNeg) < (0 : Int64) → F (-2 : Int32) σ) ∧ (¬ ((am_aL σ (p0.getD 0) (1 : Int32).toNatClampNeg) < (0 : Int64)) → (am_ar σ 1001 p0 (1 : Int32)) ∧ ((am_aL σ (p0.getD 0) (1 : Int32).toNatClampNeg) < (6 : Int64) → (am_ar σ 1001 p0 (2 : Int32)) ∧ ((am_aL σ (p0.getD 0) (2 : Int32).toNatClampNeg) < (0 : Int64) → F (-2 : Int32) σ) ∧ (¬ ((am_aL σ (p0.getD 0) (2 : Int32).toNatClampNeg) < (0 : Int64)) → (am_ar σ 1001 p0 (2 : Int32)) ∧ ((9 : Int64) < (am_aL σ (p0.getD 0) (2 : Int32).toNatClampNeg) → F (-2 : Int32) σ) ∧ (¬ ((9 : Int64) < (am_aL σ (p0.getD 0) (2 : Int32).toNatClampNeg)) → (am_is σ (some this) 6) ∧ k_Bk_isToldOut nl Ln xs d this (2 : Int32) σ (fun a11 σ10 => am_ext σ σ10 → (a11 = true → F (-7 : Int32) σ10) ∧ (¬ (a11 = true) → (am_ar σ10 1000 (am_fR σ10 6007 this) (2 : Int32)) ∧ (am_ar σ10 1000 (am_fR σ10 6007 this) (2 : Int32)) ∧ ∀ σ15, σ15 = am_saI σ10 ((am_fR σ10 6007 this).getD 0) (2 : Int32).toNatClampNeg ((am_aI σ10 ((am_fR σ10 6007 this).getD 0) (2 : Int32).toNatClampNeg) + (1 : Int32)) → (am_ar σ15 1001 p0 (1 : Int32)) ∧ (am_ar σ15 1001 p0 (2 : Int32)) ∧ (am_is σ15 (am_fR σ15 6002 this) 5) ∧ k_Sk_drawEntry nl Ln xs d ((am_fR σ15 6002 this).getD 0) (2 : Int32) ((am_aL σ15 (p0.getD 0) (1 : Int32).toNatClampNeg).toInt32) ((am_fI σ15 6015 this) + (1 : Int32)) (am_aL σ15 (p0.getD 0) (2 : Int32).toNatClampNeg) none (am_fR σ15 6010 this) σ15 (fun a22 σ21 => am_ext σ15 σ21 → ∀ σ23, σ23 = am_sfR σ21 6010 this a22 → F (1 : Int32) σ23)))))) ∧ (¬ ((am_aL σ (p0.getD 0) (1 : Int32).toNatClampNeg) < (6 : Int64)) → F (-2 : Int32) σ))) : k_Bk_tellRank nl Ln xs (d + 1) this p0 σ F := by
  obtain ⟨j0, j1, j2, j3, j4, j5, j8, j9, j10, j11, j14, j15, j18, j19, j20, j21, j22, j23, j26, j27, j28, j29, j32, j33, j36, j38, j39, j40, j41, j44, j47, j49, j50, j51, j54, j55, j56, j57, j58, j59, j60, j61, j62, j65, j66, j67, j68, j69, j70, j71, j74, j75, j76, j77, j78, j79, j80, j81, j84, j87, j90, j91, -⟩ := P_Bk_tellRank nl Ln xs
  have elo : am_lo 2 [am_ov (some this), am_ov p0] = [some (am_ov (some this)), some (am_ov p0)] := by simp only [am_lo, am_in_ov, am_in_int, am_in_long, am_in_nil]; rfl
  unfold k_Bk_tellRank
  rw [elo]
  refine s_aload_n j0 rfl rfl ?_
  refine s_iconst j1 rfl kc_ic_1 ?_
  obtain ⟨ho1, h⟩ := h
  refine s_laload j2 rfl ho1 ?_
  refine s_lconst j3 rfl rfl ?_
  refine s_g j4 rfl rfl rfl rfl rfl rfl ?_
  refine s_if j5 rfl rfl am_cl_lt (fun hc2 => ?_) (fun hc2 => ?_)
  · replace h := h.1 hc2
    refine s_bipush j36 rfl kc_bi_m2 ?_
    exact s_retI j38 rfl h
  · replace h := h.2 hc2
    refine s_aload_n j8 rfl rfl ?_
    refine s_iconst j9 rfl kc_ic_1 ?_
    obtain ⟨ho3, h⟩ := h
    refine s_laload j10 rfl ho3 ?_
    refine s_ldc2 j11 rfl kc_ll_6 ?_
    refine s_g j14 rfl rfl rfl rfl rfl rfl ?_
    refine s_ifn j15 rfl rfl am_cl_ge (fun hc4 => ?_) (fun hc4 => ?_)
    · replace h := h.2 hc4
      refine s_bipush j36 rfl kc_bi_m2 ?_
      exact s_retI j38 rfl h
    · replace h := h.1 hc4
      refine s_aload_n j18 rfl rfl ?_
      refine s_iconst j19 rfl kc_ic_2 ?_
      obtain ⟨ho5, h⟩ := h
      refine s_laload j20 rfl ho5 ?_
      refine s_lconst j21 rfl rfl ?_
      refine s_g j22 rfl rfl rfl rfl rfl rfl ?_
      refine s_if j23 rfl rfl am_cl_lt (fun hc6 => ?_) (fun hc6 => ?_)
      · replace h := h.1 hc6
        refine s_bipush j36 rfl kc_bi_m2 ?_
        exact s_retI j38 rfl h
      · replace h := h.2 hc6
        refine s_aload_n j26 rfl rfl ?_
        refine s_iconst j27 rfl kc_ic_2 ?_
        obtain ⟨ho7, h⟩ := h
        refine s_laload j28 rfl ho7 ?_
        refine s_ldc2 j29 rfl kc_ll_9 ?_
        refine s_g j32 rfl rfl rfl rfl rfl rfl ?_
        refine s_ifn j33 rfl rfl am_cl_le (fun hc8 => ?_) (fun hc8 => ?_)
        · replace h := h.2 hc8
          refine s_aload_n j39 rfl rfl ?_
          refine s_iconst j40 rfl kc_ic_2 ?_
          obtain ⟨ho9, h⟩ := h
          refine s_virt j41 rfl rfl rfl rfl ho9 (by decide) (in_Bk_isToldOut _ _) (am_r8 rfl) (am_bB h (fun a11 σ10 h hx10 => ?_))
          replace h := h hx10
          refine s_ifn j44 rfl rfl am_cb_eq (fun hc12 => ?_) (fun hc12 => ?_)
          · replace h := h.2 hc12
            refine s_aload_n j50 rfl rfl ?_
            refine s_gfR j51 rfl (am_is_ext hx10 ho9) ?_
            refine s_iconst j54 rfl kc_ic_2 ?_
            refine s_dup2 j55 rfl (am_cov _) ?_
            obtain ⟨ho13, h⟩ := h
            refine s_iaload j56 rfl ho13 ?_
            refine s_iconst j57 rfl kc_ic_1 ?_
            refine s_g j58 rfl rfl rfl rfl rfl rfl ?_
            obtain ⟨ho14, h⟩ := h
            refine s_iastore j59 rfl ho14 (fun σ15 e16 => ?_)
            replace h := h σ15 e16
            have ek17 : am_kd σ15 = am_kd σ10 := by rw [e16]
            refine s_aload_n j60 rfl rfl ?_
            refine s_aload_n j61 rfl rfl ?_
            refine s_gfR j62 rfl (am_is_kd ek17 (am_is_ext hx10 ho9)) ?_
            refine s_iconst j65 rfl kc_ic_2 ?_
            refine s_aload_n j66 rfl rfl ?_
            refine s_iconst j67 rfl kc_ic_1 ?_
            obtain ⟨ho18, h⟩ := h
            refine s_laload j68 rfl ho18 ?_
            refine s_g j69 rfl rfl rfl rfl rfl rfl ?_
            refine s_aload_n j70 rfl rfl ?_
            refine s_gfI j71 rfl (am_is_kd ek17 (am_is_ext hx10 ho9)) ?_
            refine s_iconst j74 rfl kc_ic_1 ?_
            refine s_g j75 rfl rfl rfl rfl rfl rfl ?_
            refine s_aload_n j76 rfl rfl ?_
            refine s_iconst j77 rfl kc_ic_2 ?_
            obtain ⟨ho19, h⟩ := h
            refine s_laload j78 rfl ho19 ?_
            refine s_null j79 rfl ?_
            refine s_aload_n j80 rfl rfl ?_
            refine s_gfR j81 rfl (am_is_kd ek17 (am_is_ext hx10 ho9)) ?_
            obtain ⟨ho20, h⟩ := h
            refine s_virt j84 rfl rfl rfl rfl ho20 (by decide) (in_Sk_drawEntry _ _ _ _ _ _ _) (am_r8 rfl) (am_bR h (fun a22 σ21 h hx21 => ?_))
            replace h := h hx21
            refine s_pfR j87 rfl (am_is_ext hx21 (am_is_kd ek17 (am_is_ext hx10 ho9))) (fun σ23 e24 => ?_)
            replace h := h σ23 e24
            have ek25 : am_kd σ23 = am_kd σ21 := by rw [e24]
            refine s_iconst j90 rfl kc_ic_1 ?_
            exact s_retI j91 rfl h
          · replace h := h.1 hc12
            refine s_bipush j47 rfl kc_bi_m7 ?_
            exact s_retI j49 rfl h
        · replace h := h.1 hc8
          refine s_bipush j36 rfl kc_bi_m2 ?_
          exact s_retI j38 rfl h
theorem P_Bk_makePolicy (nl : Bool) (Ln : Nat) (xs : Nat → Int32) : am_Jl (TT nl Ln xs) 109 [(0, .aload_n 1, 1, []), (1, .iconst 1, 2, []), (2, .laload, 3, []), (3, .lconst 0, 4, []), (4, .lcmp, 5, []), (5, .ifCond .lt 37, 8, []), (8, .aload_n 1, 9, []), (9, .iconst 1, 10, []), (10, .laload, 11, []), (11, .ldc2_w 232, 14, [6, 6]), (14, .lcmp, 15, []), (15, .ifCond .gt 27, 18, []), (18, .aload_n 1, 19, []), (19, .iconst 2, 20, []), (20, .laload, 21, []), (21, .lconst 0, 22, []), (22, .lcmp, 23, []), (23, .ifCond .lt 19, 26, []), (26, .aload_n 1, 27, []), (27, .iconst 2, 28, []), (28, .laload, 29, []), (29, .aload_n 0, 30, []), (30, .getfield 69, 33, [9, 6, 11, 0]), (33, .i2l, 34, []), (34, .lcmp, 35, []), (35, .ifCond .ge 7, 38, []), (38, .iconst 1, 39, []), (39, .goto 4, 42, []), (42, .iconst 0, 43, [])] := dk_ck (by decide +kernel)
set_option maxRecDepth 4096 in
theorem w_Bk_makePolicy {nl : Bool} {Ln : Nat} {xs : Nat → Int32} {d : Nat} {this : Nat} {p0 : Option Nat} {σ : am_S} {F : Int32 → am_S → Prop} (h : (am_ar σ 1001 p0 (1 : Int32)) ∧ (¬ ((am_aL σ (p0.getD 0) (1 : Int32).toNatClampNeg) < (0 : Int64)) → am_ar σ 1001 p0 (1 : Int32)) ∧ (¬ ((am_aL σ (p0.getD 0) (1 : Int32).toNatClampNeg) < (0 : Int64)) → ¬ ((6 : Int64) < (am_aL σ (p0.getD 0) (1 : Int32).toNatClampNeg)) → am_ar σ 1001 p0 (2 : Int32)) ∧ (¬ ((am_aL σ (p0.getD 0) (1 : Int32).toNatClampNeg) < (0 : Int64)) → ¬ ((6 : Int64) < (am_aL σ (p0.getD 0) (1 : Int32).toNatClampNeg)) → ¬ ((am_aL σ (p0.getD 0) (2 : Int32).toNatClampNeg) < (0 : Int64)) → am_ar σ 1001 p0 (2 : Int32)) ∧ (¬ ((am_aL σ (p0.getD 0) (1 : Int32).toNatClampNeg) < (0 : Int64)) → ¬ ((6 : Int64) < (am_aL σ (p0.getD 0) (1 : Int32).toNatClampNeg)) → ¬ ((am_aL σ (p0.getD 0) (2 : Int32).toNatClampNeg) < (0 : Int64)) → am_is σ (some this) 6) ∧ c_Bk_makePolicy_43 nl Ln xs (d + 1) this p0 (if ¬ ((am_aL σ (p0.getD 0) (1 : Int32).toNatClampNeg) < (0 : Int64)) ∧ (¬ ((6 : Int64) < (am_aL σ (p0.getD 0) (1 : Int32).toNatClampNeg)) ∧ (¬ ((am_aL σ (p0.getD 0) (2 : Int32).toNatClampNeg) < (0 : Int64)) ∧ ((am_aL σ (p0.getD 0) (2 : Int32).toNatClampNeg) < (am_fI σ 6011 this).toInt64))) then (1 : Int32) else 0) σ F) : k_Bk_makePolicy nl Ln xs (d + 1) this p0 σ F := by
  obtain ⟨j0, j1, j2, j3, j4, j5, j8, j9, j10, j11, j14, j15, j18, j19, j20, j21, j22, j23, j26, j27, j28, j29, j30, j33, j34, j35, j38, j39, j42, -⟩ := P_Bk_makePolicy nl Ln xs
  have elo : am_lo 3 [am_ov (some this), am_ov p0] = [some (am_ov (some this)), some (am_ov p0), none] := by simp only [am_lo, am_in_ov, am_in_int, am_in_long, am_in_nil]; rfl
  unfold k_Bk_makePolicy
  rw [elo]
  refine s_aload_n j0 rfl rfl ?_
  refine s_iconst j1 rfl kc_ic_1 ?_
  obtain ⟨ho1, h⟩ := h
  refine s_laload j2 rfl ho1 ?_
  refine s_lconst j3 rfl rfl ?_
  refine s_g j4 rfl rfl rfl rfl rfl rfl ?_
  obtain ⟨ho3, h⟩ := h
  obtain ⟨ho5, h⟩ := h
  obtain ⟨ho7, h⟩ := h
  obtain ⟨ho8, h⟩ := h
  have K10 : ∀ (w11 : Int32), w11 = (if ¬ ((am_aL σ (p0.getD 0) (1 : Int32).toNatClampNeg) < (0 : Int64)) ∧ (¬ ((6 : Int64) < (am_aL σ (p0.getD 0) (1 : Int32).toNatClampNeg)) ∧ (¬ ((am_aL σ (p0.getD 0) (2 : Int32).toNatClampNeg) < (0 : Int64)) ∧ ((am_aL σ (p0.getD 0) (2 : Int32).toNatClampNeg) < (am_fI σ 6011 this).toInt64))) then (1 : Int32) else 0) → am_C (TT nl Ln xs) (d + 1) 109 43 [some (am_ov (some this)), some (am_ov p0), none] [.int w11] σ (am_qI F) := by
    intro w11 hw12
    subst hw12
    exact h
  refine s_if j5 rfl rfl am_cl_lt (fun hc2 => ?_) (fun hc2 => ?_)
  · refine s_iconst j42 rfl kc_ic_0 ?_
    exact K10 _ (am_e0 (Iff.trans Iff.rfl (am_p6 hc2)))
  · refine s_aload_n j8 rfl rfl ?_
    refine s_iconst j9 rfl kc_ic_1 ?_
    refine s_laload j10 rfl (ho3 hc2) ?_
    refine s_ldc2 j11 rfl kc_ll_6 ?_
    refine s_g j14 rfl rfl rfl rfl rfl rfl ?_
    refine s_if j15 rfl rfl am_cl_gt (fun hc4 => ?_) (fun hc4 => ?_)
    · refine s_iconst j42 rfl kc_ic_0 ?_
      exact K10 _ (am_e0 (am_p5 hc2 (Iff.trans Iff.rfl (am_p6 hc4))))
    · refine s_aload_n j18 rfl rfl ?_
      refine s_iconst j19 rfl kc_ic_2 ?_
      refine s_laload j20 rfl (ho5 hc2 hc4) ?_
      refine s_lconst j21 rfl rfl ?_
      refine s_g j22 rfl rfl rfl rfl rfl rfl ?_
      refine s_if j23 rfl rfl am_cl_lt (fun hc6 => ?_) (fun hc6 => ?_)
      · refine s_iconst j42 rfl kc_ic_0 ?_
        exact K10 _ (am_e0 (am_p5 hc2 (am_p5 hc4 (Iff.trans Iff.rfl (am_p6 hc6)))))
      · refine s_aload_n j26 rfl rfl ?_
        refine s_iconst j27 rfl kc_ic_2 ?_
        refine s_laload j28 rfl (ho7 hc2 hc4 hc6) ?_
        refine s_aload_n j29 rfl rfl ?_
        refine s_gfI j30 rfl (ho8 hc2 hc4 hc6) ?_
        refine s_g j33 rfl rfl rfl rfl rfl rfl ?_
        refine s_g j34 rfl rfl rfl rfl rfl rfl ?_
        refine s_ifn j35 rfl rfl am_cl_ge (fun hc9 => ?_) (fun hc9 => ?_)
        · refine s_iconst j42 rfl kc_ic_0 ?_
          exact K10 _ (am_e0 (am_p5 hc2 (am_p5 hc4 (am_p5 hc6 (Iff.trans Iff.rfl (am_p10 hc9))))))
        · refine s_iconst j38 rfl kc_ic_1 ?_
          refine s_goto j39 rfl rfl ?_
          exact K10 _ (am_e1 (am_p5 hc2 (am_p5 hc4 (am_p5 hc6 (Iff.trans Iff.rfl (am_p9 hc9))))))
theorem P_Bk_makePolicy_43 (nl : Bool) (Ln : Nat) (xs : Nat → Int32) : am_Jl (TT nl Ln xs) 109 [(43, .istore_n 2, 44, []), (44, .iload_n 2, 45, []), (45, .ifCond .eq 31, 48, []), (48, .aload_n 1, 49, []), (49, .iconst 3, 50, []), (50, .laload, 51, []), (51, .invokestatic 244, 54, [12, 13, 2, 1]), (54, .ifCond .eq 22, 57, []), (57, .aload_n 1, 58, []), (58, .iconst 4, 59, []), (59, .laload, 60, []), (60, .invokestatic 244, 63, [12, 13, 2, 1]), (63, .ifCond .eq 13, 66, []), (66, .aload_n 1, 67, []), (67, .iconst 4, 68, []), (68, .laload, 69, []), (69, .aload_n 1, 70, []), (70, .iconst 3, 71, []), (71, .laload, 72, []), (72, .lcmp, 73, []), (73, .ifCond .ge 6, 76, []), (76, .bipush (-2), 78, []), (78, .ireturn, 79, [1]), (79, .aload_n 0, 80, []), (80, .getfield 73, 83, [9, 6, 12, 0]), (83, .bipush 100, 85, []), (85, .if_icmp .lt 6, 88, []), (88, .bipush (-7), 90, []), (90, .ireturn, 91, [1]), (91, .aload_n 0, 92, []), (92, .getfield 20, 95, [9, 6, 4, 2]), (95, .aload_n 0, 96, []), (96, .getfield 73, 99, [9, 6, 12, 0]), (99, .aload_n 0, 100, []), (100, .getfield 58, 103, [9, 6, 2, 2]), (103, .aload_n 0, 104, []), (104, .getfield 73, 107, [9, 6, 12, 0]), (107, .aload_n 1, 108, []), (108, .iconst 1, 109, []), (109, .laload, 110, []), (110, .l2i, 111, []), (111, .aload_n 1, 112, []), (112, .iconst 3, 113, []), (113, .laload, 114, []), (114, .l2i, 115, []), (115, .aload_n 1, 116, []), (116, .iconst 4, 117, []), (117, .laload, 118, []), (118, .l2i, 119, []), (119, .invokevirtual 248, 122, [10, 110, 6, 6, 5]), (122, .aastore, 123, []), (123, .aload_n 0, 124, []), (124, .dup, 125, []), (125, .getfield 73, 128, [9, 6, 12, 0]), (128, .iconst 1, 129, []), (129, .iadd, 130, []), (130, .putfield 73, 133, [9, 6, 12, 0]), (133, .aload_n 0, 134, []), (134, .getfield 73, 137, [9, 6, 12, 0]), (137, .iconst 1, 138, []), (138, .isub, 139, []), (139, .ireturn, 140, [1])] := dk_ck (by decide +kernel)
set_option maxRecDepth 4096 in
theorem w_Bk_makePolicy_43 {nl : Bool} {Ln : Nat} {xs : Nat → Int32} {d : Nat} {this : Nat} {x1 : Option Nat} {y0 : Int32} {σ : am_S} {F : Int32 → am_S → Prop} (h : (y0 = 0 → F (-2 : Int32) σ) ∧ (¬ (y0 = 0) → (am_ar σ 1001 x1 (3 : Int32)) ∧ k_Co_isDay nl Ln xs d (am_aL σ (x1.getD 0) (3 : Int32).toNatClampNeg) σ (fun a4 σ3 => am_ext σ σ3 → (a4 = true → (am_ar σ3 1001 x1 (4 : Int32)) ∧ k_Co_isDay nl Ln xs d (am_aL σ3 (x1.getD 0) (4 : Int32).toNatClampNeg) σ3 (fun a8 σ7 => am_ext σ3 σ7 → (a8 = true → (am_ar σ7 1001 x1 (4 : Int32)) ∧ (am_ar σ7 1001 x1 (3 : Int32)) ∧ ((am_aL σ7 (x1.getD 0) (4 : Int32).toNatClampNeg) < (am_aL σ7 (x1.getD 0) (3 : Int32).toNatClampNeg) → F (-2 : Int32) σ7) ∧ (¬ ((am_aL σ7 (x1.getD 0) (4 : Int32).toNatClampNeg) < (am_aL σ7 (x1.getD 0) (3 : Int32).toNatClampNeg)) → (am_is σ7 (some this) 6) ∧ ((am_fI σ7 6012 this) < (100 : Int32) → (am_ar σ7 1001 x1 (1 : Int32)) ∧ (am_ar σ7 1001 x1 (3 : Int32)) ∧ (am_ar σ7 1001 x1 (4 : Int32)) ∧ (am_is σ7 (am_fR σ7 6002 this) 5) ∧ k_Sk_drawPolicy nl Ln xs d ((am_fR σ7 6002 this).getD 0) (am_fI σ7 6012 this) ((am_aL σ7 (x1.getD 0) (1 : Int32).toNatClampNeg).toInt32) ((am_aL σ7 (x1.getD 0) (3 : Int32).toNatClampNeg).toInt32) ((am_aL σ7 (x1.getD 0) (4 : Int32).toNatClampNeg).toInt32) σ7 (fun a20 σ19 => am_ext σ7 σ19 → (am_ar σ19 2009 (am_fR σ7 6004 this) (am_fI σ7 6012 this)) ∧ (∀ n, a20 = some n → (am_kd σ19 n).1 = 10) ∧ ∀ σ23, σ23 = am_saR σ19 ((am_fR σ7 6004 this).getD 0) (am_fI σ7 6012 this).toNatClampNeg a20 → ∀ σ26, σ26 = am_sfI σ23 6012 this ((am_fI σ23 6012 this) + (1 : Int32)) → F ((am_fI σ26 6012 this) - (1 : Int32)) σ26)) ∧ (¬ ((am_fI σ7 6012 this) < (100 : Int32)) → F (-7 : Int32) σ7))) ∧ (¬ (a8 = true) → F (-2 : Int32) σ7))) ∧ (¬ (a4 = true) → F (-2 : Int32) σ3)))) : c_Bk_makePolicy_43 nl Ln xs (d + 1) this x1 y0 σ F := by
  obtain ⟨j43, j44, j45, j48, j49, j50, j51, j54, j57, j58, j59, j60, j63, j66, j67, j68, j69, j70, j71, j72, j73, j76, j78, j79, j80, j83, j85, j88, j90, j91, j92, j95, j96, j99, j100, j103, j104, j107, j108, j109, j110, j111, j112, j113, j114, j115, j116, j117, j118, j119, j122, j123, j124, j125, j128, j129, j130, j133, j134, j137, j138, j139, -⟩ := P_Bk_makePolicy_43 nl Ln xs
  unfold c_Bk_makePolicy_43
  refine s_istore_n j43 rfl (n := 3) (L' := [some (am_ov (some this)), some (am_ov x1), some (.int y0)]) rfl (by decide) (am_st1_R [_] _ _ _ _) ?_
  refine s_iload_n j44 rfl rfl ?_
  refine s_if j45 rfl rfl am_cc_eq (fun hc1 => ?_) (fun hc1 => ?_)
  · replace h := h.1 hc1
    refine s_bipush j76 rfl kc_bi_m2 ?_
    exact s_retI j78 rfl h
  · replace h := h.2 hc1
    refine s_aload_n j48 rfl rfl ?_
    refine s_iconst j49 rfl kc_ic_3 ?_
    obtain ⟨ho2, h⟩ := h
    refine s_laload j50 rfl ho2 ?_
    refine s_stat j51 rfl rfl rfl rfl (by decide) (in_Co_isDay _) (am_r8 rfl) (am_bB h (fun a4 σ3 h hx3 => ?_))
    replace h := h hx3
    refine s_ifn j54 rfl rfl am_cb_eq (fun hc5 => ?_) (fun hc5 => ?_)
    · replace h := h.2 hc5
      refine s_bipush j76 rfl kc_bi_m2 ?_
      exact s_retI j78 rfl h
    · replace h := h.1 hc5
      refine s_aload_n j57 rfl rfl ?_
      refine s_iconst j58 rfl kc_ic_4 ?_
      obtain ⟨ho6, h⟩ := h
      refine s_laload j59 rfl ho6 ?_
      refine s_stat j60 rfl rfl rfl rfl (by decide) (in_Co_isDay _) (am_r8 rfl) (am_bB h (fun a8 σ7 h hx7 => ?_))
      replace h := h hx7
      refine s_ifn j63 rfl rfl am_cb_eq (fun hc9 => ?_) (fun hc9 => ?_)
      · replace h := h.2 hc9
        refine s_bipush j76 rfl kc_bi_m2 ?_
        exact s_retI j78 rfl h
      · replace h := h.1 hc9
        refine s_aload_n j66 rfl rfl ?_
        refine s_iconst j67 rfl kc_ic_4 ?_
        obtain ⟨ho10, h⟩ := h
        refine s_laload j68 rfl ho10 ?_
        refine s_aload_n j69 rfl rfl ?_
        refine s_iconst j70 rfl kc_ic_3 ?_
        obtain ⟨ho11, h⟩ := h
        refine s_laload j71 rfl ho11 ?_
        refine s_g j72 rfl rfl rfl rfl rfl rfl ?_
        refine s_ifn j73 rfl rfl am_cl_ge (fun hc12 => ?_) (fun hc12 => ?_)
        · replace h := h.2 hc12
          refine s_aload_n j79 rfl rfl ?_
          obtain ⟨ho13, h⟩ := h
          refine s_gfI j80 rfl ho13 ?_
          refine s_bipush j83 rfl kc_bi_100 ?_
          refine s_ic j85 rfl rfl am_cc_lt (fun hc14 => ?_) (fun hc14 => ?_)
          · replace h := h.1 hc14
            refine s_aload_n j91 rfl rfl ?_
            refine s_gfR j92 rfl ho13 ?_
            refine s_aload_n j95 rfl rfl ?_
            refine s_gfI j96 rfl ho13 ?_
            refine s_aload_n j99 rfl rfl ?_
            refine s_gfR j100 rfl ho13 ?_
            refine s_aload_n j103 rfl rfl ?_
            refine s_gfI j104 rfl ho13 ?_
            refine s_aload_n j107 rfl rfl ?_
            refine s_iconst j108 rfl kc_ic_1 ?_
            obtain ⟨ho15, h⟩ := h
            refine s_laload j109 rfl ho15 ?_
            refine s_g j110 rfl rfl rfl rfl rfl rfl ?_
            refine s_aload_n j111 rfl rfl ?_
            refine s_iconst j112 rfl kc_ic_3 ?_
            obtain ⟨ho16, h⟩ := h
            refine s_laload j113 rfl ho16 ?_
            refine s_g j114 rfl rfl rfl rfl rfl rfl ?_
            refine s_aload_n j115 rfl rfl ?_
            refine s_iconst j116 rfl kc_ic_4 ?_
            obtain ⟨ho17, h⟩ := h
            refine s_laload j117 rfl ho17 ?_
            refine s_g j118 rfl rfl rfl rfl rfl rfl ?_
            obtain ⟨ho18, h⟩ := h
            refine s_virt j119 rfl rfl rfl rfl ho18 (by decide) (in_Sk_drawPolicy _ _ _ _ _) (am_r8 rfl) (am_bR h (fun a20 σ19 h hx19 => ?_))
            replace h := h hx19
            obtain ⟨ho21, h⟩ := h
            obtain ⟨ho22, h⟩ := h
            refine s_aastoreN (k := 2009) (by decide) kq1_2009 ho22 j122 rfl ho21 (fun σ23 e24 => ?_)
            replace h := h σ23 e24
            have ek25 : am_kd σ23 = am_kd σ19 := by rw [e24]
            refine s_aload_n j123 rfl rfl ?_
            refine s_dup j124 rfl (am_cov _) ?_
            refine s_gfI j125 rfl (am_is_kd ek25 (am_is_ext hx19 ho13)) ?_
            refine s_iconst j128 rfl kc_ic_1 ?_
            refine s_g j129 rfl rfl rfl rfl rfl rfl ?_
            refine s_pfI j130 rfl (am_is_kd ek25 (am_is_ext hx19 ho13)) (fun σ26 e27 => ?_)
            replace h := h σ26 e27
            have ek28 : am_kd σ26 = am_kd σ23 := by rw [e27]
            refine s_aload_n j133 rfl rfl ?_
            refine s_gfI j134 rfl (am_is_kd ek28 (am_is_kd ek25 (am_is_ext hx19 ho13))) ?_
            refine s_iconst j137 rfl kc_ic_1 ?_
            refine s_g j138 rfl rfl rfl rfl rfl rfl ?_
            exact s_retI j139 rfl h
          · replace h := h.2 hc14
            refine s_bipush j88 rfl kc_bi_m7 ?_
            exact s_retI j90 rfl h
        · replace h := h.1 hc12
          refine s_bipush j76 rfl kc_bi_m2 ?_
          exact s_retI j78 rfl h
theorem P_Sk_drawPolicy (nl : Bool) (Ln : Nat) (xs : Nat → Int32) : am_Jl (TT nl Ln xs) 110 [(0, .aload_n 0, 1, []), (1, .getfield 41, 4, [9, 5, 1, 2]), (4, .ifnonnull 13, 7, []), (7, .new 45, 10, [2, 9, 6]), (10, .dup, 11, []), (11, .invokespecial 47, 14, [11, 111, 10, 1, 1]), (14, .goto 7, 17, []), (17, .aload_n 0, 18, []), (18, .getfield 41, 21, [9, 5, 1, 2])] := dk_ck (by decide +kernel)
set_option maxRecDepth 4096 in
theorem w_Sk_drawPolicy {nl : Bool} {Ln : Nat} {xs : Nat → Int32} {d : Nat} {this : Nat} {p0 : Int32} {p1 : Int32} {p2 : Int32} {p3 : Int32} {σ : am_S} {F : Option Nat → am_S → Prop} (h : (am_is σ (some this) 5) ∧ ((am_fR σ 5001 this) = none → ∀ σ3, σ3 = am_new σ 10 0 6 → am_ext σ σ3 → am_fz σ3 (am_nx σ) → k_Po_init nl Ln xs d (am_nx σ) σ3 (fun σ5 => am_ext σ3 σ5 → c_Sk_drawPolicy_21 nl Ln xs (d + 1) this p0 p1 p2 p3 (some (am_nx σ)) σ5 F)) ∧ (¬ ((am_fR σ 5001 this) = none) → c_Sk_drawPolicy_21 nl Ln xs (d + 1) this p0 p1 p2 p3 (am_fR σ 5001 this) σ F)) : k_Sk_drawPolicy nl Ln xs (d + 1) this p0 p1 p2 p3 σ F := by
  obtain ⟨j0, j1, j4, j7, j10, j11, j14, j17, j18, -⟩ := P_Sk_drawPolicy nl Ln xs
  have elo : am_lo 6 [am_ov (some this), .int p0, .int p1, .int p2, .int p3] = [some (am_ov (some this)), some (.int p0), some (.int p1), some (.int p2), some (.int p3), none] := by simp only [am_lo, am_in_ov, am_in_int, am_in_long, am_in_nil]; rfl
  unfold k_Sk_drawPolicy
  rw [elo]
  refine s_aload_n j0 rfl rfl ?_
  obtain ⟨ho1, h⟩ := h
  refine s_gfR j1 rfl ho1 ?_
  refine s_ifnonnull j4 rfl rfl (fun hc2 => ?_) (fun hc2 => ?_)
  · replace h := h.2 hc2
    refine s_aload_n j17 rfl rfl ?_
    refine s_gfR j18 rfl ho1 ?_
    exact h
  · replace h := h.1 hc2
    refine s_new j7 rfl (fun σ3 e4 e4x e4z => ?_)
    replace h := h σ3 e4 e4x e4z
    refine s_dup j10 rfl (am_cov _) ?_
    refine s_spec j11 rfl rfl rfl rfl (by decide) (in_Po_init _) (am_r8 rfl) (am_bV h (fun σ5 h hx5 => ?_))
    replace h := h hx5
    refine s_goto j14 rfl rfl ?_
    exact h
theorem P_Sk_drawPolicy_21 (nl : Bool) (Ln : Nat) (xs : Nat → Int32) : am_Jl (TT nl Ln xs) 110 [(21, .astore 5, 23, []), (23, .aload_n 0, 24, []), (24, .aload 5, 26, []), (26, .getfield 48, 29, [9, 9, 5, 2]), (29, .putfield 41, 32, [9, 5, 1, 2]), (32, .aload 5, 34, []), (34, .iload_n 1, 35, []), (35, .putfield 51, 38, [9, 9, 0, 0]), (38, .aload 5, 40, []), (40, .iload_n 2, 41, []), (41, .putfield 54, 44, [9, 9, 1, 0]), (44, .aload 5, 46, []), (46, .iload_n 3, 47, []), (47, .putfield 57, 50, [9, 9, 2, 0]), (50, .aload 5, 52, []), (52, .iload 4, 54, []), (54, .putfield 60, 57, [9, 9, 3, 0]), (57, .aload 5, 59, []), (59, .aconst_null, 60, []), (60, .putfield 63, 63, [9, 9, 4, 2]), (63, .aload 5, 65, []), (65, .areturn, 66, [3])] := dk_ck (by decide +kernel)
set_option maxRecDepth 4096 in
theorem w_Sk_drawPolicy_21 {nl : Bool} {Ln : Nat} {xs : Nat → Int32} {d : Nat} {this : Nat} {x1 : Int32} {x2 : Int32} {x3 : Int32} {x4 : Int32} {y0 : Option Nat} {σ : am_S} {F : Option Nat → am_S → Prop} (h : (am_is σ y0 9) ∧ (am_is σ (some this) 5) ∧ ∀ σ3, σ3 = am_sfR σ 5001 this (am_fR σ 9005 (y0.getD 0)) → ∀ σ6, σ6 = am_sfI σ3 9000 (y0.getD 0) x1 → ∀ σ9, σ9 = am_sfI σ6 9001 (y0.getD 0) x2 → ∀ σ12, σ12 = am_sfI σ9 9002 (y0.getD 0) x3 → ∀ σ15, σ15 = am_sfI σ12 9003 (y0.getD 0) x4 → ∀ σ18, σ18 = am_sfR σ15 9004 (y0.getD 0) none → F y0 σ18) : c_Sk_drawPolicy_21 nl Ln xs (d + 1) this x1 x2 x3 x4 y0 σ F := by
  obtain ⟨j21, j23, j24, j26, j29, j32, j34, j35, j38, j40, j41, j44, j46, j47, j50, j52, j54, j57, j59, j60, j63, j65, -⟩ := P_Sk_drawPolicy_21 nl Ln xs
  unfold c_Sk_drawPolicy_21
  refine s_astore j21 rfl (n := 6) (L' := [some (am_ov (some this)), some (.int x1), some (.int x2), some (.int x3), some (.int x4), some (am_ov y0)]) rfl (by decide) rfl ?_
  refine s_aload_n j23 rfl rfl ?_
  refine s_aload j24 rfl rfl ?_
  obtain ⟨ho1, h⟩ := h
  refine s_gfR j26 rfl ho1 ?_
  obtain ⟨ho2, h⟩ := h
  refine s_pfR j29 rfl ho2 (fun σ3 e4 => ?_)
  replace h := h σ3 e4
  have ek5 : am_kd σ3 = am_kd σ := by rw [e4]
  refine s_aload j32 rfl rfl ?_
  refine s_iload_n j34 rfl rfl ?_
  refine s_pfI j35 rfl (am_is_kd ek5 ho1) (fun σ6 e7 => ?_)
  replace h := h σ6 e7
  have ek8 : am_kd σ6 = am_kd σ3 := by rw [e7]
  refine s_aload j38 rfl rfl ?_
  refine s_iload_n j40 rfl rfl ?_
  refine s_pfI j41 rfl (am_is_kd ek8 (am_is_kd ek5 ho1)) (fun σ9 e10 => ?_)
  replace h := h σ9 e10
  have ek11 : am_kd σ9 = am_kd σ6 := by rw [e10]
  refine s_aload j44 rfl rfl ?_
  refine s_iload_n j46 rfl rfl ?_
  refine s_pfI j47 rfl (am_is_kd ek11 (am_is_kd ek8 (am_is_kd ek5 ho1))) (fun σ12 e13 => ?_)
  replace h := h σ12 e13
  have ek14 : am_kd σ12 = am_kd σ9 := by rw [e13]
  refine s_aload j50 rfl rfl ?_
  refine s_iload j52 rfl rfl ?_
  refine s_pfI j54 rfl (am_is_kd ek14 (am_is_kd ek11 (am_is_kd ek8 (am_is_kd ek5 ho1)))) (fun σ15 e16 => ?_)
  replace h := h σ15 e16
  have ek17 : am_kd σ15 = am_kd σ12 := by rw [e16]
  refine s_aload j57 rfl rfl ?_
  refine s_null j59 rfl ?_
  refine s_pfR j60 rfl (am_is_kd ek17 (am_is_kd ek14 (am_is_kd ek11 (am_is_kd ek8 (am_is_kd ek5 ho1))))) (fun σ18 e19 => ?_)
  replace h := h σ18 e19
  have ek20 : am_kd σ18 = am_kd σ15 := by rw [e19]
  refine s_aload j63 rfl rfl ?_
  exact s_retR j65 rfl h
theorem P_Po_init (nl : Bool) (Ln : Nat) (xs : Nat → Int32) : am_Jl (TT nl Ln xs) 111 [(0, .aload_n 0, 1, []), (1, .invokespecial 3, 4, [13]), (4, .return_, 5, [0])] := dk_ck (by decide +kernel)
set_option maxRecDepth 4096 in
theorem w_Po_init {nl : Bool} {Ln : Nat} {xs : Nat → Int32} {d : Nat} {this : Nat} {σ : am_S} {F : am_S → Prop} (h : F σ) : k_Po_init nl Ln xs (d + 1) this σ F := by
  obtain ⟨j0, j1, j4, -⟩ := P_Po_init nl Ln xs
  have elo : am_lo 1 [am_ov (some this)] = [some (am_ov (some this))] := by simp only [am_lo, am_in_ov, am_in_int, am_in_long, am_in_nil]; rfl
  unfold k_Po_init
  rw [elo]
  refine s_aload_n j0 rfl rfl ?_
  refine s_obj j1 rfl (am_r8 rfl) ?_
  exact s_retV j4 rfl h
theorem P_Bk_tellBundle (nl : Bool) (Ln : Nat) (xs : Nat → Int32) : am_Jl (TT nl Ln xs) 112 [(0, .aload_n 0, 1, []), (1, .aload_n 1, 2, []), (2, .iconst 1, 3, []), (3, .laload, 4, []), (4, .invokevirtual 252, 7, [10, 29, 7, 3, 2]), (7, .astore_n 2, 8, []), (8, .aload_n 0, 9, []), (9, .aload_n 1, 10, []), (10, .iconst 3, 11, []), (11, .laload, 12, []), (12, .invokevirtual 252, 15, [10, 29, 7, 3, 2]), (15, .astore_n 3, 16, []), (16, .aload_n 2, 17, []), (17, .ifnull 34, 20, []), (20, .aload_n 2, 21, []), (21, .getfield 256, 24, [9, 9, 1, 0]), (24, .bipush 6, 26, []), (26, .if_icmp .ne 25, 29, []), (29, .aload_n 1, 30, []), (30, .iconst 2, 31, []), (31, .laload, 32, []), (32, .lconst 0, 33, []), (33, .lcmp, 34, []), (34, .ifCond .lt 17, 37, []), (37, .aload_n 1, 38, []), (38, .iconst 2, 39, []), (39, .laload, 40, []), (40, .ldc2_w 259, 43, [6, 4]), (43, .lcmp, 44, []), (44, .ifCond .ge 7, 47, []), (47, .iconst 1, 48, []), (48, .goto 4, 51, []), (51, .iconst 0, 52, [])] := dk_ck (by decide +kernel)
set_option maxRecDepth 4096 in
theorem w_Bk_tellBundle {nl : Bool} {Ln : Nat} {xs : Nat → Int32} {d : Nat} {this : Nat} {p0 : Option Nat} {σ : am_S} {F : Int32 → am_S → Prop} (h : (am_ar σ 1001 p0 (1 : Int32)) ∧ (am_is σ (some this) 6) ∧ k_Bk_policyAt nl Ln xs d this (am_aL σ (p0.getD 0) (1 : Int32).toNatClampNeg) σ (fun a4 σ3 => am_ext σ σ3 → (am_ar σ3 1001 p0 (3 : Int32)) ∧ k_Bk_policyAt nl Ln xs d this (am_aL σ3 (p0.getD 0) (3 : Int32).toNatClampNeg) σ3 (fun a7 σ6 => am_ext σ3 σ6 → (¬ (a4 = none) → am_is σ6 a4 9) ∧ (¬ (a4 = none) → ((am_fI σ6 9001 (a4.getD 0)) = (6 : Int32)) → am_ar σ6 1001 p0 (2 : Int32)) ∧ (¬ (a4 = none) → ((am_fI σ6 9001 (a4.getD 0)) = (6 : Int32)) → ¬ ((am_aL σ6 (p0.getD 0) (2 : Int32).toNatClampNeg) < (0 : Int64)) → am_ar σ6 1001 p0 (2 : Int32)) ∧ c_Bk_tellBundle_52 nl Ln xs (d + 1) this p0 a4 a7 (if ¬ (a4 = none) ∧ (((am_fI σ6 9001 (a4.getD 0)) = (6 : Int32)) ∧ (¬ ((am_aL σ6 (p0.getD 0) (2 : Int32).toNatClampNeg) < (0 : Int64)) ∧ ((am_aL σ6 (p0.getD 0) (2 : Int32).toNatClampNeg) < (4 : Int64)))) then (1 : Int32) else 0) σ6 F))) : k_Bk_tellBundle nl Ln xs (d + 1) this p0 σ F := by
  obtain ⟨j0, j1, j2, j3, j4, j7, j8, j9, j10, j11, j12, j15, j16, j17, j20, j21, j24, j26, j29, j30, j31, j32, j33, j34, j37, j38, j39, j40, j43, j44, j47, j48, j51, -⟩ := P_Bk_tellBundle nl Ln xs
  have elo : am_lo 5 [am_ov (some this), am_ov p0] = [some (am_ov (some this)), some (am_ov p0), none, none, none] := by simp only [am_lo, am_in_ov, am_in_int, am_in_long, am_in_nil]; rfl
  unfold k_Bk_tellBundle
  rw [elo]
  refine s_aload_n j0 rfl rfl ?_
  refine s_aload_n j1 rfl rfl ?_
  refine s_iconst j2 rfl kc_ic_1 ?_
  obtain ⟨ho1, h⟩ := h
  refine s_laload j3 rfl ho1 ?_
  obtain ⟨ho2, h⟩ := h
  refine s_virt j4 rfl rfl rfl rfl ho2 (by decide) (in_Bk_policyAt _ _) (am_r8 rfl) (am_bR h (fun a4 σ3 h hx3 => ?_))
  replace h := h hx3
  refine s_astore_n j7 rfl (n := 5) (L' := [some (am_ov (some this)), some (am_ov p0), some (am_ov a4), none, none]) rfl (by decide) (am_st1_R [_] _ _ _ _) ?_
  refine s_aload_n j8 rfl rfl ?_
  refine s_aload_n j9 rfl rfl ?_
  refine s_iconst j10 rfl kc_ic_3 ?_
  obtain ⟨ho5, h⟩ := h
  refine s_laload j11 rfl ho5 ?_
  refine s_virt j12 rfl rfl rfl rfl (am_is_ext hx3 ho2) (by decide) (in_Bk_policyAt _ _) (am_r8 rfl) (am_bR h (fun a7 σ6 h hx6 => ?_))
  replace h := h hx6
  refine s_astore_n j15 rfl (n := 5) (L' := [some (am_ov (some this)), some (am_ov p0), some (am_ov a4), some (am_ov a7), none]) rfl (by decide) (am_st1_R [_, _] _ _ _ _) ?_
  refine s_aload_n j16 rfl rfl ?_
  obtain ⟨ho9, h⟩ := h
  obtain ⟨ho11, h⟩ := h
  obtain ⟨ho13, h⟩ := h
  have K15 : ∀ (w16 : Int32), w16 = (if ¬ (a4 = none) ∧ (((am_fI σ6 9001 (a4.getD 0)) = (6 : Int32)) ∧ (¬ ((am_aL σ6 (p0.getD 0) (2 : Int32).toNatClampNeg) < (0 : Int64)) ∧ ((am_aL σ6 (p0.getD 0) (2 : Int32).toNatClampNeg) < (4 : Int64)))) then (1 : Int32) else 0) → am_C (TT nl Ln xs) (d + 1) 112 52 [some (am_ov (some this)), some (am_ov p0), some (am_ov a4), some (am_ov a7), none] [.int w16] σ6 (am_qI F) := by
    intro w16 hw17
    subst hw17
    exact h
  refine s_ifnull j17 rfl rfl (fun hc8 => ?_) (fun hc8 => ?_)
  · refine s_iconst j51 rfl kc_ic_0 ?_
    exact K15 _ (am_e0 (Iff.trans Iff.rfl (am_p6 hc8)))
  · refine s_aload_n j20 rfl rfl ?_
    refine s_gfI j21 rfl (ho9 hc8) ?_
    refine s_bipush j24 rfl kc_bi_6 ?_
    refine s_icn j26 rfl rfl am_cc_ne (fun hc10 => ?_) (fun hc10 => ?_)
    · refine s_iconst j51 rfl kc_ic_0 ?_
      exact K15 _ (am_e0 (am_p5 hc8 (Iff.trans Iff.rfl (am_p2 hc10))))
    · refine s_aload_n j29 rfl rfl ?_
      refine s_iconst j30 rfl kc_ic_2 ?_
      refine s_laload j31 rfl (ho11 hc8 hc10) ?_
      refine s_lconst j32 rfl rfl ?_
      refine s_g j33 rfl rfl rfl rfl rfl rfl ?_
      refine s_if j34 rfl rfl am_cl_lt (fun hc12 => ?_) (fun hc12 => ?_)
      · refine s_iconst j51 rfl kc_ic_0 ?_
        exact K15 _ (am_e0 (am_p5 hc8 (am_p1 hc10 (Iff.trans Iff.rfl (am_p6 hc12)))))
      · refine s_aload_n j37 rfl rfl ?_
        refine s_iconst j38 rfl kc_ic_2 ?_
        refine s_laload j39 rfl (ho13 hc8 hc10 hc12) ?_
        refine s_ldc2 j40 rfl kc_ll_4 ?_
        refine s_g j43 rfl rfl rfl rfl rfl rfl ?_
        refine s_ifn j44 rfl rfl am_cl_ge (fun hc14 => ?_) (fun hc14 => ?_)
        · refine s_iconst j51 rfl kc_ic_0 ?_
          exact K15 _ (am_e0 (am_p5 hc8 (am_p1 hc10 (am_p5 hc12 (Iff.trans Iff.rfl (am_p10 hc14))))))
        · refine s_iconst j47 rfl kc_ic_1 ?_
          refine s_goto j48 rfl rfl ?_
          exact K15 _ (am_e1 (am_p5 hc8 (am_p1 hc10 (am_p5 hc12 (Iff.trans Iff.rfl (am_p9 hc14))))))
theorem P_Bk_tellBundle_52 (nl : Bool) (Ln : Nat) (xs : Nat → Int32) : am_Jl (TT nl Ln xs) 112 [(52, .istore 4, 54, []), (54, .iload 4, 56, []), (56, .ifCond .eq 17, 59, []), (59, .aload_n 3, 60, []), (60, .ifnonnull 16, 63, []), (63, .aload_n 1, 64, []), (64, .iconst 3, 65, []), (65, .laload, 66, []), (66, .ldc2_w 261, 69, [6, 18446744073709551615]), (69, .lcmp, 70, []), (70, .ifCond .eq 6, 73, []), (73, .bipush (-2), 75, []), (75, .ireturn, 76, [1])] := dk_ck (by decide +kernel)
set_option maxRecDepth 4096 in
theorem w_Bk_tellBundle_52 {nl : Bool} {Ln : Nat} {xs : Nat → Int32} {d : Nat} {this : Nat} {x1 : Option Nat} {x2 : Option Nat} {x3 : Option Nat} {y0 : Int32} {σ : am_S} {F : Int32 → am_S → Prop} (h : (y0 = 0 → F (-2 : Int32) σ) ∧ (¬ (y0 = 0) → (x3 = none → (am_ar σ 1001 x1 (3 : Int32)) ∧ ((am_aL σ (x1.getD 0) (3 : Int32).toNatClampNeg) = (-1 : Int64) → c_Bk_tellBundle_76 nl Ln xs (d + 1) this x1 x2 x3 y0 σ F) ∧ (¬ ((am_aL σ (x1.getD 0) (3 : Int32).toNatClampNeg) = (-1 : Int64)) → F (-2 : Int32) σ)) ∧ (¬ (x3 = none) → c_Bk_tellBundle_76 nl Ln xs (d + 1) this x1 x2 x3 y0 σ F))) : c_Bk_tellBundle_52 nl Ln xs (d + 1) this x1 x2 x3 y0 σ F := by
  obtain ⟨j52, j54, j56, j59, j60, j63, j64, j65, j66, j69, j70, j73, j75, -⟩ := P_Bk_tellBundle_52 nl Ln xs
  unfold c_Bk_tellBundle_52
  refine s_istore j52 rfl (n := 5) (L' := [some (am_ov (some this)), some (am_ov x1), some (am_ov x2), some (am_ov x3), some (.int y0)]) rfl (by decide) (am_st1_R [_, _, _] _ _ _ _) ?_
  refine s_iload j54 rfl rfl ?_
  refine s_if j56 rfl rfl am_cc_eq (fun hc1 => ?_) (fun hc1 => ?_)
  · replace h := h.1 hc1
    refine s_bipush j73 rfl kc_bi_m2 ?_
    exact s_retI j75 rfl h
  · replace h := h.2 hc1
    refine s_aload_n j59 rfl rfl ?_
    refine s_ifnonnull j60 rfl rfl (fun hc2 => ?_) (fun hc2 => ?_)
    · replace h := h.2 hc2
      exact h
    · replace h := h.1 hc2
      refine s_aload_n j63 rfl rfl ?_
      refine s_iconst j64 rfl kc_ic_3 ?_
      obtain ⟨ho3, h⟩ := h
      refine s_laload j65 rfl ho3 ?_
      refine s_ldc2 j66 rfl kc_ll_m1 ?_
      refine s_g j69 rfl rfl rfl rfl rfl rfl ?_
      refine s_if j70 rfl rfl am_cl_eq (fun hc4 => ?_) (fun hc4 => ?_)
      · replace h := h.1 hc4
        exact h
      · replace h := h.2 hc4
        refine s_bipush j73 rfl kc_bi_m2 ?_
        exact s_retI j75 rfl h
theorem P_Bk_tellBundle_76 (nl : Bool) (Ln : Nat) (xs : Nat → Int32) : am_Jl (TT nl Ln xs) 112 [(76, .aload_n 3, 77, []), (77, .ifnull 15, 80, []), (80, .aload_n 0, 81, []), (81, .aload_n 2, 82, []), (82, .aload_n 3, 83, []), (83, .invokevirtual 263, 86, [10, 113, 7, 11, 3]), (86, .ifCond .eq 6, 89, []), (89, .bipush (-3), 91, []), (91, .ireturn, 92, [1])] := dk_ck (by decide +kernel)
set_option maxRecDepth 4096 in
theorem w_Bk_tellBundle_76 {nl : Bool} {Ln : Nat} {xs : Nat → Int32} {d : Nat} {this : Nat} {x1 : Option Nat} {x2 : Option Nat} {x3 : Option Nat} {x4 : Int32} {σ : am_S} {F : Int32 → am_S → Prop} (h : (x3 = none → c_Bk_tellBundle_92 nl Ln xs (d + 1) this x1 x2 x3 x4 σ F) ∧ (¬ (x3 = none) → (am_is σ (some this) 6) ∧ k_Bk_standsWithin nl Ln xs d this x2 x3 σ (fun a4 σ3 => am_ext σ σ3 → (a4 = true → F (-3 : Int32) σ3) ∧ (¬ (a4 = true) → c_Bk_tellBundle_92 nl Ln xs (d + 1) this x1 x2 x3 x4 σ3 F)))) : c_Bk_tellBundle_76 nl Ln xs (d + 1) this x1 x2 x3 x4 σ F := by
  obtain ⟨j76, j77, j80, j81, j82, j83, j86, j89, j91, -⟩ := P_Bk_tellBundle_76 nl Ln xs
  unfold c_Bk_tellBundle_76
  refine s_aload_n j76 rfl rfl ?_
  refine s_ifnull j77 rfl rfl (fun hc1 => ?_) (fun hc1 => ?_)
  · replace h := h.1 hc1
    exact h
  · replace h := h.2 hc1
    refine s_aload_n j80 rfl rfl ?_
    refine s_aload_n j81 rfl rfl ?_
    refine s_aload_n j82 rfl rfl ?_
    obtain ⟨ho2, h⟩ := h
    refine s_virt j83 rfl rfl rfl rfl ho2 (by decide) (in_Bk_standsWithin _ _ _) (am_r8 rfl) (am_bB h (fun a4 σ3 h hx3 => ?_))
    replace h := h hx3
    refine s_ifn j86 rfl rfl am_cb_eq (fun hc5 => ?_) (fun hc5 => ?_)
    · replace h := h.2 hc5
      exact h
    · replace h := h.1 hc5
      refine s_bipush j89 rfl kc_bi_m3 ?_
      exact s_retI j91 rfl h
theorem P_Bk_tellBundle_92 (nl : Bool) (Ln : Nat) (xs : Nat → Int32) : am_Jl (TT nl Ln xs) 112 [(92, .aload_n 0, 93, []), (93, .iconst 4, 94, []), (94, .aload_n 2, 95, []), (95, .aload_n 1, 96, []), (96, .iconst 2, 97, []), (97, .laload, 98, []), (98, .l2i, 99, []), (99, .aload_n 1, 100, []), (100, .iconst 3, 101, []), (101, .laload, 102, []), (102, .aconst_null, 103, []), (103, .invokevirtual 267, 106, [10, 105, 7, 7, 6]), (106, .ireturn, 107, [1])] := dk_ck (by decide +kernel)
set_option maxRecDepth 4096 in
theorem w_Bk_tellBundle_92 {nl : Bool} {Ln : Nat} {xs : Nat → Int32} {d : Nat} {this : Nat} {x1 : Option Nat} {x2 : Option Nat} {x3 : Option Nat} {x4 : Int32} {σ : am_S} {F : Int32 → am_S → Prop} (h : (am_ar σ 1001 x1 (2 : Int32)) ∧ (am_ar σ 1001 x1 (3 : Int32)) ∧ (am_is σ (some this) 6) ∧ k_Bk_tellPolicy nl Ln xs d this (4 : Int32) x2 ((am_aL σ (x1.getD 0) (2 : Int32).toNatClampNeg).toInt32) (am_aL σ (x1.getD 0) (3 : Int32).toNatClampNeg) none σ (fun a5 σ4 => am_ext σ σ4 → F a5 σ4)) : c_Bk_tellBundle_92 nl Ln xs (d + 1) this x1 x2 x3 x4 σ F := by
  obtain ⟨j92, j93, j94, j95, j96, j97, j98, j99, j100, j101, j102, j103, j106, -⟩ := P_Bk_tellBundle_92 nl Ln xs
  unfold c_Bk_tellBundle_92
  refine s_aload_n j92 rfl rfl ?_
  refine s_iconst j93 rfl kc_ic_4 ?_
  refine s_aload_n j94 rfl rfl ?_
  refine s_aload_n j95 rfl rfl ?_
  refine s_iconst j96 rfl kc_ic_2 ?_
  obtain ⟨ho1, h⟩ := h
  refine s_laload j97 rfl ho1 ?_
  refine s_g j98 rfl rfl rfl rfl rfl rfl ?_
  refine s_aload_n j99 rfl rfl ?_
  refine s_iconst j100 rfl kc_ic_3 ?_
  obtain ⟨ho2, h⟩ := h
  refine s_laload j101 rfl ho2 ?_
  refine s_null j102 rfl ?_
  obtain ⟨ho3, h⟩ := h
  refine s_virt j103 rfl rfl rfl rfl ho3 (by decide) (in_Bk_tellPolicy _ _ _ _ _ _) (am_r8 rfl) (am_bI h (fun a5 σ4 h hx4 => ?_))
  replace h := h hx4
  exact s_retI j106 rfl h
theorem P_Bk_standsWithin (nl : Bool) (Ln : Nat) (xs : Nat → Int32) : am_Jl (TT nl Ln xs) 113 [(0, .iconst 1, 1, []), (1, .istore_n 3, 2, []), (2, .aload_n 0, 3, []), (3, .getfield 47, 6, [9, 6, 9, 2]), (6, .iconst 0, 7, []), (7, .aload_n 2, 8, []), (8, .getfield 271, 11, [9, 9, 0, 0]), (11, .iastore, 12, []), (12, .iconst 0, 13, []), (13, .istore 4, 15, [])] := dk_ck (by decide +kernel)
set_option maxRecDepth 4096 in
theorem w_Bk_standsWithin {nl : Bool} {Ln : Nat} {xs : Nat → Int32} {d : Nat} {this : Nat} {p0 : Option Nat} {p1 : Option Nat} {σ : am_S} {F : Bool → am_S → Prop} (h : (am_is σ (some this) 6) ∧ (am_is σ p1 9) ∧ (am_ar σ 1000 (am_fR σ 6009 this) (0 : Int32)) ∧ ∀ σ4, σ4 = am_saI σ ((am_fR σ 6009 this).getD 0) (0 : Int32).toNatClampNeg (am_fI σ 9000 (p1.getD 0)) → c_Bk_standsWithin_15 nl Ln xs (d + 1) this p0 p1 (1 : Int32) (0 : Int32) none none none none none none σ4 F) : k_Bk_standsWithin nl Ln xs (d + 1) this p0 p1 σ F := by
  obtain ⟨j0, j1, j2, j3, j6, j7, j8, j11, j12, j13, -⟩ := P_Bk_standsWithin nl Ln xs
  have elo : am_lo 11 [am_ov (some this), am_ov p0, am_ov p1] = [some (am_ov (some this)), some (am_ov p0), some (am_ov p1), none, none, none, none, none, none, none, none] := by simp only [am_lo, am_in_ov, am_in_int, am_in_long, am_in_nil]; rfl
  unfold k_Bk_standsWithin
  rw [elo]
  refine s_iconst j0 rfl kc_ic_1 ?_
  refine s_istore_n j1 rfl (n := 11) (L' := [some (am_ov (some this)), some (am_ov p0), some (am_ov p1), some (.int (1 : Int32)), none, none, none, none, none, none, none]) rfl (by decide) (am_st1_R [_, _] _ _ _ _) ?_
  refine s_aload_n j2 rfl rfl ?_
  obtain ⟨ho1, h⟩ := h
  refine s_gfR j3 rfl ho1 ?_
  refine s_iconst j6 rfl kc_ic_0 ?_
  refine s_aload_n j7 rfl rfl ?_
  obtain ⟨ho2, h⟩ := h
  refine s_gfI j8 rfl ho2 ?_
  obtain ⟨ho3, h⟩ := h
  refine s_iastore j11 rfl ho3 (fun σ4 e5 => ?_)
  replace h := h σ4 e5
  have ek6 : am_kd σ4 = am_kd σ := by rw [e5]
  refine s_iconst j12 rfl kc_ic_0 ?_
  refine s_istore j13 rfl (n := 11) (L' := [some (am_ov (some this)), some (am_ov p0), some (am_ov p1), some (.int (1 : Int32)), some (.int (0 : Int32)), none, none, none, none, none, none]) rfl (by decide) rfl ?_
  exact h
theorem P_Bk_standsWithin_15 (nl : Bool) (Ln : Nat) (xs : Nat → Int32) : am_Jl (TT nl Ln xs) 113 [(15, .iload 4, 17, []), (17, .iload_n 3, 18, []), (18, .if_icmp .ge 179, 21, []), (21, .iload 4, 23, []), (23, .bipush 100, 25, []), (25, .if_icmp .ge 172, 28, []), (28, .aload_n 0, 29, []), (29, .getfield 20, 32, [9, 6, 4, 2]), (32, .aload_n 0, 33, []), (33, .getfield 47, 36, [9, 6, 9, 2]), (36, .iload 4, 38, []), (38, .iaload, 39, []), (39, .aaload, 40, []), (40, .astore 5, 42, []), (42, .aload 5, 44, []), (44, .aload_n 1, 45, []), (45, .if_acmp .ne 5, 48, []), (48, .iconst 1, 49, []), (49, .ireturn, 50, [4]), (50, .iconst 0, 51, []), (51, .istore 6, 53, []), (197, .iconst 0, 198, []), (198, .ireturn, 199, [4])] := dk_ck (by decide +kernel)
set_option maxRecDepth 4096 in
theorem w_Bk_standsWithin_15 {nl : Bool} {Ln : Nat} {xs : Nat → Int32} {d : Nat} {this : Nat} {x1 : Option Nat} {x2 : Option Nat} {x3 : Int32} {x4 : Int32} {x5 : Option Value} {x6 : Option Value} {x7 : Option Value} {x8 : Option Value} {x9 : Option Value} {x10 : Option Value} {σ : am_S} {F : Bool → am_S → Prop} (h : (x4 < x3 → (x4 < (100 : Int32) → (am_is σ (some this) 6) ∧ (am_ar σ 1000 (am_fR σ 6009 this) x4) ∧ (am_ar σ 2009 (am_fR σ 6004 this) (am_aI σ ((am_fR σ 6009 this).getD 0) x4.toNatClampNeg)) ∧ ∀ v6 : Option Nat, v6 = (am_aR σ ((am_fR σ 6004 this).getD 0) (am_aI σ ((am_fR σ 6009 this).getD 0) x4.toNatClampNeg).toNatClampNeg) → (am_hi v6) ∧ (am_hi x1) ∧ (v6 = x1 → F true σ) ∧ (¬ (v6 = x1) → c_Bk_standsWithin_53 nl Ln xs (d + 1) this x1 x2 x3 x4 v6 (0 : Int32) x7 x8 x9 x10 σ F)) ∧ (¬ (x4 < (100 : Int32)) → F false σ)) ∧ (¬ (x4 < x3) → F false σ)) : c_Bk_standsWithin_15 nl Ln xs (d + 1) this x1 x2 x3 x4 x5 x6 x7 x8 x9 x10 σ F := by
  obtain ⟨j15, j17, j18, j21, j23, j25, j28, j29, j32, j33, j36, j38, j39, j40, j42, j44, j45, j48, j49, j50, j51, j197, j198, -⟩ := P_Bk_standsWithin_15 nl Ln xs
  unfold c_Bk_standsWithin_15
  refine s_iload j15 rfl rfl ?_
  refine s_iload_n j17 rfl rfl ?_
  refine s_icn j18 rfl rfl am_cc_ge (fun hc1 => ?_) (fun hc1 => ?_)
  · replace h := h.2 hc1
    refine s_iconst j197 rfl kc_ic_0 ?_
    exact s_retZ0 j198 rfl h
  · replace h := h.1 hc1
    refine s_iload j21 rfl rfl ?_
    refine s_bipush j23 rfl kc_bi_100 ?_
    refine s_icn j25 rfl rfl am_cc_ge (fun hc2 => ?_) (fun hc2 => ?_)
    · replace h := h.2 hc2
      refine s_iconst j197 rfl kc_ic_0 ?_
      exact s_retZ0 j198 rfl h
    · replace h := h.1 hc2
      refine s_aload_n j28 rfl rfl ?_
      obtain ⟨ho3, h⟩ := h
      refine s_gfR j29 rfl ho3 ?_
      refine s_aload_n j32 rfl rfl ?_
      refine s_gfR j33 rfl ho3 ?_
      refine s_iload j36 rfl rfl ?_
      obtain ⟨ho4, h⟩ := h
      refine s_iaload j38 rfl ho4 ?_
      obtain ⟨ho5, h⟩ := h
      refine s_aaload (k := 2009) (by decide) kq_2009 j39 rfl ho5 ?_
      refine s_astoreV j40 rfl (n := 11) (L' := fun w => [some (am_ov (some this)), some (am_ov x1), some (am_ov x2), some (.int x3), some (.int x4), some (am_ov w), x6, x7, x8, x9, x10]) rfl (by decide) (fun _ => rfl) (fun v6 hv7 => ?_)
      replace h := h v6 hv7
      refine s_aload j42 rfl rfl ?_
      refine s_aload_n j44 rfl rfl ?_
      obtain ⟨ho8, h⟩ := h
      obtain ⟨ho9, h⟩ := h
      refine s_acmp_ne j45 rfl rfl ho8 ho9 (fun hc10 => ?_) (fun hc10 => ?_)
      · replace h := h.2 hc10
        refine s_iconst j50 rfl kc_ic_0 ?_
        refine s_istore j51 rfl (n := 11) (L' := [some (am_ov (some this)), some (am_ov x1), some (am_ov x2), some (.int x3), some (.int x4), some (am_ov v6), some (.int (0 : Int32)), x7, x8, x9, x10]) rfl (by decide) (am_st1_R [_, _, _, _, _] _ _ _ _) ?_
        exact h
      · replace h := h.1 hc10
        refine s_iconst j48 rfl kc_ic_1 ?_
        exact s_retZ1 j49 rfl h
theorem P_Bk_standsWithin_53 (nl : Bool) (Ln : Nat) (xs : Nat → Int32) : am_Jl (TT nl Ln xs) 113 [(53, .iload 6, 55, []), (55, .iconst 4, 56, []), (56, .if_icmp .ge 135, 59, []), (59, .aload 5, 61, []), (61, .getfield 256, 64, [9, 9, 1, 0]), (64, .bipush 6, 66, []), (66, .if_icmp .ne 125, 69, []), (69, .aload 5, 71, []), (71, .getfield 121, 74, [9, 9, 4, 2]), (74, .iconst 4, 75, []), (75, .iload 6, 77, []), (77, .aload_n 0, 78, []), (78, .getfield 82, 81, [9, 6, 15, 0]), (81, .invokestatic 274, 84, [12, 28, 5, 4]), (84, .astore 7, 86, []), (86, .aload 7, 88, []), (88, .ifnonnull 7, 91, []), (91, .aconst_null, 92, []), (92, .goto 12, 95, []), (95, .aload_n 0, 96, []), (96, .aload 7, 98, []), (98, .getfield 278, 101, [9, 7, 3, 1]), (101, .invokevirtual 252, 104, [10, 29, 7, 3, 2]), (104, .astore 8, 106, []), (106, .aload 8, 108, []), (108, .ifnonnull 7, 111, []), (111, .iconst 1, 112, []), (112, .goto 4, 115, []), (115, .iconst 0, 116, []), (116, .istore 9, 118, []), (118, .iconst 0, 119, []), (119, .istore 10, 121, []), (191, .iinc 4 1, 194, []), (194, .goto (-179), 197, [])] := dk_ck (by decide +kernel)
set_option maxRecDepth 4096 in
theorem w_Bk_standsWithin_53 {nl : Bool} {Ln : Nat} {xs : Nat → Int32} {d : Nat} {this : Nat} {x1 : Option Nat} {x2 : Option Nat} {x3 : Int32} {x4 : Int32} {x5 : Option Nat} {x6 : Int32} {x7 : Option Value} {x8 : Option Value} {x9 : Option Value} {x10 : Option Value} {σ : am_S} {F : Bool → am_S → Prop} (h : (x6 < (4 : Int32) → (am_is σ x5 9) ∧ ((am_fI σ 9001 (x5.getD 0)) = (6 : Int32) → (am_is σ (some this) 6) ∧ k_En_known nl Ln xs d (am_fR σ 9004 (x5.getD 0)) (4 : Int32) x6 (am_fI σ 6015 this) σ (fun a6 σ5 => am_ext σ σ5 → (a6 = none → c_Bk_standsWithin_121 nl Ln xs (d + 1) this x1 x2 x3 x4 x5 x6 a6 none (if (none : Option Nat) = none then (1 : Int32) else 0) (0 : Int32) σ5 F) ∧ (¬ (a6 = none) → (am_is σ5 a6 7) ∧ k_Bk_policyAt nl Ln xs d this (am_fL σ5 7003 (a6.getD 0)) σ5 (fun a14 σ13 => am_ext σ5 σ13 → c_Bk_standsWithin_121 nl Ln xs (d + 1) this x1 x2 x3 x4 x5 x6 a6 a14 (if a14 = none then (1 : Int32) else 0) (0 : Int32) σ13 F)))) ∧ (¬ ((am_fI σ 9001 (x5.getD 0)) = (6 : Int32)) → c_Bk_standsWithin_15 nl Ln xs (d + 1) this x1 x2 x3 (x4 + (1 : Int32)) (some (am_ov x5)) (some (.int x6)) x7 x8 x9 x10 σ F)) ∧ (¬ (x6 < (4 : Int32)) → c_Bk_standsWithin_15 nl Ln xs (d + 1) this x1 x2 x3 (x4 + (1 : Int32)) (some (am_ov x5)) (some (.int x6)) x7 x8 x9 x10 σ F)) : c_Bk_standsWithin_53 nl Ln xs (d + 1) this x1 x2 x3 x4 x5 x6 x7 x8 x9 x10 σ F := by
  obtain ⟨j53, j55, j56, j59, j61, j64, j66, j69, j71, j74, j75, j77, j78, j81, j84, j86, j88, j91, j92, j95, j96, j98, j101, j104, j106, j108, j111, j112, j115, j116, j118, j119, j191, j194, -⟩ := P_Bk_standsWithin_53 nl Ln xs
  unfold c_Bk_standsWithin_53
  refine s_iload j53 rfl rfl ?_
  refine s_iconst j55 rfl kc_ic_4 ?_
  refine s_icn j56 rfl rfl am_cc_ge (fun hc1 => ?_) (fun hc1 => ?_)
  · replace h := h.2 hc1
    refine s_iinc (L' := [some (am_ov (some this)), some (am_ov x1), some (am_ov x2), some (.int x3), some (.int (x4 + (1 : Int32))), some (am_ov x5), some (.int x6), x7, x8, x9, x10]) j191 rfl rfl kc_ic_1 rfl ?_
    refine s_goto j194 rfl rfl ?_
    exact h
  · replace h := h.1 hc1
    refine s_aload j59 rfl rfl ?_
    obtain ⟨ho2, h⟩ := h
    refine s_gfI j61 rfl ho2 ?_
    refine s_bipush j64 rfl kc_bi_6 ?_
    refine s_icn j66 rfl rfl am_cc_ne (fun hc3 => ?_) (fun hc3 => ?_)
    · replace h := h.2 hc3
      refine s_iinc (L' := [some (am_ov (some this)), some (am_ov x1), some (am_ov x2), some (.int x3), some (.int (x4 + (1 : Int32))), some (am_ov x5), some (.int x6), x7, x8, x9, x10]) j191 rfl rfl kc_ic_1 rfl ?_
      refine s_goto j194 rfl rfl ?_
      exact h
    · replace h := h.1 hc3
      refine s_aload j69 rfl rfl ?_
      refine s_gfR j71 rfl ho2 ?_
      refine s_iconst j74 rfl kc_ic_4 ?_
      refine s_iload j75 rfl rfl ?_
      refine s_aload_n j77 rfl rfl ?_
      obtain ⟨ho4, h⟩ := h
      refine s_gfI j78 rfl ho4 ?_
      refine s_stat j81 rfl rfl rfl rfl (by decide) (in_En_known _ _ _ _) (am_r8 rfl) (am_bR h (fun a6 σ5 h hx5 => ?_))
      replace h := h hx5
      refine s_astore j84 rfl (n := 11) (L' := [some (am_ov (some this)), some (am_ov x1), some (am_ov x2), some (.int x3), some (.int x4), some (am_ov x5), some (.int x6), some (am_ov a6), x8, x9, x10]) rfl (by decide) rfl ?_
      refine s_aload j86 rfl rfl ?_
      refine s_ifnonnull j88 rfl rfl (fun hc7 => ?_) (fun hc7 => ?_)
      · replace h := h.2 hc7
        refine s_aload_n j95 rfl rfl ?_
        refine s_aload j96 rfl rfl ?_
        obtain ⟨ho12, h⟩ := h
        refine s_gfL j98 rfl ho12 ?_
        refine s_virt j101 rfl rfl rfl rfl (am_is_ext hx5 ho4) (by decide) (in_Bk_policyAt _ _) (am_r8 rfl) (am_bR h (fun a14 σ13 h hx13 => ?_))
        replace h := h hx13
        refine s_astore j104 rfl (n := 11) (L' := [some (am_ov (some this)), some (am_ov x1), some (am_ov x2), some (.int x3), some (.int x4), some (am_ov x5), some (.int x6), some (am_ov a6), some (am_ov a14), x9, x10]) rfl (by decide) (am_st1_R [_, _, _, _, _, _, _] _ _ _ _) ?_
        refine s_aload j106 rfl rfl ?_
        have K16 : ∀ (w17 : Int32), w17 = (if a14 = none then (1 : Int32) else 0) → am_C (TT nl Ln xs) (d + 1) 113 116 [some (am_ov (some this)), some (am_ov x1), some (am_ov x2), some (.int x3), some (.int x4), some (am_ov x5), some (.int x6), some (am_ov a6), some (am_ov a14), x9, x10] [.int w17] σ13 (am_qB F) := by
          intro w17 hw18
          subst hw18
          refine s_istore j116 rfl (n := 11) (L' := [some (am_ov (some this)), some (am_ov x1), some (am_ov x2), some (.int x3), some (.int x4), some (am_ov x5), some (.int x6), some (am_ov a6), some (am_ov a14), some (.int (if a14 = none then (1 : Int32) else 0)), x10]) rfl (by decide) (am_st1_R [_, _, _, _, _, _, _, _] _ _ _ _) ?_
          refine s_iconst j118 rfl kc_ic_0 ?_
          refine s_istore j119 rfl (n := 11) (L' := [some (am_ov (some this)), some (am_ov x1), some (am_ov x2), some (.int x3), some (.int x4), some (am_ov x5), some (.int x6), some (am_ov a6), some (am_ov a14), some (.int (if a14 = none then (1 : Int32) else 0)), some (.int (0 : Int32))]) rfl (by decide) rfl ?_
          exact h
        refine s_ifnonnull j108 rfl rfl (fun hc15 => ?_) (fun hc15 => ?_)
        · refine s_iconst j115 rfl kc_ic_0 ?_
          exact K16 _ (am_e0 (Iff.trans Iff.rfl (am_p10 hc15)))
        · refine s_iconst j111 rfl kc_ic_1 ?_
          refine s_goto j112 rfl rfl ?_
          exact K16 _ (am_e1 (Iff.trans Iff.rfl (am_p9 hc15)))
      · replace h := h.1 hc7
        refine s_null j91 rfl ?_
        refine s_goto j92 rfl rfl ?_
        refine s_astore j104 rfl (n := 11) (L' := [some (am_ov (some this)), some (am_ov x1), some (am_ov x2), some (.int x3), some (.int x4), some (am_ov x5), some (.int x6), some (am_ov a6), some (am_ov none), x9, x10]) rfl (by decide) (am_st1_R [_, _, _, _, _, _, _] _ _ _ _) ?_
        refine s_aload j106 rfl rfl ?_
        have K9 : ∀ (w10 : Int32), w10 = (if (none : Option Nat) = none then (1 : Int32) else 0) → am_C (TT nl Ln xs) (d + 1) 113 116 [some (am_ov (some this)), some (am_ov x1), some (am_ov x2), some (.int x3), some (.int x4), some (am_ov x5), some (.int x6), some (am_ov a6), some (am_ov none), x9, x10] [.int w10] σ5 (am_qB F) := by
          intro w10 hw11
          subst hw11
          refine s_istore j116 rfl (n := 11) (L' := [some (am_ov (some this)), some (am_ov x1), some (am_ov x2), some (.int x3), some (.int x4), some (am_ov x5), some (.int x6), some (am_ov a6), some (am_ov none), some (.int (if (none : Option Nat) = none then (1 : Int32) else 0)), x10]) rfl (by decide) (am_st1_R [_, _, _, _, _, _, _, _] _ _ _ _) ?_
          refine s_iconst j118 rfl kc_ic_0 ?_
          refine s_istore j119 rfl (n := 11) (L' := [some (am_ov (some this)), some (am_ov x1), some (am_ov x2), some (.int x3), some (.int x4), some (am_ov x5), some (.int x6), some (am_ov a6), some (am_ov none), some (.int (if (none : Option Nat) = none then (1 : Int32) else 0)), some (.int (0 : Int32))]) rfl (by decide) rfl ?_
          exact h
        refine s_ifnonnull j108 rfl rfl (fun hc8 => ?_) (fun hc8 => ?_)
        · refine s_iconst j115 rfl kc_ic_0 ?_
          exact K9 _ (am_e0 (Iff.trans Iff.rfl (am_p10 hc8)))
        · refine s_iconst j111 rfl kc_ic_1 ?_
          refine s_goto j112 rfl rfl ?_
          exact K9 _ (am_e1 (Iff.trans Iff.rfl (am_p9 hc8)))
theorem P_Bk_standsWithin_121 (nl : Bool) (Ln : Nat) (xs : Nat → Int32) : am_Jl (TT nl Ln xs) 113 [(121, .iload 10, 123, []), (123, .iload_n 3, 124, []), (124, .if_icmp .ge 36, 127, []), (127, .iload 9, 129, []), (129, .ifCond .ne 31, 132, []), (132, .aload_n 0, 133, []), (133, .getfield 47, 136, [9, 6, 9, 2]), (136, .iload 10, 138, []), (138, .iaload, 139, []), (139, .aload 8, 141, []), (141, .getfield 271, 144, [9, 9, 0, 0]), (144, .if_icmp .ne 7, 147, []), (147, .iconst 1, 148, []), (148, .goto 4, 151, []), (151, .iconst 0, 152, []), (152, .istore 9, 154, []), (154, .iinc 10 1, 157, []), (157, .goto (-36), 160, [])] := dk_ck (by decide +kernel)
set_option maxRecDepth 4096 in
theorem w_Bk_standsWithin_121 {nl : Bool} {Ln : Nat} {xs : Nat → Int32} {d : Nat} {this : Nat} {x1 : Option Nat} {x2 : Option Nat} {x3 : Int32} {x4 : Int32} {x5 : Option Nat} {x6 : Int32} {x7 : Option Nat} {x8 : Option Nat} {x9 : Int32} {x10 : Int32} {σ : am_S} {F : Bool → am_S → Prop} (h : (x10 < x3 → (x9 = 0 → (am_is σ (some this) 6) ∧ (am_ar σ 1000 (am_fR σ 6009 this) x10) ∧ (am_is σ x8 9) ∧ c_Bk_standsWithin_121 nl Ln xs (d + 1) this x1 x2 x3 x4 x5 x6 x7 x8 (if (am_aI σ ((am_fR σ 6009 this).getD 0) x10.toNatClampNeg) = (am_fI σ 9000 (x8.getD 0)) then (1 : Int32) else 0) (x10 + (1 : Int32)) σ F) ∧ (¬ (x9 = 0) → c_Bk_standsWithin_160 nl Ln xs (d + 1) this x1 x2 x3 x4 x5 x6 x7 x8 x9 x10 σ F)) ∧ (¬ (x10 < x3) → c_Bk_standsWithin_160 nl Ln xs (d + 1) this x1 x2 x3 x4 x5 x6 x7 x8 x9 x10 σ F)) : c_Bk_standsWithin_121 nl Ln xs (d + 1) this x1 x2 x3 x4 x5 x6 x7 x8 x9 x10 σ F := by
  obtain ⟨j121, j123, j124, j127, j129, j132, j133, j136, j138, j139, j141, j144, j147, j148, j151, j152, j154, j157, -⟩ := P_Bk_standsWithin_121 nl Ln xs
  unfold c_Bk_standsWithin_121
  refine s_iload j121 rfl rfl ?_
  refine s_iload_n j123 rfl rfl ?_
  refine s_icn j124 rfl rfl am_cc_ge (fun hc1 => ?_) (fun hc1 => ?_)
  · replace h := h.2 hc1
    exact h
  · replace h := h.1 hc1
    refine s_iload j127 rfl rfl ?_
    refine s_ifn j129 rfl rfl am_cc_ne (fun hc2 => ?_) (fun hc2 => ?_)
    · replace h := h.2 hc2
      exact h
    · replace h := h.1 hc2
      refine s_aload_n j132 rfl rfl ?_
      obtain ⟨ho3, h⟩ := h
      refine s_gfR j133 rfl ho3 ?_
      refine s_iload j136 rfl rfl ?_
      obtain ⟨ho4, h⟩ := h
      refine s_iaload j138 rfl ho4 ?_
      refine s_aload j139 rfl rfl ?_
      obtain ⟨ho5, h⟩ := h
      refine s_gfI j141 rfl ho5 ?_
      have K7 : ∀ (w8 : Int32), w8 = (if (am_aI σ ((am_fR σ 6009 this).getD 0) x10.toNatClampNeg) = (am_fI σ 9000 (x8.getD 0)) then (1 : Int32) else 0) → am_C (TT nl Ln xs) (d + 1) 113 152 [some (am_ov (some this)), some (am_ov x1), some (am_ov x2), some (.int x3), some (.int x4), some (am_ov x5), some (.int x6), some (am_ov x7), some (am_ov x8), some (.int x9), some (.int x10)] [.int w8] σ (am_qB F) := by
        intro w8 hw9
        subst hw9
        refine s_istore j152 rfl (n := 11) (L' := [some (am_ov (some this)), some (am_ov x1), some (am_ov x2), some (.int x3), some (.int x4), some (am_ov x5), some (.int x6), some (am_ov x7), some (am_ov x8), some (.int (if (am_aI σ ((am_fR σ 6009 this).getD 0) x10.toNatClampNeg) = (am_fI σ 9000 (x8.getD 0)) then (1 : Int32) else 0)), some (.int x10)]) rfl (by decide) (am_st1_R [_, _, _, _, _, _, _, _] _ _ _ _) ?_
        refine s_iinc (L' := [some (am_ov (some this)), some (am_ov x1), some (am_ov x2), some (.int x3), some (.int x4), some (am_ov x5), some (.int x6), some (am_ov x7), some (am_ov x8), some (.int (if (am_aI σ ((am_fR σ 6009 this).getD 0) x10.toNatClampNeg) = (am_fI σ 9000 (x8.getD 0)) then (1 : Int32) else 0)), some (.int (x10 + (1 : Int32)))]) j154 rfl rfl kc_ic_1 rfl ?_
        refine s_goto j157 rfl rfl ?_
        exact h
      refine s_icn j144 rfl rfl am_cc_ne (fun hc6 => ?_) (fun hc6 => ?_)
      · refine s_iconst j151 rfl kc_ic_0 ?_
        exact K7 _ (am_e0 (Iff.trans Iff.rfl (am_p10 hc6)))
      · refine s_iconst j147 rfl kc_ic_1 ?_
        refine s_goto j148 rfl rfl ?_
        exact K7 _ (am_e1 (Iff.trans Iff.rfl (am_p9 hc6)))
theorem P_Bk_standsWithin_160 (nl : Bool) (Ln : Nat) (xs : Nat → Int32) : am_Jl (TT nl Ln xs) 113 [(160, .iload 9, 162, []), (162, .ifCond .ne 23, 165, []), (165, .iload_n 3, 166, []), (166, .bipush 100, 168, []), (168, .if_icmp .ge 17, 171, []), (171, .aload_n 0, 172, []), (172, .getfield 47, 175, [9, 6, 9, 2]), (175, .iload_n 3, 176, []), (176, .aload 8, 178, []), (178, .getfield 271, 181, [9, 9, 0, 0]), (181, .iastore, 182, []), (182, .iinc 3 1, 185, []), (185, .iinc 6 1, 188, []), (188, .goto (-135), 191, [])] := dk_ck (by decide +kernel)
set_option maxRecDepth 4096 in
theorem w_Bk_standsWithin_160 {nl : Bool} {Ln : Nat} {xs : Nat → Int32} {d : Nat} {this : Nat} {x1 : Option Nat} {x2 : Option Nat} {x3 : Int32} {x4 : Int32} {x5 : Option Nat} {x6 : Int32} {x7 : Option Nat} {x8 : Option Nat} {x9 : Int32} {x10 : Int32} {σ : am_S} {F : Bool → am_S → Prop} (h : (x9 = 0 → (x3 < (100 : Int32) → (am_is σ (some this) 6) ∧ (am_is σ x8 9) ∧ (am_ar σ 1000 (am_fR σ 6009 this) x3) ∧ ∀ σ6, σ6 = am_saI σ ((am_fR σ 6009 this).getD 0) x3.toNatClampNeg (am_fI σ 9000 (x8.getD 0)) → c_Bk_standsWithin_53 nl Ln xs (d + 1) this x1 x2 (x3 + (1 : Int32)) x4 x5 (x6 + (1 : Int32)) (some (am_ov x7)) (some (am_ov x8)) (some (.int x9)) (some (.int x10)) σ6 F) ∧ (¬ (x3 < (100 : Int32)) → c_Bk_standsWithin_53 nl Ln xs (d + 1) this x1 x2 x3 x4 x5 (x6 + (1 : Int32)) (some (am_ov x7)) (some (am_ov x8)) (some (.int x9)) (some (.int x10)) σ F)) ∧ (¬ (x9 = 0) → c_Bk_standsWithin_53 nl Ln xs (d + 1) this x1 x2 x3 x4 x5 (x6 + (1 : Int32)) (some (am_ov x7)) (some (am_ov x8)) (some (.int x9)) (some (.int x10)) σ F)) : c_Bk_standsWithin_160 nl Ln xs (d + 1) this x1 x2 x3 x4 x5 x6 x7 x8 x9 x10 σ F := by
  obtain ⟨j160, j162, j165, j166, j168, j171, j172, j175, j176, j178, j181, j182, j185, j188, -⟩ := P_Bk_standsWithin_160 nl Ln xs
  unfold c_Bk_standsWithin_160
  refine s_iload j160 rfl rfl ?_
  refine s_ifn j162 rfl rfl am_cc_ne (fun hc1 => ?_) (fun hc1 => ?_)
  · replace h := h.2 hc1
    refine s_iinc (L' := [some (am_ov (some this)), some (am_ov x1), some (am_ov x2), some (.int x3), some (.int x4), some (am_ov x5), some (.int (x6 + (1 : Int32))), some (am_ov x7), some (am_ov x8), some (.int x9), some (.int x10)]) j185 rfl rfl kc_ic_1 (am_st1_R [_, _, _, _, _] _ _ _ _) ?_
    refine s_goto j188 rfl rfl ?_
    exact h
  · replace h := h.1 hc1
    refine s_iload_n j165 rfl rfl ?_
    refine s_bipush j166 rfl kc_bi_100 ?_
    refine s_icn j168 rfl rfl am_cc_ge (fun hc2 => ?_) (fun hc2 => ?_)
    · replace h := h.2 hc2
      refine s_iinc (L' := [some (am_ov (some this)), some (am_ov x1), some (am_ov x2), some (.int x3), some (.int x4), some (am_ov x5), some (.int (x6 + (1 : Int32))), some (am_ov x7), some (am_ov x8), some (.int x9), some (.int x10)]) j185 rfl rfl kc_ic_1 (am_st1_R [_, _, _, _, _] _ _ _ _) ?_
      refine s_goto j188 rfl rfl ?_
      exact h
    · replace h := h.1 hc2
      refine s_aload_n j171 rfl rfl ?_
      obtain ⟨ho3, h⟩ := h
      refine s_gfR j172 rfl ho3 ?_
      refine s_iload_n j175 rfl rfl ?_
      refine s_aload j176 rfl rfl ?_
      obtain ⟨ho4, h⟩ := h
      refine s_gfI j178 rfl ho4 ?_
      obtain ⟨ho5, h⟩ := h
      refine s_iastore j181 rfl ho5 (fun σ6 e7 => ?_)
      replace h := h σ6 e7
      have ek8 : am_kd σ6 = am_kd σ := by rw [e7]
      refine s_iinc (L' := [some (am_ov (some this)), some (am_ov x1), some (am_ov x2), some (.int (x3 + (1 : Int32))), some (.int x4), some (am_ov x5), some (.int x6), some (am_ov x7), some (am_ov x8), some (.int x9), some (.int x10)]) j182 rfl rfl kc_ic_1 (am_st1_R [_, _] _ _ _ _) ?_
      refine s_iinc (L' := [some (am_ov (some this)), some (am_ov x1), some (am_ov x2), some (.int (x3 + (1 : Int32))), some (.int x4), some (am_ov x5), some (.int (x6 + (1 : Int32))), some (am_ov x7), some (am_ov x8), some (.int x9), some (.int x10)]) j185 rfl rfl kc_ic_1 (am_st1_R [_, _, _, _, _] _ _ _ _) ?_
      refine s_goto j188 rfl rfl ?_
      exact h
theorem P_Bk_tellPeriod (nl : Bool) (Ln : Nat) (xs : Nat → Int32) : am_Jl (TT nl Ln xs) 114 [(0, .aload_n 0, 1, []), (1, .aload_n 1, 2, []), (2, .iconst 1, 3, []), (3, .laload, 4, []), (4, .invokevirtual 252, 7, [10, 29, 7, 3, 2]), (7, .astore_n 2, 8, []), (8, .aload_n 1, 9, []), (9, .iconst 2, 10, []), (10, .laload, 11, []), (11, .l2i, 12, []), (12, .istore_n 3, 13, []), (13, .aload_n 2, 14, []), (14, .ifnull 29, 17, []), (17, .aload_n 2, 18, []), (18, .getfield 256, 21, [9, 9, 1, 0]), (21, .bipush 6, 23, []), (23, .if_icmp .eq 20, 26, []), (26, .aload_n 2, 27, []), (27, .iload_n 3, 28, []), (28, .invokevirtual 282, 31, [10, 31, 10, 2, 2]), (31, .ifCond .eq 12, 34, []), (34, .aload_n 1, 35, []), (35, .iconst 3, 36, []), (36, .laload, 37, []), (37, .invokestatic 285, 40, [12, 16, 2, 1]), (40, .ifCond .ne 6, 43, []), (43, .bipush (-2), 45, []), (45, .ireturn, 46, [1]), (46, .aload_n 0, 47, []), (47, .iconst 5, 48, []), (48, .aload_n 2, 49, []), (49, .iload_n 3, 50, []), (50, .aload_n 1, 51, []), (51, .iconst 3, 52, []), (52, .laload, 53, []), (53, .aconst_null, 54, []), (54, .invokevirtual 267, 57, [10, 105, 7, 7, 6]), (57, .ireturn, 58, [1])] := dk_ck (by decide +kernel)
set_option maxRecDepth 4096 in
theorem w_Bk_tellPeriod {nl : Bool} {Ln : Nat} {xs : Nat → Int32} {d : Nat} {this : Nat} {p0 : Option Nat} {σ : am_S} {F : Int32 → am_S → Prop} (h : (am_ar σ 1001 p0 (1 : Int32)) ∧ (am_is σ (some this) 6) ∧ k_Bk_policyAt nl Ln xs d this (am_aL σ (p0.getD 0) (1 : Int32).toNatClampNeg) σ (fun a4 σ3 => am_ext σ σ3 → (am_ar σ3 1001 p0 (2 : Int32)) ∧ ∀ v6 : Int32, v6 = (am_aL σ3 (p0.getD 0) (2 : Int32).toNatClampNeg).toInt32 → (a4 = none → F (-2 : Int32) σ3) ∧ (¬ (a4 = none) → (am_is σ3 a4 9) ∧ ((am_fI σ3 9001 (a4.getD 0)) = (6 : Int32) → F (-2 : Int32) σ3) ∧ (¬ ((am_fI σ3 9001 (a4.getD 0)) = (6 : Int32)) → k_Po_hasYear nl Ln xs d (a4.getD 0) v6 σ3 (fun a12 σ11 => am_ext σ3 σ11 → (a12 = true → (am_ar σ11 1001 p0 (3 : Int32)) ∧ k_Co_isMoney nl Ln xs d (am_aL σ11 (p0.getD 0) (3 : Int32).toNatClampNeg) σ11 (fun a16 σ15 => am_ext σ11 σ15 → (a16 = true → (am_ar σ15 1001 p0 (3 : Int32)) ∧ k_Bk_tellPolicy nl Ln xs d this (5 : Int32) a4 v6 (am_aL σ15 (p0.getD 0) (3 : Int32).toNatClampNeg) none σ15 (fun a20 σ19 => am_ext σ15 σ19 → F a20 σ19)) ∧ (¬ (a16 = true) → F (-2 : Int32) σ15))) ∧ (¬ (a12 = true) → F (-2 : Int32) σ11)))))) : k_Bk_tellPeriod nl Ln xs (d + 1) this p0 σ F := by
  obtain ⟨j0, j1, j2, j3, j4, j7, j8, j9, j10, j11, j12, j13, j14, j17, j18, j21, j23, j26, j27, j28, j31, j34, j35, j36, j37, j40, j43, j45, j46, j47, j48, j49, j50, j51, j52, j53, j54, j57, -⟩ := P_Bk_tellPeriod nl Ln xs
  have elo : am_lo 4 [am_ov (some this), am_ov p0] = [some (am_ov (some this)), some (am_ov p0), none, none] := by simp only [am_lo, am_in_ov, am_in_int, am_in_long, am_in_nil]; rfl
  unfold k_Bk_tellPeriod
  rw [elo]
  refine s_aload_n j0 rfl rfl ?_
  refine s_aload_n j1 rfl rfl ?_
  refine s_iconst j2 rfl kc_ic_1 ?_
  obtain ⟨ho1, h⟩ := h
  refine s_laload j3 rfl ho1 ?_
  obtain ⟨ho2, h⟩ := h
  refine s_virt j4 rfl rfl rfl rfl ho2 (by decide) (in_Bk_policyAt _ _) (am_r8 rfl) (am_bR h (fun a4 σ3 h hx3 => ?_))
  replace h := h hx3
  refine s_astore_n j7 rfl (n := 4) (L' := [some (am_ov (some this)), some (am_ov p0), some (am_ov a4), none]) rfl (by decide) (am_st1_R [_] _ _ _ _) ?_
  refine s_aload_n j8 rfl rfl ?_
  refine s_iconst j9 rfl kc_ic_2 ?_
  obtain ⟨ho5, h⟩ := h
  refine s_laload j10 rfl ho5 ?_
  refine s_g j11 rfl rfl rfl rfl rfl rfl ?_
  refine s_istore_nV j12 rfl (n := 4) (L' := fun w => [some (am_ov (some this)), some (am_ov p0), some (am_ov a4), some (.int w)]) rfl (by decide) (fun _ => am_st1_R [_, _] _ _ _ _) (fun v6 hv7 => ?_)
  replace h := h v6 hv7
  refine s_aload_n j13 rfl rfl ?_
  refine s_ifnull j14 rfl rfl (fun hc8 => ?_) (fun hc8 => ?_)
  · replace h := h.1 hc8
    refine s_bipush j43 rfl kc_bi_m2 ?_
    exact s_retI j45 rfl h
  · replace h := h.2 hc8
    refine s_aload_n j17 rfl rfl ?_
    obtain ⟨ho9, h⟩ := h
    refine s_gfI j18 rfl ho9 ?_
    refine s_bipush j21 rfl kc_bi_6 ?_
    refine s_ic j23 rfl rfl am_cc_eq (fun hc10 => ?_) (fun hc10 => ?_)
    · replace h := h.1 hc10
      refine s_bipush j43 rfl kc_bi_m2 ?_
      exact s_retI j45 rfl h
    · replace h := h.2 hc10
      refine s_aload_n j26 rfl rfl ?_
      refine s_iload_n j27 rfl rfl ?_
      refine s_virt j28 rfl rfl rfl rfl ho9 (by decide) (in_Po_hasYear _ _) (am_r8 rfl) (am_bB h (fun a12 σ11 h hx11 => ?_))
      replace h := h hx11
      refine s_ifn j31 rfl rfl am_cb_eq (fun hc13 => ?_) (fun hc13 => ?_)
      · replace h := h.2 hc13
        refine s_bipush j43 rfl kc_bi_m2 ?_
        exact s_retI j45 rfl h
      · replace h := h.1 hc13
        refine s_aload_n j34 rfl rfl ?_
        refine s_iconst j35 rfl kc_ic_3 ?_
        obtain ⟨ho14, h⟩ := h
        refine s_laload j36 rfl ho14 ?_
        refine s_stat j37 rfl rfl rfl rfl (by decide) (in_Co_isMoney _) (am_r8 rfl) (am_bB h (fun a16 σ15 h hx15 => ?_))
        replace h := h hx15
        refine s_if j40 rfl rfl am_cb_ne (fun hc17 => ?_) (fun hc17 => ?_)
        · replace h := h.1 hc17
          refine s_aload_n j46 rfl rfl ?_
          refine s_iconst j47 rfl kc_ic_5 ?_
          refine s_aload_n j48 rfl rfl ?_
          refine s_iload_n j49 rfl rfl ?_
          refine s_aload_n j50 rfl rfl ?_
          refine s_iconst j51 rfl kc_ic_3 ?_
          obtain ⟨ho18, h⟩ := h
          refine s_laload j52 rfl ho18 ?_
          refine s_null j53 rfl ?_
          refine s_virt j54 rfl rfl rfl rfl (am_is_ext hx15 (am_is_ext hx11 (am_is_ext hx3 ho2))) (by decide) (in_Bk_tellPolicy _ _ _ _ _ _) (am_r8 rfl) (am_bI h (fun a20 σ19 h hx19 => ?_))
          replace h := h hx19
          exact s_retI j57 rfl h
        · replace h := h.2 hc17
          refine s_bipush j43 rfl kc_bi_m2 ?_
          exact s_retI j45 rfl h
theorem P_Bk_tellRule (nl : Bool) (Ln : Nat) (xs : Nat → Int32) : am_Jl (TT nl Ln xs) 115 [(0, .aload_n 0, 1, []), (1, .aload_n 1, 2, []), (2, .iconst 1, 3, []), (3, .laload, 4, []), (4, .invokevirtual 252, 7, [10, 29, 7, 3, 2]), (7, .astore_n 2, 8, []), (8, .aload_n 2, 9, []), (9, .ifnull 30, 12, []), (12, .aload_n 2, 13, []), (13, .getfield 256, 16, [9, 9, 1, 0]), (16, .bipush 6, 18, []), (18, .if_icmp .eq 21, 21, []), (21, .aload_n 1, 22, []), (22, .iconst 2, 23, []), (23, .laload, 24, []), (24, .lconst 0, 25, []), (25, .lcmp, 26, []), (26, .ifCond .lt 13, 29, []), (29, .aload_n 1, 30, []), (30, .iconst 2, 31, []), (31, .laload, 32, []), (32, .ldc2_w 297, 35, [6, 2]), (35, .lcmp, 36, []), (36, .ifCond .le 6, 39, []), (39, .bipush (-2), 41, []), (41, .ireturn, 42, [1]), (42, .aload_n 0, 43, []), (43, .bipush 7, 45, []), (45, .aload_n 2, 46, []), (46, .iconst 0, 47, []), (47, .aload_n 1, 48, []), (48, .iconst 2, 49, []), (49, .laload, 50, []), (50, .aconst_null, 51, []), (51, .invokevirtual 267, 54, [10, 105, 7, 7, 6]), (54, .ireturn, 55, [1])] := dk_ck (by decide +kernel)
set_option maxRecDepth 4096 in
theorem w_Bk_tellRule {nl : Bool} {Ln : Nat} {xs : Nat → Int32} {d : Nat} {this : Nat} {p0 : Option Nat} {σ : am_S} {F : Int32 → am_S → Prop} (h : (am_ar σ 1001 p0 (1 : Int32)) ∧ (am_is σ (some this) 6) ∧ k_Bk_policyAt nl Ln xs d this (am_aL σ (p0.getD 0) (1 : Int32).toNatClampNeg) σ (fun a4 σ3 => am_ext σ σ3 → (a4 = none → F (-2 : Int32) σ3) ∧ (¬ (a4 = none) → (am_is σ3 a4 9) ∧ ((am_fI σ3 9001 (a4.getD 0)) = (6 : Int32) → F (-2 : Int32) σ3) ∧ (¬ ((am_fI σ3 9001 (a4.getD 0)) = (6 : Int32)) → (am_ar σ3 1001 p0 (2 : Int32)) ∧ ((am_aL σ3 (p0.getD 0) (2 : Int32).toNatClampNeg) < (0 : Int64) → F (-2 : Int32) σ3) ∧ (¬ ((am_aL σ3 (p0.getD 0) (2 : Int32).toNatClampNeg) < (0 : Int64)) → (am_ar σ3 1001 p0 (2 : Int32)) ∧ ((2 : Int64) < (am_aL σ3 (p0.getD 0) (2 : Int32).toNatClampNeg) → F (-2 : Int32) σ3) ∧ (¬ ((2 : Int64) < (am_aL σ3 (p0.getD 0) (2 : Int32).toNatClampNeg)) → (am_ar σ3 1001 p0 (2 : Int32)) ∧ k_Bk_tellPolicy nl Ln xs d this (7 : Int32) a4 (0 : Int32) (am_aL σ3 (p0.getD 0) (2 : Int32).toNatClampNeg) none σ3 (fun a14 σ13 => am_ext σ3 σ13 → F a14 σ13))))))) : k_Bk_tellRule nl Ln xs (d + 1) this p0 σ F := by
  obtain ⟨j0, j1, j2, j3, j4, j7, j8, j9, j12, j13, j16, j18, j21, j22, j23, j24, j25, j26, j29, j30, j31, j32, j35, j36, j39, j41, j42, j43, j45, j46, j47, j48, j49, j50, j51, j54, -⟩ := P_Bk_tellRule nl Ln xs
  have elo : am_lo 3 [am_ov (some this), am_ov p0] = [some (am_ov (some this)), some (am_ov p0), none] := by simp only [am_lo, am_in_ov, am_in_int, am_in_long, am_in_nil]; rfl
  unfold k_Bk_tellRule
  rw [elo]
  refine s_aload_n j0 rfl rfl ?_
  refine s_aload_n j1 rfl rfl ?_
  refine s_iconst j2 rfl kc_ic_1 ?_
  obtain ⟨ho1, h⟩ := h
  refine s_laload j3 rfl ho1 ?_
  obtain ⟨ho2, h⟩ := h
  refine s_virt j4 rfl rfl rfl rfl ho2 (by decide) (in_Bk_policyAt _ _) (am_r8 rfl) (am_bR h (fun a4 σ3 h hx3 => ?_))
  replace h := h hx3
  refine s_astore_n j7 rfl (n := 3) (L' := [some (am_ov (some this)), some (am_ov p0), some (am_ov a4)]) rfl (by decide) (am_st1_R [_] _ _ _ _) ?_
  refine s_aload_n j8 rfl rfl ?_
  refine s_ifnull j9 rfl rfl (fun hc5 => ?_) (fun hc5 => ?_)
  · replace h := h.1 hc5
    refine s_bipush j39 rfl kc_bi_m2 ?_
    exact s_retI j41 rfl h
  · replace h := h.2 hc5
    refine s_aload_n j12 rfl rfl ?_
    obtain ⟨ho6, h⟩ := h
    refine s_gfI j13 rfl ho6 ?_
    refine s_bipush j16 rfl kc_bi_6 ?_
    refine s_ic j18 rfl rfl am_cc_eq (fun hc7 => ?_) (fun hc7 => ?_)
    · replace h := h.1 hc7
      refine s_bipush j39 rfl kc_bi_m2 ?_
      exact s_retI j41 rfl h
    · replace h := h.2 hc7
      refine s_aload_n j21 rfl rfl ?_
      refine s_iconst j22 rfl kc_ic_2 ?_
      obtain ⟨ho8, h⟩ := h
      refine s_laload j23 rfl ho8 ?_
      refine s_lconst j24 rfl rfl ?_
      refine s_g j25 rfl rfl rfl rfl rfl rfl ?_
      refine s_if j26 rfl rfl am_cl_lt (fun hc9 => ?_) (fun hc9 => ?_)
      · replace h := h.1 hc9
        refine s_bipush j39 rfl kc_bi_m2 ?_
        exact s_retI j41 rfl h
      · replace h := h.2 hc9
        refine s_aload_n j29 rfl rfl ?_
        refine s_iconst j30 rfl kc_ic_2 ?_
        obtain ⟨ho10, h⟩ := h
        refine s_laload j31 rfl ho10 ?_
        refine s_ldc2 j32 rfl kc_ll_2 ?_
        refine s_g j35 rfl rfl rfl rfl rfl rfl ?_
        refine s_ifn j36 rfl rfl am_cl_le (fun hc11 => ?_) (fun hc11 => ?_)
        · replace h := h.2 hc11
          refine s_aload_n j42 rfl rfl ?_
          refine s_bipush j43 rfl kc_bi_7 ?_
          refine s_aload_n j45 rfl rfl ?_
          refine s_iconst j46 rfl kc_ic_0 ?_
          refine s_aload_n j47 rfl rfl ?_
          refine s_iconst j48 rfl kc_ic_2 ?_
          obtain ⟨ho12, h⟩ := h
          refine s_laload j49 rfl ho12 ?_
          refine s_null j50 rfl ?_
          refine s_virt j51 rfl rfl rfl rfl (am_is_ext hx3 ho2) (by decide) (in_Bk_tellPolicy _ _ _ _ _ _) (am_r8 rfl) (am_bI h (fun a14 σ13 h hx13 => ?_))
          replace h := h hx13
          exact s_retI j54 rfl h
        · replace h := h.1 hc11
          refine s_bipush j39 rfl kc_bi_m2 ?_
          exact s_retI j41 rfl h
