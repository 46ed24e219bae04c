/-! statements of methods, 13 (by wip/whole/gensteps.py) -/
theorem P_Ro_lossYear (nl : Bool) (Ln : Nat) (xs : Nat → Int32) : am_Jl (TT nl Ln xs) 254 [(0, .aload_n 0, 1, []), (1, .getfield 98, 4, [9, 13, 37, 2]), (4, .aload_n 0, 5, []), (5, .getfield 129, 8, [9, 13, 48, 2]), (8, .iload_n 1, 9, []), (9, .iaload, 10, []), (10, .iaload, 11, []), (11, .sipush 365, 14, []), (14, .idiv, 15, []), (15, .ireturn, 16, [1])] := dk_ck (by decide +kernel)
set_option maxRecDepth 4096 in
theorem w_Ro_lossYear {nl : Bool} {Ln : Nat} {xs : Nat → Int32} {d : Nat} {this : Nat} {p0 : Int32} {σ : am_S} {F : Int32 → am_S → Prop} (h : (am_is σ (some this) 13) ∧ (am_ar σ 1000 (am_fR σ 13048 this) p0) ∧ (am_ar σ 1000 (am_fR σ 13037 this) (am_aI σ ((am_fR σ 13048 this).getD 0) p0.toNatClampNeg)) ∧ F ((am_aI σ ((am_fR σ 13037 this).getD 0) (am_aI σ ((am_fR σ 13048 this).getD 0) p0.toNatClampNeg).toNatClampNeg) / (365 : Int32)) σ) : k_Ro_lossYear nl Ln xs (d + 1) this p0 σ F := by
  obtain ⟨j0, j1, j4, j5, j8, j9, j10, j11, j14, j15, -⟩ := P_Ro_lossYear nl Ln xs
  have elo : am_lo 2 [am_ov (some this), .int p0] = [some (am_ov (some this)), some (.int p0)] := by simp only [am_lo, am_in_ov, am_in_int, am_in_long, am_in_nil]; rfl
  unfold k_Ro_lossYear
  rw [elo]
  refine s_aload_n j0 rfl rfl ?_
  obtain ⟨ho1, h⟩ := h
  refine s_gfR j1 rfl ho1 ?_
  refine s_aload_n j4 rfl rfl ?_
  refine s_gfR j5 rfl ho1 ?_
  refine s_iload_n j8 rfl rfl ?_
  obtain ⟨ho2, h⟩ := h
  refine s_iaload j9 rfl ho2 ?_
  obtain ⟨ho3, h⟩ := h
  refine s_iaload j10 rfl ho3 ?_
  refine s_sipush j11 rfl kc_si_365 ?_
  refine s_idiv j14 rfl (by decide) ?_
  exact s_retI j15 rfl h
theorem P_Ro_lastBy (nl : Bool) (Ln : Nat) (xs : Nat → Int32) : am_Jl (TT nl Ln xs) 255 [(0, .iconst (-1), 1, []), (1, .istore_n 1, 2, []), (2, .aload_n 0, 3, []), (3, .getfield 74, 6, [9, 13, 27, 2]), (6, .aload_n 0, 7, []), (7, .getfield 371, 10, [9, 13, 71, 0]), (10, .iaload, 11, []), (11, .istore_n 2, 12, [])] := dk_ck (by decide +kernel)
set_option maxRecDepth 4096 in
theorem w_Ro_lastBy {nl : Bool} {Ln : Nat} {xs : Nat → Int32} {d : Nat} {this : Nat} {σ : am_S} {F : Int32 → am_S → Prop} (h : (am_is σ (some this) 13) ∧ (am_ar σ 1000 (am_fR σ 13027 this) (am_fI σ 13071 this)) ∧ ∀ v3 : Int32, v3 = (am_aI σ ((am_fR σ 13027 this).getD 0) (am_fI σ 13071 this).toNatClampNeg) → c_Ro_lastBy_12 nl Ln xs (d + 1) this (-1 : Int32) v3 σ F) : k_Ro_lastBy nl Ln xs (d + 1) this σ F := by
  obtain ⟨j0, j1, j2, j3, j6, j7, j10, j11, -⟩ := P_Ro_lastBy nl Ln xs
  have elo : am_lo 3 [am_ov (some this)] = [some (am_ov (some this)), none, none] := by simp only [am_lo, am_in_ov, am_in_int, am_in_long, am_in_nil]; rfl
  unfold k_Ro_lastBy
  rw [elo]
  refine s_iconst j0 rfl kc_ic_m1 ?_
  refine s_istore_n j1 rfl (n := 3) (L' := [some (am_ov (some this)), some (.int (-1 : Int32)), none]) rfl (by decide) (am_st1_R [] _ _ _ _) ?_
  refine s_aload_n j2 rfl rfl ?_
  obtain ⟨ho1, h⟩ := h
  refine s_gfR j3 rfl ho1 ?_
  refine s_aload_n j6 rfl rfl ?_
  refine s_gfI j7 rfl ho1 ?_
  obtain ⟨ho2, h⟩ := h
  refine s_iaload j10 rfl ho2 ?_
  refine s_istore_nV j11 rfl (n := 3) (L' := fun w => [some (am_ov (some this)), some (.int (-1 : Int32)), some (.int w)]) rfl (by decide) (fun _ => rfl) (fun v3 hv4 => ?_)
  replace h := h v3 hv4
  exact h
theorem P_Ro_lastBy_12 (nl : Bool) (Ln : Nat) (xs : Nat → Int32) : am_Jl (TT nl Ln xs) 255 [(12, .iload_n 2, 13, []), (13, .aload_n 0, 14, []), (14, .getfield 74, 17, [9, 13, 27, 2]), (17, .aload_n 0, 18, []), (18, .getfield 371, 21, [9, 13, 71, 0]), (21, .iconst 1, 22, []), (22, .iadd, 23, []), (23, .iaload, 24, []), (24, .if_icmp .ge 31, 27, []), (27, .aload_n 0, 28, []), (28, .getfield 77, 31, [9, 13, 28, 2]), (31, .iload_n 2, 32, []), (32, .iaload, 33, []), (33, .bipush 10, 35, []), (35, .if_icmp .lt 12, 38, []), (38, .aload_n 0, 39, []), (39, .getfield 77, 42, [9, 13, 28, 2]), (42, .iload_n 2, 43, []), (43, .iaload, 44, []), (44, .goto 4, 47, []), (47, .iload_n 1, 48, []), (48, .istore_n 1, 49, []), (49, .iinc 2 1, 52, []), (52, .goto (-40), 55, []), (55, .iload_n 1, 56, []), (56, .ireturn, 57, [1])] := dk_ck (by decide +kernel)
set_option maxRecDepth 4096 in
theorem w_Ro_lastBy_12 {nl : Bool} {Ln : Nat} {xs : Nat → Int32} {d : Nat} {this : Nat} {x1 : Int32} {x2 : Int32} {σ : am_S} {F : Int32 → am_S → Prop} (h : (am_is σ (some this) 13) ∧ (am_ar σ 1000 (am_fR σ 13027 this) ((am_fI σ 13071 this) + (1 : Int32))) ∧ (x2 < (am_aI σ ((am_fR σ 13027 this).getD 0) ((am_fI σ 13071 this) + (1 : Int32)).toNatClampNeg) → (am_ar σ 1000 (am_fR σ 13028 this) x2) ∧ (¬ ((am_aI σ ((am_fR σ 13028 this).getD 0) x2.toNatClampNeg) < (10 : Int32)) → am_ar σ 1000 (am_fR σ 13028 this) x2) ∧ ∀ w8 : Int32, w8 = (if (am_aI σ ((am_fR σ 13028 this).getD 0) x2.toNatClampNeg) < (10 : Int32) then x1 else (am_aI σ ((am_fR σ 13028 this).getD 0) x2.toNatClampNeg)) → c_Ro_lastBy_12 nl Ln xs (d + 1) this w8 (x2 + (1 : Int32)) σ F) ∧ (¬ (x2 < (am_aI σ ((am_fR σ 13027 this).getD 0) ((am_fI σ 13071 this) + (1 : Int32)).toNatClampNeg)) → F x1 σ)) : c_Ro_lastBy_12 nl Ln xs (d + 1) this x1 x2 σ F := by
  obtain ⟨j12, j13, j14, j17, j18, j21, j22, j23, j24, j27, j28, j31, j32, j33, j35, j38, j39, j42, j43, j44, j47, j48, j49, j52, j55, j56, -⟩ := P_Ro_lastBy_12 nl Ln xs
  unfold c_Ro_lastBy_12
  refine s_iload_n j12 rfl rfl ?_
  refine s_aload_n j13 rfl rfl ?_
  obtain ⟨ho1, h⟩ := h
  refine s_gfR j14 rfl ho1 ?_
  refine s_aload_n j17 rfl rfl ?_
  refine s_gfI j18 rfl ho1 ?_
  refine s_iconst j21 rfl kc_ic_1 ?_
  refine s_g j22 rfl rfl rfl rfl rfl rfl ?_
  obtain ⟨ho2, h⟩ := h
  refine s_iaload j23 rfl ho2 ?_
  refine s_icn j24 rfl rfl am_cc_ge (fun hc3 => ?_) (fun hc3 => ?_)
  · replace h := h.2 hc3
    refine s_iload_n j55 rfl rfl ?_
    exact s_retI j56 rfl h
  · replace h := h.1 hc3
    refine s_aload_n j27 rfl rfl ?_
    refine s_gfR j28 rfl ho1 ?_
    refine s_iload_n j31 rfl rfl ?_
    obtain ⟨ho4, h⟩ := h
    refine s_iaload j32 rfl ho4 ?_
    refine s_bipush j33 rfl kc_bi_10 ?_
    obtain ⟨ho6, h⟩ := h
    have K7 : ∀ (w8 : Int32), w8 = (if (am_aI σ ((am_fR σ 13028 this).getD 0) x2.toNatClampNeg) < (10 : Int32) then x1 else (am_aI σ ((am_fR σ 13028 this).getD 0) x2.toNatClampNeg)) → am_C (TT nl Ln xs) (d + 1) 255 48 [some (am_ov (some this)), some (.int x1), some (.int x2)] [.int w8] σ (am_qI F) := by
      intro w8 hw9
      replace h := h w8 hw9
      refine s_istore_n j48 rfl (n := 3) (L' := [some (am_ov (some this)), some (.int w8), some (.int x2)]) rfl (by decide) (am_st1_R [] _ _ _ _) ?_
      refine s_iinc (L' := [some (am_ov (some this)), some (.int w8), some (.int (x2 + (1 : Int32)))]) j49 rfl rfl kc_ic_1 rfl ?_
      refine s_goto j52 rfl rfl ?_
      exact h
    refine s_ic j35 rfl rfl am_cc_lt (fun hc5 => ?_) (fun hc5 => ?_)
    · refine s_iload_n j47 rfl rfl ?_
      exact K7 _ (am_t1 hc5 rfl)
    · refine s_aload_n j38 rfl rfl ?_
      refine s_gfR j39 rfl ho1 ?_
      refine s_iload_n j42 rfl rfl ?_
      refine s_iaload j43 rfl (ho6 hc5) ?_
      refine s_goto j44 rfl rfl ?_
      exact K7 _ (am_t2 hc5 rfl)
theorem P_Ro_lay (nl : Bool) (Ln : Nat) (xs : Nat → Int32) : am_Jl (TT nl Ln xs) 256 [(0, .iload_n 2, 1, []), (1, .istore 4, 3, [])] := dk_ck (by decide +kernel)
set_option maxRecDepth 4096 in
theorem w_Ro_lay {nl : Bool} {Ln : Nat} {xs : Nat → Int32} {d : Nat} {this : Nat} {p0 : Int32} {p1 : Int32} {p2 : Int32} {σ : am_S} {F : Int32 → am_S → Prop} (h : c_Ro_lay_3 nl Ln xs (d + 1) this p0 p1 p2 p1 σ F) : k_Ro_lay nl Ln xs (d + 1) this p0 p1 p2 σ F := by
  obtain ⟨j0, j1, -⟩ := P_Ro_lay nl Ln xs
  have elo : am_lo 5 [am_ov (some this), .int p0, .int p1, .int p2] = [some (am_ov (some this)), some (.int p0), some (.int p1), some (.int p2), none] := by simp only [am_lo, am_in_ov, am_in_int, am_in_long, am_in_nil]; rfl
  unfold k_Ro_lay
  rw [elo]
  refine s_iload_n j0 rfl rfl ?_
  refine s_istore j1 rfl (n := 5) (L' := [some (am_ov (some this)), some (.int p0), some (.int p1), some (.int p2), some (.int p1)]) rfl (by decide) rfl ?_
  exact h
theorem P_Ro_lay_3 (nl : Bool) (Ln : Nat) (xs : Nat → Int32) : am_Jl (TT nl Ln xs) 256 [(3, .iload_n 3, 4, []), (4, .ifCond .eq 47, 7, []), (7, .iload 4, 9, []), (9, .ifCond .le 42, 12, []), (12, .aload_n 0, 13, []), (13, .aload_n 0, 14, []), (14, .getfield 188, 17, [9, 13, 85, 2]), (17, .iload 4, 19, []), (19, .iconst 1, 20, []), (20, .isub, 21, []), (21, .iaload, 22, []), (22, .iload_n 1, 23, []), (23, .invokevirtual 474, 26, [10, 257, 14, 5, 3]), (26, .ifCond .eq 25, 29, []), (29, .aload_n 0, 30, []), (30, .getfield 188, 33, [9, 13, 85, 2]), (33, .iload 4, 35, []), (35, .aload_n 0, 36, []), (36, .getfield 188, 39, [9, 13, 85, 2]), (39, .iload 4, 41, []), (41, .iconst 1, 42, []), (42, .isub, 43, []), (43, .iaload, 44, []), (44, .iastore, 45, []), (45, .iinc 4 (-1), 48, []), (48, .goto (-45), 51, []), (51, .aload_n 0, 52, []), (52, .getfield 188, 55, [9, 13, 85, 2]), (55, .iload 4, 57, []), (57, .iload_n 1, 58, []), (58, .iastore, 59, []), (59, .iload_n 2, 60, []), (60, .iconst 1, 61, []), (61, .iadd, 62, []), (62, .ireturn, 63, [1])] := dk_ck (by decide +kernel)
set_option maxRecDepth 4096 in
theorem w_Ro_lay_3 {nl : Bool} {Ln : Nat} {xs : Nat → Int32} {d : Nat} {this : Nat} {x1 : Int32} {x2 : Int32} {x3 : Int32} {x4 : Int32} {σ : am_S} {F : Int32 → am_S → Prop} (h : (x3 = 0 → (am_is σ (some this) 13) ∧ (am_ar σ 1000 (am_fR σ 13085 this) x4) ∧ ∀ σ4, σ4 = am_saI σ ((am_fR σ 13085 this).getD 0) x4.toNatClampNeg x1 → F (x2 + (1 : Int32)) σ4) ∧ (¬ (x3 = 0) → (0 < x4 → (am_is σ (some this) 13) ∧ (am_ar σ 1000 (am_fR σ 13085 this) (x4 - (1 : Int32))) ∧ k_Ro_isBehind nl Ln xs d this (am_aI σ ((am_fR σ 13085 this).getD 0) (x4 - (1 : Int32)).toNatClampNeg) x1 σ (fun a11 σ10 => am_ext σ σ10 → (a11 = true → (am_ar σ10 1000 (am_fR σ10 13085 this) (x4 - (1 : Int32))) ∧ (am_ar σ10 1000 (am_fR σ10 13085 this) x4) ∧ ∀ σ15, σ15 = am_saI σ10 ((am_fR σ10 13085 this).getD 0) x4.toNatClampNeg (am_aI σ10 ((am_fR σ10 13085 this).getD 0) (x4 - (1 : Int32)).toNatClampNeg) → c_Ro_lay_3 nl Ln xs (d + 1) this x1 x2 x3 (x4 + (-1 : Int32)) σ15 F) ∧ (¬ (a11 = true) → (am_ar σ10 1000 (am_fR σ10 13085 this) x4) ∧ ∀ σ19, σ19 = am_saI σ10 ((am_fR σ10 13085 this).getD 0) x4.toNatClampNeg x1 → F (x2 + (1 : Int32)) σ19))) ∧ (¬ (0 < x4) → (am_is σ (some this) 13) ∧ (am_ar σ 1000 (am_fR σ 13085 this) x4) ∧ ∀ σ24, σ24 = am_saI σ ((am_fR σ 13085 this).getD 0) x4.toNatClampNeg x1 → F (x2 + (1 : Int32)) σ24))) : c_Ro_lay_3 nl Ln xs (d + 1) this x1 x2 x3 x4 σ F := by
  obtain ⟨j3, j4, j7, j9, j12, j13, j14, j17, j19, j20, j21, j22, j23, j26, j29, j30, j33, j35, j36, j39, j41, j42, j43, j44, j45, j48, j51, j52, j55, j57, j58, j59, j60, j61, j62, -⟩ := P_Ro_lay_3 nl Ln xs
  unfold c_Ro_lay_3
  refine s_iload_n j3 rfl rfl ?_
  refine s_if j4 rfl rfl am_cc_eq (fun hc1 => ?_) (fun hc1 => ?_)
  · replace h := h.1 hc1
    refine s_aload_n j51 rfl rfl ?_
    obtain ⟨ho2, h⟩ := h
    refine s_gfR j52 rfl ho2 ?_
    refine s_iload j55 rfl rfl ?_
    refine s_iload_n j57 rfl rfl ?_
    obtain ⟨ho3, h⟩ := h
    refine s_iastore j58 rfl ho3 (fun σ4 e5 => ?_)
    replace h := h σ4 e5
    have ek6 : am_kd σ4 = am_kd σ := by rw [e5]
    refine s_iload_n j59 rfl rfl ?_
    refine s_iconst j60 rfl kc_ic_1 ?_
    refine s_g j61 rfl rfl rfl rfl rfl rfl ?_
    exact s_retI j62 rfl h
  · replace h := h.2 hc1
    refine s_iload j7 rfl rfl ?_
    refine s_ifn j9 rfl rfl am_cc_le (fun hc7 => ?_) (fun hc7 => ?_)
    · replace h := h.2 hc7
      refine s_aload_n j51 rfl rfl ?_
      obtain ⟨ho22, h⟩ := h
      refine s_gfR j52 rfl ho22 ?_
      refine s_iload j55 rfl rfl ?_
      refine s_iload_n j57 rfl rfl ?_
      obtain ⟨ho23, h⟩ := h
      refine s_iastore j58 rfl ho23 (fun σ24 e25 => ?_)
      replace h := h σ24 e25
      have ek26 : am_kd σ24 = am_kd σ := by rw [e25]
      refine s_iload_n j59 rfl rfl ?_
      refine s_iconst j60 rfl kc_ic_1 ?_
      refine s_g j61 rfl rfl rfl rfl rfl rfl ?_
      exact s_retI j62 rfl h
    · replace h := h.1 hc7
      refine s_aload_n j12 rfl rfl ?_
      refine s_aload_n j13 rfl rfl ?_
      obtain ⟨ho8, h⟩ := h
      refine s_gfR j14 rfl ho8 ?_
      refine s_iload j17 rfl rfl ?_
      refine s_iconst j19 rfl kc_ic_1 ?_
      refine s_g j20 rfl rfl rfl rfl rfl rfl ?_
      obtain ⟨ho9, h⟩ := h
      refine s_iaload j21 rfl ho9 ?_
      refine s_iload_n j22 rfl rfl ?_
      refine s_virt j23 rfl rfl rfl rfl ho8 (by decide) (in_Ro_isBehind _ _ _) (am_r8 rfl) (am_bB h (fun a11 σ10 h hx10 => ?_))
      replace h := h hx10
      refine s_ifn j26 rfl rfl am_cb_eq (fun hc12 => ?_) (fun hc12 => ?_)
      · replace h := h.2 hc12
        refine s_aload_n j51 rfl rfl ?_
        refine s_gfR j52 rfl (am_is_ext hx10 ho8) ?_
        refine s_iload j55 rfl rfl ?_
        refine s_iload_n j57 rfl rfl ?_
        obtain ⟨ho18, h⟩ := h
        refine s_iastore j58 rfl ho18 (fun σ19 e20 => ?_)
        replace h := h σ19 e20
        have ek21 : am_kd σ19 = am_kd σ10 := by rw [e20]
        refine s_iload_n j59 rfl rfl ?_
        refine s_iconst j60 rfl kc_ic_1 ?_
        refine s_g j61 rfl rfl rfl rfl rfl rfl ?_
        exact s_retI j62 rfl h
      · replace h := h.1 hc12
        refine s_aload_n j29 rfl rfl ?_
        refine s_gfR j30 rfl (am_is_ext hx10 ho8) ?_
        refine s_iload j33 rfl rfl ?_
        refine s_aload_n j35 rfl rfl ?_
        refine s_gfR j36 rfl (am_is_ext hx10 ho8) ?_
        refine s_iload j39 rfl rfl ?_
        refine s_iconst j41 rfl kc_ic_1 ?_
        refine s_g j42 rfl rfl rfl rfl rfl rfl ?_
        obtain ⟨ho13, h⟩ := h
        refine s_iaload j43 rfl ho13 ?_
        obtain ⟨ho14, h⟩ := h
        refine s_iastore j44 rfl ho14 (fun σ15 e16 => ?_)
        replace h := h σ15 e16
        have ek17 : am_kd σ15 = am_kd σ10 := by rw [e16]
        refine s_iinc (L' := [some (am_ov (some this)), some (.int x1), some (.int x2), some (.int x3), some (.int (x4 + (-1 : Int32)))]) j45 rfl rfl kc_ic_m1 rfl ?_
        refine s_goto j48 rfl rfl ?_
        exact h
theorem P_Ro_isBehind (nl : Bool) (Ln : Nat) (xs : Nat → Int32) : am_Jl (TT nl Ln xs) 257 [(0, .aload_n 0, 1, []), (1, .iload_n 1, 2, []), (2, .aload_n 0, 3, []), (3, .getfield 308, 6, [9, 13, 72, 0]), (6, .aload_n 0, 7, []), (7, .getfield 311, 10, [9, 13, 73, 0]), (10, .invokevirtual 477, 13, [10, 211, 14, 6, 4]), (13, .istore_n 3, 14, []), (14, .aload_n 0, 15, []), (15, .iload_n 2, 16, []), (16, .aload_n 0, 17, []), (17, .getfield 308, 20, [9, 13, 72, 0]), (20, .aload_n 0, 21, []), (21, .getfield 311, 24, [9, 13, 73, 0]), (24, .invokevirtual 477, 27, [10, 211, 14, 6, 4]), (27, .istore 4, 29, []), (29, .iload_n 3, 30, []), (30, .ifCond .eq 37, 33, []), (33, .iload 4, 35, []), (35, .ifCond .eq 28, 38, []), (38, .aload_n 0, 39, []), (39, .getfield 98, 42, [9, 13, 37, 2]), (42, .aload_n 0, 43, []), (43, .getfield 129, 46, [9, 13, 48, 2]), (46, .iload_n 1, 47, []), (47, .iaload, 48, []), (48, .iaload, 49, []), (49, .aload_n 0, 50, []), (50, .getfield 98, 53, [9, 13, 37, 2]), (53, .aload_n 0, 54, []), (54, .getfield 129, 57, [9, 13, 48, 2]), (57, .iload_n 2, 58, []), (58, .iaload, 59, []), (59, .iaload, 60, []), (60, .if_icmp .le 7, 63, []), (63, .iconst 1, 64, []), (64, .goto 4, 67, []), (67, .iconst 0, 68, []), (68, .ireturn, 69, [4])] := dk_ck (by decide +kernel)
set_option maxRecDepth 4096 in
theorem w_Ro_isBehind {nl : Bool} {Ln : Nat} {xs : Nat → Int32} {d : Nat} {this : Nat} {p0 : Int32} {p1 : Int32} {σ : am_S} {F : Bool → am_S → Prop} (h : (am_is σ (some this) 13) ∧ k_Ro_isOpen nl Ln xs d this p0 (am_fI σ 13072 this) (am_fI σ 13073 this) σ (fun a3 σ2 => am_ext σ σ2 → k_Ro_isOpen nl Ln xs d this p1 (am_fI σ2 13072 this) (am_fI σ2 13073 this) σ2 (fun a5 σ4 => am_ext σ2 σ4 → ((a3 = true) → (a5 = true) → am_ar σ4 1000 (am_fR σ4 13048 this) p0) ∧ ((a3 = true) → (a5 = true) → am_ar σ4 1000 (am_fR σ4 13037 this) (am_aI σ4 ((am_fR σ4 13048 this).getD 0) p0.toNatClampNeg)) ∧ ((a3 = true) → (a5 = true) → am_ar σ4 1000 (am_fR σ4 13048 this) p1) ∧ ((a3 = true) → (a5 = true) → am_ar σ4 1000 (am_fR σ4 13037 this) (am_aI σ4 ((am_fR σ4 13048 this).getD 0) p1.toNatClampNeg)) ∧ F (decide ((a3 = true) ∧ (¬ (a5 = true) ∨ ((am_aI σ4 ((am_fR σ4 13037 this).getD 0) (am_aI σ4 ((am_fR σ4 13048 this).getD 0) p1.toNatClampNeg).toNatClampNeg) < (am_aI σ4 ((am_fR σ4 13037 this).getD 0) (am_aI σ4 ((am_fR σ4 13048 this).getD 0) p0.toNatClampNeg).toNatClampNeg))))) σ4))) : k_Ro_isBehind nl Ln xs (d + 1) this p0 p1 σ F := by
  obtain ⟨j0, j1, j2, j3, j6, j7, j10, j13, j14, j15, j16, j17, j20, j21, j24, j27, j29, j30, j33, j35, j38, j39, j42, j43, j46, j47, j48, j49, j50, j53, j54, j57, j58, j59, j60, j63, j64, j67, j68, -⟩ := P_Ro_isBehind nl Ln xs
  have elo : am_lo 5 [am_ov (some this), .int p0, .int p1] = [some (am_ov (some this)), some (.int p0), some (.int p1), none, none] := by simp only [am_lo, am_in_ov, am_in_int, am_in_long, am_in_nil]; rfl
  unfold k_Ro_isBehind
  rw [elo]
  refine s_aload_n j0 rfl rfl ?_
  refine s_iload_n j1 rfl rfl ?_
  refine s_aload_n j2 rfl rfl ?_
  obtain ⟨ho1, h⟩ := h
  refine s_gfI j3 rfl ho1 ?_
  refine s_aload_n j6 rfl rfl ?_
  refine s_gfI j7 rfl ho1 ?_
  refine s_virt j10 rfl rfl rfl rfl ho1 (by decide) (in_Ro_isOpen _ _ _ _) (am_r8 rfl) (am_bB h (fun a3 σ2 h hx2 => ?_))
  replace h := h hx2
  refine s_istore_n j13 rfl (n := 5) (L' := [some (am_ov (some this)), some (.int p0), some (.int p1), some (.int (if a3 = true then (1 : Int32) else 0)), none]) rfl (by decide) rfl ?_
  refine s_aload_n j14 rfl rfl ?_
  refine s_iload_n j15 rfl rfl ?_
  refine s_aload_n j16 rfl rfl ?_
  refine s_gfI j17 rfl (am_is_ext hx2 ho1) ?_
  refine s_aload_n j20 rfl rfl ?_
  refine s_gfI j21 rfl (am_is_ext hx2 ho1) ?_
  refine s_virt j24 rfl rfl rfl rfl (am_is_ext hx2 ho1) (by decide) (in_Ro_isOpen _ _ _ _) (am_r8 rfl) (am_bB h (fun a5 σ4 h hx4 => ?_))
  replace h := h hx4
  refine s_istore j27 rfl (n := 5) (L' := [some (am_ov (some this)), some (.int p0), some (.int p1), some (.int (if a3 = true then (1 : Int32) else 0)), some (.int (if a5 = true then (1 : Int32) else 0))]) rfl (by decide) rfl ?_
  refine s_iload_n j29 rfl rfl ?_
  obtain ⟨ho8, h⟩ := h
  obtain ⟨ho9, h⟩ := h
  obtain ⟨ho10, h⟩ := h
  obtain ⟨ho11, h⟩ := h
  have K13 : ∀ (w14 : Int32), w14 = (if (a3 = true) ∧ (¬ (a5 = true) ∨ ((am_aI σ4 ((am_fR σ4 13037 this).getD 0) (am_aI σ4 ((am_fR σ4 13048 this).getD 0) p1.toNatClampNeg).toNatClampNeg) < (am_aI σ4 ((am_fR σ4 13037 this).getD 0) (am_aI σ4 ((am_fR σ4 13048 this).getD 0) p0.toNatClampNeg).toNatClampNeg))) then (1 : Int32) else 0) → am_C (TT nl Ln xs) (d + 1) 257 68 [some (am_ov (some this)), some (.int p0), some (.int p1), some (.int (if a3 = true then (1 : Int32) else 0)), some (.int (if a5 = true then (1 : Int32) else 0))] [.int w14] σ4 (am_qB F) := by
    intro w14 hw15
    subst hw15
    exact s_retZ j68 rfl h
  refine s_ifn j30 rfl rfl am_cb_eq (fun hc6 => ?_) (fun hc6 => ?_)
  · refine s_iconst j67 rfl kc_ic_0 ?_
    exact K13 _ (am_e0 (Iff.trans Iff.rfl (am_p2 hc6)))
  · refine s_iload j33 rfl rfl ?_
    refine s_ifn j35 rfl rfl am_cb_eq (fun hc7 => ?_) (fun hc7 => ?_)
    · refine s_iconst j63 rfl kc_ic_1 ?_
      refine s_goto j64 rfl rfl ?_
      exact K13 _ (am_e1 (am_p1 hc6 (Iff.trans Iff.rfl (am_p7 hc7))))
    · refine s_aload_n j38 rfl rfl ?_
      refine s_gfR j39 rfl (am_is_ext hx4 (am_is_ext hx2 ho1)) ?_
      refine s_aload_n j42 rfl rfl ?_
      refine s_gfR j43 rfl (am_is_ext hx4 (am_is_ext hx2 ho1)) ?_
      refine s_iload_n j46 rfl rfl ?_
      refine s_iaload j47 rfl (ho8 hc6 hc7) ?_
      refine s_iaload j48 rfl (ho9 hc6 hc7) ?_
      refine s_aload_n j49 rfl rfl ?_
      refine s_gfR j50 rfl (am_is_ext hx4 (am_is_ext hx2 ho1)) ?_
      refine s_aload_n j53 rfl rfl ?_
      refine s_gfR j54 rfl (am_is_ext hx4 (am_is_ext hx2 ho1)) ?_
      refine s_iload_n j57 rfl rfl ?_
      refine s_iaload j58 rfl (ho10 hc6 hc7) ?_
      refine s_iaload j59 rfl (ho11 hc6 hc7) ?_
      refine s_icn j60 rfl rfl am_cc_le (fun hc12 => ?_) (fun hc12 => ?_)
      · refine s_iconst j67 rfl kc_ic_0 ?_
        exact K13 _ (am_e0 (am_p1 hc6 (am_p8 hc7 (Iff.trans Iff.rfl (am_p10 hc12)))))
      · refine s_iconst j63 rfl kc_ic_1 ?_
        refine s_goto j64 rfl rfl ?_
        exact K13 _ (am_e1 (am_p1 hc6 (am_p8 hc7 (Iff.trans Iff.rfl (am_p9 hc12)))))
theorem P_Ro_behind (nl : Bool) (Ln : Nat) (xs : Nat → Int32) : am_Jl (TT nl Ln xs) 258 [(0, .aload_n 0, 1, []), (1, .bipush 18, 3, []), (3, .invokevirtual 480, 6, [10, 259, 14, 5, 2]), (6, .lstore_n 1, 7, []), (7, .aload_n 0, 8, []), (8, .bipush 10, 10, []), (10, .iconst 0, 11, []), (11, .lload_n 1, 12, []), (12, .aload_n 0, 13, []), (13, .getfield 295, 16, [9, 13, 77, 1]), (16, .lcmp, 17, []), (17, .ifCond .ge 7, 20, []), (20, .lload_n 1, 21, []), (21, .goto 7, 24, []), (24, .aload_n 0, 25, []), (25, .getfield 295, 28, [9, 13, 77, 1])] := dk_ck (by decide +kernel)
set_option maxRecDepth 4096 in
theorem w_Ro_behind {nl : Bool} {Ln : Nat} {xs : Nat → Int32} {d : Nat} {this : Nat} {σ : am_S} {F : am_S → Prop} (h : (am_is σ (some this) 13) ∧ k_Ro_summed nl Ln xs d this (18 : Int32) σ (fun a3 σ2 => am_ext σ σ2 → ∀ w6 : Int64, w6 = (if a3 < (am_fL σ2 13077 this) then a3 else (am_fL σ2 13077 this)) → c_Ro_behind_28 nl Ln xs (d + 1) this a3 (some this) (10 : Int32) (0 : Int32) w6 σ2 F)) : k_Ro_behind nl Ln xs (d + 1) this σ F := by
  obtain ⟨j0, j1, j3, j6, j7, j8, j10, j11, j12, j13, j16, j17, j20, j21, j24, j25, -⟩ := P_Ro_behind nl Ln xs
  have elo : am_lo 7 [am_ov (some this)] = [some (am_ov (some this)), none, none, none, none, none, none] := by simp only [am_lo, am_in_ov, am_in_int, am_in_long, am_in_nil]; rfl
  unfold k_Ro_behind
  rw [elo]
  refine s_aload_n j0 rfl rfl ?_
  refine s_bipush j1 rfl kc_bi_18 ?_
  obtain ⟨ho1, h⟩ := h
  refine s_virt j3 rfl rfl rfl rfl ho1 (by decide) (in_Ro_summed _ _) (am_r8 rfl) (am_bL h (fun a3 σ2 h hx2 => ?_))
  replace h := h hx2
  refine s_lstore_n j6 rfl (n := 7) (L' := [some (am_ov (some this)), some (.long a3), none, none, none, none, none]) rfl (by decide) (am_st2_R [] _ _ _ _ _) ?_
  refine s_aload_n j7 rfl rfl ?_
  refine s_bipush j8 rfl kc_bi_10 ?_
  refine s_iconst j10 rfl kc_ic_0 ?_
  refine s_lload_n j11 rfl rfl ?_
  refine s_aload_n j12 rfl rfl ?_
  refine s_gfL j13 rfl (am_is_ext hx2 ho1) ?_
  refine s_g j16 rfl rfl rfl rfl rfl rfl ?_
  have K5 : ∀ (w6 : Int64), w6 = (if a3 < (am_fL σ2 13077 this) then a3 else (am_fL σ2 13077 this)) → am_C (TT nl Ln xs) (d + 1) 258 28 [some (am_ov (some this)), some (.long a3), none, none, none, none, none] [.long w6, .int (0 : Int32), .int (10 : Int32), am_ov (some this)] σ2 (am_qV F) := by
    intro w6 hw7
    replace h := h w6 hw7
    exact h
  refine s_ifn j17 rfl rfl am_cl_ge (fun hc4 => ?_) (fun hc4 => ?_)
  · refine s_aload_n j24 rfl rfl ?_
    refine s_gfL j25 rfl (am_is_ext hx2 ho1) ?_
    exact K5 _ (am_t2 hc4 rfl)
  · refine s_lload_n j20 rfl rfl ?_
    refine s_goto j21 rfl rfl ?_
    exact K5 _ (am_t1 hc4 rfl)
theorem P_Ro_behind_28 (nl : Bool) (Ln : Nat) (xs : Nat → Int32) : am_Jl (TT nl Ln xs) 258 [(28, .invokevirtual 388, 31, [10, 243, 14, 5, 4]), (31, .aload_n 0, 32, []), (32, .aload_n 0, 33, []), (33, .getfield 371, 36, [9, 13, 71, 0]), (36, .bipush 9, 38, []), (38, .invokevirtual 377, 41, [10, 224, 14, 6, 3]), (41, .lstore_n 3, 42, []), (42, .lload_n 3, 43, []), (43, .ldc2_w 256, 46, [6, 18446744073709551615]), (46, .lcmp, 47, []), (47, .ifCond .eq 56, 50, []), (50, .aload_n 0, 51, []), (51, .invokevirtual 483, 54, [10, 260, 14, 8, 1]), (54, .lstore 5, 56, []), (56, .lload 5, 58, []), (58, .lload_n 3, 59, []), (59, .invokestatic 384, 62, [12, 242, 4, 2]), (62, .ifCond .eq 9, 65, []), (65, .aload_n 0, 66, []), (66, .iconst 5, 67, []), (67, .invokevirtual 348, 70, [10, 220, 14, 2, 2]), (70, .return_, 71, [0]), (71, .aload_n 0, 72, []), (72, .lload 5, 74, []), (74, .lload_n 3, 75, []), (75, .lmul, 76, []), (76, .ldc2_w 487, 79, [6, 3650000]), (79, .ldiv, 80, []), (80, .putfield 455, 83, [9, 13, 79, 1]), (83, .aload_n 0, 84, []), (84, .getfield 455, 87, [9, 13, 79, 1]), (87, .lconst 0, 88, []), (88, .lcmp, 89, []), (89, .ifCond .eq 14, 92, []), (92, .aload_n 0, 93, []), (93, .bipush 11, 95, []), (95, .iconst 0, 96, []), (96, .aload_n 0, 97, []), (97, .getfield 455, 100, [9, 13, 79, 1]), (100, .invokevirtual 291, 103, [10, 228, 14, 5, 4])] := dk_ck (by decide +kernel)
set_option maxRecDepth 4096 in
theorem w_Ro_behind_28 {nl : Bool} {Ln : Nat} {xs : Nat → Int32} {d : Nat} {this : Nat} {x1 : Int64} {y0 : Option Nat} {y1 : Int32} {y2 : Int32} {y3 : Int64} {σ : am_S} {F : am_S → Prop} (h : (am_is σ y0 13) ∧ k_Ro_less nl Ln xs d (y0.getD 0) y1 y2 y3 σ (fun σ2 => am_ext σ σ2 → (am_is σ2 (some this) 13) ∧ k_Ro_told nl Ln xs d this (am_fI σ2 13071 this) (9 : Int32) σ2 (fun a6 σ5 => am_ext σ2 σ5 → (a6 = (-1 : Int64) → c_Ro_behind_103 nl Ln xs (d + 1) this x1 a6 none none σ5 F) ∧ (¬ (a6 = (-1 : Int64)) → k_Ro_owedDays nl Ln xs d this σ5 (fun a9 σ8 => am_ext σ5 σ8 → k_Rm_isGreat nl Ln xs d a9 a6 σ8 (fun a11 σ10 => am_ext σ8 σ10 → (a11 = true → k_Ro_meets nl Ln xs d this (5 : Int32) σ10 (fun σ13 => am_ext σ10 σ13 → F σ13)) ∧ (¬ (a11 = true) → ∀ σ15, σ15 = am_sfL σ10 13079 this ((a9 * a6) / (3650000 : Int64)) → ((am_fL σ15 13079 this) = (0 : Int64) → c_Ro_behind_103 nl Ln xs (d + 1) this x1 a6 (some (.long a9)) none σ15 F) ∧ (¬ ((am_fL σ15 13079 this) = (0 : Int64)) → k_Ro_row nl Ln xs d this (11 : Int32) (0 : Int32) (am_fL σ15 13079 this) σ15 (fun σ19 => am_ext σ15 σ19 → c_Ro_behind_103 nl Ln xs (d + 1) this x1 a6 (some (.long a9)) none σ19 F))))))))) : c_Ro_behind_28 nl Ln xs (d + 1) this x1 y0 y1 y2 y3 σ F := by
  obtain ⟨j28, j31, j32, j33, j36, j38, j41, j42, j43, j46, j47, j50, j51, j54, j56, j58, j59, j62, j65, j66, j67, j70, j71, j72, j74, j75, j76, j79, j80, j83, j84, j87, j88, j89, j92, j93, j95, j96, j97, j100, -⟩ := P_Ro_behind_28 nl Ln xs
  unfold c_Ro_behind_28
  obtain ⟨ho1, h⟩ := h
  refine s_virt j28 rfl rfl rfl rfl ho1 (by decide) (in_Ro_less _ _ _ _) (am_r8 rfl) (am_bV h (fun σ2 h hx2 => ?_))
  replace h := h hx2
  refine s_aload_n j31 rfl rfl ?_
  refine s_aload_n j32 rfl rfl ?_
  obtain ⟨ho4, h⟩ := h
  refine s_gfI j33 rfl ho4 ?_
  refine s_bipush j36 rfl kc_bi_9 ?_
  refine s_virt j38 rfl rfl rfl rfl ho4 (by decide) (in_Ro_told _ _ _) (am_r8 rfl) (am_bL h (fun a6 σ5 h hx5 => ?_))
  replace h := h hx5
  refine s_lstore_n j41 rfl (n := 7) (L' := [some (am_ov (some this)), some (.long x1), none, some (.long a6), none, none, none]) rfl (by decide) rfl ?_
  refine s_lload_n j42 rfl rfl ?_
  refine s_ldc2 j43 rfl kc_ll_m1 ?_
  refine s_g j46 rfl rfl rfl rfl rfl rfl ?_
  refine s_if j47 rfl rfl am_cl_eq (fun hc7 => ?_) (fun hc7 => ?_)
  · replace h := h.1 hc7
    exact h
  · replace h := h.2 hc7
    refine s_aload_n j50 rfl rfl ?_
    refine s_virt j51 rfl rfl rfl rfl (am_is_ext hx5 ho4) (by decide) (in_Ro_owedDays _) (am_r8 rfl) (am_bL h (fun a9 σ8 h hx8 => ?_))
    replace h := h hx8
    refine s_lstore j54 rfl (n := 7) (L' := [some (am_ov (some this)), some (.long x1), none, some (.long a6), none, some (.long a9), none]) rfl (by decide) rfl ?_
    refine s_lload j56 rfl rfl ?_
    refine s_lload_n j58 rfl rfl ?_
    refine s_stat j59 rfl rfl rfl rfl (by decide) (in_Rm_isGreat _ _) (am_r8 rfl) (am_bB h (fun a11 σ10 h hx10 => ?_))
    replace h := h hx10
    refine s_ifn j62 rfl rfl am_cb_eq (fun hc12 => ?_) (fun hc12 => ?_)
    · replace h := h.2 hc12
      refine s_aload_n j71 rfl rfl ?_
      refine s_lload j72 rfl rfl ?_
      refine s_lload_n j74 rfl rfl ?_
      refine s_g j75 rfl rfl rfl rfl rfl rfl ?_
      refine s_ldc2 j76 rfl kc_ll_3650000 ?_
      refine s_ldiv j79 rfl (by decide) ?_
      refine s_pfL j80 rfl (am_is_ext hx10 (am_is_ext hx8 (am_is_ext hx5 ho4))) (fun σ15 e16 => ?_)
      replace h := h σ15 e16
      have ek17 : am_kd σ15 = am_kd σ10 := by rw [e16]
      refine s_aload_n j83 rfl rfl ?_
      refine s_gfL j84 rfl (am_is_kd ek17 (am_is_ext hx10 (am_is_ext hx8 (am_is_ext hx5 ho4)))) ?_
      refine s_lconst j87 rfl rfl ?_
      refine s_g j88 rfl rfl rfl rfl rfl rfl ?_
      refine s_if j89 rfl rfl am_cl_eq (fun hc18 => ?_) (fun hc18 => ?_)
      · replace h := h.1 hc18
        exact h
      · replace h := h.2 hc18
        refine s_aload_n j92 rfl rfl ?_
        refine s_bipush j93 rfl kc_bi_11 ?_
        refine s_iconst j95 rfl kc_ic_0 ?_
        refine s_aload_n j96 rfl rfl ?_
        refine s_gfL j97 rfl (am_is_kd ek17 (am_is_ext hx10 (am_is_ext hx8 (am_is_ext hx5 ho4)))) ?_
        refine s_virt j100 rfl rfl rfl rfl (am_is_kd ek17 (am_is_ext hx10 (am_is_ext hx8 (am_is_ext hx5 ho4)))) (by decide) (in_Ro_row _ _ _ _) (am_r8 rfl) (am_bV h (fun σ19 h hx19 => ?_))
        replace h := h hx19
        exact h
    · replace h := h.1 hc12
      refine s_aload_n j65 rfl rfl ?_
      refine s_iconst j66 rfl kc_ic_5 ?_
      refine s_virt j67 rfl rfl rfl rfl (am_is_ext hx10 (am_is_ext hx8 (am_is_ext hx5 ho4))) (by decide) (in_Ro_meets _ _) (am_r8 rfl) (am_bV h (fun σ13 h hx13 => ?_))
      replace h := h hx13
      exact s_retV j70 rfl h
theorem P_Ro_behind_103 (nl : Bool) (Ln : Nat) (xs : Nat → Int32) : am_Jl (TT nl Ln xs) 258 [(103, .aload_n 0, 104, []), (104, .bipush 13, 106, []), (106, .invokevirtual 480, 109, [10, 259, 14, 5, 2]), (109, .lstore 5, 111, []), (111, .lload 5, 113, []), (113, .lconst 0, 114, []), (114, .lcmp, 115, []), (115, .ifCond .eq 13, 118, []), (118, .aload_n 0, 119, []), (119, .bipush 12, 121, []), (121, .iconst 0, 122, []), (122, .lload 5, 124, []), (124, .lneg, 125, []), (125, .invokevirtual 291, 128, [10, 228, 14, 5, 4]), (128, .return_, 129, [0])] := dk_ck (by decide +kernel)
set_option maxRecDepth 4096 in
theorem w_Ro_behind_103 {nl : Bool} {Ln : Nat} {xs : Nat → Int32} {d : Nat} {this : Nat} {x1 : Int64} {x3 : Int64} {x5 : Option Value} {x6 : Option Value} {σ : am_S} {F : am_S → Prop} (h : (am_is σ (some this) 13) ∧ k_Ro_summed nl Ln xs d this (13 : Int32) σ (fun a3 σ2 => am_ext σ σ2 → (a3 = (0 : Int64) → F σ2) ∧ (¬ (a3 = (0 : Int64)) → k_Ro_row nl Ln xs d this (12 : Int32) (0 : Int32) (-a3) σ2 (fun σ5 => am_ext σ2 σ5 → F σ5)))) : c_Ro_behind_103 nl Ln xs (d + 1) this x1 x3 x5 x6 σ F := by
  obtain ⟨j103, j104, j106, j109, j111, j113, j114, j115, j118, j119, j121, j122, j124, j125, j128, -⟩ := P_Ro_behind_103 nl Ln xs
  unfold c_Ro_behind_103
  refine s_aload_n j103 rfl rfl ?_
  refine s_bipush j104 rfl kc_bi_13 ?_
  obtain ⟨ho1, h⟩ := h
  refine s_virt j106 rfl rfl rfl rfl ho1 (by decide) (in_Ro_summed _ _) (am_r8 rfl) (am_bL h (fun a3 σ2 h hx2 => ?_))
  replace h := h hx2
  refine s_lstore j109 rfl (n := 7) (L' := [some (am_ov (some this)), some (.long x1), none, some (.long x3), none, some (.long a3), none]) rfl (by decide) rfl ?_
  refine s_lload j111 rfl rfl ?_
  refine s_lconst j113 rfl rfl ?_
  refine s_g j114 rfl rfl rfl rfl rfl rfl ?_
  refine s_if j115 rfl rfl am_cl_eq (fun hc4 => ?_) (fun hc4 => ?_)
  · replace h := h.1 hc4
    exact s_retV j128 rfl h
  · replace h := h.2 hc4
    refine s_aload_n j118 rfl rfl ?_
    refine s_bipush j119 rfl kc_bi_12 ?_
    refine s_iconst j121 rfl kc_ic_0 ?_
    refine s_lload j122 rfl rfl ?_
    refine s_g j124 rfl rfl rfl rfl rfl rfl ?_
    refine s_virt j125 rfl rfl rfl rfl (am_is_ext hx2 ho1) (by decide) (in_Ro_row _ _ _ _) (am_r8 rfl) (am_bV h (fun σ5 h hx5 => ?_))
    replace h := h hx5
    exact s_retV j128 rfl h
theorem P_Ro_summed (nl : Bool) (Ln : Nat) (xs : Nat → Int32) : am_Jl (TT nl Ln xs) 259 [(0, .lconst 0, 1, []), (1, .lstore_n 2, 2, []), (2, .bipush 40, 4, []), (4, .aload_n 0, 5, []), (5, .getfield 305, 8, [9, 13, 68, 0]), (8, .imul, 9, []), (9, .istore 4, 11, [])] := dk_ck (by decide +kernel)
set_option maxRecDepth 4096 in
theorem w_Ro_summed {nl : Bool} {Ln : Nat} {xs : Nat → Int32} {d : Nat} {this : Nat} {p0 : Int32} {σ : am_S} {F : Int64 → am_S → Prop} (h : (am_is σ (some this) 13) ∧ ∀ v2 : Int32, v2 = ((40 : Int32) * (am_fI σ 13068 this)) → c_Ro_summed_11 nl Ln xs (d + 1) this p0 (0 : Int64) v2 σ F) : k_Ro_summed nl Ln xs (d + 1) this p0 σ F := by
  obtain ⟨j0, j1, j2, j4, j5, j8, j9, -⟩ := P_Ro_summed nl Ln xs
  have elo : am_lo 5 [am_ov (some this), .int p0] = [some (am_ov (some this)), some (.int p0), none, none, none] := by simp only [am_lo, am_in_ov, am_in_int, am_in_long, am_in_nil]; rfl
  unfold k_Ro_summed
  rw [elo]
  refine s_lconst j0 rfl rfl ?_
  refine s_lstore_n j1 rfl (n := 5) (L' := [some (am_ov (some this)), some (.int p0), some (.long (0 : Int64)), none, none]) rfl (by decide) rfl ?_
  refine s_bipush j2 rfl kc_bi_40 ?_
  refine s_aload_n j4 rfl rfl ?_
  obtain ⟨ho1, h⟩ := h
  refine s_gfI j5 rfl ho1 ?_
  refine s_g j8 rfl rfl rfl rfl rfl rfl ?_
  refine s_istoreV j9 rfl (n := 5) (L' := fun w => [some (am_ov (some this)), some (.int p0), some (.long (0 : Int64)), none, some (.int w)]) rfl (by decide) (fun _ => rfl) (fun v2 hv3 => ?_)
  replace h := h v2 hv3
  exact h
theorem P_Ro_summed_11 (nl : Bool) (Ln : Nat) (xs : Nat → Int32) : am_Jl (TT nl Ln xs) 259 [(11, .iload 4, 13, []), (13, .bipush 40, 15, []), (15, .aload_n 0, 16, []), (16, .getfield 305, 19, [9, 13, 68, 0]), (19, .imul, 20, []), (20, .aload_n 0, 21, []), (21, .getfield 138, 24, [9, 13, 51, 2]), (24, .aload_n 0, 25, []), (25, .getfield 305, 28, [9, 13, 68, 0]), (28, .iaload, 29, []), (29, .iadd, 30, []), (30, .if_icmp .ge 51, 33, []), (33, .lload_n 2, 34, []), (34, .aload_n 0, 35, []), (35, .getfield 141, 38, [9, 13, 52, 2]), (38, .iload 4, 40, []), (40, .iaload, 41, []), (41, .iload_n 1, 42, []), (42, .if_icmp .ne 30, 45, []), (45, .aload_n 0, 46, []), (46, .iload 4, 48, []), (48, .aload_n 0, 49, []), (49, .getfield 308, 52, [9, 13, 72, 0]), (52, .aload_n 0, 53, []), (53, .getfield 311, 56, [9, 13, 73, 0]), (56, .invokevirtual 262, 59, [10, 212, 14, 4, 4]), (59, .ifCond .eq 13, 62, []), (62, .aload_n 0, 63, []), (63, .getfield 159, 66, [9, 13, 58, 2]), (66, .iload 4, 68, []), (68, .laload, 69, []), (69, .goto 4, 72, []), (72, .lconst 0, 73, []), (73, .ladd, 74, []), (74, .lstore_n 2, 75, []), (75, .iinc 4 1, 78, []), (78, .goto (-67), 81, []), (81, .lload_n 2, 82, []), (82, .lreturn, 83, [2])] := dk_ck (by decide +kernel)
set_option maxRecDepth 4096 in
theorem w_Ro_summed_11 {nl : Bool} {Ln : Nat} {xs : Nat → Int32} {d : Nat} {this : Nat} {x1 : Int32} {x2 : Int64} {x4 : Int32} {σ : am_S} {F : Int64 → am_S → Prop} (h : (am_is σ (some this) 13) ∧ (am_ar σ 1000 (am_fR σ 13051 this) (am_fI σ 13068 this)) ∧ (x4 < (((40 : Int32) * (am_fI σ 13068 this)) + (am_aI σ ((am_fR σ 13051 this).getD 0) (am_fI σ 13068 this).toNatClampNeg)) → (am_ar σ 1000 (am_fR σ 13052 this) x4) ∧ ((am_aI σ ((am_fR σ 13052 this).getD 0) x4.toNatClampNeg) = x1 → k_Ro_counts nl Ln xs d this x4 (am_fI σ 13072 this) (am_fI σ 13073 this) σ (fun a7 σ6 => am_ext σ σ6 → ((a7 = true) → am_ar σ6 1001 (am_fR σ6 13058 this) x4) ∧ ∀ w11 : Int64, w11 = (if a7 = true then (am_aL σ6 ((am_fR σ6 13058 this).getD 0) x4.toNatClampNeg) else (0 : Int64)) → ∀ v13 : Int64, v13 = (x2 + w11) → c_Ro_summed_11 nl Ln xs (d + 1) this x1 v13 (x4 + (1 : Int32)) σ6 F)) ∧ (¬ ((am_aI σ ((am_fR σ 13052 this).getD 0) x4.toNatClampNeg) = x1) → ∀ v15 : Int64, v15 = (x2 + (0 : Int64)) → c_Ro_summed_11 nl Ln xs (d + 1) this x1 v15 (x4 + (1 : Int32)) σ F)) ∧ (¬ (x4 < (((40 : Int32) * (am_fI σ 13068 this)) + (am_aI σ ((am_fR σ 13051 this).getD 0) (am_fI σ 13068 this).toNatClampNeg))) → F x2 σ)) : c_Ro_summed_11 nl Ln xs (d + 1) this x1 x2 x4 σ F := by
  obtain ⟨j11, j13, j15, j16, j19, j20, j21, j24, j25, j28, j29, j30, j33, j34, j35, j38, j40, j41, j42, j45, j46, j48, j49, j52, j53, j56, j59, j62, j63, j66, j68, j69, j72, j73, j74, j75, j78, j81, j82, -⟩ := P_Ro_summed_11 nl Ln xs
  unfold c_Ro_summed_11
  refine s_iload j11 rfl rfl ?_
  refine s_bipush j13 rfl kc_bi_40 ?_
  refine s_aload_n j15 rfl rfl ?_
  obtain ⟨ho1, h⟩ := h
  refine s_gfI j16 rfl ho1 ?_
  refine s_g j19 rfl rfl rfl rfl rfl rfl ?_
  refine s_aload_n j20 rfl rfl ?_
  refine s_gfR j21 rfl ho1 ?_
  refine s_aload_n j24 rfl rfl ?_
  refine s_gfI j25 rfl ho1 ?_
  obtain ⟨ho2, h⟩ := h
  refine s_iaload j28 rfl ho2 ?_
  refine s_g j29 rfl rfl rfl rfl rfl rfl ?_
  refine s_icn j30 rfl rfl am_cc_ge (fun hc3 => ?_) (fun hc3 => ?_)
  · replace h := h.2 hc3
    refine s_lload_n j81 rfl rfl ?_
    exact s_retL j82 rfl h
  · replace h := h.1 hc3
    refine s_lload_n j33 rfl rfl ?_
    refine s_aload_n j34 rfl rfl ?_
    refine s_gfR j35 rfl ho1 ?_
    refine s_iload j38 rfl rfl ?_
    obtain ⟨ho4, h⟩ := h
    refine s_iaload j40 rfl ho4 ?_
    refine s_iload_n j41 rfl rfl ?_
    refine s_icn j42 rfl rfl am_cc_ne (fun hc5 => ?_) (fun hc5 => ?_)
    · replace h := h.2 hc5
      refine s_lconst j72 rfl rfl ?_
      refine s_g j73 rfl rfl rfl rfl rfl rfl ?_
      refine s_lstore_nV j74 rfl (n := 5) (L' := fun w => [some (am_ov (some this)), some (.int x1), some (.long w), none, some (.int x4)]) rfl (by decide) (fun _ => rfl) (fun v15 hv16 => ?_)
      replace h := h v15 hv16
      refine s_iinc (L' := [some (am_ov (some this)), some (.int x1), some (.long v15), none, some (.int (x4 + (1 : Int32)))]) j75 rfl rfl kc_ic_1 rfl ?_
      refine s_goto j78 rfl rfl ?_
      exact h
    · replace h := h.1 hc5
      refine s_aload_n j45 rfl rfl ?_
      refine s_iload j46 rfl rfl ?_
      refine s_aload_n j48 rfl rfl ?_
      refine s_gfI j49 rfl ho1 ?_
      refine s_aload_n j52 rfl rfl ?_
      refine s_gfI j53 rfl ho1 ?_
      refine s_virt j56 rfl rfl rfl rfl ho1 (by decide) (in_Ro_counts _ _ _ _) (am_r8 rfl) (am_bB h (fun a7 σ6 h hx6 => ?_))
      replace h := h hx6
      obtain ⟨ho9, h⟩ := h
      have K10 : ∀ (w11 : Int64), w11 = (if a7 = true then (am_aL σ6 ((am_fR σ6 13058 this).getD 0) x4.toNatClampNeg) else (0 : Int64)) → am_C (TT nl Ln xs) (d + 1) 259 73 [some (am_ov (some this)), some (.int x1), some (.long x2), none, some (.int x4)] [.long w11, .long x2] σ6 (am_qL F) := by
        intro w11 hw12
        replace h := h w11 hw12
        refine s_g j73 rfl rfl rfl rfl rfl rfl ?_
        refine s_lstore_nV j74 rfl (n := 5) (L' := fun w => [some (am_ov (some this)), some (.int x1), some (.long w), none, some (.int x4)]) rfl (by decide) (fun _ => rfl) (fun v13 hv14 => ?_)
        replace h := h v13 hv14
        refine s_iinc (L' := [some (am_ov (some this)), some (.int x1), some (.long v13), none, some (.int (x4 + (1 : Int32)))]) j75 rfl rfl kc_ic_1 rfl ?_
        refine s_goto j78 rfl rfl ?_
        exact h
      refine s_ifn j59 rfl rfl am_cb_eq (fun hc8 => ?_) (fun hc8 => ?_)
      · refine s_lconst j72 rfl rfl ?_
        exact K10 _ (am_t2 hc8 rfl)
      · refine s_aload_n j62 rfl rfl ?_
        refine s_gfR j63 rfl (am_is_ext hx6 ho1) ?_
        refine s_iload j66 rfl rfl ?_
        refine s_laload j68 rfl (ho9 hc8) ?_
        refine s_goto j69 rfl rfl ?_
        exact K10 _ (am_t1 hc8 rfl)
theorem P_Ro_owedDays (nl : Bool) (Ln : Nat) (xs : Nat → Int32) : am_Jl (TT nl Ln xs) 260 [(0, .lconst 0, 1, []), (1, .lstore_n 1, 2, []), (2, .lconst 0, 3, []), (3, .lstore_n 3, 4, []), (4, .aload_n 0, 5, []), (5, .getfield 132, 8, [9, 13, 49, 2]), (8, .aload_n 0, 9, []), (9, .getfield 305, 12, [9, 13, 68, 0]), (12, .iaload, 13, []), (13, .istore 5, 15, []), (15, .bipush 40, 17, []), (17, .aload_n 0, 18, []), (18, .getfield 305, 21, [9, 13, 68, 0]), (21, .imul, 22, []), (22, .istore 6, 24, [])] := dk_ck (by decide +kernel)
set_option maxRecDepth 4096 in
theorem w_Ro_owedDays {nl : Bool} {Ln : Nat} {xs : Nat → Int32} {d : Nat} {this : Nat} {σ : am_S} {F : Int64 → am_S → Prop} (h : (am_is σ (some this) 13) ∧ (am_ar σ 1000 (am_fR σ 13049 this) (am_fI σ 13068 this)) ∧ ∀ v3 : Int32, v3 = (am_aI σ ((am_fR σ 13049 this).getD 0) (am_fI σ 13068 this).toNatClampNeg) → ∀ v5 : Int32, v5 = ((40 : Int32) * (am_fI σ 13068 this)) → c_Ro_owedDays_24 nl Ln xs (d + 1) this (0 : Int64) (0 : Int64) v3 v5 none σ F) : k_Ro_owedDays nl Ln xs (d + 1) this σ F := by
  obtain ⟨j0, j1, j2, j3, j4, j5, j8, j9, j12, j13, j15, j17, j18, j21, j22, -⟩ := P_Ro_owedDays nl Ln xs
  have elo : am_lo 8 [am_ov (some this)] = [some (am_ov (some this)), none, none, none, none, none, none, none] := by simp only [am_lo, am_in_ov, am_in_int, am_in_long, am_in_nil]; rfl
  unfold k_Ro_owedDays
  rw [elo]
  refine s_lconst j0 rfl rfl ?_
  refine s_lstore_n j1 rfl (n := 8) (L' := [some (am_ov (some this)), some (.long (0 : Int64)), none, none, none, none, none, none]) rfl (by decide) (am_st2_R [] _ _ _ _ _) ?_
  refine s_lconst j2 rfl rfl ?_
  refine s_lstore_n j3 rfl (n := 8) (L' := [some (am_ov (some this)), some (.long (0 : Int64)), none, some (.long (0 : Int64)), none, none, none, none]) rfl (by decide) rfl ?_
  refine s_aload_n j4 rfl rfl ?_
  obtain ⟨ho1, h⟩ := h
  refine s_gfR j5 rfl ho1 ?_
  refine s_aload_n j8 rfl rfl ?_
  refine s_gfI j9 rfl ho1 ?_
  obtain ⟨ho2, h⟩ := h
  refine s_iaload j12 rfl ho2 ?_
  refine s_istoreV j13 rfl (n := 8) (L' := fun w => [some (am_ov (some this)), some (.long (0 : Int64)), none, some (.long (0 : Int64)), none, some (.int w), none, none]) rfl (by decide) (fun _ => rfl) (fun v3 hv4 => ?_)
  replace h := h v3 hv4
  refine s_bipush j15 rfl kc_bi_40 ?_
  refine s_aload_n j17 rfl rfl ?_
  refine s_gfI j18 rfl ho1 ?_
  refine s_g j21 rfl rfl rfl rfl rfl rfl ?_
  refine s_istoreV j22 rfl (n := 8) (L' := fun w => [some (am_ov (some this)), some (.long (0 : Int64)), none, some (.long (0 : Int64)), none, some (.int v3), some (.int w), none]) rfl (by decide) (fun _ => rfl) (fun v5 hv6 => ?_)
  replace h := h v5 hv6
  exact h
theorem P_Ro_owedDays_24 (nl : Bool) (Ln : Nat) (xs : Nat → Int32) : am_Jl (TT nl Ln xs) 260 [(24, .iload 6, 26, []), (26, .bipush 40, 28, []), (28, .aload_n 0, 29, []), (29, .getfield 305, 32, [9, 13, 68, 0]), (32, .imul, 33, []), (33, .aload_n 0, 34, []), (34, .getfield 138, 37, [9, 13, 51, 2]), (37, .aload_n 0, 38, []), (38, .getfield 305, 41, [9, 13, 68, 0]), (41, .iaload, 42, []), (42, .iadd, 43, []), (43, .if_icmp .ge 146, 46, []), (46, .aload_n 0, 47, []), (47, .getfield 141, 50, [9, 13, 52, 2]), (50, .iload 6, 52, []), (52, .iaload, 53, []), (53, .bipush 13, 55, []), (55, .if_icmp .ne 128, 58, []), (58, .aload_n 0, 59, []), (59, .iload 6, 61, []), (61, .aload_n 0, 62, []), (62, .getfield 308, 65, [9, 13, 72, 0]), (65, .aload_n 0, 66, []), (66, .getfield 311, 69, [9, 13, 73, 0]), (69, .invokevirtual 262, 72, [10, 212, 14, 4, 4]), (72, .ifCond .eq 111, 75, []), (75, .aload_n 0, 76, []), (76, .getfield 144, 79, [9, 13, 53, 2]), (79, .iload 6, 81, []), (81, .iaload, 82, []), (82, .iconst 1, 83, []), (83, .iadd, 84, []), (84, .aload_n 0, 85, []), (85, .getfield 308, 88, [9, 13, 72, 0]), (88, .if_icmp .ge 15, 91, []), (91, .aload_n 0, 92, []), (92, .getfield 144, 95, [9, 13, 53, 2]), (95, .iload 6, 97, []), (97, .iaload, 98, []), (98, .iconst 1, 99, []), (99, .iadd, 100, []), (100, .goto 7, 103, []), (103, .aload_n 0, 104, []), (104, .getfield 308, 107, [9, 13, 72, 0]), (183, .iinc 6 1, 186, []), (186, .goto (-162), 189, []), (189, .lload_n 1, 190, []), (190, .aload_n 0, 191, []), (191, .getfield 295, 194, [9, 13, 77, 1]), (194, .lload_n 3, 195, []), (195, .lcmp, 196, []), (196, .ifCond .le 12, 199, []), (199, .aload_n 0, 200, []), (200, .getfield 295, 203, [9, 13, 77, 1]), (203, .lload_n 3, 204, []), (204, .lsub, 205, []), (205, .goto 4, 208, []), (208, .lconst 0, 209, []), (209, .aload_n 0, 210, []), (210, .getfield 308, 213, [9, 13, 72, 0]), (213, .iload 5, 215, []), (215, .isub, 216, []), (216, .i2l, 217, []), (217, .lmul, 218, []), (218, .ladd, 219, []), (219, .lreturn, 220, [2])] := dk_ck (by decide +kernel)
set_option maxRecDepth 4096 in
theorem w_Ro_owedDays_24 {nl : Bool} {Ln : Nat} {xs : Nat → Int32} {d : Nat} {this : Nat} {x1 : Int64} {x3 : Int64} {x5 : Int32} {x6 : Int32} {x7 : Option Value} {σ : am_S} {F : Int64 → am_S → Prop} (h : (am_is σ (some this) 13) ∧ (am_ar σ 1000 (am_fR σ 13051 this) (am_fI σ 13068 this)) ∧ (x6 < (((40 : Int32) * (am_fI σ 13068 this)) + (am_aI σ ((am_fR σ 13051 this).getD 0) (am_fI σ 13068 this).toNatClampNeg)) → (am_ar σ 1000 (am_fR σ 13052 this) x6) ∧ ((am_aI σ ((am_fR σ 13052 this).getD 0) x6.toNatClampNeg) = (13 : Int32) → k_Ro_counts nl Ln xs d this x6 (am_fI σ 13072 this) (am_fI σ 13073 this) σ (fun a7 σ6 => am_ext σ σ6 → (a7 = true → (am_ar σ6 1000 (am_fR σ6 13053 this) x6) ∧ ((((am_aI σ6 ((am_fR σ6 13053 this).getD 0) x6.toNatClampNeg) + (1 : Int32)) < (am_fI σ6 13072 this)) → am_ar σ6 1000 (am_fR σ6 13053 this) x6) ∧ ∀ w13 : Int32, w13 = (if ((am_aI σ6 ((am_fR σ6 13053 this).getD 0) x6.toNatClampNeg) + (1 : Int32)) < (am_fI σ6 13072 this) then ((am_aI σ6 ((am_fR σ6 13053 this).getD 0) x6.toNatClampNeg) + (1 : Int32)) else (am_fI σ6 13072 this)) → c_Ro_owedDays_107 nl Ln xs (d + 1) this x1 x3 x5 x6 x7 w13 σ6 F) ∧ (¬ (a7 = true) → c_Ro_owedDays_24 nl Ln xs (d + 1) this x1 x3 x5 (x6 + (1 : Int32)) x7 σ6 F))) ∧ (¬ ((am_aI σ ((am_fR σ 13052 this).getD 0) x6.toNatClampNeg) = (13 : Int32)) → c_Ro_owedDays_24 nl Ln xs (d + 1) this x1 x3 x5 (x6 + (1 : Int32)) x7 σ F)) ∧ (¬ (x6 < (((40 : Int32) * (am_fI σ 13068 this)) + (am_aI σ ((am_fR σ 13051 this).getD 0) (am_fI σ 13068 this).toNatClampNeg))) → ∀ w17 : Int64, w17 = (if x3 < (am_fL σ 13077 this) then ((am_fL σ 13077 this) - x3) else (0 : Int64)) → F (x1 + (w17 * ((am_fI σ 13072 this) - x5).toInt64)) σ)) : c_Ro_owedDays_24 nl Ln xs (d + 1) this x1 x3 x5 x6 x7 σ F := by
  obtain ⟨j24, j26, j28, j29, j32, j33, j34, j37, j38, j41, j42, j43, j46, j47, j50, j52, j53, j55, j58, j59, j61, j62, j65, j66, j69, j72, j75, j76, j79, j81, j82, j83, j84, j85, j88, j91, j92, j95, j97, j98, j99, j100, j103, j104, j183, j186, j189, j190, j191, j194, j195, j196, j199, j200, j203, j204, j205, j208, j209, j210, j213, j215, j216, j217, j218, j219, -⟩ := P_Ro_owedDays_24 nl Ln xs
  unfold c_Ro_owedDays_24
  refine s_iload j24 rfl rfl ?_
  refine s_bipush j26 rfl kc_bi_40 ?_
  refine s_aload_n j28 rfl rfl ?_
  obtain ⟨ho1, h⟩ := h
  refine s_gfI j29 rfl ho1 ?_
  refine s_g j32 rfl rfl rfl rfl rfl rfl ?_
  refine s_aload_n j33 rfl rfl ?_
  refine s_gfR j34 rfl ho1 ?_
  refine s_aload_n j37 rfl rfl ?_
  refine s_gfI j38 rfl ho1 ?_
  obtain ⟨ho2, h⟩ := h
  refine s_iaload j41 rfl ho2 ?_
  refine s_g j42 rfl rfl rfl rfl rfl rfl ?_
  refine s_icn j43 rfl rfl am_cc_ge (fun hc3 => ?_) (fun hc3 => ?_)
  · replace h := h.2 hc3
    refine s_lload_n j189 rfl rfl ?_
    refine s_aload_n j190 rfl rfl ?_
    refine s_gfL j191 rfl ho1 ?_
    refine s_lload_n j194 rfl rfl ?_
    refine s_g j195 rfl rfl rfl rfl rfl rfl ?_
    have K16 : ∀ (w17 : Int64), w17 = (if x3 < (am_fL σ 13077 this) then ((am_fL σ 13077 this) - x3) else (0 : Int64)) → am_C (TT nl Ln xs) (d + 1) 260 209 [some (am_ov (some this)), some (.long x1), none, some (.long x3), none, some (.int x5), some (.int x6), x7] [.long w17, .long x1] σ (am_qL F) := by
      intro w17 hw18
      replace h := h w17 hw18
      refine s_aload_n j209 rfl rfl ?_
      refine s_gfI j210 rfl ho1 ?_
      refine s_iload j213 rfl rfl ?_
      refine s_g j215 rfl rfl rfl rfl rfl rfl ?_
      refine s_g j216 rfl rfl rfl rfl rfl rfl ?_
      refine s_g j217 rfl rfl rfl rfl rfl rfl ?_
      refine s_g j218 rfl rfl rfl rfl rfl rfl ?_
      exact s_retL j219 rfl h
    refine s_ifn j196 rfl rfl am_cl_le (fun hc15 => ?_) (fun hc15 => ?_)
    · refine s_lconst j208 rfl rfl ?_
      exact K16 _ (am_t2 hc15 rfl)
    · refine s_aload_n j199 rfl rfl ?_
      refine s_gfL j200 rfl ho1 ?_
      refine s_lload_n j203 rfl rfl ?_
      refine s_g j204 rfl rfl rfl rfl rfl rfl ?_
      refine s_goto j205 rfl rfl ?_
      exact K16 _ (am_t1 hc15 rfl)
  · replace h := h.1 hc3
    refine s_aload_n j46 rfl rfl ?_
    refine s_gfR j47 rfl ho1 ?_
    refine s_iload j50 rfl rfl ?_
    obtain ⟨ho4, h⟩ := h
    refine s_iaload j52 rfl ho4 ?_
    refine s_bipush j53 rfl kc_bi_13 ?_
    refine s_icn j55 rfl rfl am_cc_ne (fun hc5 => ?_) (fun hc5 => ?_)
    · replace h := h.2 hc5
      refine s_iinc (L' := [some (am_ov (some this)), some (.long x1), none, some (.long x3), none, some (.int x5), some (.int (x6 + (1 : Int32))), x7]) j183 rfl rfl kc_ic_1 rfl ?_
      refine s_goto j186 rfl rfl ?_
      exact h
    · replace h := h.1 hc5
      refine s_aload_n j58 rfl rfl ?_
      refine s_iload j59 rfl rfl ?_
      refine s_aload_n j61 rfl rfl ?_
      refine s_gfI j62 rfl ho1 ?_
      refine s_aload_n j65 rfl rfl ?_
      refine s_gfI j66 rfl ho1 ?_
      refine s_virt j69 rfl rfl rfl rfl ho1 (by decide) (in_Ro_counts _ _ _ _) (am_r8 rfl) (am_bB h (fun a7 σ6 h hx6 => ?_))
      replace h := h hx6
      refine s_ifn j72 rfl rfl am_cb_eq (fun hc8 => ?_) (fun hc8 => ?_)
      · replace h := h.2 hc8
        refine s_iinc (L' := [some (am_ov (some this)), some (.long x1), none, some (.long x3), none, some (.int x5), some (.int (x6 + (1 : Int32))), x7]) j183 rfl rfl kc_ic_1 rfl ?_
        refine s_goto j186 rfl rfl ?_
        exact h
      · replace h := h.1 hc8
        refine s_aload_n j75 rfl rfl ?_
        refine s_gfR j76 rfl (am_is_ext hx6 ho1) ?_
        refine s_iload j79 rfl rfl ?_
        obtain ⟨ho9, h⟩ := h
        refine s_iaload j81 rfl ho9 ?_
        refine s_iconst j82 rfl kc_ic_1 ?_
        refine s_g j83 rfl rfl rfl rfl rfl rfl ?_
        refine s_aload_n j84 rfl rfl ?_
        refine s_gfI j85 rfl (am_is_ext hx6 ho1) ?_
        obtain ⟨ho11, h⟩ := h
        have K12 : ∀ (w13 : Int32), w13 = (if ((am_aI σ6 ((am_fR σ6 13053 this).getD 0) x6.toNatClampNeg) + (1 : Int32)) < (am_fI σ6 13072 this) then ((am_aI σ6 ((am_fR σ6 13053 this).getD 0) x6.toNatClampNeg) + (1 : Int32)) else (am_fI σ6 13072 this)) → am_C (TT nl Ln xs) (d + 1) 260 107 [some (am_ov (some this)), some (.long x1), none, some (.long x3), none, some (.int x5), some (.int x6), x7] [.int w13] σ6 (am_qL F) := by
          intro w13 hw14
          replace h := h w13 hw14
          exact h
        refine s_icn j88 rfl rfl am_cc_ge (fun hc10 => ?_) (fun hc10 => ?_)
        · refine s_aload_n j103 rfl rfl ?_
          refine s_gfI j104 rfl (am_is_ext hx6 ho1) ?_
          exact K12 _ (am_t2 hc10 rfl)
        · refine s_aload_n j91 rfl rfl ?_
          refine s_gfR j92 rfl (am_is_ext hx6 ho1) ?_
          refine s_iload j95 rfl rfl ?_
          refine s_iaload j97 rfl (ho11 hc10) ?_
          refine s_iconst j98 rfl kc_ic_1 ?_
          refine s_g j99 rfl rfl rfl rfl rfl rfl ?_
          refine s_goto j100 rfl rfl ?_
          exact K12 _ (am_t1 hc10 rfl)
theorem P_Ro_owedDays_107 (nl : Bool) (Ln : Nat) (xs : Nat → Int32) : am_Jl (TT nl Ln xs) 260 [(107, .istore 7, 109, []), (109, .lload_n 1, 110, []), (110, .aload_n 0, 111, []), (111, .getfield 295, 114, [9, 13, 77, 1]), (114, .lload_n 3, 115, []), (115, .lcmp, 116, []), (116, .ifCond .le 12, 119, []), (119, .aload_n 0, 120, []), (120, .getfield 295, 123, [9, 13, 77, 1]), (123, .lload_n 3, 124, []), (124, .lsub, 125, []), (125, .goto 4, 128, []), (128, .lconst 0, 129, [])] := dk_ck (by decide +kernel)
set_option maxRecDepth 4096 in
theorem w_Ro_owedDays_107 {nl : Bool} {Ln : Nat} {xs : Nat → Int32} {d : Nat} {this : Nat} {x1 : Int64} {x3 : Int64} {x5 : Int32} {x6 : Int32} {x7 : Option Value} {y0 : Int32} {σ : am_S} {F : Int64 → am_S → Prop} (h : (am_is σ (some this) 13) ∧ ∀ w4 : Int64, w4 = (if x3 < (am_fL σ 13077 this) then ((am_fL σ 13077 this) - x3) else (0 : Int64)) → c_Ro_owedDays_129 nl Ln xs (d + 1) this x1 x3 x5 x6 y0 x1 w4 σ F) : c_Ro_owedDays_107 nl Ln xs (d + 1) this x1 x3 x5 x6 x7 y0 σ F := by
  obtain ⟨j107, j109, j110, j111, j114, j115, j116, j119, j120, j123, j124, j125, j128, -⟩ := P_Ro_owedDays_107 nl Ln xs
  unfold c_Ro_owedDays_107
  refine s_istore j107 rfl (n := 8) (L' := [some (am_ov (some this)), some (.long x1), none, some (.long x3), none, some (.int x5), some (.int x6), some (.int y0)]) rfl (by decide) rfl ?_
  refine s_lload_n j109 rfl rfl ?_
  refine s_aload_n j110 rfl rfl ?_
  obtain ⟨ho1, h⟩ := h
  refine s_gfL j111 rfl ho1 ?_
  refine s_lload_n j114 rfl rfl ?_
  refine s_g j115 rfl rfl rfl rfl rfl rfl ?_
  have K3 : ∀ (w4 : Int64), w4 = (if x3 < (am_fL σ 13077 this) then ((am_fL σ 13077 this) - x3) else (0 : Int64)) → am_C (TT nl Ln xs) (d + 1) 260 129 [some (am_ov (some this)), some (.long x1), none, some (.long x3), none, some (.int x5), some (.int x6), some (.int y0)] [.long w4, .long x1] σ (am_qL F) := by
    intro w4 hw5
    replace h := h w4 hw5
    exact h
  refine s_ifn j116 rfl rfl am_cl_le (fun hc2 => ?_) (fun hc2 => ?_)
  · refine s_lconst j128 rfl rfl ?_
    exact K3 _ (am_t2 hc2 rfl)
  · refine s_aload_n j119 rfl rfl ?_
    refine s_gfL j120 rfl ho1 ?_
    refine s_lload_n j123 rfl rfl ?_
    refine s_g j124 rfl rfl rfl rfl rfl rfl ?_
    refine s_goto j125 rfl rfl ?_
    exact K3 _ (am_t1 hc2 rfl)
theorem P_Ro_owedDays_129 (nl : Bool) (Ln : Nat) (xs : Nat → Int32) : am_Jl (TT nl Ln xs) 260 [(129, .iload 7, 131, []), (131, .iload 5, 133, []), (133, .if_icmp .le 11, 136, []), (136, .iload 7, 138, []), (138, .iload 5, 140, []), (140, .isub, 141, []), (141, .goto 4, 144, []), (144, .iconst 0, 145, [])] := dk_ck (by decide +kernel)
set_option maxRecDepth 4096 in
theorem w_Ro_owedDays_129 {nl : Bool} {Ln : Nat} {xs : Nat → Int32} {d : Nat} {this : Nat} {x1 : Int64} {x3 : Int64} {x5 : Int32} {x6 : Int32} {x7 : Int32} {y0 : Int64} {y1 : Int64} {σ : am_S} {F : Int64 → am_S → Prop} (h : ∀ w3 : Int32, w3 = (if x5 < x7 then (x7 - x5) else (0 : Int32)) → c_Ro_owedDays_145 nl Ln xs (d + 1) this x1 x3 x5 x6 x7 y0 y1 w3 σ F) : c_Ro_owedDays_129 nl Ln xs (d + 1) this x1 x3 x5 x6 x7 y0 y1 σ F := by
  obtain ⟨j129, j131, j133, j136, j138, j140, j141, j144, -⟩ := P_Ro_owedDays_129 nl Ln xs
  unfold c_Ro_owedDays_129
  refine s_iload j129 rfl rfl ?_
  refine s_iload j131 rfl rfl ?_
  have K2 : ∀ (w3 : Int32), w3 = (if x5 < x7 then (x7 - x5) else (0 : Int32)) → am_C (TT nl Ln xs) (d + 1) 260 145 [some (am_ov (some this)), some (.long x1), none, some (.long x3), none, some (.int x5), some (.int x6), some (.int x7)] [.int w3, .long y1, .long y0] σ (am_qL F) := by
    intro w3 hw4
    replace h := h w3 hw4
    exact h
  refine s_icn j133 rfl rfl am_cc_le (fun hc1 => ?_) (fun hc1 => ?_)
  · refine s_iconst j144 rfl kc_ic_0 ?_
    exact K2 _ (am_t2 hc1 rfl)
  · refine s_iload j136 rfl rfl ?_
    refine s_iload j138 rfl rfl ?_
    refine s_g j140 rfl rfl rfl rfl rfl rfl ?_
    refine s_goto j141 rfl rfl ?_
    exact K2 _ (am_t1 hc1 rfl)
theorem P_Ro_owedDays_145 (nl : Bool) (Ln : Nat) (xs : Nat → Int32) : am_Jl (TT nl Ln xs) 260 [(145, .i2l, 146, []), (146, .lmul, 147, []), (147, .ladd, 148, []), (148, .lstore_n 1, 149, []), (149, .iload 7, 151, []), (151, .iload 5, 153, []), (153, .if_icmp .le 8, 156, []), (156, .iload 7, 158, []), (158, .goto 5, 161, []), (161, .iload 5, 163, [])] := dk_ck (by decide +kernel)
set_option maxRecDepth 4096 in
theorem w_Ro_owedDays_145 {nl : Bool} {Ln : Nat} {xs : Nat → Int32} {d : Nat} {this : Nat} {x1 : Int64} {x3 : Int64} {x5 : Int32} {x6 : Int32} {x7 : Int32} {y0 : Int64} {y1 : Int64} {y2 : Int32} {σ : am_S} {F : Int64 → am_S → Prop} (h : ∀ v1 : Int64, v1 = (y0 + (y1 * y2.toInt64)) → ∀ w5 : Int32, w5 = (if x5 < x7 then x7 else x5) → c_Ro_owedDays_163 nl Ln xs (d + 1) this v1 x3 x5 x6 x7 w5 σ F) : c_Ro_owedDays_145 nl Ln xs (d + 1) this x1 x3 x5 x6 x7 y0 y1 y2 σ F := by
  obtain ⟨j145, j146, j147, j148, j149, j151, j153, j156, j158, j161, -⟩ := P_Ro_owedDays_145 nl Ln xs
  unfold c_Ro_owedDays_145
  refine s_g j145 rfl rfl rfl rfl rfl rfl ?_
  refine s_g j146 rfl rfl rfl rfl rfl rfl ?_
  refine s_g j147 rfl rfl rfl rfl rfl rfl ?_
  refine s_lstore_nV j148 rfl (n := 8) (L' := fun w => [some (am_ov (some this)), some (.long w), none, some (.long x3), none, some (.int x5), some (.int x6), some (.int x7)]) rfl (by decide) (fun _ => am_st2_R [] _ _ _ _ _) (fun v1 hv2 => ?_)
  replace h := h v1 hv2
  refine s_iload j149 rfl rfl ?_
  refine s_iload j151 rfl rfl ?_
  have K4 : ∀ (w5 : Int32), w5 = (if x5 < x7 then x7 else x5) → am_C (TT nl Ln xs) (d + 1) 260 163 [some (am_ov (some this)), some (.long v1), none, some (.long x3), none, some (.int x5), some (.int x6), some (.int x7)] [.int w5] σ (am_qL F) := by
    intro w5 hw6
    replace h := h w5 hw6
    exact h
  refine s_icn j153 rfl rfl am_cc_le (fun hc3 => ?_) (fun hc3 => ?_)
  · refine s_iload j161 rfl rfl ?_
    exact K4 _ (am_t2 hc3 rfl)
  · refine s_iload j156 rfl rfl ?_
    refine s_goto j158 rfl rfl ?_
    exact K4 _ (am_t1 hc3 rfl)
theorem P_Ro_owedDays_163 (nl : Bool) (Ln : Nat) (xs : Nat → Int32) : am_Jl (TT nl Ln xs) 260 [(163, .istore 5, 165, []), (165, .lload_n 3, 166, []), (166, .aload_n 0, 167, []), (167, .getfield 159, 170, [9, 13, 58, 2]), (170, .iload 6, 172, []), (172, .laload, 173, []), (173, .aload_n 0, 174, []), (174, .getfield 162, 177, [9, 13, 59, 2]), (177, .iload 6, 179, []), (179, .laload, 180, []), (180, .lsub, 181, []), (181, .ladd, 182, []), (182, .lstore_n 3, 183, []), (183, .iinc 6 1, 186, []), (186, .goto (-162), 189, [])] := dk_ck (by decide +kernel)
set_option maxRecDepth 4096 in
theorem w_Ro_owedDays_163 {nl : Bool} {Ln : Nat} {xs : Nat → Int32} {d : Nat} {this : Nat} {x1 : Int64} {x3 : Int64} {x5 : Int32} {x6 : Int32} {x7 : Int32} {y0 : Int32} {σ : am_S} {F : Int64 → am_S → Prop} (h : (am_is σ (some this) 13) ∧ (am_ar σ 1001 (am_fR σ 13058 this) x6) ∧ (am_ar σ 1001 (am_fR σ 13059 this) x6) ∧ ∀ v4 : Int64, v4 = (x3 + ((am_aL σ ((am_fR σ 13058 this).getD 0) x6.toNatClampNeg) - (am_aL σ ((am_fR σ 13059 this).getD 0) x6.toNatClampNeg))) → c_Ro_owedDays_24 nl Ln xs (d + 1) this x1 v4 y0 (x6 + (1 : Int32)) (some (.int x7)) σ F) : c_Ro_owedDays_163 nl Ln xs (d + 1) this x1 x3 x5 x6 x7 y0 σ F := by
  obtain ⟨j163, j165, j166, j167, j170, j172, j173, j174, j177, j179, j180, j181, j182, j183, j186, -⟩ := P_Ro_owedDays_163 nl Ln xs
  unfold c_Ro_owedDays_163
  refine s_istore j163 rfl (n := 8) (L' := [some (am_ov (some this)), some (.long x1), none, some (.long x3), none, some (.int y0), some (.int x6), some (.int x7)]) rfl (by decide) rfl ?_
  refine s_lload_n j165 rfl rfl ?_
  refine s_aload_n j166 rfl rfl ?_
  obtain ⟨ho1, h⟩ := h
  refine s_gfR j167 rfl ho1 ?_
  refine s_iload j170 rfl rfl ?_
  obtain ⟨ho2, h⟩ := h
  refine s_laload j172 rfl ho2 ?_
  refine s_aload_n j173 rfl rfl ?_
  refine s_gfR j174 rfl ho1 ?_
  refine s_iload j177 rfl rfl ?_
  obtain ⟨ho3, h⟩ := h
  refine s_laload j179 rfl ho3 ?_
  refine s_g j180 rfl rfl rfl rfl rfl rfl ?_
  refine s_g j181 rfl rfl rfl rfl rfl rfl ?_
  refine s_lstore_nV j182 rfl (n := 8) (L' := fun w => [some (am_ov (some this)), some (.long x1), none, some (.long w), none, some (.int y0), some (.int x6), some (.int x7)]) rfl (by decide) (fun _ => rfl) (fun v4 hv5 => ?_)
  replace h := h v4 hv5
  refine s_iinc (L' := [some (am_ov (some this)), some (.long x1), none, some (.long v4), none, some (.int y0), some (.int (x6 + (1 : Int32))), some (.int x7)]) j183 rfl rfl kc_ic_1 rfl ?_
  refine s_goto j186 rfl rfl ?_
  exact h
theorem P_Ro_used (nl : Bool) (Ln : Nat) (xs : Nat → Int32) : am_Jl (TT nl Ln xs) 261 [(0, .lconst 0, 1, []), (1, .lstore 4, 3, []), (3, .iconst 0, 4, []), (4, .istore 6, 6, [])] := dk_ck (by decide +kernel)
set_option maxRecDepth 4096 in
theorem w_Ro_used {nl : Bool} {Ln : Nat} {xs : Nat → Int32} {d : Nat} {this : Nat} {p0 : Int32} {p1 : Int32} {p2 : Int32} {σ : am_S} {F : Int64 → am_S → Prop} (h : c_Ro_used_6 nl Ln xs (d + 1) this p0 p1 p2 (0 : Int64) (0 : Int32) σ F) : k_Ro_used nl Ln xs (d + 1) this p0 p1 p2 σ F := by
  obtain ⟨j0, j1, j3, j4, -⟩ := P_Ro_used nl Ln xs
  have elo : am_lo 7 [am_ov (some this), .int p0, .int p1, .int p2] = [some (am_ov (some this)), some (.int p0), some (.int p1), some (.int p2), none, none, none] := by simp only [am_lo, am_in_ov, am_in_int, am_in_long, am_in_nil]; rfl
  unfold k_Ro_used
  rw [elo]
  refine s_lconst j0 rfl rfl ?_
  refine s_lstore j1 rfl (n := 7) (L' := [some (am_ov (some this)), some (.int p0), some (.int p1), some (.int p2), some (.long (0 : Int64)), none, none]) rfl (by decide) rfl ?_
  refine s_iconst j3 rfl kc_ic_0 ?_
  refine s_istore j4 rfl (n := 7) (L' := [some (am_ov (some this)), some (.int p0), some (.int p1), some (.int p2), some (.long (0 : Int64)), none, some (.int (0 : Int32))]) rfl (by decide) rfl ?_
  exact h
theorem P_Ro_used_6 (nl : Bool) (Ln : Nat) (xs : Nat → Int32) : am_Jl (TT nl Ln xs) 261 [(6, .iload 6, 8, []), (8, .aload_n 0, 9, []), (9, .getfield 237, 12, [9, 13, 45, 0]), (12, .if_icmp .ge 61, 15, []), (15, .aload_n 0, 16, []), (16, .getfield 135, 19, [9, 13, 50, 2]), (19, .iload 6, 21, []), (21, .iaload, 22, []), (22, .iload_n 3, 23, []), (23, .if_icmp .gt 44, 26, []), (26, .aload_n 0, 27, []), (27, .iload 6, 29, []), (29, .invokevirtual 464, 32, [10, 254, 14, 2, 2]), (32, .iload_n 2, 33, []), (33, .if_icmp .ne 34, 36, []), (36, .aload_n 0, 37, []), (37, .iload 6, 39, []), (39, .iload_n 3, 40, []), (40, .invokevirtual 391, 43, [10, 218, 14, 5, 3]), (43, .iload_n 1, 44, []), (44, .if_icmp .ne 23, 47, []), (47, .lload 4, 49, []), (49, .aload_n 0, 50, []), (50, .iload 6, 52, []), (52, .iload_n 3, 53, []), (53, .invokevirtual 489, 56, [10, 262, 14, 6, 3]), (56, .aload_n 0, 57, []), (57, .iload 6, 59, []), (59, .iload_n 3, 60, []), (60, .invokevirtual 492, 63, [10, 263, 14, 6, 3]), (63, .lsub, 64, []), (64, .ladd, 65, []), (65, .lstore 4, 67, []), (67, .iinc 6 1, 70, []), (70, .goto (-64), 73, []), (73, .lload 4, 75, []), (75, .lreturn, 76, [2])] := dk_ck (by decide +kernel)
set_option maxRecDepth 4096 in
theorem w_Ro_used_6 {nl : Bool} {Ln : Nat} {xs : Nat → Int32} {d : Nat} {this : Nat} {x1 : Int32} {x2 : Int32} {x3 : Int32} {x4 : Int64} {x6 : Int32} {σ : am_S} {F : Int64 → am_S → Prop} (h : (am_is σ (some this) 13) ∧ (x6 < (am_fI σ 13045 this) → (am_ar σ 1000 (am_fR σ 13050 this) x6) ∧ (x3 < (am_aI σ ((am_fR σ 13050 this).getD 0) x6.toNatClampNeg) → c_Ro_used_6 nl Ln xs (d + 1) this x1 x2 x3 x4 (x6 + (1 : Int32)) σ F) ∧ (¬ (x3 < (am_aI σ ((am_fR σ 13050 this).getD 0) x6.toNatClampNeg)) → k_Ro_lossYear nl Ln xs d this x6 σ (fun a6 σ5 => am_ext σ σ5 → (a6 = x2 → k_Ro_coverOf nl Ln xs d this x6 x3 σ5 (fun a9 σ8 => am_ext σ5 σ8 → (a9 = x1 → k_Ro_paidOf nl Ln xs d this x6 x3 σ8 (fun a12 σ11 => am_ext σ8 σ11 → k_Ro_recourseOf nl Ln xs d this x6 x3 σ11 (fun a14 σ13 => am_ext σ11 σ13 → ∀ v15 : Int64, v15 = (x4 + (a12 - a14)) → c_Ro_used_6 nl Ln xs (d + 1) this x1 x2 x3 v15 (x6 + (1 : Int32)) σ13 F))) ∧ (¬ (a9 = x1) → c_Ro_used_6 nl Ln xs (d + 1) this x1 x2 x3 x4 (x6 + (1 : Int32)) σ8 F))) ∧ (¬ (a6 = x2) → c_Ro_used_6 nl Ln xs (d + 1) this x1 x2 x3 x4 (x6 + (1 : Int32)) σ5 F)))) ∧ (¬ (x6 < (am_fI σ 13045 this)) → F x4 σ)) : c_Ro_used_6 nl Ln xs (d + 1) this x1 x2 x3 x4 x6 σ F := by
  obtain ⟨j6, j8, j9, j12, j15, j16, j19, j21, j22, j23, j26, j27, j29, j32, j33, j36, j37, j39, j40, j43, j44, j47, j49, j50, j52, j53, j56, j57, j59, j60, j63, j64, j65, j67, j70, j73, j75, -⟩ := P_Ro_used_6 nl Ln xs
  unfold c_Ro_used_6
  refine s_iload j6 rfl rfl ?_
  refine s_aload_n j8 rfl rfl ?_
  obtain ⟨ho1, h⟩ := h
  refine s_gfI j9 rfl ho1 ?_
  refine s_icn j12 rfl rfl am_cc_ge (fun hc2 => ?_) (fun hc2 => ?_)
  · replace h := h.2 hc2
    refine s_lload j73 rfl rfl ?_
    exact s_retL j75 rfl h
  · replace h := h.1 hc2
    refine s_aload_n j15 rfl rfl ?_
    refine s_gfR j16 rfl ho1 ?_
    refine s_iload j19 rfl rfl ?_
    obtain ⟨ho3, h⟩ := h
    refine s_iaload j21 rfl ho3 ?_
    refine s_iload_n j22 rfl rfl ?_
    refine s_ic j23 rfl rfl am_cc_gt (fun hc4 => ?_) (fun hc4 => ?_)
    · replace h := h.1 hc4
      refine s_iinc (L' := [some (am_ov (some this)), some (.int x1), some (.int x2), some (.int x3), some (.long x4), none, some (.int (x6 + (1 : Int32)))]) j67 rfl rfl kc_ic_1 rfl ?_
      refine s_goto j70 rfl rfl ?_
      exact h
    · replace h := h.2 hc4
      refine s_aload_n j26 rfl rfl ?_
      refine s_iload j27 rfl rfl ?_
      refine s_virt j29 rfl rfl rfl rfl ho1 (by decide) (in_Ro_lossYear _ _) (am_r8 rfl) (am_bI h (fun a6 σ5 h hx5 => ?_))
      replace h := h hx5
      refine s_iload_n j32 rfl rfl ?_
      refine s_icn j33 rfl rfl am_cc_ne (fun hc7 => ?_) (fun hc7 => ?_)
      · replace h := h.2 hc7
        refine s_iinc (L' := [some (am_ov (some this)), some (.int x1), some (.int x2), some (.int x3), some (.long x4), none, some (.int (x6 + (1 : Int32)))]) j67 rfl rfl kc_ic_1 rfl ?_
        refine s_goto j70 rfl rfl ?_
        exact h
      · replace h := h.1 hc7
        refine s_aload_n j36 rfl rfl ?_
        refine s_iload j37 rfl rfl ?_
        refine s_iload_n j39 rfl rfl ?_
        refine s_virt j40 rfl rfl rfl rfl (am_is_ext hx5 ho1) (by decide) (in_Ro_coverOf _ _ _) (am_r8 rfl) (am_bI h (fun a9 σ8 h hx8 => ?_))
        replace h := h hx8
        refine s_iload_n j43 rfl rfl ?_
        refine s_icn j44 rfl rfl am_cc_ne (fun hc10 => ?_) (fun hc10 => ?_)
        · replace h := h.2 hc10
          refine s_iinc (L' := [some (am_ov (some this)), some (.int x1), some (.int x2), some (.int x3), some (.long x4), none, some (.int (x6 + (1 : Int32)))]) j67 rfl rfl kc_ic_1 rfl ?_
          refine s_goto j70 rfl rfl ?_
          exact h
        · replace h := h.1 hc10
          refine s_lload j47 rfl rfl ?_
          refine s_aload_n j49 rfl rfl ?_
          refine s_iload j50 rfl rfl ?_
          refine s_iload_n j52 rfl rfl ?_
          refine s_virt j53 rfl rfl rfl rfl (am_is_ext hx8 (am_is_ext hx5 ho1)) (by decide) (in_Ro_paidOf _ _ _) (am_r8 rfl) (am_bL h (fun a12 σ11 h hx11 => ?_))
          replace h := h hx11
          refine s_aload_n j56 rfl rfl ?_
          refine s_iload j57 rfl rfl ?_
          refine s_iload_n j59 rfl rfl ?_
          refine s_virt j60 rfl rfl rfl rfl (am_is_ext hx11 (am_is_ext hx8 (am_is_ext hx5 ho1))) (by decide) (in_Ro_recourseOf _ _ _) (am_r8 rfl) (am_bL h (fun a14 σ13 h hx13 => ?_))
          replace h := h hx13
          refine s_g j63 rfl rfl rfl rfl rfl rfl ?_
          refine s_g j64 rfl rfl rfl rfl rfl rfl ?_
          refine s_lstoreV j65 rfl (n := 7) (L' := fun w => [some (am_ov (some this)), some (.int x1), some (.int x2), some (.int x3), some (.long w), none, some (.int x6)]) rfl (by decide) (fun _ => rfl) (fun v15 hv16 => ?_)
          replace h := h v15 hv16
          refine s_iinc (L' := [some (am_ov (some this)), some (.int x1), some (.int x2), some (.int x3), some (.long v15), none, some (.int (x6 + (1 : Int32)))]) j67 rfl rfl kc_ic_1 rfl ?_
          refine s_goto j70 rfl rfl ?_
          exact h
theorem P_Ro_paidOf (nl : Bool) (Ln : Nat) (xs : Nat → Int32) : am_Jl (TT nl Ln xs) 262 [(0, .lconst 0, 1, []), (1, .lstore_n 3, 2, []), (2, .bipush 40, 4, []), (4, .iload_n 1, 5, []), (5, .imul, 6, []), (6, .istore 5, 8, [])] := dk_ck (by decide +kernel)
set_option maxRecDepth 4096 in
theorem w_Ro_paidOf {nl : Bool} {Ln : Nat} {xs : Nat → Int32} {d : Nat} {this : Nat} {p0 : Int32} {p1 : Int32} {σ : am_S} {F : Int64 → am_S → Prop} (h : ∀ v1 : Int32, v1 = ((40 : Int32) * p0) → c_Ro_paidOf_8 nl Ln xs (d + 1) this p0 p1 (0 : Int64) v1 σ F) : k_Ro_paidOf nl Ln xs (d + 1) this p0 p1 σ F := by
  obtain ⟨j0, j1, j2, j4, j5, j6, -⟩ := P_Ro_paidOf nl Ln xs
  have elo : am_lo 6 [am_ov (some this), .int p0, .int p1] = [some (am_ov (some this)), some (.int p0), some (.int p1), none, none, none] := by simp only [am_lo, am_in_ov, am_in_int, am_in_long, am_in_nil]; rfl
  unfold k_Ro_paidOf
  rw [elo]
  refine s_lconst j0 rfl rfl ?_
  refine s_lstore_n j1 rfl (n := 6) (L' := [some (am_ov (some this)), some (.int p0), some (.int p1), some (.long (0 : Int64)), none, none]) rfl (by decide) rfl ?_
  refine s_bipush j2 rfl kc_bi_40 ?_
  refine s_iload_n j4 rfl rfl ?_
  refine s_g j5 rfl rfl rfl rfl rfl rfl ?_
  refine s_istoreV j6 rfl (n := 6) (L' := fun w => [some (am_ov (some this)), some (.int p0), some (.int p1), some (.long (0 : Int64)), none, some (.int w)]) rfl (by decide) (fun _ => rfl) (fun v1 hv2 => ?_)
  replace h := h v1 hv2
  exact h
theorem P_Ro_paidOf_8 (nl : Bool) (Ln : Nat) (xs : Nat → Int32) : am_Jl (TT nl Ln xs) 262 [(8, .iload 5, 10, []), (10, .bipush 40, 12, []), (12, .iload_n 1, 13, []), (13, .imul, 14, []), (14, .aload_n 0, 15, []), (15, .getfield 138, 18, [9, 13, 51, 2]), (18, .iload_n 1, 19, []), (19, .iaload, 20, []), (20, .iadd, 21, []), (21, .if_icmp .ge 54, 24, []), (24, .aload_n 0, 25, []), (25, .getfield 147, 28, [9, 13, 54, 2]), (28, .iload 5, 30, []), (30, .iaload, 31, []), (31, .iload_n 2, 32, []), (32, .if_icmp .gt 37, 35, []), (35, .lload_n 3, 36, []), (36, .aload_n 0, 37, []), (37, .getfield 141, 40, [9, 13, 52, 2]), (40, .iload 5, 42, []), (42, .iaload, 43, []), (43, .bipush 13, 45, []), (45, .if_icmp .ne 21, 48, []), (48, .aload_n 0, 49, []), (49, .getfield 159, 52, [9, 13, 58, 2]), (52, .iload 5, 54, []), (54, .laload, 55, []), (55, .aload_n 0, 56, []), (56, .getfield 162, 59, [9, 13, 59, 2]), (59, .iload 5, 61, []), (61, .laload, 62, []), (62, .lsub, 63, []), (63, .goto 4, 66, []), (66, .lconst 0, 67, []), (67, .ladd, 68, []), (68, .lstore_n 3, 69, []), (69, .iinc 5 1, 72, []), (72, .goto (-64), 75, []), (75, .lload_n 3, 76, []), (76, .lreturn, 77, [2])] := dk_ck (by decide +kernel)
set_option maxRecDepth 4096 in
theorem w_Ro_paidOf_8 {nl : Bool} {Ln : Nat} {xs : Nat → Int32} {d : Nat} {this : Nat} {x1 : Int32} {x2 : Int32} {x3 : Int64} {x5 : Int32} {σ : am_S} {F : Int64 → am_S → Prop} (h : (am_is σ (some this) 13) ∧ (am_ar σ 1000 (am_fR σ 13051 this) x1) ∧ (x5 < (((40 : Int32) * x1) + (am_aI σ ((am_fR σ 13051 this).getD 0) x1.toNatClampNeg)) → (am_ar σ 1000 (am_fR σ 13054 this) x5) ∧ (¬ (x2 < (am_aI σ ((am_fR σ 13054 this).getD 0) x5.toNatClampNeg)) → am_ar σ 1000 (am_fR σ 13052 this) x5) ∧ (¬ (x2 < (am_aI σ ((am_fR σ 13054 this).getD 0) x5.toNatClampNeg)) → ((am_aI σ ((am_fR σ 13052 this).getD 0) x5.toNatClampNeg) = (13 : Int32)) → am_ar σ 1001 (am_fR σ 13058 this) x5) ∧ (¬ (x2 < (am_aI σ ((am_fR σ 13054 this).getD 0) x5.toNatClampNeg)) → ((am_aI σ ((am_fR σ 13052 this).getD 0) x5.toNatClampNeg) = (13 : Int32)) → am_ar σ 1001 (am_fR σ 13059 this) x5) ∧ ∀ w11 : Int64, w11 = (if x2 < (am_aI σ ((am_fR σ 13054 this).getD 0) x5.toNatClampNeg) then x3 else (if (am_aI σ ((am_fR σ 13052 this).getD 0) x5.toNatClampNeg) = (13 : Int32) then (x3 + ((am_aL σ ((am_fR σ 13058 this).getD 0) x5.toNatClampNeg) - (am_aL σ ((am_fR σ 13059 this).getD 0) x5.toNatClampNeg))) else (x3 + (0 : Int64)))) → c_Ro_paidOf_8 nl Ln xs (d + 1) this x1 x2 w11 (x5 + (1 : Int32)) σ F) ∧ (¬ (x5 < (((40 : Int32) * x1) + (am_aI σ ((am_fR σ 13051 this).getD 0) x1.toNatClampNeg))) → F x3 σ)) : c_Ro_paidOf_8 nl Ln xs (d + 1) this x1 x2 x3 x5 σ F := by
  obtain ⟨j8, j10, j12, j13, j14, j15, j18, j19, j20, j21, j24, j25, j28, j30, j31, j32, j35, j36, j37, j40, j42, j43, j45, j48, j49, j52, j54, j55, j56, j59, j61, j62, j63, j66, j67, j68, j69, j72, j75, j76, -⟩ := P_Ro_paidOf_8 nl Ln xs
  unfold c_Ro_paidOf_8
  refine s_iload j8 rfl rfl ?_
  refine s_bipush j10 rfl kc_bi_40 ?_
  refine s_iload_n j12 rfl rfl ?_
  refine s_g j13 rfl rfl rfl rfl rfl rfl ?_
  refine s_aload_n j14 rfl rfl ?_
  obtain ⟨ho1, h⟩ := h
  refine s_gfR j15 rfl ho1 ?_
  refine s_iload_n j18 rfl rfl ?_
  obtain ⟨ho2, h⟩ := h
  refine s_iaload j19 rfl ho2 ?_
  refine s_g j20 rfl rfl rfl rfl rfl rfl ?_
  refine s_icn j21 rfl rfl am_cc_ge (fun hc3 => ?_) (fun hc3 => ?_)
  · replace h := h.2 hc3
    refine s_lload_n j75 rfl rfl ?_
    exact s_retL j76 rfl h
  · replace h := h.1 hc3
    refine s_aload_n j24 rfl rfl ?_
    refine s_gfR j25 rfl ho1 ?_
    refine s_iload j28 rfl rfl ?_
    obtain ⟨ho4, h⟩ := h
    refine s_iaload j30 rfl ho4 ?_
    refine s_iload_n j31 rfl rfl ?_
    obtain ⟨ho6, h⟩ := h
    obtain ⟨ho8, h⟩ := h
    obtain ⟨ho9, h⟩ := h
    have K10 : ∀ (w11 : Int64), w11 = (if x2 < (am_aI σ ((am_fR σ 13054 this).getD 0) x5.toNatClampNeg) then x3 else (if (am_aI σ ((am_fR σ 13052 this).getD 0) x5.toNatClampNeg) = (13 : Int32) then (x3 + ((am_aL σ ((am_fR σ 13058 this).getD 0) x5.toNatClampNeg) - (am_aL σ ((am_fR σ 13059 this).getD 0) x5.toNatClampNeg))) else (x3 + (0 : Int64)))) → am_C (TT nl Ln xs) (d + 1) 262 69 [some (am_ov (some this)), some (.int x1), some (.int x2), some (.long w11), none, some (.int x5)] [] σ (am_qL F) := by
      intro w11 hw12
      replace h := h w11 hw12
      refine s_iinc (L' := [some (am_ov (some this)), some (.int x1), some (.int x2), some (.long w11), none, some (.int (x5 + (1 : Int32)))]) j69 rfl rfl kc_ic_1 rfl ?_
      refine s_goto j72 rfl rfl ?_
      exact h
    refine s_ic j32 rfl rfl am_cc_gt (fun hc5 => ?_) (fun hc5 => ?_)
    · exact K10 _ (am_t1 hc5 rfl)
    · refine s_lload_n j35 rfl rfl ?_
      refine s_aload_n j36 rfl rfl ?_
      refine s_gfR j37 rfl ho1 ?_
      refine s_iload j40 rfl rfl ?_
      refine s_iaload j42 rfl (ho6 hc5) ?_
      refine s_bipush j43 rfl kc_bi_13 ?_
      refine s_icn j45 rfl rfl am_cc_ne (fun hc7 => ?_) (fun hc7 => ?_)
      · refine s_lconst j66 rfl rfl ?_
        refine s_g j67 rfl rfl rfl rfl rfl rfl ?_
        refine s_lstore_n j68 rfl (n := 6) (L' := [some (am_ov (some this)), some (.int x1), some (.int x2), some (.long (x3 + (0 : Int64))), none, some (.int x5)]) rfl (by decide) rfl ?_
        exact K10 _ (am_t2 hc5 (am_t2 hc7 rfl))
      · refine s_aload_n j48 rfl rfl ?_
        refine s_gfR j49 rfl ho1 ?_
        refine s_iload j52 rfl rfl ?_
        refine s_laload j54 rfl (ho8 hc5 hc7) ?_
        refine s_aload_n j55 rfl rfl ?_
        refine s_gfR j56 rfl ho1 ?_
        refine s_iload j59 rfl rfl ?_
        refine s_laload j61 rfl (ho9 hc5 hc7) ?_
        refine s_g j62 rfl rfl rfl rfl rfl rfl ?_
        refine s_goto j63 rfl rfl ?_
        refine s_g j67 rfl rfl rfl rfl rfl rfl ?_
        refine s_lstore_n j68 rfl (n := 6) (L' := [some (am_ov (some this)), some (.int x1), some (.int x2), some (.long (x3 + ((am_aL σ ((am_fR σ 13058 this).getD 0) x5.toNatClampNeg) - (am_aL σ ((am_fR σ 13059 this).getD 0) x5.toNatClampNeg)))), none, some (.int x5)]) rfl (by decide) rfl ?_
        exact K10 _ (am_t2 hc5 (am_t1 hc7 rfl))
theorem P_Ro_recourseOf (nl : Bool) (Ln : Nat) (xs : Nat → Int32) : am_Jl (TT nl Ln xs) 263 [(0, .lconst 0, 1, []), (1, .lstore_n 3, 2, []), (2, .bipush 40, 4, []), (4, .iload_n 1, 5, []), (5, .imul, 6, []), (6, .istore 5, 8, [])] := dk_ck (by decide +kernel)
set_option maxRecDepth 4096 in
theorem w_Ro_recourseOf {nl : Bool} {Ln : Nat} {xs : Nat → Int32} {d : Nat} {this : Nat} {p0 : Int32} {p1 : Int32} {σ : am_S} {F : Int64 → am_S → Prop} (h : ∀ v1 : Int32, v1 = ((40 : Int32) * p0) → c_Ro_recourseOf_8 nl Ln xs (d + 1) this p0 p1 (0 : Int64) v1 σ F) : k_Ro_recourseOf nl Ln xs (d + 1) this p0 p1 σ F := by
  obtain ⟨j0, j1, j2, j4, j5, j6, -⟩ := P_Ro_recourseOf nl Ln xs
  have elo : am_lo 6 [am_ov (some this), .int p0, .int p1] = [some (am_ov (some this)), some (.int p0), some (.int p1), none, none, none] := by simp only [am_lo, am_in_ov, am_in_int, am_in_long, am_in_nil]; rfl
  unfold k_Ro_recourseOf
  rw [elo]
  refine s_lconst j0 rfl rfl ?_
  refine s_lstore_n j1 rfl (n := 6) (L' := [some (am_ov (some this)), some (.int p0), some (.int p1), some (.long (0 : Int64)), none, none]) rfl (by decide) rfl ?_
  refine s_bipush j2 rfl kc_bi_40 ?_
  refine s_iload_n j4 rfl rfl ?_
  refine s_g j5 rfl rfl rfl rfl rfl rfl ?_
  refine s_istoreV j6 rfl (n := 6) (L' := fun w => [some (am_ov (some this)), some (.int p0), some (.int p1), some (.long (0 : Int64)), none, some (.int w)]) rfl (by decide) (fun _ => rfl) (fun v1 hv2 => ?_)
  replace h := h v1 hv2
  exact h
theorem P_Ro_recourseOf_8 (nl : Bool) (Ln : Nat) (xs : Nat → Int32) : am_Jl (TT nl Ln xs) 263 [(8, .iload 5, 10, []), (10, .bipush 40, 12, []), (12, .iload_n 1, 13, []), (13, .imul, 14, []), (14, .aload_n 0, 15, []), (15, .getfield 138, 18, [9, 13, 51, 2]), (18, .iload_n 1, 19, []), (19, .iaload, 20, []), (20, .iadd, 21, []), (21, .if_icmp .ge 46, 24, []), (24, .lload_n 3, 25, []), (25, .aload_n 0, 26, []), (26, .getfield 141, 29, [9, 13, 52, 2]), (29, .iload 5, 31, []), (31, .iaload, 32, []), (32, .bipush 19, 34, []), (34, .if_icmp .ne 24, 37, []), (37, .aload_n 0, 38, []), (38, .getfield 147, 41, [9, 13, 54, 2]), (41, .iload 5, 43, []), (43, .iaload, 44, []), (44, .iload_n 2, 45, []), (45, .if_icmp .gt 13, 48, []), (48, .aload_n 0, 49, []), (49, .getfield 159, 52, [9, 13, 58, 2]), (52, .iload 5, 54, []), (54, .laload, 55, []), (55, .goto 4, 58, []), (58, .lconst 0, 59, []), (59, .ladd, 60, []), (60, .lstore_n 3, 61, []), (61, .iinc 5 1, 64, []), (64, .goto (-56), 67, []), (67, .lload_n 3, 68, []), (68, .lreturn, 69, [2])] := dk_ck (by decide +kernel)
set_option maxRecDepth 4096 in
theorem w_Ro_recourseOf_8 {nl : Bool} {Ln : Nat} {xs : Nat → Int32} {d : Nat} {this : Nat} {x1 : Int32} {x2 : Int32} {x3 : Int64} {x5 : Int32} {σ : am_S} {F : Int64 → am_S → Prop} (h : (am_is σ (some this) 13) ∧ (am_ar σ 1000 (am_fR σ 13051 this) x1) ∧ (x5 < (((40 : Int32) * x1) + (am_aI σ ((am_fR σ 13051 this).getD 0) x1.toNatClampNeg)) → (am_ar σ 1000 (am_fR σ 13052 this) x5) ∧ (((am_aI σ ((am_fR σ 13052 this).getD 0) x5.toNatClampNeg) = (19 : Int32)) → am_ar σ 1000 (am_fR σ 13054 this) x5) ∧ (((am_aI σ ((am_fR σ 13052 this).getD 0) x5.toNatClampNeg) = (19 : Int32)) → ¬ (x2 < (am_aI σ ((am_fR σ 13054 this).getD 0) x5.toNatClampNeg)) → am_ar σ 1001 (am_fR σ 13058 this) x5) ∧ ∀ w10 : Int64, w10 = (if (am_aI σ ((am_fR σ 13052 this).getD 0) x5.toNatClampNeg) = (19 : Int32) then (if x2 < (am_aI σ ((am_fR σ 13054 this).getD 0) x5.toNatClampNeg) then (0 : Int64) else (am_aL σ ((am_fR σ 13058 this).getD 0) x5.toNatClampNeg)) else (0 : Int64)) → ∀ v12 : Int64, v12 = (x3 + w10) → c_Ro_recourseOf_8 nl Ln xs (d + 1) this x1 x2 v12 (x5 + (1 : Int32)) σ F) ∧ (¬ (x5 < (((40 : Int32) * x1) + (am_aI σ ((am_fR σ 13051 this).getD 0) x1.toNatClampNeg))) → F x3 σ)) : c_Ro_recourseOf_8 nl Ln xs (d + 1) this x1 x2 x3 x5 σ F := by
  obtain ⟨j8, j10, j12, j13, j14, j15, j18, j19, j20, j21, j24, j25, j26, j29, j31, j32, j34, j37, j38, j41, j43, j44, j45, j48, j49, j52, j54, j55, j58, j59, j60, j61, j64, j67, j68, -⟩ := P_Ro_recourseOf_8 nl Ln xs
  unfold c_Ro_recourseOf_8
  refine s_iload j8 rfl rfl ?_
  refine s_bipush j10 rfl kc_bi_40 ?_
  refine s_iload_n j12 rfl rfl ?_
  refine s_g j13 rfl rfl rfl rfl rfl rfl ?_
  refine s_aload_n j14 rfl rfl ?_
  obtain ⟨ho1, h⟩ := h
  refine s_gfR j15 rfl ho1 ?_
  refine s_iload_n j18 rfl rfl ?_
  obtain ⟨ho2, h⟩ := h
  refine s_iaload j19 rfl ho2 ?_
  refine s_g j20 rfl rfl rfl rfl rfl rfl ?_
  refine s_icn j21 rfl rfl am_cc_ge (fun hc3 => ?_) (fun hc3 => ?_)
  · replace h := h.2 hc3
    refine s_lload_n j67 rfl rfl ?_
    exact s_retL j68 rfl h
  · replace h := h.1 hc3
    refine s_lload_n j24 rfl rfl ?_
    refine s_aload_n j25 rfl rfl ?_
    refine s_gfR j26 rfl ho1 ?_
    refine s_iload j29 rfl rfl ?_
    obtain ⟨ho4, h⟩ := h
    refine s_iaload j31 rfl ho4 ?_
    refine s_bipush j32 rfl kc_bi_19 ?_
    obtain ⟨ho6, h⟩ := h
    obtain ⟨ho8, h⟩ := h
    have K9 : ∀ (w10 : Int64), w10 = (if (am_aI σ ((am_fR σ 13052 this).getD 0) x5.toNatClampNeg) = (19 : Int32) then (if x2 < (am_aI σ ((am_fR σ 13054 this).getD 0) x5.toNatClampNeg) then (0 : Int64) else (am_aL σ ((am_fR σ 13058 this).getD 0) x5.toNatClampNeg)) else (0 : Int64)) → am_C (TT nl Ln xs) (d + 1) 263 59 [some (am_ov (some this)), some (.int x1), some (.int x2), some (.long x3), none, some (.int x5)] [.long w10, .long x3] σ (am_qL F) := by
      intro w10 hw11
      replace h := h w10 hw11
      refine s_g j59 rfl rfl rfl rfl rfl rfl ?_
      refine s_lstore_nV j60 rfl (n := 6) (L' := fun w => [some (am_ov (some this)), some (.int x1), some (.int x2), some (.long w), none, some (.int x5)]) rfl (by decide) (fun _ => rfl) (fun v12 hv13 => ?_)
      replace h := h v12 hv13
      refine s_iinc (L' := [some (am_ov (some this)), some (.int x1), some (.int x2), some (.long v12), none, some (.int (x5 + (1 : Int32)))]) j61 rfl rfl kc_ic_1 rfl ?_
      refine s_goto j64 rfl rfl ?_
      exact h
    refine s_icn j34 rfl rfl am_cc_ne (fun hc5 => ?_) (fun hc5 => ?_)
    · refine s_lconst j58 rfl rfl ?_
      exact K9 _ (am_t2 hc5 rfl)
    · refine s_aload_n j37 rfl rfl ?_
      refine s_gfR j38 rfl ho1 ?_
      refine s_iload j41 rfl rfl ?_
      refine s_iaload j43 rfl (ho6 hc5) ?_
      refine s_iload_n j44 rfl rfl ?_
      refine s_ic j45 rfl rfl am_cc_gt (fun hc7 => ?_) (fun hc7 => ?_)
      · refine s_lconst j58 rfl rfl ?_
        exact K9 _ (am_t1 hc5 (am_t1 hc7 rfl))
      · refine s_aload_n j48 rfl rfl ?_
        refine s_gfR j49 rfl ho1 ?_
        refine s_iload j52 rfl rfl ?_
        refine s_laload j54 rfl (ho8 hc5 hc7) ?_
        refine s_goto j55 rfl rfl ?_
        exact K9 _ (am_t1 hc5 (am_t2 hc7 rfl))
theorem P_Ro_keep (nl : Bool) (Ln : Nat) (xs : Nat → Int32) : am_Jl (TT nl Ln xs) 264 [(0, .aload_n 2, 1, []), (1, .iconst 0, 2, []), (2, .laload, 3, []), (3, .l2i, 4, []), (4, .istore 5, 6, []), (6, .bipush 40, 8, []), (8, .iload 5, 10, []), (10, .imul, 11, []), (11, .aload_n 0, 12, []), (12, .getfield 138, 15, [9, 13, 51, 2]), (15, .iload 5, 17, []), (17, .iaload, 18, []), (18, .iadd, 19, []), (19, .istore 6, 21, []), (21, .aload_n 0, 22, []), (22, .getfield 138, 25, [9, 13, 51, 2]), (25, .iload 5, 27, []), (27, .dup2, 28, []), (28, .iaload, 29, []), (29, .iconst 1, 30, []), (30, .iadd, 31, []), (31, .iastore, 32, []), (32, .aload_n 0, 33, []), (33, .getfield 141, 36, [9, 13, 52, 2]), (36, .iload 6, 38, []), (38, .iload_n 1, 39, []), (39, .iastore, 40, []), (40, .aload_n 0, 41, []), (41, .getfield 144, 44, [9, 13, 53, 2]), (44, .iload 6, 46, []), (46, .aload_n 2, 47, []), (47, .iconst 1, 48, []), (48, .laload, 49, []), (49, .l2i, 50, []), (50, .iastore, 51, []), (51, .aload_n 0, 52, []), (52, .getfield 147, 55, [9, 13, 54, 2]), (55, .iload 6, 57, []), (57, .aload_n 0, 58, []), (58, .getfield 206, 61, [9, 13, 0, 0]), (61, .iconst 1, 62, []), (62, .iadd, 63, []), (63, .iastore, 64, []), (64, .aload_n 0, 65, []), (65, .getfield 162, 68, [9, 13, 59, 2]), (68, .iload 6, 70, []), (70, .lload_n 3, 71, []), (71, .lastore, 72, []), (72, .iload_n 1, 73, []), (73, .bipush 12, 75, []), (75, .if_icmp .eq 9, 78, []), (78, .iload_n 1, 79, []), (79, .bipush 17, 81, []), (81, .if_icmp .ne 7, 84, []), (84, .iconst 1, 85, []), (85, .goto 4, 88, []), (88, .iconst 0, 89, [])] := dk_ck (by decide +kernel)
set_option maxRecDepth 4096 in
theorem w_Ro_keep {nl : Bool} {Ln : Nat} {xs : Nat → Int32} {d : Nat} {this : Nat} {p0 : Int32} {p1 : Option Nat} {p2 : Int64} {σ : am_S} {F : am_S → Prop} (h : (am_ar σ 1001 p1 (0 : Int32)) ∧ ∀ v2 : Int32, v2 = (am_aL σ (p1.getD 0) (0 : Int32).toNatClampNeg).toInt32 → (am_is σ (some this) 13) ∧ (am_ar σ 1000 (am_fR σ 13051 this) v2) ∧ ∀ v6 : Int32, v6 = (((40 : Int32) * v2) + (am_aI σ ((am_fR σ 13051 this).getD 0) v2.toNatClampNeg)) → (am_ar σ 1000 (am_fR σ 13051 this) v2) ∧ (am_ar σ 1000 (am_fR σ 13051 this) v2) ∧ ∀ σ10, σ10 = am_saI σ ((am_fR σ 13051 this).getD 0) v2.toNatClampNeg ((am_aI σ ((am_fR σ 13051 this).getD 0) v2.toNatClampNeg) + (1 : Int32)) → (am_ar σ10 1000 (am_fR σ10 13052 this) v6) ∧ ∀ σ14, σ14 = am_saI σ10 ((am_fR σ10 13052 this).getD 0) v6.toNatClampNeg p0 → (am_ar σ14 1001 p1 (1 : Int32)) ∧ (am_ar σ14 1000 (am_fR σ14 13053 this) v6) ∧ ∀ σ19, σ19 = am_saI σ14 ((am_fR σ14 13053 this).getD 0) v6.toNatClampNeg ((am_aL σ14 (p1.getD 0) (1 : Int32).toNatClampNeg).toInt32) → (am_ar σ19 1000 (am_fR σ19 13054 this) v6) ∧ ∀ σ23, σ23 = am_saI σ19 ((am_fR σ19 13054 this).getD 0) v6.toNatClampNeg ((am_fI σ19 13000 this) + (1 : Int32)) → (am_ar σ23 1001 (am_fR σ23 13059 this) v6) ∧ ∀ σ27, σ27 = am_saL σ23 ((am_fR σ23 13059 this).getD 0) v6.toNatClampNeg p2 → c_Ro_keep_89 nl Ln xs (d + 1) this p0 p1 p2 v2 v6 (if (p0 = (12 : Int32)) ∨ (p0 = (17 : Int32)) then (1 : Int32) else 0) σ27 F) : k_Ro_keep nl Ln xs (d + 1) this p0 p1 p2 σ F := by
  obtain ⟨j0, j1, j2, j3, j4, j6, j8, j10, j11, j12, j15, j17, j18, j19, j21, j22, j25, j27, j28, j29, j30, j31, j32, j33, j36, j38, j39, j40, j41, j44, j46, j47, j48, j49, j50, j51, j52, j55, j57, j58, j61, j62, j63, j64, j65, j68, j70, j71, j72, j73, j75, j78, j79, j81, j84, j85, j88, -⟩ := P_Ro_keep nl Ln xs
  have elo : am_lo 8 [am_ov (some this), .int p0, am_ov p1, .long p2] = [some (am_ov (some this)), some (.int p0), some (am_ov p1), some (.long p2), none, none, none, none] := by simp only [am_lo, am_in_ov, am_in_int, am_in_long, am_in_nil]; rfl
  unfold k_Ro_keep
  rw [elo]
  refine s_aload_n j0 rfl rfl ?_
  refine s_iconst j1 rfl kc_ic_0 ?_
  obtain ⟨ho1, h⟩ := h
  refine s_laload j2 rfl ho1 ?_
  refine s_g j3 rfl rfl rfl rfl rfl rfl ?_
  refine s_istoreV j4 rfl (n := 8) (L' := fun w => [some (am_ov (some this)), some (.int p0), some (am_ov p1), some (.long p2), none, some (.int w), none, none]) rfl (by decide) (fun _ => rfl) (fun v2 hv3 => ?_)
  replace h := h v2 hv3
  refine s_bipush j6 rfl kc_bi_40 ?_
  refine s_iload j8 rfl rfl ?_
  refine s_g j10 rfl rfl rfl rfl rfl rfl ?_
  refine s_aload_n j11 rfl rfl ?_
  obtain ⟨ho4, h⟩ := h
  refine s_gfR j12 rfl ho4 ?_
  refine s_iload j15 rfl rfl ?_
  obtain ⟨ho5, h⟩ := h
  refine s_iaload j17 rfl ho5 ?_
  refine s_g j18 rfl rfl rfl rfl rfl rfl ?_
  refine s_istoreV j19 rfl (n := 8) (L' := fun w => [some (am_ov (some this)), some (.int p0), some (am_ov p1), some (.long p2), none, some (.int v2), some (.int w), none]) rfl (by decide) (fun _ => rfl) (fun v6 hv7 => ?_)
  replace h := h v6 hv7
  refine s_aload_n j21 rfl rfl ?_
  refine s_gfR j22 rfl ho4 ?_
  refine s_iload j25 rfl rfl ?_
  refine s_dup2 j27 rfl (am_cov _) ?_
  obtain ⟨ho8, h⟩ := h
  refine s_iaload j28 rfl ho8 ?_
  refine s_iconst j29 rfl kc_ic_1 ?_
  refine s_g j30 rfl rfl rfl rfl rfl rfl ?_
  obtain ⟨ho9, h⟩ := h
  refine s_iastore j31 rfl ho9 (fun σ10 e11 => ?_)
  replace h := h σ10 e11
  have ek12 : am_kd σ10 = am_kd σ := by rw [e11]
  refine s_aload_n j32 rfl rfl ?_
  refine s_gfR j33 rfl (am_is_kd ek12 ho4) ?_
  refine s_iload j36 rfl rfl ?_
  refine s_iload_n j38 rfl rfl ?_
  obtain ⟨ho13, h⟩ := h
  refine s_iastore j39 rfl ho13 (fun σ14 e15 => ?_)
  replace h := h σ14 e15
  have ek16 : am_kd σ14 = am_kd σ10 := by rw [e15]
  refine s_aload_n j40 rfl rfl ?_
  refine s_gfR j41 rfl (am_is_kd ek16 (am_is_kd ek12 ho4)) ?_
  refine s_iload j44 rfl rfl ?_
  refine s_aload_n j46 rfl rfl ?_
  refine s_iconst j47 rfl kc_ic_1 ?_
  obtain ⟨ho17, h⟩ := h
  refine s_laload j48 rfl ho17 ?_
  refine s_g j49 rfl rfl rfl rfl rfl rfl ?_
  obtain ⟨ho18, h⟩ := h
  refine s_iastore j50 rfl ho18 (fun σ19 e20 => ?_)
  replace h := h σ19 e20
  have ek21 : am_kd σ19 = am_kd σ14 := by rw [e20]
  refine s_aload_n j51 rfl rfl ?_
  refine s_gfR j52 rfl (am_is_kd ek21 (am_is_kd ek16 (am_is_kd ek12 ho4))) ?_
  refine s_iload j55 rfl rfl ?_
  refine s_aload_n j57 rfl rfl ?_
  refine s_gfI j58 rfl (am_is_kd ek21 (am_is_kd ek16 (am_is_kd ek12 ho4))) ?_
  refine s_iconst j61 rfl kc_ic_1 ?_
  refine s_g j62 rfl rfl rfl rfl rfl rfl ?_
  obtain ⟨ho22, h⟩ := h
  refine s_iastore j63 rfl ho22 (fun σ23 e24 => ?_)
  replace h := h σ23 e24
  have ek25 : am_kd σ23 = am_kd σ19 := by rw [e24]
  refine s_aload_n j64 rfl rfl ?_
  refine s_gfR j65 rfl (am_is_kd ek25 (am_is_kd ek21 (am_is_kd ek16 (am_is_kd ek12 ho4)))) ?_
  refine s_iload j68 rfl rfl ?_
  refine s_lload_n j70 rfl rfl ?_
  obtain ⟨ho26, h⟩ := h
  refine s_lastore j71 rfl ho26 (fun σ27 e28 => ?_)
  replace h := h σ27 e28
  have ek29 : am_kd σ27 = am_kd σ23 := by rw [e28]
  refine s_iload_n j72 rfl rfl ?_
  refine s_bipush j73 rfl kc_bi_12 ?_
  have K32 : ∀ (w33 : Int32), w33 = (if (p0 = (12 : Int32)) ∨ (p0 = (17 : Int32)) then (1 : Int32) else 0) → am_C (TT nl Ln xs) (d + 1) 264 89 [some (am_ov (some this)), some (.int p0), some (am_ov p1), some (.long p2), none, some (.int v2), some (.int v6), none] [.int w33] σ27 (am_qV F) := by
    intro w33 hw34
    subst hw34
    exact h
  refine s_ic j75 rfl rfl am_cc_eq (fun hc30 => ?_) (fun hc30 => ?_)
  · refine s_iconst j84 rfl kc_ic_1 ?_
    refine s_goto j85 rfl rfl ?_
    exact K32 _ (am_e1 (Iff.trans Iff.rfl (am_p3 hc30)))
  · refine s_iload_n j78 rfl rfl ?_
    refine s_bipush j79 rfl kc_bi_17 ?_
    refine s_icn j81 rfl rfl am_cc_ne (fun hc31 => ?_) (fun hc31 => ?_)
    · refine s_iconst j88 rfl kc_ic_0 ?_
      exact K32 _ (am_e0 (am_p4 hc30 (Iff.trans Iff.rfl (am_p10 hc31))))
    · refine s_iconst j84 rfl kc_ic_1 ?_
      refine s_goto j85 rfl rfl ?_
      exact K32 _ (am_e1 (am_p4 hc30 (Iff.trans Iff.rfl (am_p9 hc31))))
theorem P_Ro_keep_89 (nl : Bool) (Ln : Nat) (xs : Nat → Int32) : am_Jl (TT nl Ln xs) 264 [(89, .istore 7, 91, []), (91, .aload_n 0, 92, []), (92, .getfield 150, 95, [9, 13, 55, 2]), (95, .iload 6, 97, []), (97, .iload 7, 99, []), (99, .ifCond .ne 15, 102, []), (102, .iload_n 1, 103, []), (103, .bipush 16, 105, []), (105, .if_icmp .eq 9, 108, []), (108, .iload_n 1, 109, []), (109, .bipush 15, 111, []), (111, .if_icmp .ne 10, 114, []), (114, .aload_n 2, 115, []), (115, .iconst 2, 116, []), (116, .laload, 117, []), (117, .l2i, 118, []), (118, .goto 4, 121, []), (121, .iconst 0, 122, [])] := dk_ck (by decide +kernel)
set_option maxRecDepth 4096 in
theorem w_Ro_keep_89 {nl : Bool} {Ln : Nat} {xs : Nat → Int32} {d : Nat} {this : Nat} {x1 : Int32} {x2 : Option Nat} {x3 : Int64} {x5 : Int32} {x6 : Int32} {y0 : Int32} {σ : am_S} {F : am_S → Prop} (h : (am_is σ (some this) 13) ∧ ((y0 = 0) → (x1 = (16 : Int32)) → am_ar σ 1001 x2 (2 : Int32)) ∧ ((y0 = 0) → ¬ (x1 = (16 : Int32)) → (x1 = (15 : Int32)) → am_ar σ 1001 x2 (2 : Int32)) ∧ (¬ (y0 = 0) → am_ar σ 1001 x2 (2 : Int32)) ∧ ∀ w9 : Int32, w9 = (if y0 = 0 then (if x1 = (16 : Int32) then (am_aL σ (x2.getD 0) (2 : Int32).toNatClampNeg).toInt32 else (if x1 = (15 : Int32) then (am_aL σ (x2.getD 0) (2 : Int32).toNatClampNeg).toInt32 else (0 : Int32))) else (am_aL σ (x2.getD 0) (2 : Int32).toNatClampNeg).toInt32) → c_Ro_keep_122 nl Ln xs (d + 1) this x1 x2 x3 x5 x6 y0 (am_fR σ 13055 this) x6 w9 σ F) : c_Ro_keep_89 nl Ln xs (d + 1) this x1 x2 x3 x5 x6 y0 σ F := by
  obtain ⟨j89, j91, j92, j95, j97, j99, j102, j103, j105, j108, j109, j111, j114, j115, j116, j117, j118, j121, -⟩ := P_Ro_keep_89 nl Ln xs
  unfold c_Ro_keep_89
  refine s_istore j89 rfl (n := 8) (L' := [some (am_ov (some this)), some (.int x1), some (am_ov x2), some (.long x3), none, some (.int x5), some (.int x6), some (.int y0)]) rfl (by decide) rfl ?_
  refine s_aload_n j91 rfl rfl ?_
  obtain ⟨ho1, h⟩ := h
  refine s_gfR j92 rfl ho1 ?_
  refine s_iload j95 rfl rfl ?_
  refine s_iload j97 rfl rfl ?_
  obtain ⟨ho4, h⟩ := h
  obtain ⟨ho6, h⟩ := h
  obtain ⟨ho7, h⟩ := h
  have K8 : ∀ (w9 : Int32), w9 = (if y0 = 0 then (if x1 = (16 : Int32) then (am_aL σ (x2.getD 0) (2 : Int32).toNatClampNeg).toInt32 else (if x1 = (15 : Int32) then (am_aL σ (x2.getD 0) (2 : Int32).toNatClampNeg).toInt32 else (0 : Int32))) else (am_aL σ (x2.getD 0) (2 : Int32).toNatClampNeg).toInt32) → am_C (TT nl Ln xs) (d + 1) 264 122 [some (am_ov (some this)), some (.int x1), some (am_ov x2), some (.long x3), none, some (.int x5), some (.int x6), some (.int y0)] [.int w9, .int x6, am_ov (am_fR σ 13055 this)] σ (am_qV F) := by
    intro w9 hw10
    replace h := h w9 hw10
    exact h
  refine s_ifn j99 rfl rfl am_cc_ne (fun hc2 => ?_) (fun hc2 => ?_)
  · refine s_aload_n j114 rfl rfl ?_
    refine s_iconst j115 rfl kc_ic_2 ?_
    refine s_laload j116 rfl (ho7 hc2) ?_
    refine s_g j117 rfl rfl rfl rfl rfl rfl ?_
    refine s_goto j118 rfl rfl ?_
    exact K8 _ (am_t2 hc2 rfl)
  · refine s_iload_n j102 rfl rfl ?_
    refine s_bipush j103 rfl kc_bi_16 ?_
    refine s_ic j105 rfl rfl am_cc_eq (fun hc3 => ?_) (fun hc3 => ?_)
    · refine s_aload_n j114 rfl rfl ?_
      refine s_iconst j115 rfl kc_ic_2 ?_
      refine s_laload j116 rfl (ho4 hc2 hc3) ?_
      refine s_g j117 rfl rfl rfl rfl rfl rfl ?_
      refine s_goto j118 rfl rfl ?_
      exact K8 _ (am_t1 hc2 (am_t1 hc3 rfl))
    · refine s_iload_n j108 rfl rfl ?_
      refine s_bipush j109 rfl kc_bi_15 ?_
      refine s_icn j111 rfl rfl am_cc_ne (fun hc5 => ?_) (fun hc5 => ?_)
      · refine s_iconst j121 rfl kc_ic_0 ?_
        exact K8 _ (am_t1 hc2 (am_t2 hc3 (am_t2 hc5 rfl)))
      · refine s_aload_n j114 rfl rfl ?_
        refine s_iconst j115 rfl kc_ic_2 ?_
        refine s_laload j116 rfl (ho6 hc2 hc3 hc5) ?_
        refine s_g j117 rfl rfl rfl rfl rfl rfl ?_
        refine s_goto j118 rfl rfl ?_
        exact K8 _ (am_t1 hc2 (am_t2 hc3 (am_t1 hc5 rfl)))
theorem P_Ro_keep_122 (nl : Bool) (Ln : Nat) (xs : Nat → Int32) : am_Jl (TT nl Ln xs) 264 [(122, .iastore, 123, []), (123, .aload_n 0, 124, []), (124, .getfield 153, 127, [9, 13, 56, 2]), (127, .iload 6, 129, []), (129, .iload_n 1, 130, []), (130, .bipush 16, 132, []), (132, .if_icmp .ne 10, 135, []), (135, .aload_n 2, 136, []), (136, .iconst 3, 137, []), (137, .laload, 138, []), (138, .l2i, 139, []), (139, .goto 4, 142, []), (142, .iconst 0, 143, [])] := dk_ck (by decide +kernel)
set_option maxRecDepth 4096 in
theorem w_Ro_keep_122 {nl : Bool} {Ln : Nat} {xs : Nat → Int32} {d : Nat} {this : Nat} {x1 : Int32} {x2 : Option Nat} {x3 : Int64} {x5 : Int32} {x6 : Int32} {x7 : Int32} {y0 : Option Nat} {y1 : Int32} {y2 : Int32} {σ : am_S} {F : am_S → Prop} (h : (am_ar σ 1000 y0 y1) ∧ ∀ σ2, σ2 = am_saI σ (y0.getD 0) y1.toNatClampNeg y2 → (am_is σ2 (some this) 13) ∧ ((x1 = (16 : Int32)) → am_ar σ2 1001 x2 (3 : Int32)) ∧ ∀ w9 : Int32, w9 = (if x1 = (16 : Int32) then (am_aL σ2 (x2.getD 0) (3 : Int32).toNatClampNeg).toInt32 else (0 : Int32)) → c_Ro_keep_143 nl Ln xs (d + 1) this x1 x2 x3 x5 x6 x7 (am_fR σ2 13056 this) x6 w9 σ2 F) : c_Ro_keep_122 nl Ln xs (d + 1) this x1 x2 x3 x5 x6 x7 y0 y1 y2 σ F := by
  obtain ⟨j122, j123, j124, j127, j129, j130, j132, j135, j136, j137, j138, j139, j142, -⟩ := P_Ro_keep_122 nl Ln xs
  unfold c_Ro_keep_122
  obtain ⟨ho1, h⟩ := h
  refine s_iastore j122 rfl ho1 (fun σ2 e3 => ?_)
  replace h := h σ2 e3
  have ek4 : am_kd σ2 = am_kd σ := by rw [e3]
  refine s_aload_n j123 rfl rfl ?_
  obtain ⟨ho5, h⟩ := h
  refine s_gfR j124 rfl ho5 ?_
  refine s_iload j127 rfl rfl ?_
  refine s_iload_n j129 rfl rfl ?_
  refine s_bipush j130 rfl kc_bi_16 ?_
  obtain ⟨ho7, h⟩ := h
  have K8 : ∀ (w9 : Int32), w9 = (if x1 = (16 : Int32) then (am_aL σ2 (x2.getD 0) (3 : Int32).toNatClampNeg).toInt32 else (0 : Int32)) → am_C (TT nl Ln xs) (d + 1) 264 143 [some (am_ov (some this)), some (.int x1), some (am_ov x2), some (.long x3), none, some (.int x5), some (.int x6), some (.int x7)] [.int w9, .int x6, am_ov (am_fR σ2 13056 this)] σ2 (am_qV F) := by
    intro w9 hw10
    replace h := h w9 hw10
    exact h
  refine s_icn j132 rfl rfl am_cc_ne (fun hc6 => ?_) (fun hc6 => ?_)
  · refine s_iconst j142 rfl kc_ic_0 ?_
    exact K8 _ (am_t2 hc6 rfl)
  · refine s_aload_n j135 rfl rfl ?_
    refine s_iconst j136 rfl kc_ic_3 ?_
    refine s_laload j137 rfl (ho7 hc6) ?_
    refine s_g j138 rfl rfl rfl rfl rfl rfl ?_
    refine s_goto j139 rfl rfl ?_
    exact K8 _ (am_t1 hc6 rfl)
theorem P_Ro_keep_143 (nl : Bool) (Ln : Nat) (xs : Nat → Int32) : am_Jl (TT nl Ln xs) 264 [(143, .iastore, 144, []), (144, .aload_n 0, 145, []), (145, .getfield 156, 148, [9, 13, 57, 2]), (148, .iload 6, 150, []), (150, .iload_n 1, 151, []), (151, .bipush 16, 153, []), (153, .if_icmp .ne 10, 156, []), (156, .aload_n 2, 157, []), (157, .iconst 5, 158, []), (158, .laload, 159, []), (159, .l2i, 160, []), (160, .goto 4, 163, []), (163, .iconst 0, 164, [])] := dk_ck (by decide +kernel)
set_option maxRecDepth 4096 in
theorem w_Ro_keep_143 {nl : Bool} {Ln : Nat} {xs : Nat → Int32} {d : Nat} {this : Nat} {x1 : Int32} {x2 : Option Nat} {x3 : Int64} {x5 : Int32} {x6 : Int32} {x7 : Int32} {y0 : Option Nat} {y1 : Int32} {y2 : Int32} {σ : am_S} {F : am_S → Prop} (h : (am_ar σ 1000 y0 y1) ∧ ∀ σ2, σ2 = am_saI σ (y0.getD 0) y1.toNatClampNeg y2 → (am_is σ2 (some this) 13) ∧ ((x1 = (16 : Int32)) → am_ar σ2 1001 x2 (5 : Int32)) ∧ ∀ w9 : Int32, w9 = (if x1 = (16 : Int32) then (am_aL σ2 (x2.getD 0) (5 : Int32).toNatClampNeg).toInt32 else (0 : Int32)) → c_Ro_keep_164 nl Ln xs (d + 1) this x1 x2 x3 x5 x6 x7 (am_fR σ2 13057 this) x6 w9 σ2 F) : c_Ro_keep_143 nl Ln xs (d + 1) this x1 x2 x3 x5 x6 x7 y0 y1 y2 σ F := by
  obtain ⟨j143, j144, j145, j148, j150, j151, j153, j156, j157, j158, j159, j160, j163, -⟩ := P_Ro_keep_143 nl Ln xs
  unfold c_Ro_keep_143
  obtain ⟨ho1, h⟩ := h
  refine s_iastore j143 rfl ho1 (fun σ2 e3 => ?_)
  replace h := h σ2 e3
  have ek4 : am_kd σ2 = am_kd σ := by rw [e3]
  refine s_aload_n j144 rfl rfl ?_
  obtain ⟨ho5, h⟩ := h
  refine s_gfR j145 rfl ho5 ?_
  refine s_iload j148 rfl rfl ?_
  refine s_iload_n j150 rfl rfl ?_
  refine s_bipush j151 rfl kc_bi_16 ?_
  obtain ⟨ho7, h⟩ := h
  have K8 : ∀ (w9 : Int32), w9 = (if x1 = (16 : Int32) then (am_aL σ2 (x2.getD 0) (5 : Int32).toNatClampNeg).toInt32 else (0 : Int32)) → am_C (TT nl Ln xs) (d + 1) 264 164 [some (am_ov (some this)), some (.int x1), some (am_ov x2), some (.long x3), none, some (.int x5), some (.int x6), some (.int x7)] [.int w9, .int x6, am_ov (am_fR σ2 13057 this)] σ2 (am_qV F) := by
    intro w9 hw10
    replace h := h w9 hw10
    exact h
  refine s_icn j153 rfl rfl am_cc_ne (fun hc6 => ?_) (fun hc6 => ?_)
  · refine s_iconst j163 rfl kc_ic_0 ?_
    exact K8 _ (am_t2 hc6 rfl)
  · refine s_aload_n j156 rfl rfl ?_
    refine s_iconst j157 rfl kc_ic_5 ?_
    refine s_laload j158 rfl (ho7 hc6) ?_
    refine s_g j159 rfl rfl rfl rfl rfl rfl ?_
    refine s_goto j160 rfl rfl ?_
    exact K8 _ (am_t1 hc6 rfl)
theorem P_Ro_keep_164 (nl : Bool) (Ln : Nat) (xs : Nat → Int32) : am_Jl (TT nl Ln xs) 264 [(164, .iastore, 165, []), (165, .aload_n 0, 166, []), (166, .getfield 159, 169, [9, 13, 58, 2]), (169, .iload 6, 171, []), (171, .iload_n 1, 172, []), (172, .bipush 16, 174, []), (174, .if_icmp .ne 9, 177, []), (177, .aload_n 2, 178, []), (178, .iconst 4, 179, []), (179, .laload, 180, []), (180, .goto 33, 183, []), (183, .iload 7, 185, []), (185, .ifCond .eq 9, 188, []), (188, .aload_n 2, 189, []), (189, .iconst 3, 190, []), (190, .laload, 191, []), (191, .goto 22, 194, []), (194, .iload_n 1, 195, []), (195, .bipush 14, 197, []), (197, .if_icmp .eq 9, 200, []), (200, .iload_n 1, 201, []), (201, .bipush 15, 203, []), (203, .if_icmp .ne 7, 206, []), (206, .lconst 0, 207, []), (207, .goto 6, 210, []), (210, .aload_n 2, 211, []), (211, .iconst 2, 212, []), (212, .laload, 213, []), (213, .lastore, 214, []), (214, .return_, 215, [0])] := dk_ck (by decide +kernel)
set_option maxRecDepth 4096 in
theorem w_Ro_keep_164 {nl : Bool} {Ln : Nat} {xs : Nat → Int32} {d : Nat} {this : Nat} {x1 : Int32} {x2 : Option Nat} {x3 : Int64} {x5 : Int32} {x6 : Int32} {x7 : Int32} {y0 : Option Nat} {y1 : Int32} {y2 : Int32} {σ : am_S} {F : am_S → Prop} (h : (am_ar σ 1000 y0 y1) ∧ ∀ σ2, σ2 = am_saI σ (y0.getD 0) y1.toNatClampNeg y2 → (am_is σ2 (some this) 13) ∧ ((x1 = (16 : Int32)) → am_ar σ2 1001 x2 (4 : Int32)) ∧ (¬ (x1 = (16 : Int32)) → (x7 = 0) → ¬ (x1 = (14 : Int32)) → ¬ (x1 = (15 : Int32)) → am_ar σ2 1001 x2 (2 : Int32)) ∧ (¬ (x1 = (16 : Int32)) → ¬ (x7 = 0) → am_ar σ2 1001 x2 (3 : Int32)) ∧ ∀ w14 : Int64, w14 = (if x1 = (16 : Int32) then (am_aL σ2 (x2.getD 0) (4 : Int32).toNatClampNeg) else (if x7 = 0 then (if x1 = (14 : Int32) then (0 : Int64) else (if x1 = (15 : Int32) then (0 : Int64) else (am_aL σ2 (x2.getD 0) (2 : Int32).toNatClampNeg))) else (am_aL σ2 (x2.getD 0) (3 : Int32).toNatClampNeg))) → (am_ar σ2 1001 (am_fR σ2 13058 this) x6) ∧ ∀ σ17, σ17 = am_saL σ2 ((am_fR σ2 13058 this).getD 0) x6.toNatClampNeg w14 → F σ17) : c_Ro_keep_164 nl Ln xs (d + 1) this x1 x2 x3 x5 x6 x7 y0 y1 y2 σ F := by
  obtain ⟨j164, j165, j166, j169, j171, j172, j174, j177, j178, j179, j180, j183, j185, j188, j189, j190, j191, j194, j195, j197, j200, j201, j203, j206, j207, j210, j211, j212, j213, j214, -⟩ := P_Ro_keep_164 nl Ln xs
  unfold c_Ro_keep_164
  obtain ⟨ho1, h⟩ := h
  refine s_iastore j164 rfl ho1 (fun σ2 e3 => ?_)
  replace h := h σ2 e3
  have ek4 : am_kd σ2 = am_kd σ := by rw [e3]
  refine s_aload_n j165 rfl rfl ?_
  obtain ⟨ho5, h⟩ := h
  refine s_gfR j166 rfl ho5 ?_
  refine s_iload j169 rfl rfl ?_
  refine s_iload_n j171 rfl rfl ?_
  refine s_bipush j172 rfl kc_bi_16 ?_
  obtain ⟨ho7, h⟩ := h
  obtain ⟨ho11, h⟩ := h
  obtain ⟨ho12, h⟩ := h
  have K13 : ∀ (w14 : Int64), w14 = (if x1 = (16 : Int32) then (am_aL σ2 (x2.getD 0) (4 : Int32).toNatClampNeg) else (if x7 = 0 then (if x1 = (14 : Int32) then (0 : Int64) else (if x1 = (15 : Int32) then (0 : Int64) else (am_aL σ2 (x2.getD 0) (2 : Int32).toNatClampNeg))) else (am_aL σ2 (x2.getD 0) (3 : Int32).toNatClampNeg))) → am_C (TT nl Ln xs) (d + 1) 264 213 [some (am_ov (some this)), some (.int x1), some (am_ov x2), some (.long x3), none, some (.int x5), some (.int x6), some (.int x7)] [.long w14, .int x6, am_ov (am_fR σ2 13058 this)] σ2 (am_qV F) := by
    intro w14 hw15
    replace h := h w14 hw15
    obtain ⟨ho16, h⟩ := h
    refine s_lastore j213 rfl ho16 (fun σ17 e18 => ?_)
    replace h := h σ17 e18
    have ek19 : am_kd σ17 = am_kd σ2 := by rw [e18]
    exact s_retV j214 rfl h
  refine s_icn j174 rfl rfl am_cc_ne (fun hc6 => ?_) (fun hc6 => ?_)
  · refine s_iload j183 rfl rfl ?_
    refine s_if j185 rfl rfl am_cc_eq (fun hc8 => ?_) (fun hc8 => ?_)
    · refine s_iload_n j194 rfl rfl ?_
      refine s_bipush j195 rfl kc_bi_14 ?_
      refine s_ic j197 rfl rfl am_cc_eq (fun hc9 => ?_) (fun hc9 => ?_)
      · refine s_lconst j206 rfl rfl ?_
        refine s_goto j207 rfl rfl ?_
        exact K13 _ (am_t2 hc6 (am_t1 hc8 (am_t1 hc9 rfl)))
      · refine s_iload_n j200 rfl rfl ?_
        refine s_bipush j201 rfl kc_bi_15 ?_
        refine s_icn j203 rfl rfl am_cc_ne (fun hc10 => ?_) (fun hc10 => ?_)
        · refine s_aload_n j210 rfl rfl ?_
          refine s_iconst j211 rfl kc_ic_2 ?_
          refine s_laload j212 rfl (ho11 hc6 hc8 hc9 hc10) ?_
          exact K13 _ (am_t2 hc6 (am_t1 hc8 (am_t2 hc9 (am_t2 hc10 rfl))))
        · refine s_lconst j206 rfl rfl ?_
          refine s_goto j207 rfl rfl ?_
          exact K13 _ (am_t2 hc6 (am_t1 hc8 (am_t2 hc9 (am_t1 hc10 rfl))))
    · refine s_aload_n j188 rfl rfl ?_
      refine s_iconst j189 rfl kc_ic_3 ?_
      refine s_laload j190 rfl (ho12 hc6 hc8) ?_
      refine s_goto j191 rfl rfl ?_
      exact K13 _ (am_t2 hc6 (am_t2 hc8 rfl))
  · refine s_aload_n j177 rfl rfl ?_
    refine s_iconst j178 rfl kc_ic_4 ?_
    refine s_laload j179 rfl (ho7 hc6) ?_
    refine s_goto j180 rfl rfl ?_
    exact K13 _ (am_t1 hc6 rfl)
theorem P_Ro_done (nl : Bool) (Ln : Nat) (xs : Nat → Int32) : am_Jl (TT nl Ln xs) 265 [(0, .aload_n 0, 1, []), (1, .dup, 2, []), (2, .getfield 206, 5, [9, 13, 0, 0]), (5, .iconst 1, 6, []), (6, .iadd, 7, []), (7, .putfield 206, 10, [9, 13, 0, 0]), (10, .aload_n 0, 11, []), (11, .iload_n 1, 12, []), (12, .aload_n 2, 13, []), (13, .invokevirtual 499, 16, [10, 203, 14, 5, 3]), (16, .iload_n 3, 17, []), (17, .ireturn, 18, [1])] := dk_ck (by decide +kernel)
set_option maxRecDepth 4096 in
theorem w_Ro_done {nl : Bool} {Ln : Nat} {xs : Nat → Int32} {d : Nat} {this : Nat} {p0 : Int32} {p1 : Option Nat} {p2 : Int32} {σ : am_S} {F : Int32 → am_S → Prop} (h : (am_is σ (some this) 13) ∧ ∀ σ2, σ2 = am_sfI σ 13000 this ((am_fI σ 13000 this) + (1 : Int32)) → k_Ro_note nl Ln xs d this p0 p1 σ2 (fun σ5 => am_ext σ2 σ5 → F p2 σ5)) : k_Ro_done nl Ln xs (d + 1) this p0 p1 p2 σ F := by
  obtain ⟨j0, j1, j2, j5, j6, j7, j10, j11, j12, j13, j16, j17, -⟩ := P_Ro_done nl Ln xs
  have elo : am_lo 4 [am_ov (some this), .int p0, am_ov p1, .int p2] = [some (am_ov (some this)), some (.int p0), some (am_ov p1), some (.int p2)] := by simp only [am_lo, am_in_ov, am_in_int, am_in_long, am_in_nil]; rfl
  unfold k_Ro_done
  rw [elo]
  refine s_aload_n j0 rfl rfl ?_
  refine s_dup j1 rfl (am_cov _) ?_
  obtain ⟨ho1, h⟩ := h
  refine s_gfI j2 rfl ho1 ?_
  refine s_iconst j5 rfl kc_ic_1 ?_
  refine s_g j6 rfl rfl rfl rfl rfl rfl ?_
  refine s_pfI j7 rfl ho1 (fun σ2 e3 => ?_)
  replace h := h σ2 e3
  have ek4 : am_kd σ2 = am_kd σ := by rw [e3]
  refine s_aload_n j10 rfl rfl ?_
  refine s_iload_n j11 rfl rfl ?_
  refine s_aload_n j12 rfl rfl ?_
  refine s_virt j13 rfl rfl rfl rfl (am_is_kd ek4 ho1) (by decide) (in_Ro_note _ _ _) (am_r8 rfl) (am_bV h (fun σ5 h hx5 => ?_))
  replace h := h hx5
  refine s_iload_n j16 rfl rfl ?_
  exact s_retI j17 rfl h
theorem P_Ro_person (nl : Bool) (Ln : Nat) (xs : Nat → Int32) : am_Jl (TT nl Ln xs) 266 [(0, .aload_n 0, 1, []), (1, .getfield 210, 4, [9, 13, 1, 0]), (4, .bipush 100, 6, []), (6, .if_icmp .ne 6, 9, []), (9, .bipush (-7), 11, []), (11, .ireturn, 12, [1]), (12, .aload_n 0, 13, []), (13, .dup, 14, []), (14, .getfield 210, 17, [9, 13, 1, 0]), (17, .iconst 1, 18, []), (18, .iadd, 19, []), (19, .putfield 210, 22, [9, 13, 1, 0]), (22, .aload_n 0, 23, []), (23, .iconst 1, 24, []), (24, .aload_n 1, 25, []), (25, .aload_n 0, 26, []), (26, .getfield 210, 29, [9, 13, 1, 0]), (29, .iconst 1, 30, []), (30, .isub, 31, []), (31, .invokevirtual 503, 34, [10, 265, 14, 4, 4]), (34, .ireturn, 35, [1])] := dk_ck (by decide +kernel)
set_option maxRecDepth 4096 in
theorem w_Ro_person {nl : Bool} {Ln : Nat} {xs : Nat → Int32} {d : Nat} {this : Nat} {p0 : Option Nat} {σ : am_S} {F : Int32 → am_S → Prop} (h : (am_is σ (some this) 13) ∧ ((am_fI σ 13001 this) = (100 : Int32) → F (-7 : Int32) σ) ∧ (¬ ((am_fI σ 13001 this) = (100 : Int32)) → ∀ σ3, σ3 = am_sfI σ 13001 this ((am_fI σ 13001 this) + (1 : Int32)) → k_Ro_done nl Ln xs d this (1 : Int32) p0 ((am_fI σ3 13001 this) - (1 : Int32)) σ3 (fun a7 σ6 => am_ext σ3 σ6 → F a7 σ6))) : k_Ro_person nl Ln xs (d + 1) this p0 σ F := by
  obtain ⟨j0, j1, j4, j6, j9, j11, j12, j13, j14, j17, j18, j19, j22, j23, j24, j25, j26, j29, j30, j31, j34, -⟩ := P_Ro_person nl Ln xs
  have elo : am_lo 2 [am_ov (some this), am_ov p0] = [some (am_ov (some this)), some (am_ov p0)] := by simp only [am_lo, am_in_ov, am_in_int, am_in_long, am_in_nil]; rfl
  unfold k_Ro_person
  rw [elo]
  refine s_aload_n j0 rfl rfl ?_
  obtain ⟨ho1, h⟩ := h
  refine s_gfI j1 rfl ho1 ?_
  refine s_bipush j4 rfl kc_bi_100 ?_
  refine s_icn j6 rfl rfl am_cc_ne (fun hc2 => ?_) (fun hc2 => ?_)
  · replace h := h.2 hc2
    refine s_aload_n j12 rfl rfl ?_
    refine s_dup j13 rfl (am_cov _) ?_
    refine s_gfI j14 rfl ho1 ?_
    refine s_iconst j17 rfl kc_ic_1 ?_
    refine s_g j18 rfl rfl rfl rfl rfl rfl ?_
    refine s_pfI j19 rfl ho1 (fun σ3 e4 => ?_)
    replace h := h σ3 e4
    have ek5 : am_kd σ3 = am_kd σ := by rw [e4]
    refine s_aload_n j22 rfl rfl ?_
    refine s_iconst j23 rfl kc_ic_1 ?_
    refine s_aload_n j24 rfl rfl ?_
    refine s_aload_n j25 rfl rfl ?_
    refine s_gfI j26 rfl (am_is_kd ek5 ho1) ?_
    refine s_iconst j29 rfl kc_ic_1 ?_
    refine s_g j30 rfl rfl rfl rfl rfl rfl ?_
    refine s_virt j31 rfl rfl rfl rfl (am_is_kd ek5 ho1) (by decide) (in_Ro_done _ _ _ _) (am_r8 rfl) (am_bI h (fun a7 σ6 h hx6 => ?_))
    replace h := h hx6
    exact s_retI j34 rfl h
  · replace h := h.1 hc2
    refine s_bipush j9 rfl kc_bi_m7 ?_
    exact s_retI j11 rfl h
theorem P_Ro_rankTold (nl : Bool) (Ln : Nat) (xs : Nat → Int32) : am_Jl (TT nl Ln xs) 267 [(0, .aload_n 1, 1, []), (1, .iconst 0, 2, []), (2, .laload, 3, []), (3, .lconst 0, 4, []), (4, .ldc2_w 507, 7, [6, 5]), (7, .invokestatic 364, 10, [12, 209, 6, 3]), (10, .ifCond .eq 16, 13, []), (13, .aload_n 1, 14, []), (14, .iconst 1, 15, []), (15, .laload, 16, []), (16, .lconst 0, 17, []), (17, .ldc2_w 509, 20, [6, 9]), (20, .invokestatic 364, 23, [12, 209, 6, 3]), (23, .ifCond .ne 6, 26, []), (26, .bipush (-2), 28, []), (28, .ireturn, 29, [1]), (29, .aload_n 0, 30, []), (30, .getfield 216, 33, [9, 13, 6, 0]), (33, .bipush 60, 35, []), (35, .if_icmp .ne 6, 38, []), (38, .bipush (-7), 40, []), (40, .ireturn, 41, [1]), (41, .aload_n 0, 42, []), (42, .getfield 25, 45, [9, 13, 7, 2]), (45, .aload_n 0, 46, []), (46, .getfield 216, 49, [9, 13, 6, 0]), (49, .aload_n 1, 50, []), (50, .iconst 0, 51, []), (51, .laload, 52, []), (52, .l2i, 53, []), (53, .iastore, 54, []), (54, .aload_n 0, 55, []), (55, .getfield 28, 58, [9, 13, 8, 2]), (58, .aload_n 0, 59, []), (59, .getfield 216, 62, [9, 13, 6, 0]), (62, .aload_n 1, 63, []), (63, .iconst 1, 64, []), (64, .laload, 65, []), (65, .l2i, 66, []), (66, .iastore, 67, []), (67, .aload_n 0, 68, []), (68, .getfield 31, 71, [9, 13, 9, 2]), (71, .aload_n 0, 72, []), (72, .getfield 216, 75, [9, 13, 6, 0]), (75, .aload_n 0, 76, []), (76, .getfield 206, 79, [9, 13, 0, 0]), (79, .iconst 1, 80, []), (80, .iadd, 81, []), (81, .iastore, 82, []), (82, .aload_n 0, 83, []), (83, .dup, 84, []), (84, .getfield 216, 87, [9, 13, 6, 0]), (87, .iconst 1, 88, []), (88, .iadd, 89, []), (89, .putfield 216, 92, [9, 13, 6, 0]), (92, .aload_n 0, 93, []), (93, .iconst 2, 94, []), (94, .aload_n 1, 95, []), (95, .iconst 1, 96, []), (96, .invokevirtual 503, 99, [10, 265, 14, 4, 4]), (99, .ireturn, 100, [1])] := dk_ck (by decide +kernel)
set_option maxRecDepth 4096 in
theorem w_Ro_rankTold {nl : Bool} {Ln : Nat} {xs : Nat → Int32} {d : Nat} {this : Nat} {p0 : Option Nat} {σ : am_S} {F : Int32 → am_S → Prop} (h : (am_ar σ 1001 p0 (0 : Int32)) ∧ k_Rm_in nl Ln xs d (am_aL σ (p0.getD 0) (0 : Int32).toNatClampNeg) (0 : Int64) (5 : Int64) σ (fun a3 σ2 => am_ext σ σ2 → (a3 = true → (am_ar σ2 1001 p0 (1 : Int32)) ∧ k_Rm_in nl Ln xs d (am_aL σ2 (p0.getD 0) (1 : Int32).toNatClampNeg) (0 : Int64) (9 : Int64) σ2 (fun a7 σ6 => am_ext σ2 σ6 → (a7 = true → (am_is σ6 (some this) 13) ∧ ((am_fI σ6 13006 this) = (60 : Int32) → F (-7 : Int32) σ6) ∧ (¬ ((am_fI σ6 13006 this) = (60 : Int32)) → (am_ar σ6 1001 p0 (0 : Int32)) ∧ (am_ar σ6 1000 (am_fR σ6 13007 this) (am_fI σ6 13006 this)) ∧ ∀ σ13, σ13 = am_saI σ6 ((am_fR σ6 13007 this).getD 0) (am_fI σ6 13006 this).toNatClampNeg ((am_aL σ6 (p0.getD 0) (0 : Int32).toNatClampNeg).toInt32) → (am_ar σ13 1001 p0 (1 : Int32)) ∧ (am_ar σ13 1000 (am_fR σ13 13008 this) (am_fI σ13 13006 this)) ∧ ∀ σ18, σ18 = am_saI σ13 ((am_fR σ13 13008 this).getD 0) (am_fI σ13 13006 this).toNatClampNeg ((am_aL σ13 (p0.getD 0) (1 : Int32).toNatClampNeg).toInt32) → (am_ar σ18 1000 (am_fR σ18 13009 this) (am_fI σ18 13006 this)) ∧ ∀ σ22, σ22 = am_saI σ18 ((am_fR σ18 13009 this).getD 0) (am_fI σ18 13006 this).toNatClampNeg ((am_fI σ18 13000 this) + (1 : Int32)) → ∀ σ25, σ25 = am_sfI σ22 13006 this ((am_fI σ22 13006 this) + (1 : Int32)) → k_Ro_done nl Ln xs d this (2 : Int32) p0 (1 : Int32) σ25 (fun a29 σ28 => am_ext σ25 σ28 → F a29 σ28))) ∧ (¬ (a7 = true) → F (-2 : Int32) σ6))) ∧ (¬ (a3 = true) → F (-2 : Int32) σ2))) : k_Ro_rankTold nl Ln xs (d + 1) this p0 σ F := by
  obtain ⟨j0, j1, j2, j3, j4, j7, j10, j13, j14, j15, j16, j17, j20, j23, j26, j28, j29, j30, j33, j35, j38, j40, j41, j42, j45, j46, j49, j50, j51, j52, j53, j54, j55, j58, j59, j62, j63, j64, j65, j66, j67, j68, j71, j72, j75, j76, j79, j80, j81, j82, j83, j84, j87, j88, j89, j92, j93, j94, j95, j96, j99, -⟩ := P_Ro_rankTold nl Ln xs
  have elo : am_lo 2 [am_ov (some this), am_ov p0] = [some (am_ov (some this)), some (am_ov p0)] := by simp only [am_lo, am_in_ov, am_in_int, am_in_long, am_in_nil]; rfl
  unfold k_Ro_rankTold
  rw [elo]
  refine s_aload_n j0 rfl rfl ?_
  refine s_iconst j1 rfl kc_ic_0 ?_
  obtain ⟨ho1, h⟩ := h
  refine s_laload j2 rfl ho1 ?_
  refine s_lconst j3 rfl rfl ?_
  refine s_ldc2 j4 rfl kc_ll_5 ?_
  refine s_stat j7 rfl rfl rfl rfl (by decide) (in_Rm_in _ _ _) (am_r8 rfl) (am_bB h (fun a3 σ2 h hx2 => ?_))
  replace h := h hx2
  refine s_ifn j10 rfl rfl am_cb_eq (fun hc4 => ?_) (fun hc4 => ?_)
  · replace h := h.2 hc4
    refine s_bipush j26 rfl kc_bi_m2 ?_
    exact s_retI j28 rfl h
  · replace h := h.1 hc4
    refine s_aload_n j13 rfl rfl ?_
    refine s_iconst j14 rfl kc_ic_1 ?_
    obtain ⟨ho5, h⟩ := h
    refine s_laload j15 rfl ho5 ?_
    refine s_lconst j16 rfl rfl ?_
    refine s_ldc2 j17 rfl kc_ll_9 ?_
    refine s_stat j20 rfl rfl rfl rfl (by decide) (in_Rm_in _ _ _) (am_r8 rfl) (am_bB h (fun a7 σ6 h hx6 => ?_))
    replace h := h hx6
    refine s_if j23 rfl rfl am_cb_ne (fun hc8 => ?_) (fun hc8 => ?_)
    · replace h := h.1 hc8
      refine s_aload_n j29 rfl rfl ?_
      obtain ⟨ho9, h⟩ := h
      refine s_gfI j30 rfl ho9 ?_
      refine s_bipush j33 rfl kc_bi_60 ?_
      refine s_icn j35 rfl rfl am_cc_ne (fun hc10 => ?_) (fun hc10 => ?_)
      · replace h := h.2 hc10
        refine s_aload_n j41 rfl rfl ?_
        refine s_gfR j42 rfl ho9 ?_
        refine s_aload_n j45 rfl rfl ?_
        refine s_gfI j46 rfl ho9 ?_
        refine s_aload_n j49 rfl rfl ?_
        refine s_iconst j50 rfl kc_ic_0 ?_
        obtain ⟨ho11, h⟩ := h
        refine s_laload j51 rfl ho11 ?_
        refine s_g j52 rfl rfl rfl rfl rfl rfl ?_
        obtain ⟨ho12, h⟩ := h
        refine s_iastore j53 rfl ho12 (fun σ13 e14 => ?_)
        replace h := h σ13 e14
        have ek15 : am_kd σ13 = am_kd σ6 := by rw [e14]
        refine s_aload_n j54 rfl rfl ?_
        refine s_gfR j55 rfl (am_is_kd ek15 ho9) ?_
        refine s_aload_n j58 rfl rfl ?_
        refine s_gfI j59 rfl (am_is_kd ek15 ho9) ?_
        refine s_aload_n j62 rfl rfl ?_
        refine s_iconst j63 rfl kc_ic_1 ?_
        obtain ⟨ho16, h⟩ := h
        refine s_laload j64 rfl ho16 ?_
        refine s_g j65 rfl rfl rfl rfl rfl rfl ?_
        obtain ⟨ho17, h⟩ := h
        refine s_iastore j66 rfl ho17 (fun σ18 e19 => ?_)
        replace h := h σ18 e19
        have ek20 : am_kd σ18 = am_kd σ13 := by rw [e19]
        refine s_aload_n j67 rfl rfl ?_
        refine s_gfR j68 rfl (am_is_kd ek20 (am_is_kd ek15 ho9)) ?_
        refine s_aload_n j71 rfl rfl ?_
        refine s_gfI j72 rfl (am_is_kd ek20 (am_is_kd ek15 ho9)) ?_
        refine s_aload_n j75 rfl rfl ?_
        refine s_gfI j76 rfl (am_is_kd ek20 (am_is_kd ek15 ho9)) ?_
        refine s_iconst j79 rfl kc_ic_1 ?_
        refine s_g j80 rfl rfl rfl rfl rfl rfl ?_
        obtain ⟨ho21, h⟩ := h
        refine s_iastore j81 rfl ho21 (fun σ22 e23 => ?_)
        replace h := h σ22 e23
        have ek24 : am_kd σ22 = am_kd σ18 := by rw [e23]
        refine s_aload_n j82 rfl rfl ?_
        refine s_dup j83 rfl (am_cov _) ?_
        refine s_gfI j84 rfl (am_is_kd ek24 (am_is_kd ek20 (am_is_kd ek15 ho9))) ?_
        refine s_iconst j87 rfl kc_ic_1 ?_
        refine s_g j88 rfl rfl rfl rfl rfl rfl ?_
        refine s_pfI j89 rfl (am_is_kd ek24 (am_is_kd ek20 (am_is_kd ek15 ho9))) (fun σ25 e26 => ?_)
        replace h := h σ25 e26
        have ek27 : am_kd σ25 = am_kd σ22 := by rw [e26]
        refine s_aload_n j92 rfl rfl ?_
        refine s_iconst j93 rfl kc_ic_2 ?_
        refine s_aload_n j94 rfl rfl ?_
        refine s_iconst j95 rfl kc_ic_1 ?_
        refine s_virt j96 rfl rfl rfl rfl (am_is_kd ek27 (am_is_kd ek24 (am_is_kd ek20 (am_is_kd ek15 ho9)))) (by decide) (in_Ro_done _ _ _ _) (am_r8 rfl) (am_bI h (fun a29 σ28 h hx28 => ?_))
        replace h := h hx28
        exact s_retI j99 rfl h
      · replace h := h.1 hc10
        refine s_bipush j38 rfl kc_bi_m7 ?_
        exact s_retI j40 rfl h
    · replace h := h.2 hc8
      refine s_bipush j26 rfl kc_bi_m2 ?_
      exact s_retI j28 rfl h
theorem P_Ro_policy (nl : Bool) (Ln : Nat) (xs : Nat → Int32) : am_Jl (TT nl Ln xs) 268 [(0, .aload_n 1, 1, []), (1, .iconst 0, 2, []), (2, .laload, 3, []), (3, .lconst 0, 4, []), (4, .ldc2_w 511, 7, [6, 6]), (7, .invokestatic 364, 10, [12, 209, 6, 3]), (10, .ifCond .eq 48, 13, []), (13, .aload_n 1, 14, []), (14, .iconst 1, 15, []), (15, .laload, 16, []), (16, .lconst 0, 17, []), (17, .aload_n 0, 18, []), (18, .getfield 210, 21, [9, 13, 1, 0]), (21, .iconst 1, 22, []), (22, .isub, 23, []), (23, .i2l, 24, []), (24, .invokestatic 364, 27, [12, 209, 6, 3]), (27, .ifCond .eq 31, 30, []), (30, .aload_n 1, 31, []), (31, .iconst 2, 32, []), (32, .laload, 33, []), (33, .lconst 0, 34, []), (34, .ldc2_w 513, 37, [6, 10949]), (37, .invokestatic 364, 40, [12, 209, 6, 3]), (40, .ifCond .eq 18, 43, []), (43, .aload_n 1, 44, []), (44, .iconst 3, 45, []), (45, .laload, 46, []), (46, .aload_n 1, 47, []), (47, .iconst 2, 48, []), (48, .laload, 49, []), (49, .ldc2_w 513, 52, [6, 10949]), (52, .invokestatic 364, 55, [12, 209, 6, 3]), (55, .ifCond .ne 6, 58, []), (58, .bipush (-2), 60, []), (60, .ireturn, 61, [1]), (61, .aload_n 0, 62, []), (62, .getfield 213, 65, [9, 13, 2, 0]), (65, .bipush 100, 67, []), (67, .if_icmp .ne 6, 70, []), (70, .bipush (-7), 72, []), (72, .ireturn, 73, [1]), (73, .aload_n 0, 74, []), (74, .getfield 15, 77, [9, 13, 3, 2]), (77, .aload_n 0, 78, []), (78, .getfield 213, 81, [9, 13, 2, 0]), (81, .aload_n 1, 82, []), (82, .iconst 0, 83, []), (83, .laload, 84, []), (84, .l2i, 85, []), (85, .iastore, 86, []), (86, .aload_n 0, 87, []), (87, .getfield 19, 90, [9, 13, 4, 2]), (90, .aload_n 0, 91, []), (91, .getfield 213, 94, [9, 13, 2, 0]), (94, .aload_n 1, 95, []), (95, .iconst 2, 96, []), (96, .laload, 97, []), (97, .l2i, 98, []), (98, .iastore, 99, []), (99, .aload_n 0, 100, []), (100, .getfield 22, 103, [9, 13, 5, 2]), (103, .aload_n 0, 104, []), (104, .getfield 213, 107, [9, 13, 2, 0]), (107, .aload_n 1, 108, []), (108, .iconst 3, 109, []), (109, .laload, 110, []), (110, .l2i, 111, []), (111, .iastore, 112, []), (112, .aload_n 0, 113, []), (113, .dup, 114, []), (114, .getfield 213, 117, [9, 13, 2, 0]), (117, .iconst 1, 118, []), (118, .iadd, 119, []), (119, .putfield 213, 122, [9, 13, 2, 0]), (122, .aload_n 0, 123, []), (123, .iconst 3, 124, []), (124, .aload_n 1, 125, []), (125, .aload_n 0, 126, []), (126, .getfield 213, 129, [9, 13, 2, 0]), (129, .iconst 1, 130, []), (130, .isub, 131, []), (131, .invokevirtual 503, 134, [10, 265, 14, 4, 4]), (134, .ireturn, 135, [1])] := dk_ck (by decide +kernel)
set_option maxRecDepth 4096 in
theorem w_Ro_policy {nl : Bool} {Ln : Nat} {xs : Nat → Int32} {d : Nat} {this : Nat} {p0 : Option Nat} {σ : am_S} {F : Int32 → am_S → Prop} (h : (am_ar σ 1001 p0 (0 : Int32)) ∧ k_Rm_in nl Ln xs d (am_aL σ (p0.getD 0) (0 : Int32).toNatClampNeg) (0 : Int64) (6 : Int64) σ (fun a3 σ2 => am_ext σ σ2 → (a3 = true → (am_ar σ2 1001 p0 (1 : Int32)) ∧ (am_is σ2 (some this) 13) ∧ k_Rm_in nl Ln xs d (am_aL σ2 (p0.getD 0) (1 : Int32).toNatClampNeg) (0 : Int64) (((am_fI σ2 13001 this) - (1 : Int32)).toInt64) σ2 (fun a8 σ7 => am_ext σ2 σ7 → (a8 = true → (am_ar σ7 1001 p0 (2 : Int32)) ∧ k_Rm_in nl Ln xs d (am_aL σ7 (p0.getD 0) (2 : Int32).toNatClampNeg) (0 : Int64) (10949 : Int64) σ7 (fun a12 σ11 => am_ext σ7 σ11 → (a12 = true → (am_ar σ11 1001 p0 (3 : Int32)) ∧ (am_ar σ11 1001 p0 (2 : Int32)) ∧ k_Rm_in nl Ln xs d (am_aL σ11 (p0.getD 0) (3 : Int32).toNatClampNeg) (am_aL σ11 (p0.getD 0) (2 : Int32).toNatClampNeg) (10949 : Int64) σ11 (fun a17 σ16 => am_ext σ11 σ16 → (a17 = true → ((am_fI σ16 13002 this) = (100 : Int32) → F (-7 : Int32) σ16) ∧ (¬ ((am_fI σ16 13002 this) = (100 : Int32)) → (am_ar σ16 1001 p0 (0 : Int32)) ∧ (am_ar σ16 1000 (am_fR σ16 13003 this) (am_fI σ16 13002 this)) ∧ ∀ σ22, σ22 = am_saI σ16 ((am_fR σ16 13003 this).getD 0) (am_fI σ16 13002 this).toNatClampNeg ((am_aL σ16 (p0.getD 0) (0 : Int32).toNatClampNeg).toInt32) → (am_ar σ22 1001 p0 (2 : Int32)) ∧ (am_ar σ22 1000 (am_fR σ22 13004 this) (am_fI σ22 13002 this)) ∧ ∀ σ27, σ27 = am_saI σ22 ((am_fR σ22 13004 this).getD 0) (am_fI σ22 13002 this).toNatClampNeg ((am_aL σ22 (p0.getD 0) (2 : Int32).toNatClampNeg).toInt32) → (am_ar σ27 1001 p0 (3 : Int32)) ∧ (am_ar σ27 1000 (am_fR σ27 13005 this) (am_fI σ27 13002 this)) ∧ ∀ σ32, σ32 = am_saI σ27 ((am_fR σ27 13005 this).getD 0) (am_fI σ27 13002 this).toNatClampNeg ((am_aL σ27 (p0.getD 0) (3 : Int32).toNatClampNeg).toInt32) → ∀ σ35, σ35 = am_sfI σ32 13002 this ((am_fI σ32 13002 this) + (1 : Int32)) → k_Ro_done nl Ln xs d this (3 : Int32) p0 ((am_fI σ35 13002 this) - (1 : Int32)) σ35 (fun a39 σ38 => am_ext σ35 σ38 → F a39 σ38))) ∧ (¬ (a17 = true) → F (-2 : Int32) σ16))) ∧ (¬ (a12 = true) → F (-2 : Int32) σ11))) ∧ (¬ (a8 = true) → F (-2 : Int32) σ7))) ∧ (¬ (a3 = true) → F (-2 : Int32) σ2))) : k_Ro_policy nl Ln xs (d + 1) this p0 σ F := by
  obtain ⟨j0, j1, j2, j3, j4, j7, j10, j13, j14, j15, j16, j17, j18, j21, j22, j23, j24, j27, j30, j31, j32, j33, j34, j37, j40, j43, j44, j45, j46, j47, j48, j49, j52, j55, j58, j60, j61, j62, j65, j67, j70, j72, j73, j74, j77, j78, j81, j82, j83, j84, j85, j86, j87, j90, j91, j94, j95, j96, j97, j98, j99, j100, j103, j104, j107, j108, j109, j110, j111, j112, j113, j114, j117, j118, j119, j122, j123, j124, j125, j126, j129, j130, j131, j134, -⟩ := P_Ro_policy nl Ln xs
  have elo : am_lo 2 [am_ov (some this), am_ov p0] = [some (am_ov (some this)), some (am_ov p0)] := by simp only [am_lo, am_in_ov, am_in_int, am_in_long, am_in_nil]; rfl
  unfold k_Ro_policy
  rw [elo]
  refine s_aload_n j0 rfl rfl ?_
  refine s_iconst j1 rfl kc_ic_0 ?_
  obtain ⟨ho1, h⟩ := h
  refine s_laload j2 rfl ho1 ?_
  refine s_lconst j3 rfl rfl ?_
  refine s_ldc2 j4 rfl kc_ll_6 ?_
  refine s_stat j7 rfl rfl rfl rfl (by decide) (in_Rm_in _ _ _) (am_r8 rfl) (am_bB h (fun a3 σ2 h hx2 => ?_))
  replace h := h hx2
  refine s_ifn j10 rfl rfl am_cb_eq (fun hc4 => ?_) (fun hc4 => ?_)
  · replace h := h.2 hc4
    refine s_bipush j58 rfl kc_bi_m2 ?_
    exact s_retI j60 rfl h
  · replace h := h.1 hc4
    refine s_aload_n j13 rfl rfl ?_
    refine s_iconst j14 rfl kc_ic_1 ?_
    obtain ⟨ho5, h⟩ := h
    refine s_laload j15 rfl ho5 ?_
    refine s_lconst j16 rfl rfl ?_
    refine s_aload_n j17 rfl rfl ?_
    obtain ⟨ho6, h⟩ := h
    refine s_gfI j18 rfl ho6 ?_
    refine s_iconst j21 rfl kc_ic_1 ?_
    refine s_g j22 rfl rfl rfl rfl rfl rfl ?_
    refine s_g j23 rfl rfl rfl rfl rfl rfl ?_
    refine s_stat j24 rfl rfl rfl rfl (by decide) (in_Rm_in _ _ _) (am_r8 rfl) (am_bB h (fun a8 σ7 h hx7 => ?_))
    replace h := h hx7
    refine s_ifn j27 rfl rfl am_cb_eq (fun hc9 => ?_) (fun hc9 => ?_)
    · replace h := h.2 hc9
      refine s_bipush j58 rfl kc_bi_m2 ?_
      exact s_retI j60 rfl h
    · replace h := h.1 hc9
      refine s_aload_n j30 rfl rfl ?_
      refine s_iconst j31 rfl kc_ic_2 ?_
      obtain ⟨ho10, h⟩ := h
      refine s_laload j32 rfl ho10 ?_
      refine s_lconst j33 rfl rfl ?_
      refine s_ldc2 j34 rfl kc_ll_10949 ?_
      refine s_stat j37 rfl rfl rfl rfl (by decide) (in_Rm_in _ _ _) (am_r8 rfl) (am_bB h (fun a12 σ11 h hx11 => ?_))
      replace h := h hx11
      refine s_ifn j40 rfl rfl am_cb_eq (fun hc13 => ?_) (fun hc13 => ?_)
      · replace h := h.2 hc13
        refine s_bipush j58 rfl kc_bi_m2 ?_
        exact s_retI j60 rfl h
      · replace h := h.1 hc13
        refine s_aload_n j43 rfl rfl ?_
        refine s_iconst j44 rfl kc_ic_3 ?_
        obtain ⟨ho14, h⟩ := h
        refine s_laload j45 rfl ho14 ?_
        refine s_aload_n j46 rfl rfl ?_
        refine s_iconst j47 rfl kc_ic_2 ?_
        obtain ⟨ho15, h⟩ := h
        refine s_laload j48 rfl ho15 ?_
        refine s_ldc2 j49 rfl kc_ll_10949 ?_
        refine s_stat j52 rfl rfl rfl rfl (by decide) (in_Rm_in _ _ _) (am_r8 rfl) (am_bB h (fun a17 σ16 h hx16 => ?_))
        replace h := h hx16
        refine s_if j55 rfl rfl am_cb_ne (fun hc18 => ?_) (fun hc18 => ?_)
        · replace h := h.1 hc18
          refine s_aload_n j61 rfl rfl ?_
          refine s_gfI j62 rfl (am_is_ext hx16 (am_is_ext hx11 (am_is_ext hx7 ho6))) ?_
          refine s_bipush j65 rfl kc_bi_100 ?_
          refine s_icn j67 rfl rfl am_cc_ne (fun hc19 => ?_) (fun hc19 => ?_)
          · replace h := h.2 hc19
            refine s_aload_n j73 rfl rfl ?_
            refine s_gfR j74 rfl (am_is_ext hx16 (am_is_ext hx11 (am_is_ext hx7 ho6))) ?_
            refine s_aload_n j77 rfl rfl ?_
            refine s_gfI j78 rfl (am_is_ext hx16 (am_is_ext hx11 (am_is_ext hx7 ho6))) ?_
            refine s_aload_n j81 rfl rfl ?_
            refine s_iconst j82 rfl kc_ic_0 ?_
            obtain ⟨ho20, h⟩ := h
            refine s_laload j83 rfl ho20 ?_
            refine s_g j84 rfl rfl rfl rfl rfl rfl ?_
            obtain ⟨ho21, h⟩ := h
            refine s_iastore j85 rfl ho21 (fun σ22 e23 => ?_)
            replace h := h σ22 e23
            have ek24 : am_kd σ22 = am_kd σ16 := by rw [e23]
            refine s_aload_n j86 rfl rfl ?_
            refine s_gfR j87 rfl (am_is_kd ek24 (am_is_ext hx16 (am_is_ext hx11 (am_is_ext hx7 ho6)))) ?_
            refine s_aload_n j90 rfl rfl ?_
            refine s_gfI j91 rfl (am_is_kd ek24 (am_is_ext hx16 (am_is_ext hx11 (am_is_ext hx7 ho6)))) ?_
            refine s_aload_n j94 rfl rfl ?_
            refine s_iconst j95 rfl kc_ic_2 ?_
            obtain ⟨ho25, h⟩ := h
            refine s_laload j96 rfl ho25 ?_
            refine s_g j97 rfl rfl rfl rfl rfl rfl ?_
            obtain ⟨ho26, h⟩ := h
            refine s_iastore j98 rfl ho26 (fun σ27 e28 => ?_)
            replace h := h σ27 e28
            have ek29 : am_kd σ27 = am_kd σ22 := by rw [e28]
            refine s_aload_n j99 rfl rfl ?_
            refine s_gfR j100 rfl (am_is_kd ek29 (am_is_kd ek24 (am_is_ext hx16 (am_is_ext hx11 (am_is_ext hx7 ho6))))) ?_
            refine s_aload_n j103 rfl rfl ?_
            refine s_gfI j104 rfl (am_is_kd ek29 (am_is_kd ek24 (am_is_ext hx16 (am_is_ext hx11 (am_is_ext hx7 ho6))))) ?_
            refine s_aload_n j107 rfl rfl ?_
            refine s_iconst j108 rfl kc_ic_3 ?_
            obtain ⟨ho30, h⟩ := h
            refine s_laload j109 rfl ho30 ?_
            refine s_g j110 rfl rfl rfl rfl rfl rfl ?_
            obtain ⟨ho31, h⟩ := h
            refine s_iastore j111 rfl ho31 (fun σ32 e33 => ?_)
            replace h := h σ32 e33
            have ek34 : am_kd σ32 = am_kd σ27 := by rw [e33]
            refine s_aload_n j112 rfl rfl ?_
            refine s_dup j113 rfl (am_cov _) ?_
            refine s_gfI j114 rfl (am_is_kd ek34 (am_is_kd ek29 (am_is_kd ek24 (am_is_ext hx16 (am_is_ext hx11 (am_is_ext hx7 ho6)))))) ?_
            refine s_iconst j117 rfl kc_ic_1 ?_
            refine s_g j118 rfl rfl rfl rfl rfl rfl ?_
            refine s_pfI j119 rfl (am_is_kd ek34 (am_is_kd ek29 (am_is_kd ek24 (am_is_ext hx16 (am_is_ext hx11 (am_is_ext hx7 ho6)))))) (fun σ35 e36 => ?_)
            replace h := h σ35 e36
            have ek37 : am_kd σ35 = am_kd σ32 := by rw [e36]
            refine s_aload_n j122 rfl rfl ?_
            refine s_iconst j123 rfl kc_ic_3 ?_
            refine s_aload_n j124 rfl rfl ?_
            refine s_aload_n j125 rfl rfl ?_
            refine s_gfI j126 rfl (am_is_kd ek37 (am_is_kd ek34 (am_is_kd ek29 (am_is_kd ek24 (am_is_ext hx16 (am_is_ext hx11 (am_is_ext hx7 ho6))))))) ?_
            refine s_iconst j129 rfl kc_ic_1 ?_
            refine s_g j130 rfl rfl rfl rfl rfl rfl ?_
            refine s_virt j131 rfl rfl rfl rfl (am_is_kd ek37 (am_is_kd ek34 (am_is_kd ek29 (am_is_kd ek24 (am_is_ext hx16 (am_is_ext hx11 (am_is_ext hx7 ho6))))))) (by decide) (in_Ro_done _ _ _ _) (am_r8 rfl) (am_bI h (fun a39 σ38 h hx38 => ?_))
            replace h := h hx38
            exact s_retI j134 rfl h
          · replace h := h.1 hc19
            refine s_bipush j70 rfl kc_bi_m7 ?_
            exact s_retI j72 rfl h
        · replace h := h.2 hc18
          refine s_bipush j58 rfl kc_bi_m2 ?_
          exact s_retI j60 rfl h
theorem P_Ro_bundle (nl : Bool) (Ln : Nat) (xs : Nat → Int32) : am_Jl (TT nl Ln xs) 269 [(0, .aload_n 0, 1, []), (1, .aload_n 1, 2, []), (2, .iconst 0, 3, []), (3, .laload, 4, []), (4, .invokevirtual 495, 7, [10, 270, 14, 3, 2]), (7, .ifCond .eq 46, 10, []), (10, .aload_n 0, 11, []), (11, .aload_n 1, 12, []), (12, .iconst 0, 13, []), (13, .laload, 14, []), (14, .invokevirtual 518, 17, [10, 271, 14, 3, 2]), (17, .ifCond .ne 36, 20, []), (20, .aload_n 1, 21, []), (21, .iconst 1, 22, []), (22, .laload, 23, []), (23, .lconst 0, 24, []), (24, .ldc2_w 330, 27, [6, 3]), (27, .invokestatic 364, 30, [12, 209, 6, 3]), (30, .ifCond .eq 23, 33, []), (33, .aload_n 1, 34, []), (34, .iconst 2, 35, []), (35, .laload, 36, []), (36, .ldc2_w 256, 39, [6, 18446744073709551615]), (39, .lcmp, 40, []), (40, .ifCond .eq 16, 43, []), (43, .aload_n 0, 44, []), (44, .aload_n 1, 45, []), (45, .iconst 2, 46, []), (46, .laload, 47, []), (47, .invokevirtual 495, 50, [10, 270, 14, 3, 2]), (50, .ifCond .ne 6, 53, []), (53, .bipush (-2), 55, []), (55, .ireturn, 56, [1])] := dk_ck (by decide +kernel)
set_option maxRecDepth 4096 in
theorem w_Ro_bundle {nl : Bool} {Ln : Nat} {xs : Nat → Int32} {d : Nat} {this : Nat} {p0 : Option Nat} {σ : am_S} {F : Int32 → am_S → Prop} (h : (am_ar σ 1001 p0 (0 : Int32)) ∧ (am_is σ (some this) 13) ∧ k_Ro_isPolicy nl Ln xs d this (am_aL σ (p0.getD 0) (0 : Int32).toNatClampNeg) σ (fun a4 σ3 => am_ext σ σ3 → (a4 = true → (am_ar σ3 1001 p0 (0 : Int32)) ∧ k_Ro_isCover nl Ln xs d this (am_aL σ3 (p0.getD 0) (0 : Int32).toNatClampNeg) σ3 (fun a8 σ7 => am_ext σ3 σ7 → (a8 = true → F (-2 : Int32) σ7) ∧ (¬ (a8 = true) → (am_ar σ7 1001 p0 (1 : Int32)) ∧ k_Rm_in nl Ln xs d (am_aL σ7 (p0.getD 0) (1 : Int32).toNatClampNeg) (0 : Int64) (3 : Int64) σ7 (fun a12 σ11 => am_ext σ7 σ11 → (a12 = true → (am_ar σ11 1001 p0 (2 : Int32)) ∧ ((am_aL σ11 (p0.getD 0) (2 : Int32).toNatClampNeg) = (-1 : Int64) → c_Ro_bundle_56 nl Ln xs (d + 1) this p0 σ11 F) ∧ (¬ ((am_aL σ11 (p0.getD 0) (2 : Int32).toNatClampNeg) = (-1 : Int64)) → (am_ar σ11 1001 p0 (2 : Int32)) ∧ k_Ro_isPolicy nl Ln xs d this (am_aL σ11 (p0.getD 0) (2 : Int32).toNatClampNeg) σ11 (fun a18 σ17 => am_ext σ11 σ17 → (a18 = true → c_Ro_bundle_56 nl Ln xs (d + 1) this p0 σ17 F) ∧ (¬ (a18 = true) → F (-2 : Int32) σ17)))) ∧ (¬ (a12 = true) → F (-2 : Int32) σ11))))) ∧ (¬ (a4 = true) → F (-2 : Int32) σ3))) : k_Ro_bundle nl Ln xs (d + 1) this p0 σ F := by
  obtain ⟨j0, j1, j2, j3, j4, j7, j10, j11, j12, j13, j14, j17, j20, j21, j22, j23, j24, j27, j30, j33, j34, j35, j36, j39, j40, j43, j44, j45, j46, j47, j50, j53, j55, -⟩ := P_Ro_bundle nl Ln xs
  have elo : am_lo 2 [am_ov (some this), am_ov p0] = [some (am_ov (some this)), some (am_ov p0)] := by simp only [am_lo, am_in_ov, am_in_int, am_in_long, am_in_nil]; rfl
  unfold k_Ro_bundle
  rw [elo]
  refine s_aload_n j0 rfl rfl ?_
  refine s_aload_n j1 rfl rfl ?_
  refine s_iconst j2 rfl kc_ic_0 ?_
  obtain ⟨ho1, h⟩ := h
  refine s_laload j3 rfl ho1 ?_
  obtain ⟨ho2, h⟩ := h
  refine s_virt j4 rfl rfl rfl rfl ho2 (by decide) (in_Ro_isPolicy _ _) (am_r8 rfl) (am_bB h (fun a4 σ3 h hx3 => ?_))
  replace h := h hx3
  refine s_ifn j7 rfl rfl am_cb_eq (fun hc5 => ?_) (fun hc5 => ?_)
  · replace h := h.2 hc5
    refine s_bipush j53 rfl kc_bi_m2 ?_
    exact s_retI j55 rfl h
  · replace h := h.1 hc5
    refine s_aload_n j10 rfl rfl ?_
    refine s_aload_n j11 rfl rfl ?_
    refine s_iconst j12 rfl kc_ic_0 ?_
    obtain ⟨ho6, h⟩ := h
    refine s_laload j13 rfl ho6 ?_
    refine s_virt j14 rfl rfl rfl rfl (am_is_ext hx3 ho2) (by decide) (in_Ro_isCover _ _) (am_r8 rfl) (am_bB h (fun a8 σ7 h hx7 => ?_))
    replace h := h hx7
    refine s_if j17 rfl rfl am_cb_ne (fun hc9 => ?_) (fun hc9 => ?_)
    · replace h := h.1 hc9
      refine s_bipush j53 rfl kc_bi_m2 ?_
      exact s_retI j55 rfl h
    · replace h := h.2 hc9
      refine s_aload_n j20 rfl rfl ?_
      refine s_iconst j21 rfl kc_ic_1 ?_
      obtain ⟨ho10, h⟩ := h
      refine s_laload j22 rfl ho10 ?_
      refine s_lconst j23 rfl rfl ?_
      refine s_ldc2 j24 rfl kc_ll_3 ?_
      refine s_stat j27 rfl rfl rfl rfl (by decide) (in_Rm_in _ _ _) (am_r8 rfl) (am_bB h (fun a12 σ11 h hx11 => ?_))
      replace h := h hx11
      refine s_ifn j30 rfl rfl am_cb_eq (fun hc13 => ?_) (fun hc13 => ?_)
      · replace h := h.2 hc13
        refine s_bipush j53 rfl kc_bi_m2 ?_
        exact s_retI j55 rfl h
      · replace h := h.1 hc13
        refine s_aload_n j33 rfl rfl ?_
        refine s_iconst j34 rfl kc_ic_2 ?_
        obtain ⟨ho14, h⟩ := h
        refine s_laload j35 rfl ho14 ?_
        refine s_ldc2 j36 rfl kc_ll_m1 ?_
        refine s_g j39 rfl rfl rfl rfl rfl rfl ?_
        refine s_if j40 rfl rfl am_cl_eq (fun hc15 => ?_) (fun hc15 => ?_)
        · replace h := h.1 hc15
          exact h
        · replace h := h.2 hc15
          refine s_aload_n j43 rfl rfl ?_
          refine s_aload_n j44 rfl rfl ?_
          refine s_iconst j45 rfl kc_ic_2 ?_
          obtain ⟨ho16, h⟩ := h
          refine s_laload j46 rfl ho16 ?_
          refine s_virt j47 rfl rfl rfl rfl (am_is_ext hx11 (am_is_ext hx7 (am_is_ext hx3 ho2))) (by decide) (in_Ro_isPolicy _ _) (am_r8 rfl) (am_bB h (fun a18 σ17 h hx17 => ?_))
          replace h := h hx17
          refine s_if j50 rfl rfl am_cb_ne (fun hc19 => ?_) (fun hc19 => ?_)
          · replace h := h.1 hc19
            exact h
          · replace h := h.2 hc19
            refine s_bipush j53 rfl kc_bi_m2 ?_
            exact s_retI j55 rfl h
theorem P_Ro_bundle_56 (nl : Bool) (Ln : Nat) (xs : Nat → Int32) : am_Jl (TT nl Ln xs) 269 [(56, .aload_n 1, 57, []), (57, .iconst 2, 58, []), (58, .laload, 59, []), (59, .ldc2_w 256, 62, [6, 18446744073709551615]), (62, .lcmp, 63, []), (63, .ifCond .eq 21, 66, []), (66, .aload_n 0, 67, []), (67, .aload_n 1, 68, []), (68, .iconst 0, 69, []), (69, .laload, 70, []), (70, .l2i, 71, []), (71, .aload_n 1, 72, []), (72, .iconst 2, 73, []), (73, .laload, 74, []), (74, .l2i, 75, []), (75, .invokevirtual 521, 78, [10, 272, 14, 4, 3]), (78, .ifCond .eq 6, 81, []), (81, .bipush (-3), 83, []), (83, .ireturn, 84, [1])] := dk_ck (by decide +kernel)
set_option maxRecDepth 4096 in
theorem w_Ro_bundle_56 {nl : Bool} {Ln : Nat} {xs : Nat → Int32} {d : Nat} {this : Nat} {x1 : Option Nat} {σ : am_S} {F : Int32 → am_S → Prop} (h : (am_ar σ 1001 x1 (2 : Int32)) ∧ ((am_aL σ (x1.getD 0) (2 : Int32).toNatClampNeg) = (-1 : Int64) → c_Ro_bundle_84 nl Ln xs (d + 1) this x1 σ F) ∧ (¬ ((am_aL σ (x1.getD 0) (2 : Int32).toNatClampNeg) = (-1 : Int64)) → (am_ar σ 1001 x1 (0 : Int32)) ∧ (am_ar σ 1001 x1 (2 : Int32)) ∧ (am_is σ (some this) 13) ∧ k_Ro_comesIn nl Ln xs d this ((am_aL σ (x1.getD 0) (0 : Int32).toNatClampNeg).toInt32) ((am_aL σ (x1.getD 0) (2 : Int32).toNatClampNeg).toInt32) σ (fun a7 σ6 => am_ext σ σ6 → (a7 = true → F (-3 : Int32) σ6) ∧ (¬ (a7 = true) → c_Ro_bundle_84 nl Ln xs (d + 1) this x1 σ6 F)))) : c_Ro_bundle_56 nl Ln xs (d + 1) this x1 σ F := by
  obtain ⟨j56, j57, j58, j59, j62, j63, j66, j67, j68, j69, j70, j71, j72, j73, j74, j75, j78, j81, j83, -⟩ := P_Ro_bundle_56 nl Ln xs
  unfold c_Ro_bundle_56
  refine s_aload_n j56 rfl rfl ?_
  refine s_iconst j57 rfl kc_ic_2 ?_
  obtain ⟨ho1, h⟩ := h
  refine s_laload j58 rfl ho1 ?_
  refine s_ldc2 j59 rfl kc_ll_m1 ?_
  refine s_g j62 rfl rfl rfl rfl rfl rfl ?_
  refine s_if j63 rfl rfl am_cl_eq (fun hc2 => ?_) (fun hc2 => ?_)
  · replace h := h.1 hc2
    exact h
  · replace h := h.2 hc2
    refine s_aload_n j66 rfl rfl ?_
    refine s_aload_n j67 rfl rfl ?_
    refine s_iconst j68 rfl kc_ic_0 ?_
    obtain ⟨ho3, h⟩ := h
    refine s_laload j69 rfl ho3 ?_
    refine s_g j70 rfl rfl rfl rfl rfl rfl ?_
    refine s_aload_n j71 rfl rfl ?_
    refine s_iconst j72 rfl kc_ic_2 ?_
    obtain ⟨ho4, h⟩ := h
    refine s_laload j73 rfl ho4 ?_
    refine s_g j74 rfl rfl rfl rfl rfl rfl ?_
    obtain ⟨ho5, h⟩ := h
    refine s_virt j75 rfl rfl rfl rfl ho5 (by decide) (in_Ro_comesIn _ _ _) (am_r8 rfl) (am_bB h (fun a7 σ6 h hx6 => ?_))
    replace h := h hx6
    refine s_ifn j78 rfl rfl am_cb_eq (fun hc8 => ?_) (fun hc8 => ?_)
    · replace h := h.2 hc8
      exact h
    · replace h := h.1 hc8
      refine s_bipush j81 rfl kc_bi_m3 ?_
      exact s_retI j83 rfl h
theorem P_Ro_bundle_84 (nl : Bool) (Ln : Nat) (xs : Nat → Int32) : am_Jl (TT nl Ln xs) 269 [(84, .aload_n 0, 85, []), (85, .getfield 219, 88, [9, 13, 10, 0]), (88, .sipush 200, 91, []), (91, .if_icmp .ne 6, 94, []), (94, .bipush (-7), 96, []), (96, .ireturn, 97, [1]), (97, .aload_n 0, 98, []), (98, .getfield 34, 101, [9, 13, 11, 2]), (101, .aload_n 0, 102, []), (102, .getfield 219, 105, [9, 13, 10, 0]), (105, .aload_n 1, 106, []), (106, .iconst 0, 107, []), (107, .laload, 108, []), (108, .l2i, 109, []), (109, .iastore, 110, []), (110, .aload_n 0, 111, []), (111, .getfield 37, 114, [9, 13, 12, 2]), (114, .aload_n 0, 115, []), (115, .getfield 219, 118, [9, 13, 10, 0]), (118, .aload_n 1, 119, []), (119, .iconst 1, 120, []), (120, .laload, 121, []), (121, .l2i, 122, []), (122, .iastore, 123, []), (123, .aload_n 0, 124, []), (124, .getfield 40, 127, [9, 13, 13, 2]), (127, .aload_n 0, 128, []), (128, .getfield 219, 131, [9, 13, 10, 0]), (131, .aload_n 1, 132, []), (132, .iconst 2, 133, []), (133, .laload, 134, []), (134, .l2i, 135, []), (135, .iastore, 136, []), (136, .aload_n 0, 137, []), (137, .getfield 43, 140, [9, 13, 14, 2]), (140, .aload_n 0, 141, []), (141, .getfield 219, 144, [9, 13, 10, 0]), (144, .aload_n 0, 145, []), (145, .getfield 206, 148, [9, 13, 0, 0]), (148, .iconst 1, 149, []), (149, .iadd, 150, []), (150, .iastore, 151, []), (151, .aload_n 0, 152, []), (152, .dup, 153, []), (153, .getfield 219, 156, [9, 13, 10, 0]), (156, .iconst 1, 157, []), (157, .iadd, 158, []), (158, .putfield 219, 161, [9, 13, 10, 0]), (161, .aload_n 0, 162, []), (162, .iconst 4, 163, []), (163, .aload_n 1, 164, []), (164, .iconst 1, 165, []), (165, .invokevirtual 503, 168, [10, 265, 14, 4, 4]), (168, .ireturn, 169, [1])] := dk_ck (by decide +kernel)
set_option maxRecDepth 4096 in
theorem w_Ro_bundle_84 {nl : Bool} {Ln : Nat} {xs : Nat → Int32} {d : Nat} {this : Nat} {x1 : Option Nat} {σ : am_S} {F : Int32 → am_S → Prop} (h : (am_is σ (some this) 13) ∧ ((am_fI σ 13010 this) = (200 : Int32) → F (-7 : Int32) σ) ∧ (¬ ((am_fI σ 13010 this) = (200 : Int32)) → (am_ar σ 1001 x1 (0 : Int32)) ∧ (am_ar σ 1000 (am_fR σ 13011 this) (am_fI σ 13010 this)) ∧ ∀ σ5, σ5 = am_saI σ ((am_fR σ 13011 this).getD 0) (am_fI σ 13010 this).toNatClampNeg ((am_aL σ (x1.getD 0) (0 : Int32).toNatClampNeg).toInt32) → (am_ar σ5 1001 x1 (1 : Int32)) ∧ (am_ar σ5 1000 (am_fR σ5 13012 this) (am_fI σ5 13010 this)) ∧ ∀ σ10, σ10 = am_saI σ5 ((am_fR σ5 13012 this).getD 0) (am_fI σ5 13010 this).toNatClampNeg ((am_aL σ5 (x1.getD 0) (1 : Int32).toNatClampNeg).toInt32) → (am_ar σ10 1001 x1 (2 : Int32)) ∧ (am_ar σ10 1000 (am_fR σ10 13013 this) (am_fI σ10 13010 this)) ∧ ∀ σ15, σ15 = am_saI σ10 ((am_fR σ10 13013 this).getD 0) (am_fI σ10 13010 this).toNatClampNeg ((am_aL σ10 (x1.getD 0) (2 : Int32).toNatClampNeg).toInt32) → (am_ar σ15 1000 (am_fR σ15 13014 this) (am_fI σ15 13010 this)) ∧ ∀ σ19, σ19 = am_saI σ15 ((am_fR σ15 13014 this).getD 0) (am_fI σ15 13010 this).toNatClampNeg ((am_fI σ15 13000 this) + (1 : Int32)) → ∀ σ22, σ22 = am_sfI σ19 13010 this ((am_fI σ19 13010 this) + (1 : Int32)) → k_Ro_done nl Ln xs d this (4 : Int32) x1 (1 : Int32) σ22 (fun a26 σ25 => am_ext σ22 σ25 → F a26 σ25))) : c_Ro_bundle_84 nl Ln xs (d + 1) this x1 σ F := by
  obtain ⟨j84, j85, j88, j91, j94, j96, j97, j98, j101, j102, j105, j106, j107, j108, j109, j110, j111, j114, j115, j118, j119, j120, j121, j122, j123, j124, j127, j128, j131, j132, j133, j134, j135, j136, j137, j140, j141, j144, j145, j148, j149, j150, j151, j152, j153, j156, j157, j158, j161, j162, j163, j164, j165, j168, -⟩ := P_Ro_bundle_84 nl Ln xs
  unfold c_Ro_bundle_84
  refine s_aload_n j84 rfl rfl ?_
  obtain ⟨ho1, h⟩ := h
  refine s_gfI j85 rfl ho1 ?_
  refine s_sipush j88 rfl kc_si_200 ?_
  refine s_icn j91 rfl rfl am_cc_ne (fun hc2 => ?_) (fun hc2 => ?_)
  · replace h := h.2 hc2
    refine s_aload_n j97 rfl rfl ?_
    refine s_gfR j98 rfl ho1 ?_
    refine s_aload_n j101 rfl rfl ?_
    refine s_gfI j102 rfl ho1 ?_
    refine s_aload_n j105 rfl rfl ?_
    refine s_iconst j106 rfl kc_ic_0 ?_
    obtain ⟨ho3, h⟩ := h
    refine s_laload j107 rfl ho3 ?_
    refine s_g j108 rfl rfl rfl rfl rfl rfl ?_
    obtain ⟨ho4, h⟩ := h
    refine s_iastore j109 rfl ho4 (fun σ5 e6 => ?_)
    replace h := h σ5 e6
    have ek7 : am_kd σ5 = am_kd σ := by rw [e6]
    refine s_aload_n j110 rfl rfl ?_
    refine s_gfR j111 rfl (am_is_kd ek7 ho1) ?_
    refine s_aload_n j114 rfl rfl ?_
    refine s_gfI j115 rfl (am_is_kd ek7 ho1) ?_
    refine s_aload_n j118 rfl rfl ?_
    refine s_iconst j119 rfl kc_ic_1 ?_
    obtain ⟨ho8, h⟩ := h
    refine s_laload j120 rfl ho8 ?_
    refine s_g j121 rfl rfl rfl rfl rfl rfl ?_
    obtain ⟨ho9, h⟩ := h
    refine s_iastore j122 rfl ho9 (fun σ10 e11 => ?_)
    replace h := h σ10 e11
    have ek12 : am_kd σ10 = am_kd σ5 := by rw [e11]
    refine s_aload_n j123 rfl rfl ?_
    refine s_gfR j124 rfl (am_is_kd ek12 (am_is_kd ek7 ho1)) ?_
    refine s_aload_n j127 rfl rfl ?_
    refine s_gfI j128 rfl (am_is_kd ek12 (am_is_kd ek7 ho1)) ?_
    refine s_aload_n j131 rfl rfl ?_
    refine s_iconst j132 rfl kc_ic_2 ?_
    obtain ⟨ho13, h⟩ := h
    refine s_laload j133 rfl ho13 ?_
    refine s_g j134 rfl rfl rfl rfl rfl rfl ?_
    obtain ⟨ho14, h⟩ := h
    refine s_iastore j135 rfl ho14 (fun σ15 e16 => ?_)
    replace h := h σ15 e16
    have ek17 : am_kd σ15 = am_kd σ10 := by rw [e16]
    refine s_aload_n j136 rfl rfl ?_
    refine s_gfR j137 rfl (am_is_kd ek17 (am_is_kd ek12 (am_is_kd ek7 ho1))) ?_
    refine s_aload_n j140 rfl rfl ?_
    refine s_gfI j141 rfl (am_is_kd ek17 (am_is_kd ek12 (am_is_kd ek7 ho1))) ?_
    refine s_aload_n j144 rfl rfl ?_
    refine s_gfI j145 rfl (am_is_kd ek17 (am_is_kd ek12 (am_is_kd ek7 ho1))) ?_
    refine s_iconst j148 rfl kc_ic_1 ?_
    refine s_g j149 rfl rfl rfl rfl rfl rfl ?_
    obtain ⟨ho18, h⟩ := h
    refine s_iastore j150 rfl ho18 (fun σ19 e20 => ?_)
    replace h := h σ19 e20
    have ek21 : am_kd σ19 = am_kd σ15 := by rw [e20]
    refine s_aload_n j151 rfl rfl ?_
    refine s_dup j152 rfl (am_cov _) ?_
    refine s_gfI j153 rfl (am_is_kd ek21 (am_is_kd ek17 (am_is_kd ek12 (am_is_kd ek7 ho1)))) ?_
    refine s_iconst j156 rfl kc_ic_1 ?_
    refine s_g j157 rfl rfl rfl rfl rfl rfl ?_
    refine s_pfI j158 rfl (am_is_kd ek21 (am_is_kd ek17 (am_is_kd ek12 (am_is_kd ek7 ho1)))) (fun σ22 e23 => ?_)
    replace h := h σ22 e23
    have ek24 : am_kd σ22 = am_kd σ19 := by rw [e23]
    refine s_aload_n j161 rfl rfl ?_
    refine s_iconst j162 rfl kc_ic_4 ?_
    refine s_aload_n j163 rfl rfl ?_
    refine s_iconst j164 rfl kc_ic_1 ?_
    refine s_virt j165 rfl rfl rfl rfl (am_is_kd ek24 (am_is_kd ek21 (am_is_kd ek17 (am_is_kd ek12 (am_is_kd ek7 ho1))))) (by decide) (in_Ro_done _ _ _ _) (am_r8 rfl) (am_bI h (fun a26 σ25 h hx25 => ?_))
    replace h := h hx25
    exact s_retI j168 rfl h
  · replace h := h.1 hc2
    refine s_bipush j94 rfl kc_bi_m7 ?_
    exact s_retI j96 rfl h
