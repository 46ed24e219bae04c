/-! statements of methods, 17 (by wip/whole/gensteps.py) -/
theorem P_Rm_putTokenNumber (nl : Bool) (Ln : Nat) (xs : Nat → Int32) : am_Jl (TT nl Ln xs) 336 [(0, .aload_n 0, 1, []), (1, .bipush 32, 3, []), (3, .invokevirtual 116, 6, [10, 329, 13, 2, 2]), (6, .aload_n 0, 7, []), (7, .lload_n 1, 8, []), (8, .invokevirtual 129, 11, [10, 330, 13, 7, 2]), (11, .return_, 12, [0])] := dk_ck (by decide +kernel)
set_option maxRecDepth 4096 in
theorem w_Rm_putTokenNumber {nl : Bool} {Ln : Nat} {xs : Nat → Int32} {d : Nat} {this : Nat} {p0 : Int64} {σ : am_S} {F : am_S → Prop} (h : (am_is σ (some this) 12) ∧ k_Rm_put2 nl Ln xs d this (32 : Int32) σ (fun σ2 => am_ext σ σ2 → k_Rm_putNumber nl Ln xs d this p0 σ2 (fun σ4 => am_ext σ2 σ4 → F σ4))) : k_Rm_putTokenNumber nl Ln xs (d + 1) this p0 σ F := by
  obtain ⟨j0, j1, j3, j6, j7, j8, j11, -⟩ := P_Rm_putTokenNumber nl Ln xs
  have elo : am_lo 3 [am_ov (some this), .long p0] = [some (am_ov (some this)), some (.long p0), none] := by simp only [am_lo, am_in_ov, am_in_int, am_in_long, am_in_nil]; rfl
  unfold k_Rm_putTokenNumber
  rw [elo]
  refine s_aload_n j0 rfl rfl ?_
  refine s_bipush j1 rfl kc_bi_32 ?_
  obtain ⟨ho1, h⟩ := h
  refine s_virt j3 rfl rfl rfl rfl ho1 (by decide) (in_Rm_put2 _ _) (am_r8 rfl) (am_bV h (fun σ2 h hx2 => ?_))
  replace h := h hx2
  refine s_aload_n j6 rfl rfl ?_
  refine s_lload_n j7 rfl rfl ?_
  refine s_virt j8 rfl rfl rfl rfl (am_is_ext hx2 ho1) (by decide) (in_Rm_putNumber _ _) (am_r8 rfl) (am_bV h (fun σ4 h hx4 => ?_))
  replace h := h hx4
  exact s_retV j11 rfl h
theorem P_Rm_letter (nl : Bool) (Ln : Nat) (xs : Nat → Int32) : am_Jl (TT nl Ln xs) 337 [(0, .iload_n 1, 1, []), (1, .i2l, 2, []), (2, .lconst 0, 3, []), (3, .aload_n 0, 4, []), (4, .getfield 105, 7, [9, 12, 5, 0]), (7, .iconst 1, 8, []), (8, .isub, 9, []), (9, .i2l, 10, []), (10, .invokestatic 154, 13, [12, 209, 6, 3]), (13, .ifCond .eq 16, 16, []), (16, .aload_n 0, 17, []), (17, .getfield 16, 20, [9, 12, 4, 2]), (20, .iload_n 1, 21, []), (21, .baload, 22, []), (22, .sipush 255, 25, []), (25, .iand, 26, []), (26, .goto 4, 29, []), (29, .iconst (-1), 30, []), (30, .ireturn, 31, [1])] := dk_ck (by decide +kernel)
set_option maxRecDepth 4096 in
theorem w_Rm_letter {nl : Bool} {Ln : Nat} {xs : Nat → Int32} {d : Nat} {this : Nat} {p0 : Int32} {σ : am_S} {F : Int32 → am_S → Prop} (h : (am_is σ (some this) 12) ∧ k_Rm_in nl Ln xs d p0.toInt64 (0 : Int64) (((am_fI σ 12005 this) - (1 : Int32)).toInt64) σ (fun a3 σ2 => am_ext σ σ2 → ((a3 = true) → am_ar σ2 1002 (am_fR σ2 12004 this) p0) ∧ ∀ w7 : Int32, w7 = (if a3 = true then ((am_aI σ2 ((am_fR σ2 12004 this).getD 0) p0.toNatClampNeg) &&& (255 : Int32)) else (-1 : Int32)) → F w7 σ2)) : k_Rm_letter nl Ln xs (d + 1) this p0 σ F := by
  obtain ⟨j0, j1, j2, j3, j4, j7, j8, j9, j10, j13, j16, j17, j20, j21, j22, j25, j26, j29, j30, -⟩ := P_Rm_letter nl Ln xs
  have elo : am_lo 2 [am_ov (some this), .int p0] = [some (am_ov (some this)), some (.int p0)] := by simp only [am_lo, am_in_ov, am_in_int, am_in_long, am_in_nil]; rfl
  unfold k_Rm_letter
  rw [elo]
  refine s_iload_n j0 rfl rfl ?_
  refine s_g j1 rfl rfl rfl rfl rfl rfl ?_
  refine s_lconst j2 rfl rfl ?_
  refine s_aload_n j3 rfl rfl ?_
  obtain ⟨ho1, h⟩ := h
  refine s_gfI j4 rfl ho1 ?_
  refine s_iconst j7 rfl kc_ic_1 ?_
  refine s_g j8 rfl rfl rfl rfl rfl rfl ?_
  refine s_g j9 rfl rfl rfl rfl rfl rfl ?_
  refine s_stat j10 rfl rfl rfl rfl (by decide) (in_Rm_in _ _ _) (am_r8 rfl) (am_bB h (fun a3 σ2 h hx2 => ?_))
  replace h := h hx2
  obtain ⟨ho5, h⟩ := h
  have K6 : ∀ (w7 : Int32), w7 = (if a3 = true then ((am_aI σ2 ((am_fR σ2 12004 this).getD 0) p0.toNatClampNeg) &&& (255 : Int32)) else (-1 : Int32)) → am_C (TT nl Ln xs) (d + 1) 337 30 [some (am_ov (some this)), some (.int p0)] [.int w7] σ2 (am_qI F) := by
    intro w7 hw8
    replace h := h w7 hw8
    exact s_retI j30 rfl h
  refine s_ifn j13 rfl rfl am_cb_eq (fun hc4 => ?_) (fun hc4 => ?_)
  · refine s_iconst j29 rfl kc_ic_m1 ?_
    exact K6 _ (am_t2 hc4 rfl)
  · refine s_aload_n j16 rfl rfl ?_
    refine s_gfR j17 rfl (am_is_ext hx2 ho1) ?_
    refine s_iload_n j20 rfl rfl ?_
    refine s_baload (k := 1002) (by decide) j21 rfl (ho5 hc4) ?_
    refine s_sipush j22 rfl kc_si_255 ?_
    refine s_g j25 rfl rfl rfl rfl rfl rfl ?_
    refine s_goto j26 rfl rfl ?_
    exact K6 _ (am_t1 hc4 rfl)
theorem P_Rm_used (nl : Bool) (Ln : Nat) (xs : Nat → Int32) : am_Jl (TT nl Ln xs) 338 [(0, .aload_n 0, 1, []), (1, .getfield 88, 4, [9, 12, 16, 2]), (4, .iload_n 1, 5, []), (5, .i2l, 6, []), (6, .invokevirtual 253, 9, [10, 271, 14, 3, 2]), (9, .ifCond .eq 23, 12, []), (12, .iload_n 2, 13, []), (13, .i2l, 14, []), (14, .lconst 0, 15, []), (15, .ldc2_w 270, 18, [6, 29]), (18, .invokestatic 154, 21, [12, 209, 6, 3]), (21, .ifCond .eq 11, 24, []), (24, .aload_n 0, 25, []), (25, .iload_n 3, 26, []), (26, .invokevirtual 256, 29, [10, 332, 13, 2, 2]), (29, .ifCond .ne 9, 32, []), (32, .ldc2_w 173, 35, [6, 9223372036854775808]), (35, .goto 13, 38, []), (38, .aload_n 0, 39, []), (39, .getfield 88, 42, [9, 12, 16, 2]), (42, .iload_n 1, 43, []), (43, .iload_n 2, 44, []), (44, .iload_n 3, 45, []), (45, .invokevirtual 272, 48, [10, 261, 14, 7, 4]), (48, .lreturn, 49, [2])] := dk_ck (by decide +kernel)
set_option maxRecDepth 4096 in
theorem w_Rm_used {nl : Bool} {Ln : Nat} {xs : Nat → Int32} {d : Nat} {this : Nat} {p0 : Int32} {p1 : Int32} {p2 : Int32} {σ : am_S} {F : Int64 → am_S → Prop} (h : (am_is σ (some this) 12) ∧ (am_is σ (am_fR σ 12016 this) 13) ∧ k_Ro_isCover nl Ln xs d ((am_fR σ 12016 this).getD 0) p0.toInt64 σ (fun a4 σ3 => am_ext σ σ3 → (a4 = true → k_Rm_in nl Ln xs d p1.toInt64 (0 : Int64) (29 : Int64) σ3 (fun a7 σ6 => am_ext σ3 σ6 → (a7 = true → k_Rm_isMoment nl Ln xs d this p2 σ6 (fun a10 σ9 => am_ext σ6 σ9 → (a10 = true → (am_is σ9 (am_fR σ9 12016 this) 13) ∧ k_Ro_used nl Ln xs d ((am_fR σ9 12016 this).getD 0) p0 p1 p2 σ9 (fun a14 σ13 => am_ext σ9 σ13 → F a14 σ13)) ∧ (¬ (a10 = true) → F (-9223372036854775808 : Int64) σ9))) ∧ (¬ (a7 = true) → F (-9223372036854775808 : Int64) σ6))) ∧ (¬ (a4 = true) → F (-9223372036854775808 : Int64) σ3))) : k_Rm_used nl Ln xs (d + 1) this p0 p1 p2 σ F := by
  obtain ⟨j0, j1, j4, j5, j6, j9, j12, j13, j14, j15, j18, j21, j24, j25, j26, j29, j32, j35, j38, j39, j42, j43, j44, j45, j48, -⟩ := P_Rm_used nl Ln xs
  have elo : am_lo 4 [am_ov (some this), .int p0, .int p1, .int p2] = [some (am_ov (some this)), some (.int p0), some (.int p1), some (.int p2)] := by simp only [am_lo, am_in_ov, am_in_int, am_in_long, am_in_nil]; rfl
  unfold k_Rm_used
  rw [elo]
  refine s_aload_n j0 rfl rfl ?_
  obtain ⟨ho1, h⟩ := h
  refine s_gfR j1 rfl ho1 ?_
  refine s_iload_n j4 rfl rfl ?_
  refine s_g j5 rfl rfl rfl rfl rfl rfl ?_
  obtain ⟨ho2, h⟩ := h
  refine s_virt j6 rfl rfl rfl rfl ho2 (by decide) (in_Ro_isCover _ _) (am_r8 rfl) (am_bB h (fun a4 σ3 h hx3 => ?_))
  replace h := h hx3
  refine s_ifn j9 rfl rfl am_cb_eq (fun hc5 => ?_) (fun hc5 => ?_)
  · replace h := h.2 hc5
    refine s_ldc2 j32 rfl kc_ll_m9223372036854775808 ?_
    refine s_goto j35 rfl rfl ?_
    exact s_retL j48 rfl h
  · replace h := h.1 hc5
    refine s_iload_n j12 rfl rfl ?_
    refine s_g j13 rfl rfl rfl rfl rfl rfl ?_
    refine s_lconst j14 rfl rfl ?_
    refine s_ldc2 j15 rfl kc_ll_29 ?_
    refine s_stat j18 rfl rfl rfl rfl (by decide) (in_Rm_in _ _ _) (am_r8 rfl) (am_bB h (fun a7 σ6 h hx6 => ?_))
    replace h := h hx6
    refine s_ifn j21 rfl rfl am_cb_eq (fun hc8 => ?_) (fun hc8 => ?_)
    · replace h := h.2 hc8
      refine s_ldc2 j32 rfl kc_ll_m9223372036854775808 ?_
      refine s_goto j35 rfl rfl ?_
      exact s_retL j48 rfl h
    · replace h := h.1 hc8
      refine s_aload_n j24 rfl rfl ?_
      refine s_iload_n j25 rfl rfl ?_
      refine s_virt j26 rfl rfl rfl rfl (am_is_ext hx6 (am_is_ext hx3 ho1)) (by decide) (in_Rm_isMoment _ _) (am_r8 rfl) (am_bB h (fun a10 σ9 h hx9 => ?_))
      replace h := h hx9
      refine s_if j29 rfl rfl am_cb_ne (fun hc11 => ?_) (fun hc11 => ?_)
      · replace h := h.1 hc11
        refine s_aload_n j38 rfl rfl ?_
        refine s_gfR j39 rfl (am_is_ext hx9 (am_is_ext hx6 (am_is_ext hx3 ho1))) ?_
        refine s_iload_n j42 rfl rfl ?_
        refine s_iload_n j43 rfl rfl ?_
        refine s_iload_n j44 rfl rfl ?_
        obtain ⟨ho12, h⟩ := h
        refine s_virt j45 rfl rfl rfl rfl ho12 (by decide) (in_Ro_used _ _ _ _) (am_r8 rfl) (am_bL h (fun a14 σ13 h hx13 => ?_))
        replace h := h hx13
        exact s_retL j48 rfl h
      · replace h := h.2 hc11
        refine s_ldc2 j32 rfl kc_ll_m9223372036854775808 ?_
        refine s_goto j35 rfl rfl ?_
        exact s_retL j48 rfl h
theorem P_Rm_left (nl : Bool) (Ln : Nat) (xs : Nat → Int32) : am_Jl (TT nl Ln xs) 339 [(0, .aload_n 0, 1, []), (1, .iload_n 1, 2, []), (2, .iload_n 2, 3, []), (3, .iload_n 3, 4, []), (4, .invokevirtual 276, 7, [10, 338, 13, 4, 4]), (7, .lstore 4, 9, []), (9, .lload 4, 11, []), (11, .ldc2_w 173, 14, [6, 9223372036854775808]), (14, .lcmp, 15, []), (15, .ifCond .ne 9, 18, []), (18, .ldc2_w 277, 21, [6, 18446744073709551615]), (21, .goto 20, 24, []), (24, .aload_n 0, 25, []), (25, .getfield 88, 28, [9, 12, 16, 2]), (28, .aload_n 0, 29, []), (29, .getfield 88, 32, [9, 12, 16, 2]), (32, .iload_n 1, 33, []), (33, .iload_n 3, 34, []), (34, .invokevirtual 260, 37, [10, 222, 14, 5, 3]), (37, .iconst 4, 38, []), (38, .invokevirtual 279, 41, [10, 224, 14, 6, 3]), (41, .lstore 6, 43, []), (43, .lload 6, 45, []), (45, .ldc2_w 277, 48, [6, 18446744073709551615]), (48, .lcmp, 49, []), (49, .ifCond .ne 9, 52, []), (52, .ldc2_w 173, 55, [6, 9223372036854775808]), (55, .goto 8, 58, []), (58, .lload 6, 60, []), (60, .lload 4, 62, []), (62, .lsub, 63, []), (63, .lreturn, 64, [2])] := dk_ck (by decide +kernel)
set_option maxRecDepth 4096 in
theorem w_Rm_left {nl : Bool} {Ln : Nat} {xs : Nat → Int32} {d : Nat} {this : Nat} {p0 : Int32} {p1 : Int32} {p2 : Int32} {σ : am_S} {F : Int64 → am_S → Prop} (h : (am_is σ (some this) 12) ∧ k_Rm_used nl Ln xs d this p0 p1 p2 σ (fun a3 σ2 => am_ext σ σ2 → (a3 = (-9223372036854775808 : Int64) → ∀ w7 : Int64, w7 = (if (-1 : Int64) = (-1 : Int64) then (-9223372036854775808 : Int64) else ((-1 : Int64) - a3)) → F w7 σ2) ∧ (¬ (a3 = (-9223372036854775808 : Int64)) → (am_is σ2 (am_fR σ2 12016 this) 13) ∧ k_Ro_setOf nl Ln xs d ((am_fR σ2 12016 this).getD 0) p0 p2 σ2 (fun a11 σ10 => am_ext σ2 σ10 → k_Ro_told nl Ln xs d ((am_fR σ2 12016 this).getD 0) a11 (4 : Int32) σ10 (fun a13 σ12 => am_ext σ10 σ12 → ∀ w16 : Int64, w16 = (if a13 = (-1 : Int64) then (-9223372036854775808 : Int64) else (a13 - a3)) → F w16 σ12))))) : k_Rm_left nl Ln xs (d + 1) this p0 p1 p2 σ F := by
  obtain ⟨j0, j1, j2, j3, j4, j7, j9, j11, j14, j15, j18, j21, j24, j25, j28, j29, j32, j33, j34, j37, j38, j41, j43, j45, j48, j49, j52, j55, j58, j60, j62, j63, -⟩ := P_Rm_left nl Ln xs
  have elo : am_lo 8 [am_ov (some this), .int p0, .int p1, .int p2] = [some (am_ov (some this)), some (.int p0), some (.int p1), some (.int p2), none, none, none, none] := by simp only [am_lo, am_in_ov, am_in_int, am_in_long, am_in_nil]; rfl
  unfold k_Rm_left
  rw [elo]
  refine s_aload_n j0 rfl rfl ?_
  refine s_iload_n j1 rfl rfl ?_
  refine s_iload_n j2 rfl rfl ?_
  refine s_iload_n j3 rfl rfl ?_
  obtain ⟨ho1, h⟩ := h
  refine s_virt j4 rfl rfl rfl rfl ho1 (by decide) (in_Rm_used _ _ _ _) (am_r8 rfl) (am_bL h (fun a3 σ2 h hx2 => ?_))
  replace h := h hx2
  refine s_lstore j7 rfl (n := 8) (L' := [some (am_ov (some this)), some (.int p0), some (.int p1), some (.int p2), some (.long a3), none, none, none]) rfl (by decide) rfl ?_
  refine s_lload j9 rfl rfl ?_
  refine s_ldc2 j11 rfl kc_ll_m9223372036854775808 ?_
  refine s_g j14 rfl rfl rfl rfl rfl rfl ?_
  refine s_ifn j15 rfl rfl am_cl_ne (fun hc4 => ?_) (fun hc4 => ?_)
  · replace h := h.2 hc4
    refine s_aload_n j24 rfl rfl ?_
    refine s_gfR j25 rfl (am_is_ext hx2 ho1) ?_
    refine s_aload_n j28 rfl rfl ?_
    refine s_gfR j29 rfl (am_is_ext hx2 ho1) ?_
    refine s_iload_n j32 rfl rfl ?_
    refine s_iload_n j33 rfl rfl ?_
    obtain ⟨ho9, h⟩ := h
    refine s_virt j34 rfl rfl rfl rfl ho9 (by decide) (in_Ro_setOf _ _ _) (am_r8 rfl) (am_bI h (fun a11 σ10 h hx10 => ?_))
    replace h := h hx10
    refine s_iconst j37 rfl kc_ic_4 ?_
    refine s_virt j38 rfl rfl rfl rfl (am_is_ext hx10 ho9) (by decide) (in_Ro_told _ _ _) (am_r8 rfl) (am_bL h (fun a13 σ12 h hx12 => ?_))
    replace h := h hx12
    refine s_lstore j41 rfl (n := 8) (L' := [some (am_ov (some this)), some (.int p0), some (.int p1), some (.int p2), some (.long a3), none, some (.long a13), none]) rfl (by decide) rfl ?_
    refine s_lload j43 rfl rfl ?_
    refine s_ldc2 j45 rfl kc_ll_m1 ?_
    refine s_g j48 rfl rfl rfl rfl rfl rfl ?_
    have K15 : ∀ (w16 : Int64), w16 = (if a13 = (-1 : Int64) then (-9223372036854775808 : Int64) else (a13 - a3)) → am_C (TT nl Ln xs) (d + 1) 339 63 [some (am_ov (some this)), some (.int p0), some (.int p1), some (.int p2), some (.long a3), none, some (.long a13), none] [.long w16] σ12 (am_qL F) := by
      intro w16 hw17
      replace h := h w16 hw17
      exact s_retL j63 rfl h
    refine s_ifn j49 rfl rfl am_cl_ne (fun hc14 => ?_) (fun hc14 => ?_)
    · refine s_lload j58 rfl rfl ?_
      refine s_lload j60 rfl rfl ?_
      refine s_g j62 rfl rfl rfl rfl rfl rfl ?_
      exact K15 _ (am_t2 hc14 rfl)
    · refine s_ldc2 j52 rfl kc_ll_m9223372036854775808 ?_
      refine s_goto j55 rfl rfl ?_
      exact K15 _ (am_t1 hc14 rfl)
  · replace h := h.1 hc4
    refine s_ldc2 j18 rfl kc_ll_m1 ?_
    refine s_goto j21 rfl rfl ?_
    refine s_lstore j41 rfl (n := 8) (L' := [some (am_ov (some this)), some (.int p0), some (.int p1), some (.int p2), some (.long a3), none, some (.long (-1 : Int64)), none]) rfl (by decide) rfl ?_
    refine s_lload j43 rfl rfl ?_
    refine s_ldc2 j45 rfl kc_ll_m1 ?_
    refine s_g j48 rfl rfl rfl rfl rfl rfl ?_
    have K6 : ∀ (w7 : Int64), w7 = (if (-1 : Int64) = (-1 : Int64) then (-9223372036854775808 : Int64) else ((-1 : Int64) - a3)) → am_C (TT nl Ln xs) (d + 1) 339 63 [some (am_ov (some this)), some (.int p0), some (.int p1), some (.int p2), some (.long a3), none, some (.long (-1 : Int64)), none] [.long w7] σ2 (am_qL F) := by
      intro w7 hw8
      replace h := h w7 hw8
      exact s_retL j63 rfl h
    refine s_ifn j49 rfl rfl am_cl_ne (fun hc5 => ?_) (fun hc5 => ?_)
    · refine s_lload j58 rfl rfl ?_
      refine s_lload j60 rfl rfl ?_
      refine s_g j62 rfl rfl rfl rfl rfl rfl ?_
      exact K6 _ (am_t2 hc5 rfl)
    · refine s_ldc2 j52 rfl kc_ll_m9223372036854775808 ?_
      refine s_goto j55 rfl rfl ?_
      exact K6 _ (am_t1 hc5 rfl)
theorem P_Rm_reserved (nl : Bool) (Ln : Nat) (xs : Nat → Int32) : am_Jl (TT nl Ln xs) 340 [(0, .iload_n 1, 1, []), (1, .i2l, 2, []), (2, .lconst 0, 3, []), (3, .ldc2_w 283, 6, [6, 2]), (6, .invokestatic 154, 9, [12, 209, 6, 3]), (9, .ifCond .eq 23, 12, []), (12, .iload_n 2, 13, []), (13, .i2l, 14, []), (14, .lconst 0, 15, []), (15, .ldc2_w 270, 18, [6, 29]), (18, .invokestatic 154, 21, [12, 209, 6, 3]), (21, .ifCond .eq 11, 24, []), (24, .aload_n 0, 25, []), (25, .iload_n 3, 26, []), (26, .invokevirtual 256, 29, [10, 332, 13, 2, 2]), (29, .ifCond .ne 7, 32, []), (32, .ldc2_w 173, 35, [6, 9223372036854775808]), (35, .lreturn, 36, [2]), (36, .lconst 0, 37, []), (37, .lstore 4, 39, []), (39, .iconst 0, 40, []), (40, .istore 6, 42, [])] := dk_ck (by decide +kernel)
set_option maxRecDepth 4096 in
theorem w_Rm_reserved {nl : Bool} {Ln : Nat} {xs : Nat → Int32} {d : Nat} {this : Nat} {p0 : Int32} {p1 : Int32} {p2 : Int32} {σ : am_S} {F : Int64 → am_S → Prop} (h : k_Rm_in nl Ln xs d p0.toInt64 (0 : Int64) (2 : Int64) σ (fun a2 σ1 => am_ext σ σ1 → (a2 = true → k_Rm_in nl Ln xs d p1.toInt64 (0 : Int64) (29 : Int64) σ1 (fun a5 σ4 => am_ext σ1 σ4 → (a5 = true → (am_is σ4 (some this) 12) ∧ k_Rm_isMoment nl Ln xs d this p2 σ4 (fun a9 σ8 => am_ext σ4 σ8 → (a9 = true → c_Rm_reserved_42 nl Ln xs (d + 1) this p0 p1 p2 (0 : Int64) (0 : Int32) none none none σ8 F) ∧ (¬ (a9 = true) → F (-9223372036854775808 : Int64) σ8))) ∧ (¬ (a5 = true) → F (-9223372036854775808 : Int64) σ4))) ∧ (¬ (a2 = true) → F (-9223372036854775808 : Int64) σ1))) : k_Rm_reserved nl Ln xs (d + 1) this p0 p1 p2 σ F := by
  obtain ⟨j0, j1, j2, j3, j6, j9, j12, j13, j14, j15, j18, j21, j24, j25, j26, j29, j32, j35, j36, j37, j39, j40, -⟩ := P_Rm_reserved nl Ln xs
  have elo : am_lo 10 [am_ov (some this), .int p0, .int p1, .int p2] = [some (am_ov (some this)), some (.int p0), some (.int p1), some (.int p2), none, none, none, none, none, none] := by simp only [am_lo, am_in_ov, am_in_int, am_in_long, am_in_nil]; rfl
  unfold k_Rm_reserved
  rw [elo]
  refine s_iload_n j0 rfl rfl ?_
  refine s_g j1 rfl rfl rfl rfl rfl rfl ?_
  refine s_lconst j2 rfl rfl ?_
  refine s_ldc2 j3 rfl kc_ll_2 ?_
  refine s_stat j6 rfl rfl rfl rfl (by decide) (in_Rm_in _ _ _) (am_r8 rfl) (am_bB h (fun a2 σ1 h hx1 => ?_))
  replace h := h hx1
  refine s_ifn j9 rfl rfl am_cb_eq (fun hc3 => ?_) (fun hc3 => ?_)
  · replace h := h.2 hc3
    refine s_ldc2 j32 rfl kc_ll_m9223372036854775808 ?_
    exact s_retL j35 rfl h
  · replace h := h.1 hc3
    refine s_iload_n j12 rfl rfl ?_
    refine s_g j13 rfl rfl rfl rfl rfl rfl ?_
    refine s_lconst j14 rfl rfl ?_
    refine s_ldc2 j15 rfl kc_ll_29 ?_
    refine s_stat j18 rfl rfl rfl rfl (by decide) (in_Rm_in _ _ _) (am_r8 rfl) (am_bB h (fun a5 σ4 h hx4 => ?_))
    replace h := h hx4
    refine s_ifn j21 rfl rfl am_cb_eq (fun hc6 => ?_) (fun hc6 => ?_)
    · replace h := h.2 hc6
      refine s_ldc2 j32 rfl kc_ll_m9223372036854775808 ?_
      exact s_retL j35 rfl h
    · replace h := h.1 hc6
      refine s_aload_n j24 rfl rfl ?_
      refine s_iload_n j25 rfl rfl ?_
      obtain ⟨ho7, h⟩ := h
      refine s_virt j26 rfl rfl rfl rfl ho7 (by decide) (in_Rm_isMoment _ _) (am_r8 rfl) (am_bB h (fun a9 σ8 h hx8 => ?_))
      replace h := h hx8
      refine s_if j29 rfl rfl am_cb_ne (fun hc10 => ?_) (fun hc10 => ?_)
      · replace h := h.1 hc10
        refine s_lconst j36 rfl rfl ?_
        refine s_lstore j37 rfl (n := 10) (L' := [some (am_ov (some this)), some (.int p0), some (.int p1), some (.int p2), some (.long (0 : Int64)), none, none, none, none, none]) rfl (by decide) rfl ?_
        refine s_iconst j39 rfl kc_ic_0 ?_
        refine s_istore j40 rfl (n := 10) (L' := [some (am_ov (some this)), some (.int p0), some (.int p1), some (.int p2), some (.long (0 : Int64)), none, some (.int (0 : Int32)), none, none, none]) rfl (by decide) rfl ?_
        exact h
      · replace h := h.2 hc10
        refine s_ldc2 j32 rfl kc_ll_m9223372036854775808 ?_
        exact s_retL j35 rfl h
theorem P_Rm_reserved_42 (nl : Bool) (Ln : Nat) (xs : Nat → Int32) : am_Jl (TT nl Ln xs) 340 [(42, .iload 6, 44, []), (44, .aload_n 0, 45, []), (45, .getfield 88, 48, [9, 12, 16, 2]), (48, .getfield 285, 51, [9, 13, 45, 0]), (51, .if_icmp .ge 156, 54, []), (54, .aload_n 0, 55, []), (55, .getfield 88, 58, [9, 12, 16, 2]), (58, .getfield 167, 61, [9, 13, 50, 2]), (61, .iload 6, 63, []), (63, .iaload, 64, []), (64, .iload_n 3, 65, []), (65, .if_icmp .gt 136, 68, []), (68, .aload_n 0, 69, []), (69, .getfield 88, 72, [9, 12, 16, 2]), (72, .iload 6, 74, []), (74, .invokevirtual 288, 77, [10, 254, 14, 2, 2]), (77, .iload_n 2, 78, []), (78, .if_icmp .ne 123, 81, []), (81, .aload_n 0, 82, []), (82, .getfield 88, 85, [9, 12, 16, 2]), (85, .iload 6, 87, []), (87, .sipush 10950, 90, []), (90, .iload_n 3, 91, []), (91, .invokevirtual 292, 94, [10, 211, 14, 6, 4]), (94, .ifCond .eq 107, 97, []), (97, .lconst 0, 98, []), (98, .lstore 7, 100, []), (100, .bipush 40, 102, []), (102, .iload 6, 104, []), (104, .imul, 105, []), (105, .istore 9, 107, []), (201, .iinc 6 1, 204, []), (204, .goto (-162), 207, []), (207, .lload 4, 209, []), (209, .lreturn, 210, [2])] := dk_ck (by decide +kernel)
set_option maxRecDepth 4096 in
theorem w_Rm_reserved_42 {nl : Bool} {Ln : Nat} {xs : Nat → Int32} {d : Nat} {this : Nat} {x1 : Int32} {x2 : Int32} {x3 : Int32} {x4 : Int64} {x6 : Int32} {x7 : Option Value} {x8 : Option Value} {x9 : Option Value} {σ : am_S} {F : Int64 → am_S → Prop} (h : (am_is σ (some this) 12) ∧ (am_is σ (am_fR σ 12016 this) 13) ∧ (x6 < (am_fI σ 13045 ((am_fR σ 12016 this).getD 0)) → (am_ar σ 1000 (am_fR σ 13050 ((am_fR σ 12016 this).getD 0)) x6) ∧ (x3 < (am_aI σ ((am_fR σ 13050 ((am_fR σ 12016 this).getD 0)).getD 0) x6.toNatClampNeg) → c_Rm_reserved_42 nl Ln xs (d + 1) this x1 x2 x3 x4 (x6 + (1 : Int32)) x7 x8 x9 σ F) ∧ (¬ (x3 < (am_aI σ ((am_fR σ 13050 ((am_fR σ 12016 this).getD 0)).getD 0) x6.toNatClampNeg)) → k_Ro_lossYear nl Ln xs d ((am_fR σ 12016 this).getD 0) x6 σ (fun a7 σ6 => am_ext σ σ6 → (a7 = x2 → (am_is σ6 (am_fR σ6 12016 this) 13) ∧ k_Ro_isOpen nl Ln xs d ((am_fR σ6 12016 this).getD 0) x6 (10950 : Int32) x3 σ6 (fun a11 σ10 => am_ext σ6 σ10 → (a11 = true → ∀ v13 : Int32, v13 = ((40 : Int32) * x6) → c_Rm_reserved_107 nl Ln xs (d + 1) this x1 x2 x3 x4 x6 (0 : Int64) v13 σ10 F) ∧ (¬ (a11 = true) → c_Rm_reserved_42 nl Ln xs (d + 1) this x1 x2 x3 x4 (x6 + (1 : Int32)) x7 x8 x9 σ10 F))) ∧ (¬ (a7 = x2) → c_Rm_reserved_42 nl Ln xs (d + 1) this x1 x2 x3 x4 (x6 + (1 : Int32)) x7 x8 x9 σ6 F)))) ∧ (¬ (x6 < (am_fI σ 13045 ((am_fR σ 12016 this).getD 0))) → F x4 σ)) : c_Rm_reserved_42 nl Ln xs (d + 1) this x1 x2 x3 x4 x6 x7 x8 x9 σ F := by
  obtain ⟨j42, j44, j45, j48, j51, j54, j55, j58, j61, j63, j64, j65, j68, j69, j72, j74, j77, j78, j81, j82, j85, j87, j90, j91, j94, j97, j98, j100, j102, j104, j105, j201, j204, j207, j209, -⟩ := P_Rm_reserved_42 nl Ln xs
  unfold c_Rm_reserved_42
  refine s_iload j42 rfl rfl ?_
  refine s_aload_n j44 rfl rfl ?_
  obtain ⟨ho1, h⟩ := h
  refine s_gfR j45 rfl ho1 ?_
  obtain ⟨ho2, h⟩ := h
  refine s_gfI j48 rfl ho2 ?_
  refine s_icn j51 rfl rfl am_cc_ge (fun hc3 => ?_) (fun hc3 => ?_)
  · replace h := h.2 hc3
    refine s_lload j207 rfl rfl ?_
    exact s_retL j209 rfl h
  · replace h := h.1 hc3
    refine s_aload_n j54 rfl rfl ?_
    refine s_gfR j55 rfl ho1 ?_
    refine s_gfR j58 rfl ho2 ?_
    refine s_iload j61 rfl rfl ?_
    obtain ⟨ho4, h⟩ := h
    refine s_iaload j63 rfl ho4 ?_
    refine s_iload_n j64 rfl rfl ?_
    refine s_ic j65 rfl rfl am_cc_gt (fun hc5 => ?_) (fun hc5 => ?_)
    · replace h := h.1 hc5
      refine s_iinc (L' := [some (am_ov (some this)), some (.int x1), some (.int x2), some (.int x3), some (.long x4), none, some (.int (x6 + (1 : Int32))), x7, x8, x9]) j201 rfl rfl kc_ic_1 rfl ?_
      refine s_goto j204 rfl rfl ?_
      exact h
    · replace h := h.2 hc5
      refine s_aload_n j68 rfl rfl ?_
      refine s_gfR j69 rfl ho1 ?_
      refine s_iload j72 rfl rfl ?_
      refine s_virt j74 rfl rfl rfl rfl ho2 (by decide) (in_Ro_lossYear _ _) (am_r8 rfl) (am_bI h (fun a7 σ6 h hx6 => ?_))
      replace h := h hx6
      refine s_iload_n j77 rfl rfl ?_
      refine s_icn j78 rfl rfl am_cc_ne (fun hc8 => ?_) (fun hc8 => ?_)
      · replace h := h.2 hc8
        refine s_iinc (L' := [some (am_ov (some this)), some (.int x1), some (.int x2), some (.int x3), some (.long x4), none, some (.int (x6 + (1 : Int32))), x7, x8, x9]) j201 rfl rfl kc_ic_1 rfl ?_
        refine s_goto j204 rfl rfl ?_
        exact h
      · replace h := h.1 hc8
        refine s_aload_n j81 rfl rfl ?_
        refine s_gfR j82 rfl (am_is_ext hx6 ho1) ?_
        refine s_iload j85 rfl rfl ?_
        refine s_sipush j87 rfl kc_si_10950 ?_
        refine s_iload_n j90 rfl rfl ?_
        obtain ⟨ho9, h⟩ := h
        refine s_virt j91 rfl rfl rfl rfl ho9 (by decide) (in_Ro_isOpen _ _ _ _) (am_r8 rfl) (am_bB h (fun a11 σ10 h hx10 => ?_))
        replace h := h hx10
        refine s_ifn j94 rfl rfl am_cb_eq (fun hc12 => ?_) (fun hc12 => ?_)
        · replace h := h.2 hc12
          refine s_iinc (L' := [some (am_ov (some this)), some (.int x1), some (.int x2), some (.int x3), some (.long x4), none, some (.int (x6 + (1 : Int32))), x7, x8, x9]) j201 rfl rfl kc_ic_1 rfl ?_
          refine s_goto j204 rfl rfl ?_
          exact h
        · replace h := h.1 hc12
          refine s_lconst j97 rfl rfl ?_
          refine s_lstore j98 rfl (n := 10) (L' := [some (am_ov (some this)), some (.int x1), some (.int x2), some (.int x3), some (.long x4), none, some (.int x6), some (.long (0 : Int64)), none, x9]) rfl (by decide) rfl ?_
          refine s_bipush j100 rfl kc_bi_40 ?_
          refine s_iload j102 rfl rfl ?_
          refine s_g j104 rfl rfl rfl rfl rfl rfl ?_
          refine s_istoreV j105 rfl (n := 10) (L' := fun w => [some (am_ov (some this)), some (.int x1), some (.int x2), some (.int x3), some (.long x4), none, some (.int x6), some (.long (0 : Int64)), none, some (.int w)]) rfl (by decide) (fun _ => rfl) (fun v13 hv14 => ?_)
          replace h := h v13 hv14
          exact h
theorem P_Rm_reserved_107 (nl : Bool) (Ln : Nat) (xs : Nat → Int32) : am_Jl (TT nl Ln xs) 340 [(107, .iload 9, 109, []), (109, .bipush 40, 111, []), (111, .iload 6, 113, []), (113, .imul, 114, []), (114, .aload_n 0, 115, []), (115, .getfield 88, 118, [9, 12, 16, 2]), (118, .getfield 296, 121, [9, 13, 51, 2]), (121, .iload 6, 123, []), (123, .iaload, 124, []), (124, .iadd, 125, []), (125, .if_icmp .ge 69, 128, []), (128, .aload_n 0, 129, []), (129, .getfield 88, 132, [9, 12, 16, 2]), (132, .getfield 299, 135, [9, 13, 52, 2]), (135, .iload 9, 137, []), (137, .iaload, 138, []), (138, .bipush 12, 140, []), (140, .if_icmp .ne 44, 143, []), (143, .aload_n 0, 144, []), (144, .getfield 88, 147, [9, 12, 16, 2]), (147, .getfield 302, 150, [9, 13, 55, 2]), (150, .iload 9, 152, []), (152, .iaload, 153, []), (153, .iload_n 1, 154, []), (154, .if_icmp .ne 30, 157, []), (157, .aload_n 0, 158, []), (158, .getfield 88, 161, [9, 12, 16, 2]), (161, .getfield 305, 164, [9, 13, 54, 2]), (164, .iload 9, 166, []), (166, .iaload, 167, []), (167, .iload_n 3, 168, []), (168, .if_icmp .gt 16, 171, []), (171, .aload_n 0, 172, []), (172, .getfield 88, 175, [9, 12, 16, 2]), (175, .getfield 308, 178, [9, 13, 58, 2]), (178, .iload 9, 180, []), (180, .laload, 181, []), (181, .goto 5, 184, []), (184, .lload 7, 186, []), (186, .lstore 7, 188, []), (188, .iinc 9 1, 191, []), (191, .goto (-84), 194, []), (194, .lload 4, 196, []), (196, .lload 7, 198, []), (198, .ladd, 199, []), (199, .lstore 4, 201, []), (201, .iinc 6 1, 204, []), (204, .goto (-162), 207, [])] := dk_ck (by decide +kernel)
set_option maxRecDepth 4096 in
theorem w_Rm_reserved_107 {nl : Bool} {Ln : Nat} {xs : Nat → Int32} {d : Nat} {this : Nat} {x1 : Int32} {x2 : Int32} {x3 : Int32} {x4 : Int64} {x6 : Int32} {x7 : Int64} {x9 : Int32} {σ : am_S} {F : Int64 → am_S → Prop} (h : (am_is σ (some this) 12) ∧ (am_is σ (am_fR σ 12016 this) 13) ∧ (am_ar σ 1000 (am_fR σ 13051 ((am_fR σ 12016 this).getD 0)) x6) ∧ (x9 < (((40 : Int32) * x6) + (am_aI σ ((am_fR σ 13051 ((am_fR σ 12016 this).getD 0)).getD 0) x6.toNatClampNeg)) → (am_ar σ 1000 (am_fR σ 13052 ((am_fR σ 12016 this).getD 0)) x9) ∧ (((am_aI σ ((am_fR σ 13052 ((am_fR σ 12016 this).getD 0)).getD 0) x9.toNatClampNeg) = (12 : Int32)) → am_ar σ 1000 (am_fR σ 13055 ((am_fR σ 12016 this).getD 0)) x9) ∧ (((am_aI σ ((am_fR σ 13052 ((am_fR σ 12016 this).getD 0)).getD 0) x9.toNatClampNeg) = (12 : Int32)) → ((am_aI σ ((am_fR σ 13055 ((am_fR σ 12016 this).getD 0)).getD 0) x9.toNatClampNeg) = x1) → am_ar σ 1000 (am_fR σ 13054 ((am_fR σ 12016 this).getD 0)) x9) ∧ (((am_aI σ ((am_fR σ 13052 ((am_fR σ 12016 this).getD 0)).getD 0) x9.toNatClampNeg) = (12 : Int32)) → ((am_aI σ ((am_fR σ 13055 ((am_fR σ 12016 this).getD 0)).getD 0) x9.toNatClampNeg) = x1) → ¬ (x3 < (am_aI σ ((am_fR σ 13054 ((am_fR σ 12016 this).getD 0)).getD 0) x9.toNatClampNeg)) → am_ar σ 1001 (am_fR σ 13058 ((am_fR σ 12016 this).getD 0)) x9) ∧ ∀ w13 : Int64, w13 = (if (am_aI σ ((am_fR σ 13052 ((am_fR σ 12016 this).getD 0)).getD 0) x9.toNatClampNeg) = (12 : Int32) then (if (am_aI σ ((am_fR σ 13055 ((am_fR σ 12016 this).getD 0)).getD 0) x9.toNatClampNeg) = x1 then (if x3 < (am_aI σ ((am_fR σ 13054 ((am_fR σ 12016 this).getD 0)).getD 0) x9.toNatClampNeg) then x7 else (am_aL σ ((am_fR σ 13058 ((am_fR σ 12016 this).getD 0)).getD 0) x9.toNatClampNeg)) else x7) else x7) → c_Rm_reserved_107 nl Ln xs (d + 1) this x1 x2 x3 x4 x6 w13 (x9 + (1 : Int32)) σ F) ∧ (¬ (x9 < (((40 : Int32) * x6) + (am_aI σ ((am_fR σ 13051 ((am_fR σ 12016 this).getD 0)).getD 0) x6.toNatClampNeg))) → ∀ v15 : Int64, v15 = (x4 + x7) → c_Rm_reserved_42 nl Ln xs (d + 1) this x1 x2 x3 v15 (x6 + (1 : Int32)) (some (.long x7)) none (some (.int x9)) σ F)) : c_Rm_reserved_107 nl Ln xs (d + 1) this x1 x2 x3 x4 x6 x7 x9 σ F := by
  obtain ⟨j107, j109, j111, j113, j114, j115, j118, j121, j123, j124, j125, j128, j129, j132, j135, j137, j138, j140, j143, j144, j147, j150, j152, j153, j154, j157, j158, j161, j164, j166, j167, j168, j171, j172, j175, j178, j180, j181, j184, j186, j188, j191, j194, j196, j198, j199, j201, j204, -⟩ := P_Rm_reserved_107 nl Ln xs
  unfold c_Rm_reserved_107
  refine s_iload j107 rfl rfl ?_
  refine s_bipush j109 rfl kc_bi_40 ?_
  refine s_iload j111 rfl rfl ?_
  refine s_g j113 rfl rfl rfl rfl rfl rfl ?_
  refine s_aload_n j114 rfl rfl ?_
  obtain ⟨ho1, h⟩ := h
  refine s_gfR j115 rfl ho1 ?_
  obtain ⟨ho2, h⟩ := h
  refine s_gfR j118 rfl ho2 ?_
  refine s_iload j121 rfl rfl ?_
  obtain ⟨ho3, h⟩ := h
  refine s_iaload j123 rfl ho3 ?_
  refine s_g j124 rfl rfl rfl rfl rfl rfl ?_
  refine s_icn j125 rfl rfl am_cc_ge (fun hc4 => ?_) (fun hc4 => ?_)
  · replace h := h.2 hc4
    refine s_lload j194 rfl rfl ?_
    refine s_lload j196 rfl rfl ?_
    refine s_g j198 rfl rfl rfl rfl rfl rfl ?_
    refine s_lstoreV j199 rfl (n := 10) (L' := fun w => [some (am_ov (some this)), some (.int x1), some (.int x2), some (.int x3), some (.long w), none, some (.int x6), some (.long x7), none, some (.int x9)]) rfl (by decide) (fun _ => rfl) (fun v15 hv16 => ?_)
    replace h := h v15 hv16
    refine s_iinc (L' := [some (am_ov (some this)), some (.int x1), some (.int x2), some (.int x3), some (.long v15), none, some (.int (x6 + (1 : Int32))), some (.long x7), none, some (.int x9)]) j201 rfl rfl kc_ic_1 rfl ?_
    refine s_goto j204 rfl rfl ?_
    exact h
  · replace h := h.1 hc4
    refine s_aload_n j128 rfl rfl ?_
    refine s_gfR j129 rfl ho1 ?_
    refine s_gfR j132 rfl ho2 ?_
    refine s_iload j135 rfl rfl ?_
    obtain ⟨ho5, h⟩ := h
    refine s_iaload j137 rfl ho5 ?_
    refine s_bipush j138 rfl kc_bi_12 ?_
    obtain ⟨ho7, h⟩ := h
    obtain ⟨ho9, h⟩ := h
    obtain ⟨ho11, h⟩ := h
    have K12 : ∀ (w13 : Int64), w13 = (if (am_aI σ ((am_fR σ 13052 ((am_fR σ 12016 this).getD 0)).getD 0) x9.toNatClampNeg) = (12 : Int32) then (if (am_aI σ ((am_fR σ 13055 ((am_fR σ 12016 this).getD 0)).getD 0) x9.toNatClampNeg) = x1 then (if x3 < (am_aI σ ((am_fR σ 13054 ((am_fR σ 12016 this).getD 0)).getD 0) x9.toNatClampNeg) then x7 else (am_aL σ ((am_fR σ 13058 ((am_fR σ 12016 this).getD 0)).getD 0) x9.toNatClampNeg)) else x7) else x7) → am_C (TT nl Ln xs) (d + 1) 340 186 [some (am_ov (some this)), some (.int x1), some (.int x2), some (.int x3), some (.long x4), none, some (.int x6), some (.long x7), none, some (.int x9)] [.long w13] σ (am_qL F) := by
      intro w13 hw14
      replace h := h w13 hw14
      refine s_lstore j186 rfl (n := 10) (L' := [some (am_ov (some this)), some (.int x1), some (.int x2), some (.int x3), some (.long x4), none, some (.int x6), some (.long w13), none, some (.int x9)]) rfl (by decide) rfl ?_
      refine s_iinc (L' := [some (am_ov (some this)), some (.int x1), some (.int x2), some (.int x3), some (.long x4), none, some (.int x6), some (.long w13), none, some (.int (x9 + (1 : Int32)))]) j188 rfl rfl kc_ic_1 rfl ?_
      refine s_goto j191 rfl rfl ?_
      exact h
    refine s_icn j140 rfl rfl am_cc_ne (fun hc6 => ?_) (fun hc6 => ?_)
    · refine s_lload j184 rfl rfl ?_
      exact K12 _ (am_t2 hc6 rfl)
    · refine s_aload_n j143 rfl rfl ?_
      refine s_gfR j144 rfl ho1 ?_
      refine s_gfR j147 rfl ho2 ?_
      refine s_iload j150 rfl rfl ?_
      refine s_iaload j152 rfl (ho7 hc6) ?_
      refine s_iload_n j153 rfl rfl ?_
      refine s_icn j154 rfl rfl am_cc_ne (fun hc8 => ?_) (fun hc8 => ?_)
      · refine s_lload j184 rfl rfl ?_
        exact K12 _ (am_t1 hc6 (am_t2 hc8 rfl))
      · refine s_aload_n j157 rfl rfl ?_
        refine s_gfR j158 rfl ho1 ?_
        refine s_gfR j161 rfl ho2 ?_
        refine s_iload j164 rfl rfl ?_
        refine s_iaload j166 rfl (ho9 hc6 hc8) ?_
        refine s_iload_n j167 rfl rfl ?_
        refine s_ic j168 rfl rfl am_cc_gt (fun hc10 => ?_) (fun hc10 => ?_)
        · refine s_lload j184 rfl rfl ?_
          exact K12 _ (am_t1 hc6 (am_t1 hc8 (am_t1 hc10 rfl)))
        · refine s_aload_n j171 rfl rfl ?_
          refine s_gfR j172 rfl ho1 ?_
          refine s_gfR j175 rfl ho2 ?_
          refine s_iload j178 rfl rfl ?_
          refine s_laload j180 rfl (ho11 hc6 hc8 hc10) ?_
          refine s_goto j181 rfl rfl ?_
          exact K12 _ (am_t1 hc6 (am_t1 hc8 (am_t2 hc10 rfl)))
theorem P_Rm_run (nl : Bool) (Ln : Nat) (xs : Nat → Int32) : am_Jl (TT nl Ln xs) 341 [(0, .iload_n 1, 1, []), (1, .i2l, 2, []), (2, .lconst 0, 3, []), (3, .lconst 1, 4, []), (4, .invokestatic 154, 7, [12, 209, 6, 3]), (7, .ifCond .eq 36, 10, []), (10, .iload_n 2, 11, []), (11, .i2l, 12, []), (12, .lconst 0, 13, []), (13, .ldc2_w 270, 16, [6, 29]), (16, .invokestatic 154, 19, [12, 209, 6, 3]), (19, .ifCond .eq 24, 22, []), (22, .iload_n 3, 23, []), (23, .i2l, 24, []), (24, .lconst 0, 25, []), (25, .ldc2_w 270, 28, [6, 29]), (28, .invokestatic 154, 31, [12, 209, 6, 3]), (31, .ifCond .eq 12, 34, []), (34, .aload_n 0, 35, []), (35, .iload 4, 37, []), (37, .invokevirtual 256, 40, [10, 332, 13, 2, 2]), (40, .ifCond .ne 9, 43, []), (43, .ldc2_w 173, 46, [6, 9223372036854775808]), (46, .goto 12, 49, []), (49, .aload_n 0, 50, []), (50, .iload_n 1, 51, []), (51, .iload_n 2, 52, []), (52, .iload_n 3, 53, []), (53, .iload 4, 55, []), (55, .invokevirtual 314, 58, [10, 342, 13, 11, 5]), (58, .lreturn, 59, [2])] := dk_ck (by decide +kernel)
set_option maxRecDepth 4096 in
theorem w_Rm_run {nl : Bool} {Ln : Nat} {xs : Nat → Int32} {d : Nat} {this : Nat} {p0 : Int32} {p1 : Int32} {p2 : Int32} {p3 : Int32} {σ : am_S} {F : Int64 → am_S → Prop} (h : k_Rm_in nl Ln xs d p0.toInt64 (0 : Int64) (1 : Int64) σ (fun a2 σ1 => am_ext σ σ1 → (a2 = true → k_Rm_in nl Ln xs d p1.toInt64 (0 : Int64) (29 : Int64) σ1 (fun a5 σ4 => am_ext σ1 σ4 → (a5 = true → k_Rm_in nl Ln xs d p2.toInt64 (0 : Int64) (29 : Int64) σ4 (fun a8 σ7 => am_ext σ4 σ7 → (a8 = true → (am_is σ7 (some this) 12) ∧ k_Rm_isMoment nl Ln xs d this p3 σ7 (fun a12 σ11 => am_ext σ7 σ11 → (a12 = true → k_Rm_runs nl Ln xs d this p0 p1 p2 p3 σ11 (fun a15 σ14 => am_ext σ11 σ14 → F a15 σ14)) ∧ (¬ (a12 = true) → F (-9223372036854775808 : Int64) σ11))) ∧ (¬ (a8 = true) → F (-9223372036854775808 : Int64) σ7))) ∧ (¬ (a5 = true) → F (-9223372036854775808 : Int64) σ4))) ∧ (¬ (a2 = true) → F (-9223372036854775808 : Int64) σ1))) : k_Rm_run nl Ln xs (d + 1) this p0 p1 p2 p3 σ F := by
  obtain ⟨j0, j1, j2, j3, j4, j7, j10, j11, j12, j13, j16, j19, j22, j23, j24, j25, j28, j31, j34, j35, j37, j40, j43, j46, j49, j50, j51, j52, j53, j55, j58, -⟩ := P_Rm_run nl Ln xs
  have elo : am_lo 5 [am_ov (some this), .int p0, .int p1, .int p2, .int p3] = [some (am_ov (some this)), some (.int p0), some (.int p1), some (.int p2), some (.int p3)] := by simp only [am_lo, am_in_ov, am_in_int, am_in_long, am_in_nil]; rfl
  unfold k_Rm_run
  rw [elo]
  refine s_iload_n j0 rfl rfl ?_
  refine s_g j1 rfl rfl rfl rfl rfl rfl ?_
  refine s_lconst j2 rfl rfl ?_
  refine s_lconst j3 rfl rfl ?_
  refine s_stat j4 rfl rfl rfl rfl (by decide) (in_Rm_in _ _ _) (am_r8 rfl) (am_bB h (fun a2 σ1 h hx1 => ?_))
  replace h := h hx1
  refine s_ifn j7 rfl rfl am_cb_eq (fun hc3 => ?_) (fun hc3 => ?_)
  · replace h := h.2 hc3
    refine s_ldc2 j43 rfl kc_ll_m9223372036854775808 ?_
    refine s_goto j46 rfl rfl ?_
    exact s_retL j58 rfl h
  · replace h := h.1 hc3
    refine s_iload_n j10 rfl rfl ?_
    refine s_g j11 rfl rfl rfl rfl rfl rfl ?_
    refine s_lconst j12 rfl rfl ?_
    refine s_ldc2 j13 rfl kc_ll_29 ?_
    refine s_stat j16 rfl rfl rfl rfl (by decide) (in_Rm_in _ _ _) (am_r8 rfl) (am_bB h (fun a5 σ4 h hx4 => ?_))
    replace h := h hx4
    refine s_ifn j19 rfl rfl am_cb_eq (fun hc6 => ?_) (fun hc6 => ?_)
    · replace h := h.2 hc6
      refine s_ldc2 j43 rfl kc_ll_m9223372036854775808 ?_
      refine s_goto j46 rfl rfl ?_
      exact s_retL j58 rfl h
    · replace h := h.1 hc6
      refine s_iload_n j22 rfl rfl ?_
      refine s_g j23 rfl rfl rfl rfl rfl rfl ?_
      refine s_lconst j24 rfl rfl ?_
      refine s_ldc2 j25 rfl kc_ll_29 ?_
      refine s_stat j28 rfl rfl rfl rfl (by decide) (in_Rm_in _ _ _) (am_r8 rfl) (am_bB h (fun a8 σ7 h hx7 => ?_))
      replace h := h hx7
      refine s_ifn j31 rfl rfl am_cb_eq (fun hc9 => ?_) (fun hc9 => ?_)
      · replace h := h.2 hc9
        refine s_ldc2 j43 rfl kc_ll_m9223372036854775808 ?_
        refine s_goto j46 rfl rfl ?_
        exact s_retL j58 rfl h
      · replace h := h.1 hc9
        refine s_aload_n j34 rfl rfl ?_
        refine s_iload j35 rfl rfl ?_
        obtain ⟨ho10, h⟩ := h
        refine s_virt j37 rfl rfl rfl rfl ho10 (by decide) (in_Rm_isMoment _ _) (am_r8 rfl) (am_bB h (fun a12 σ11 h hx11 => ?_))
        replace h := h hx11
        refine s_if j40 rfl rfl am_cb_ne (fun hc13 => ?_) (fun hc13 => ?_)
        · replace h := h.1 hc13
          refine s_aload_n j49 rfl rfl ?_
          refine s_iload_n j50 rfl rfl ?_
          refine s_iload_n j51 rfl rfl ?_
          refine s_iload_n j52 rfl rfl ?_
          refine s_iload j53 rfl rfl ?_
          refine s_virt j55 rfl rfl rfl rfl (am_is_ext hx11 ho10) (by decide) (in_Rm_runs _ _ _ _ _) (am_r8 rfl) (am_bL h (fun a15 σ14 h hx14 => ?_))
          replace h := h hx14
          exact s_retL j58 rfl h
        · replace h := h.2 hc13
          refine s_ldc2 j43 rfl kc_ll_m9223372036854775808 ?_
          refine s_goto j46 rfl rfl ?_
          exact s_retL j58 rfl h
theorem P_Rm_runs (nl : Bool) (Ln : Nat) (xs : Nat → Int32) : am_Jl (TT nl Ln xs) 342 [(0, .lconst 0, 1, []), (1, .lstore 5, 3, []), (3, .iconst 0, 4, []), (4, .istore 7, 6, [])] := dk_ck (by decide +kernel)
set_option maxRecDepth 4096 in
theorem w_Rm_runs {nl : Bool} {Ln : Nat} {xs : Nat → Int32} {d : Nat} {this : Nat} {p0 : Int32} {p1 : Int32} {p2 : Int32} {p3 : Int32} {σ : am_S} {F : Int64 → am_S → Prop} (h : c_Rm_runs_6 nl Ln xs (d + 1) this p0 p1 p2 p3 (0 : Int64) (0 : Int32) none none none σ F) : k_Rm_runs nl Ln xs (d + 1) this p0 p1 p2 p3 σ F := by
  obtain ⟨j0, j1, j3, j4, -⟩ := P_Rm_runs nl Ln xs
  have elo : am_lo 11 [am_ov (some this), .int p0, .int p1, .int p2, .int p3] = [some (am_ov (some this)), some (.int p0), some (.int p1), some (.int p2), some (.int p3), none, none, none, none, none, none] := by simp only [am_lo, am_in_ov, am_in_int, am_in_long, am_in_nil]; rfl
  unfold k_Rm_runs
  rw [elo]
  refine s_lconst j0 rfl rfl ?_
  refine s_lstore j1 rfl (n := 11) (L' := [some (am_ov (some this)), some (.int p0), some (.int p1), some (.int p2), some (.int p3), some (.long (0 : Int64)), none, none, none, none, none]) rfl (by decide) rfl ?_
  refine s_iconst j3 rfl kc_ic_0 ?_
  refine s_istore j4 rfl (n := 11) (L' := [some (am_ov (some this)), some (.int p0), some (.int p1), some (.int p2), some (.int p3), some (.long (0 : Int64)), none, some (.int (0 : Int32)), none, none, none]) rfl (by decide) rfl ?_
  exact h
theorem P_Rm_runs_6 (nl : Bool) (Ln : Nat) (xs : Nat → Int32) : am_Jl (TT nl Ln xs) 342 [(6, .iload 7, 8, []), (8, .aload_n 0, 9, []), (9, .getfield 88, 12, [9, 12, 16, 2]), (12, .getfield 285, 15, [9, 13, 45, 0]), (15, .if_icmp .ge 162, 18, []), (18, .iload_n 1, 19, []), (19, .ifCond .ne 15, 22, []), (22, .aload_n 0, 23, []), (23, .getfield 88, 26, [9, 12, 16, 2]), (26, .iload 7, 28, []), (28, .invokevirtual 288, 31, [10, 254, 14, 2, 2]), (31, .goto 17, 34, []), (34, .aload_n 0, 35, []), (35, .getfield 88, 38, [9, 12, 16, 2]), (38, .getfield 162, 41, [9, 13, 49, 2]), (41, .iload 7, 43, []), (43, .iaload, 44, []), (44, .sipush 365, 47, []), (47, .idiv, 48, []), (48, .istore 8, 50, []), (50, .bipush 40, 52, []), (52, .iload 7, 54, []), (54, .imul, 55, []), (55, .istore 9, 57, []), (177, .lload 5, 179, []), (179, .lreturn, 180, [2])] := dk_ck (by decide +kernel)
set_option maxRecDepth 4096 in
theorem w_Rm_runs_6 {nl : Bool} {Ln : Nat} {xs : Nat → Int32} {d : Nat} {this : Nat} {x1 : Int32} {x2 : Int32} {x3 : Int32} {x4 : Int32} {x5 : Int64} {x7 : Int32} {x8 : Option Value} {x9 : Option Value} {x10 : Option Value} {σ : am_S} {F : Int64 → am_S → Prop} (h : (am_is σ (some this) 12) ∧ (am_is σ (am_fR σ 12016 this) 13) ∧ (x7 < (am_fI σ 13045 ((am_fR σ 12016 this).getD 0)) → (x1 = 0 → k_Ro_lossYear nl Ln xs d ((am_fR σ 12016 this).getD 0) x7 σ (fun a6 σ5 => am_ext σ σ5 → ∀ v7 : Int32, v7 = ((40 : Int32) * x7) → c_Rm_runs_57 nl Ln xs (d + 1) this x1 x2 x3 x4 x5 x7 a6 v7 x10 σ5 F)) ∧ (¬ (x1 = 0) → (am_ar σ 1000 (am_fR σ 13049 ((am_fR σ 12016 this).getD 0)) x7) ∧ ∀ v10 : Int32, v10 = ((am_aI σ ((am_fR σ 13049 ((am_fR σ 12016 this).getD 0)).getD 0) x7.toNatClampNeg) / (365 : Int32)) → ∀ v12 : Int32, v12 = ((40 : Int32) * x7) → c_Rm_runs_57 nl Ln xs (d + 1) this x1 x2 x3 x4 x5 x7 v10 v12 x10 σ F)) ∧ (¬ (x7 < (am_fI σ 13045 ((am_fR σ 12016 this).getD 0))) → F x5 σ)) : c_Rm_runs_6 nl Ln xs (d + 1) this x1 x2 x3 x4 x5 x7 x8 x9 x10 σ F := by
  obtain ⟨j6, j8, j9, j12, j15, j18, j19, j22, j23, j26, j28, j31, j34, j35, j38, j41, j43, j44, j47, j48, j50, j52, j54, j55, j177, j179, -⟩ := P_Rm_runs_6 nl Ln xs
  unfold c_Rm_runs_6
  refine s_iload j6 rfl rfl ?_
  refine s_aload_n j8 rfl rfl ?_
  obtain ⟨ho1, h⟩ := h
  refine s_gfR j9 rfl ho1 ?_
  obtain ⟨ho2, h⟩ := h
  refine s_gfI j12 rfl ho2 ?_
  refine s_icn j15 rfl rfl am_cc_ge (fun hc3 => ?_) (fun hc3 => ?_)
  · replace h := h.2 hc3
    refine s_lload j177 rfl rfl ?_
    exact s_retL j179 rfl h
  · replace h := h.1 hc3
    refine s_iload_n j18 rfl rfl ?_
    refine s_ifn j19 rfl rfl am_cc_ne (fun hc4 => ?_) (fun hc4 => ?_)
    · replace h := h.2 hc4
      refine s_aload_n j34 rfl rfl ?_
      refine s_gfR j35 rfl ho1 ?_
      refine s_gfR j38 rfl ho2 ?_
      refine s_iload j41 rfl rfl ?_
      obtain ⟨ho9, h⟩ := h
      refine s_iaload j43 rfl ho9 ?_
      refine s_sipush j44 rfl kc_si_365 ?_
      refine s_idiv j47 rfl (by decide) ?_
      refine s_istoreV j48 rfl (n := 11) (L' := fun w => [some (am_ov (some this)), some (.int x1), some (.int x2), some (.int x3), some (.int x4), some (.long x5), none, some (.int x7), some (.int w), x9, x10]) rfl (by decide) (fun _ => rfl) (fun v10 hv11 => ?_)
      replace h := h v10 hv11
      refine s_bipush j50 rfl kc_bi_40 ?_
      refine s_iload j52 rfl rfl ?_
      refine s_g j54 rfl rfl rfl rfl rfl rfl ?_
      refine s_istoreV j55 rfl (n := 11) (L' := fun w => [some (am_ov (some this)), some (.int x1), some (.int x2), some (.int x3), some (.int x4), some (.long x5), none, some (.int x7), some (.int v10), some (.int w), x10]) rfl (by decide) (fun _ => rfl) (fun v12 hv13 => ?_)
      replace h := h v12 hv13
      exact h
    · replace h := h.1 hc4
      refine s_aload_n j22 rfl rfl ?_
      refine s_gfR j23 rfl ho1 ?_
      refine s_iload j26 rfl rfl ?_
      refine s_virt j28 rfl rfl rfl rfl ho2 (by decide) (in_Ro_lossYear _ _) (am_r8 rfl) (am_bI h (fun a6 σ5 h hx5 => ?_))
      replace h := h hx5
      refine s_goto j31 rfl rfl ?_
      refine s_istore j48 rfl (n := 11) (L' := [some (am_ov (some this)), some (.int x1), some (.int x2), some (.int x3), some (.int x4), some (.long x5), none, some (.int x7), some (.int a6), x9, x10]) rfl (by decide) rfl ?_
      refine s_bipush j50 rfl kc_bi_40 ?_
      refine s_iload j52 rfl rfl ?_
      refine s_g j54 rfl rfl rfl rfl rfl rfl ?_
      refine s_istoreV j55 rfl (n := 11) (L' := fun w => [some (am_ov (some this)), some (.int x1), some (.int x2), some (.int x3), some (.int x4), some (.long x5), none, some (.int x7), some (.int a6), some (.int w), x10]) rfl (by decide) (fun _ => rfl) (fun v7 hv8 => ?_)
      replace h := h v7 hv8
      exact h
theorem P_Rm_runs_57 (nl : Bool) (Ln : Nat) (xs : Nat → Int32) : am_Jl (TT nl Ln xs) 342 [(57, .iload 8, 59, []), (59, .iload_n 2, 60, []), (60, .if_icmp .ne 111, 63, []), (63, .iload 9, 65, []), (65, .bipush 40, 67, []), (67, .iload 7, 69, []), (69, .imul, 70, []), (70, .aload_n 0, 71, []), (71, .getfield 88, 74, [9, 12, 16, 2]), (74, .getfield 296, 77, [9, 13, 51, 2]), (77, .iload 7, 79, []), (79, .iaload, 80, []), (80, .iadd, 81, []), (81, .if_icmp .ge 90, 84, []), (84, .aload_n 0, 85, []), (85, .getfield 88, 88, [9, 12, 16, 2]), (88, .getfield 299, 91, [9, 13, 52, 2]), (91, .iload 9, 93, []), (93, .iaload, 94, []), (94, .bipush 13, 96, []), (96, .if_icmp .ne 42, 99, []), (99, .aload_n 0, 100, []), (100, .getfield 88, 103, [9, 12, 16, 2]), (103, .getfield 305, 106, [9, 13, 54, 2]), (106, .iload 9, 108, []), (108, .iaload, 109, []), (109, .iload 4, 111, []), (111, .if_icmp .gt 27, 114, []), (114, .aload_n 0, 115, []), (115, .getfield 88, 118, [9, 12, 16, 2]), (118, .getfield 311, 121, [9, 13, 53, 2]), (121, .iload 9, 123, []), (123, .iaload, 124, []), (124, .sipush 365, 127, []), (127, .idiv, 128, []), (128, .iload_n 2, 129, []), (129, .isub, 130, []), (130, .iload_n 3, 131, []), (131, .if_icmp .ne 7, 134, []), (134, .iconst 1, 135, []), (135, .goto 4, 138, []), (138, .iconst 0, 139, []), (171, .iinc 7 1, 174, []), (174, .goto (-168), 177, [])] := dk_ck (by decide +kernel)
set_option maxRecDepth 4096 in
theorem w_Rm_runs_57 {nl : Bool} {Ln : Nat} {xs : Nat → Int32} {d : Nat} {this : Nat} {x1 : Int32} {x2 : Int32} {x3 : Int32} {x4 : Int32} {x5 : Int64} {x7 : Int32} {x8 : Int32} {x9 : Int32} {x10 : Option Value} {σ : am_S} {F : Int64 → am_S → Prop} (h : (x8 = x2 → (am_is σ (some this) 12) ∧ (am_is σ (am_fR σ 12016 this) 13) ∧ (am_ar σ 1000 (am_fR σ 13051 ((am_fR σ 12016 this).getD 0)) x7) ∧ (x9 < (((40 : Int32) * x7) + (am_aI σ ((am_fR σ 13051 ((am_fR σ 12016 this).getD 0)).getD 0) x7.toNatClampNeg)) → (am_ar σ 1000 (am_fR σ 13052 ((am_fR σ 12016 this).getD 0)) x9) ∧ (((am_aI σ ((am_fR σ 13052 ((am_fR σ 12016 this).getD 0)).getD 0) x9.toNatClampNeg) = (13 : Int32)) → am_ar σ 1000 (am_fR σ 13054 ((am_fR σ 12016 this).getD 0)) x9) ∧ (((am_aI σ ((am_fR σ 13052 ((am_fR σ 12016 this).getD 0)).getD 0) x9.toNatClampNeg) = (13 : Int32)) → ¬ (x4 < (am_aI σ ((am_fR σ 13054 ((am_fR σ 12016 this).getD 0)).getD 0) x9.toNatClampNeg)) → am_ar σ 1000 (am_fR σ 13053 ((am_fR σ 12016 this).getD 0)) x9) ∧ c_Rm_runs_139 nl Ln xs (d + 1) this x1 x2 x3 x4 x5 x7 x8 x9 x10 (if ((am_aI σ ((am_fR σ 13052 ((am_fR σ 12016 this).getD 0)).getD 0) x9.toNatClampNeg) = (13 : Int32)) ∧ (¬ (x4 < (am_aI σ ((am_fR σ 13054 ((am_fR σ 12016 this).getD 0)).getD 0) x9.toNatClampNeg)) ∧ ((((am_aI σ ((am_fR σ 13053 ((am_fR σ 12016 this).getD 0)).getD 0) x9.toNatClampNeg) / (365 : Int32)) - x2) = x3)) then (1 : Int32) else 0) σ F) ∧ (¬ (x9 < (((40 : Int32) * x7) + (am_aI σ ((am_fR σ 13051 ((am_fR σ 12016 this).getD 0)).getD 0) x7.toNatClampNeg))) → c_Rm_runs_6 nl Ln xs (d + 1) this x1 x2 x3 x4 x5 (x7 + (1 : Int32)) (some (.int x8)) (some (.int x9)) x10 σ F)) ∧ (¬ (x8 = x2) → c_Rm_runs_6 nl Ln xs (d + 1) this x1 x2 x3 x4 x5 (x7 + (1 : Int32)) (some (.int x8)) (some (.int x9)) x10 σ F)) : c_Rm_runs_57 nl Ln xs (d + 1) this x1 x2 x3 x4 x5 x7 x8 x9 x10 σ F := by
  obtain ⟨j57, j59, j60, j63, j65, j67, j69, j70, j71, j74, j77, j79, j80, j81, j84, j85, j88, j91, j93, j94, j96, j99, j100, j103, j106, j108, j109, j111, j114, j115, j118, j121, j123, j124, j127, j128, j129, j130, j131, j134, j135, j138, j171, j174, -⟩ := P_Rm_runs_57 nl Ln xs
  unfold c_Rm_runs_57
  refine s_iload j57 rfl rfl ?_
  refine s_iload_n j59 rfl rfl ?_
  refine s_icn j60 rfl rfl am_cc_ne (fun hc1 => ?_) (fun hc1 => ?_)
  · replace h := h.2 hc1
    refine s_iinc (L' := [some (am_ov (some this)), some (.int x1), some (.int x2), some (.int x3), some (.int x4), some (.long x5), none, some (.int (x7 + (1 : Int32))), some (.int x8), some (.int x9), x10]) j171 rfl rfl kc_ic_1 rfl ?_
    refine s_goto j174 rfl rfl ?_
    exact h
  · replace h := h.1 hc1
    refine s_iload j63 rfl rfl ?_
    refine s_bipush j65 rfl kc_bi_40 ?_
    refine s_iload j67 rfl rfl ?_
    refine s_g j69 rfl rfl rfl rfl rfl rfl ?_
    refine s_aload_n j70 rfl rfl ?_
    obtain ⟨ho2, h⟩ := h
    refine s_gfR j71 rfl ho2 ?_
    obtain ⟨ho3, h⟩ := h
    refine s_gfR j74 rfl ho3 ?_
    refine s_iload j77 rfl rfl ?_
    obtain ⟨ho4, h⟩ := h
    refine s_iaload j79 rfl ho4 ?_
    refine s_g j80 rfl rfl rfl rfl rfl rfl ?_
    refine s_icn j81 rfl rfl am_cc_ge (fun hc5 => ?_) (fun hc5 => ?_)
    · replace h := h.2 hc5
      refine s_iinc (L' := [some (am_ov (some this)), some (.int x1), some (.int x2), some (.int x3), some (.int x4), some (.long x5), none, some (.int (x7 + (1 : Int32))), some (.int x8), some (.int x9), x10]) j171 rfl rfl kc_ic_1 rfl ?_
      refine s_goto j174 rfl rfl ?_
      exact h
    · replace h := h.1 hc5
      refine s_aload_n j84 rfl rfl ?_
      refine s_gfR j85 rfl ho2 ?_
      refine s_gfR j88 rfl ho3 ?_
      refine s_iload j91 rfl rfl ?_
      obtain ⟨ho6, h⟩ := h
      refine s_iaload j93 rfl ho6 ?_
      refine s_bipush j94 rfl kc_bi_13 ?_
      obtain ⟨ho8, h⟩ := h
      obtain ⟨ho10, h⟩ := h
      have K12 : ∀ (w13 : Int32), w13 = (if ((am_aI σ ((am_fR σ 13052 ((am_fR σ 12016 this).getD 0)).getD 0) x9.toNatClampNeg) = (13 : Int32)) ∧ (¬ (x4 < (am_aI σ ((am_fR σ 13054 ((am_fR σ 12016 this).getD 0)).getD 0) x9.toNatClampNeg)) ∧ ((((am_aI σ ((am_fR σ 13053 ((am_fR σ 12016 this).getD 0)).getD 0) x9.toNatClampNeg) / (365 : Int32)) - x2) = x3)) then (1 : Int32) else 0) → am_C (TT nl Ln xs) (d + 1) 342 139 [some (am_ov (some this)), some (.int x1), some (.int x2), some (.int x3), some (.int x4), some (.long x5), none, some (.int x7), some (.int x8), some (.int x9), x10] [.int w13] σ (am_qL F) := by
        intro w13 hw14
        subst hw14
        exact h
      refine s_icn j96 rfl rfl am_cc_ne (fun hc7 => ?_) (fun hc7 => ?_)
      · refine s_iconst j138 rfl kc_ic_0 ?_
        exact K12 _ (am_e0 (Iff.trans Iff.rfl (am_p2 hc7)))
      · refine s_aload_n j99 rfl rfl ?_
        refine s_gfR j100 rfl ho2 ?_
        refine s_gfR j103 rfl ho3 ?_
        refine s_iload j106 rfl rfl ?_
        refine s_iaload j108 rfl (ho8 hc7) ?_
        refine s_iload j109 rfl rfl ?_
        refine s_ic j111 rfl rfl am_cc_gt (fun hc9 => ?_) (fun hc9 => ?_)
        · refine s_iconst j138 rfl kc_ic_0 ?_
          exact K12 _ (am_e0 (am_p1 hc7 (Iff.trans Iff.rfl (am_p6 hc9))))
        · refine s_aload_n j114 rfl rfl ?_
          refine s_gfR j115 rfl ho2 ?_
          refine s_gfR j118 rfl ho3 ?_
          refine s_iload j121 rfl rfl ?_
          refine s_iaload j123 rfl (ho10 hc7 hc9) ?_
          refine s_sipush j124 rfl kc_si_365 ?_
          refine s_idiv j127 rfl (by decide) ?_
          refine s_iload_n j128 rfl rfl ?_
          refine s_g j129 rfl rfl rfl rfl rfl rfl ?_
          refine s_iload_n j130 rfl rfl ?_
          refine s_icn j131 rfl rfl am_cc_ne (fun hc11 => ?_) (fun hc11 => ?_)
          · refine s_iconst j138 rfl kc_ic_0 ?_
            exact K12 _ (am_e0 (am_p1 hc7 (am_p5 hc9 (Iff.trans Iff.rfl (am_p10 hc11)))))
          · refine s_iconst j134 rfl kc_ic_1 ?_
            refine s_goto j135 rfl rfl ?_
            exact K12 _ (am_e1 (am_p1 hc7 (am_p5 hc9 (Iff.trans Iff.rfl (am_p9 hc11)))))
theorem P_Rm_runs_139 (nl : Bool) (Ln : Nat) (xs : Nat → Int32) : am_Jl (TT nl Ln xs) 342 [(139, .istore 10, 141, []), (141, .lload 5, 143, []), (143, .iload 10, 145, []), (145, .ifCond .eq 16, 148, []), (148, .aload_n 0, 149, []), (149, .getfield 88, 152, [9, 12, 16, 2]), (152, .getfield 308, 155, [9, 13, 58, 2]), (155, .iload 9, 157, []), (157, .laload, 158, []), (158, .goto 4, 161, []), (161, .lconst 0, 162, []), (162, .ladd, 163, []), (163, .lstore 5, 165, []), (165, .iinc 9 1, 168, []), (168, .goto (-111), 171, [])] := dk_ck (by decide +kernel)
set_option maxRecDepth 4096 in
theorem w_Rm_runs_139 {nl : Bool} {Ln : Nat} {xs : Nat → Int32} {d : Nat} {this : Nat} {x1 : Int32} {x2 : Int32} {x3 : Int32} {x4 : Int32} {x5 : Int64} {x7 : Int32} {x8 : Int32} {x9 : Int32} {x10 : Option Value} {y0 : Int32} {σ : am_S} {F : Int64 → am_S → Prop} (h : (¬ (y0 = 0) → am_is σ (some this) 12) ∧ (¬ (y0 = 0) → am_is σ (am_fR σ 12016 this) 13) ∧ (¬ (y0 = 0) → am_ar σ 1001 (am_fR σ 13058 ((am_fR σ 12016 this).getD 0)) x9) ∧ ∀ w6 : Int64, w6 = (if y0 = 0 then (0 : Int64) else (am_aL σ ((am_fR σ 13058 ((am_fR σ 12016 this).getD 0)).getD 0) x9.toNatClampNeg)) → ∀ v8 : Int64, v8 = (x5 + w6) → c_Rm_runs_57 nl Ln xs (d + 1) this x1 x2 x3 x4 v8 x7 x8 (x9 + (1 : Int32)) (some (.int y0)) σ F) : c_Rm_runs_139 nl Ln xs (d + 1) this x1 x2 x3 x4 x5 x7 x8 x9 x10 y0 σ F := by
  obtain ⟨j139, j141, j143, j145, j148, j149, j152, j155, j157, j158, j161, j162, j163, j165, j168, -⟩ := P_Rm_runs_139 nl Ln xs
  unfold c_Rm_runs_139
  refine s_istore j139 rfl (n := 11) (L' := [some (am_ov (some this)), some (.int x1), some (.int x2), some (.int x3), some (.int x4), some (.long x5), none, some (.int x7), some (.int x8), some (.int x9), some (.int y0)]) rfl (by decide) rfl ?_
  refine s_lload j141 rfl rfl ?_
  refine s_iload j143 rfl rfl ?_
  obtain ⟨ho2, h⟩ := h
  obtain ⟨ho3, h⟩ := h
  obtain ⟨ho4, h⟩ := h
  have K5 : ∀ (w6 : Int64), w6 = (if y0 = 0 then (0 : Int64) else (am_aL σ ((am_fR σ 13058 ((am_fR σ 12016 this).getD 0)).getD 0) x9.toNatClampNeg)) → am_C (TT nl Ln xs) (d + 1) 342 162 [some (am_ov (some this)), some (.int x1), some (.int x2), some (.int x3), some (.int x4), some (.long x5), none, some (.int x7), some (.int x8), some (.int x9), some (.int y0)] [.long w6, .long x5] σ (am_qL F) := by
    intro w6 hw7
    replace h := h w6 hw7
    refine s_g j162 rfl rfl rfl rfl rfl rfl ?_
    refine s_lstoreV j163 rfl (n := 11) (L' := fun w => [some (am_ov (some this)), some (.int x1), some (.int x2), some (.int x3), some (.int x4), some (.long w), none, some (.int x7), some (.int x8), some (.int x9), some (.int y0)]) rfl (by decide) (fun _ => rfl) (fun v8 hv9 => ?_)
    replace h := h v8 hv9
    refine s_iinc (L' := [some (am_ov (some this)), some (.int x1), some (.int x2), some (.int x3), some (.int x4), some (.long v8), none, some (.int x7), some (.int x8), some (.int (x9 + (1 : Int32))), some (.int y0)]) j165 rfl rfl kc_ic_1 rfl ?_
    refine s_goto j168 rfl rfl ?_
    exact h
  refine s_if j145 rfl rfl am_cc_eq (fun hc1 => ?_) (fun hc1 => ?_)
  · refine s_lconst j161 rfl rfl ?_
    exact K5 _ (am_t1 hc1 rfl)
  · refine s_aload_n j148 rfl rfl ?_
    refine s_gfR j149 rfl (ho2 hc1) ?_
    refine s_gfR j152 rfl (ho3 hc1) ?_
    refine s_iload j155 rfl rfl ?_
    refine s_laload j157 rfl (ho4 hc1) ?_
    refine s_goto j158 rfl rfl ?_
    exact K5 _ (am_t2 hc1 rfl)
theorem P_Rm_factor (nl : Bool) (Ln : Nat) (xs : Nat → Int32) : am_Jl (TT nl Ln xs) 343 [(0, .iload_n 1, 1, []), (1, .i2l, 2, []), (2, .lconst 0, 3, []), (3, .lconst 1, 4, []), (4, .invokestatic 154, 7, [12, 209, 6, 3]), (7, .ifCond .eq 47, 10, []), (10, .iload_n 2, 11, []), (11, .i2l, 12, []), (12, .lconst 0, 13, []), (13, .ldc2_w 270, 16, [6, 29]), (16, .invokestatic 154, 19, [12, 209, 6, 3]), (19, .ifCond .eq 35, 22, []), (22, .iload_n 3, 23, []), (23, .i2l, 24, []), (24, .lconst 0, 25, []), (25, .ldc2_w 270, 28, [6, 29]), (28, .invokestatic 154, 31, [12, 209, 6, 3]), (31, .ifCond .eq 23, 34, []), (34, .iload 4, 36, []), (36, .i2l, 37, []), (37, .lconst 0, 38, []), (38, .lconst 1, 39, []), (39, .invokestatic 154, 42, [12, 209, 6, 3]), (42, .ifCond .eq 12, 45, []), (45, .aload_n 0, 46, []), (46, .iload 5, 48, []), (48, .invokevirtual 256, 51, [10, 332, 13, 2, 2]), (51, .ifCond .ne 7, 54, []), (54, .ldc2_w 173, 57, [6, 9223372036854775808]), (57, .lreturn, 58, [2]), (58, .lconst 0, 59, []), (59, .lstore 6, 61, []), (61, .lconst 0, 62, []), (62, .lstore 8, 64, []), (64, .iconst 0, 65, []), (65, .istore 10, 67, [])] := dk_ck (by decide +kernel)
set_option maxRecDepth 4096 in
theorem w_Rm_factor {nl : Bool} {Ln : Nat} {xs : Nat → Int32} {d : Nat} {this : Nat} {p0 : Int32} {p1 : Int32} {p2 : Int32} {p3 : Int32} {p4 : Int32} {σ : am_S} {F : Int64 → am_S → Prop} (h : k_Rm_in nl Ln xs d p0.toInt64 (0 : Int64) (1 : Int64) σ (fun a2 σ1 => am_ext σ σ1 → (a2 = true → k_Rm_in nl Ln xs d p1.toInt64 (0 : Int64) (29 : Int64) σ1 (fun a5 σ4 => am_ext σ1 σ4 → (a5 = true → k_Rm_in nl Ln xs d p2.toInt64 (0 : Int64) (29 : Int64) σ4 (fun a8 σ7 => am_ext σ4 σ7 → (a8 = true → k_Rm_in nl Ln xs d p3.toInt64 (0 : Int64) (1 : Int64) σ7 (fun a11 σ10 => am_ext σ7 σ10 → (a11 = true → (am_is σ10 (some this) 12) ∧ k_Rm_isMoment nl Ln xs d this p4 σ10 (fun a15 σ14 => am_ext σ10 σ14 → (a15 = true → c_Rm_factor_67 nl Ln xs (d + 1) this p0 p1 p2 p3 p4 (0 : Int64) (0 : Int64) (0 : Int32) none σ14 F) ∧ (¬ (a15 = true) → F (-9223372036854775808 : Int64) σ14))) ∧ (¬ (a11 = true) → F (-9223372036854775808 : Int64) σ10))) ∧ (¬ (a8 = true) → F (-9223372036854775808 : Int64) σ7))) ∧ (¬ (a5 = true) → F (-9223372036854775808 : Int64) σ4))) ∧ (¬ (a2 = true) → F (-9223372036854775808 : Int64) σ1))) : k_Rm_factor nl Ln xs (d + 1) this p0 p1 p2 p3 p4 σ F := by
  obtain ⟨j0, j1, j2, j3, j4, j7, j10, j11, j12, j13, j16, j19, j22, j23, j24, j25, j28, j31, j34, j36, j37, j38, j39, j42, j45, j46, j48, j51, j54, j57, j58, j59, j61, j62, j64, j65, -⟩ := P_Rm_factor nl Ln xs
  have elo : am_lo 18 [am_ov (some this), .int p0, .int p1, .int p2, .int p3, .int p4] = [some (am_ov (some this)), some (.int p0), some (.int p1), some (.int p2), some (.int p3), some (.int p4), none, none, none, none, none, none, none, none, none, none, none, none] := by simp only [am_lo, am_in_ov, am_in_int, am_in_long, am_in_nil]; rfl
  unfold k_Rm_factor
  rw [elo]
  refine s_iload_n j0 rfl rfl ?_
  refine s_g j1 rfl rfl rfl rfl rfl rfl ?_
  refine s_lconst j2 rfl rfl ?_
  refine s_lconst j3 rfl rfl ?_
  refine s_stat j4 rfl rfl rfl rfl (by decide) (in_Rm_in _ _ _) (am_r8 rfl) (am_bB h (fun a2 σ1 h hx1 => ?_))
  replace h := h hx1
  refine s_ifn j7 rfl rfl am_cb_eq (fun hc3 => ?_) (fun hc3 => ?_)
  · replace h := h.2 hc3
    refine s_ldc2 j54 rfl kc_ll_m9223372036854775808 ?_
    exact s_retL j57 rfl h
  · replace h := h.1 hc3
    refine s_iload_n j10 rfl rfl ?_
    refine s_g j11 rfl rfl rfl rfl rfl rfl ?_
    refine s_lconst j12 rfl rfl ?_
    refine s_ldc2 j13 rfl kc_ll_29 ?_
    refine s_stat j16 rfl rfl rfl rfl (by decide) (in_Rm_in _ _ _) (am_r8 rfl) (am_bB h (fun a5 σ4 h hx4 => ?_))
    replace h := h hx4
    refine s_ifn j19 rfl rfl am_cb_eq (fun hc6 => ?_) (fun hc6 => ?_)
    · replace h := h.2 hc6
      refine s_ldc2 j54 rfl kc_ll_m9223372036854775808 ?_
      exact s_retL j57 rfl h
    · replace h := h.1 hc6
      refine s_iload_n j22 rfl rfl ?_
      refine s_g j23 rfl rfl rfl rfl rfl rfl ?_
      refine s_lconst j24 rfl rfl ?_
      refine s_ldc2 j25 rfl kc_ll_29 ?_
      refine s_stat j28 rfl rfl rfl rfl (by decide) (in_Rm_in _ _ _) (am_r8 rfl) (am_bB h (fun a8 σ7 h hx7 => ?_))
      replace h := h hx7
      refine s_ifn j31 rfl rfl am_cb_eq (fun hc9 => ?_) (fun hc9 => ?_)
      · replace h := h.2 hc9
        refine s_ldc2 j54 rfl kc_ll_m9223372036854775808 ?_
        exact s_retL j57 rfl h
      · replace h := h.1 hc9
        refine s_iload j34 rfl rfl ?_
        refine s_g j36 rfl rfl rfl rfl rfl rfl ?_
        refine s_lconst j37 rfl rfl ?_
        refine s_lconst j38 rfl rfl ?_
        refine s_stat j39 rfl rfl rfl rfl (by decide) (in_Rm_in _ _ _) (am_r8 rfl) (am_bB h (fun a11 σ10 h hx10 => ?_))
        replace h := h hx10
        refine s_ifn j42 rfl rfl am_cb_eq (fun hc12 => ?_) (fun hc12 => ?_)
        · replace h := h.2 hc12
          refine s_ldc2 j54 rfl kc_ll_m9223372036854775808 ?_
          exact s_retL j57 rfl h
        · replace h := h.1 hc12
          refine s_aload_n j45 rfl rfl ?_
          refine s_iload j46 rfl rfl ?_
          obtain ⟨ho13, h⟩ := h
          refine s_virt j48 rfl rfl rfl rfl ho13 (by decide) (in_Rm_isMoment _ _) (am_r8 rfl) (am_bB h (fun a15 σ14 h hx14 => ?_))
          replace h := h hx14
          refine s_if j51 rfl rfl am_cb_ne (fun hc16 => ?_) (fun hc16 => ?_)
          · replace h := h.1 hc16
            refine s_lconst j58 rfl rfl ?_
            refine s_lstore j59 rfl (n := 18) (L' := [some (am_ov (some this)), some (.int p0), some (.int p1), some (.int p2), some (.int p3), some (.int p4), some (.long (0 : Int64)), none, none, none, none, none, none, none, none, none, none, none]) rfl (by decide) rfl ?_
            refine s_lconst j61 rfl rfl ?_
            refine s_lstore j62 rfl (n := 18) (L' := [some (am_ov (some this)), some (.int p0), some (.int p1), some (.int p2), some (.int p3), some (.int p4), some (.long (0 : Int64)), none, some (.long (0 : Int64)), none, none, none, none, none, none, none, none, none]) rfl (by decide) rfl ?_
            refine s_iconst j64 rfl kc_ic_0 ?_
            refine s_istore j65 rfl (n := 18) (L' := [some (am_ov (some this)), some (.int p0), some (.int p1), some (.int p2), some (.int p3), some (.int p4), some (.long (0 : Int64)), none, some (.long (0 : Int64)), none, some (.int (0 : Int32)), none, none, none, none, none, none, none]) rfl (by decide) rfl ?_
            exact h
          · replace h := h.2 hc16
            refine s_ldc2 j54 rfl kc_ll_m9223372036854775808 ?_
            exact s_retL j57 rfl h
theorem P_Rm_factor_67 (nl : Bool) (Ln : Nat) (xs : Nat → Int32) : am_Jl (TT nl Ln xs) 343 [(67, .iload 10, 69, []), (69, .iload_n 3, 70, []), (70, .iload_n 2, 71, []), (71, .isub, 72, []), (72, .iconst 1, 73, []), (73, .isub, 74, []), (74, .if_icmp .gt 57, 77, []), (77, .iconst 0, 78, []), (78, .istore 11, 80, []), (131, .lload 6, 133, []), (133, .lconst 0, 134, []), (134, .lcmp, 135, []), (135, .ifCond .ne 7, 138, []), (138, .ldc2_w 173, 141, [6, 9223372036854775808]), (141, .lreturn, 142, [2]), (142, .lload 6, 144, []), (144, .lload 8, 146, []), (146, .ladd, 147, []), (147, .lstore 10, 149, []), (149, .lload 10, 151, []), (151, .lstore 12, 153, []), (153, .lload 6, 155, []), (155, .lstore 14, 157, [])] := dk_ck (by decide +kernel)
set_option maxRecDepth 4096 in
theorem w_Rm_factor_67 {nl : Bool} {Ln : Nat} {xs : Nat → Int32} {d : Nat} {this : Nat} {x1 : Int32} {x2 : Int32} {x3 : Int32} {x4 : Int32} {x5 : Int32} {x6 : Int64} {x8 : Int64} {x10 : Int32} {x11 : Option Value} {σ : am_S} {F : Int64 → am_S → Prop} (h : (((x3 - x2) - (1 : Int32)) < x10 → (x6 = (0 : Int64) → F (-9223372036854775808 : Int64) σ) ∧ (¬ (x6 = (0 : Int64)) → ∀ v3 : Int64, v3 = (x6 + x8) → c_Rm_factor_157 nl Ln xs (d + 1) this x1 x2 x3 x4 x5 x6 x8 v3 v3 x6 none none σ F)) ∧ (¬ (((x3 - x2) - (1 : Int32)) < x10) → c_Rm_factor_80 nl Ln xs (d + 1) this x1 x2 x3 x4 x5 x6 x8 x10 (0 : Int32) σ F)) : c_Rm_factor_67 nl Ln xs (d + 1) this x1 x2 x3 x4 x5 x6 x8 x10 x11 σ F := by
  obtain ⟨j67, j69, j70, j71, j72, j73, j74, j77, j78, j131, j133, j134, j135, j138, j141, j142, j144, j146, j147, j149, j151, j153, j155, -⟩ := P_Rm_factor_67 nl Ln xs
  unfold c_Rm_factor_67
  refine s_iload j67 rfl rfl ?_
  refine s_iload_n j69 rfl rfl ?_
  refine s_iload_n j70 rfl rfl ?_
  refine s_g j71 rfl rfl rfl rfl rfl rfl ?_
  refine s_iconst j72 rfl kc_ic_1 ?_
  refine s_g j73 rfl rfl rfl rfl rfl rfl ?_
  refine s_ic j74 rfl rfl am_cc_gt (fun hc1 => ?_) (fun hc1 => ?_)
  · replace h := h.1 hc1
    refine s_lload j131 rfl rfl ?_
    refine s_lconst j133 rfl rfl ?_
    refine s_g j134 rfl rfl rfl rfl rfl rfl ?_
    refine s_ifn j135 rfl rfl am_cl_ne (fun hc2 => ?_) (fun hc2 => ?_)
    · replace h := h.2 hc2
      refine s_lload j142 rfl rfl ?_
      refine s_lload j144 rfl rfl ?_
      refine s_g j146 rfl rfl rfl rfl rfl rfl ?_
      refine s_lstoreV j147 rfl (n := 18) (L' := fun w => [some (am_ov (some this)), some (.int x1), some (.int x2), some (.int x3), some (.int x4), some (.int x5), some (.long x6), none, some (.long x8), none, some (.long w), none, none, none, none, none, none, none]) rfl (by decide) (fun _ => rfl) (fun v3 hv4 => ?_)
      replace h := h v3 hv4
      refine s_lload j149 rfl rfl ?_
      refine s_lstore j151 rfl (n := 18) (L' := [some (am_ov (some this)), some (.int x1), some (.int x2), some (.int x3), some (.int x4), some (.int x5), some (.long x6), none, some (.long x8), none, some (.long v3), none, some (.long v3), none, none, none, none, none]) rfl (by decide) rfl ?_
      refine s_lload j153 rfl rfl ?_
      refine s_lstore j155 rfl (n := 18) (L' := [some (am_ov (some this)), some (.int x1), some (.int x2), some (.int x3), some (.int x4), some (.int x5), some (.long x6), none, some (.long x8), none, some (.long v3), none, some (.long v3), none, some (.long x6), none, none, none]) rfl (by decide) rfl ?_
      exact h
    · replace h := h.1 hc2
      refine s_ldc2 j138 rfl kc_ll_m9223372036854775808 ?_
      exact s_retL j141 rfl h
  · replace h := h.2 hc1
    refine s_iconst j77 rfl kc_ic_0 ?_
    refine s_istore j78 rfl (n := 18) (L' := [some (am_ov (some this)), some (.int x1), some (.int x2), some (.int x3), some (.int x4), some (.int x5), some (.long x6), none, some (.long x8), none, some (.int x10), some (.int (0 : Int32)), none, none, none, none, none, none]) rfl (by decide) rfl ?_
    exact h
theorem P_Rm_factor_80 (nl : Bool) (Ln : Nat) (xs : Nat → Int32) : am_Jl (TT nl Ln xs) 343 [(80, .iload 11, 82, []), (82, .iload_n 2, 83, []), (83, .if_icmp .gt 25, 86, []), (86, .lload 6, 88, []), (88, .aload_n 0, 89, []), (89, .iload_n 1, 90, []), (90, .iload 10, 92, []), (92, .iload 11, 94, []), (94, .iload 5, 96, []), (96, .invokevirtual 314, 99, [10, 342, 13, 11, 5]), (99, .ladd, 100, []), (100, .lstore 6, 102, []), (102, .iinc 11 1, 105, []), (105, .goto (-25), 108, []), (108, .lload 8, 110, []), (110, .aload_n 0, 111, []), (111, .iload_n 1, 112, []), (112, .iload 10, 114, []), (114, .iload_n 2, 115, []), (115, .iconst 1, 116, []), (116, .iadd, 117, []), (117, .iload 5, 119, []), (119, .invokevirtual 314, 122, [10, 342, 13, 11, 5]), (122, .ladd, 123, []), (123, .lstore 8, 125, []), (125, .iinc 10 1, 128, []), (128, .goto (-61), 131, [])] := dk_ck (by decide +kernel)
set_option maxRecDepth 4096 in
theorem w_Rm_factor_80 {nl : Bool} {Ln : Nat} {xs : Nat → Int32} {d : Nat} {this : Nat} {x1 : Int32} {x2 : Int32} {x3 : Int32} {x4 : Int32} {x5 : Int32} {x6 : Int64} {x8 : Int64} {x10 : Int32} {x11 : Int32} {σ : am_S} {F : Int64 → am_S → Prop} (h : (x2 < x11 → (am_is σ (some this) 12) ∧ k_Rm_runs nl Ln xs d this x1 x10 (x2 + (1 : Int32)) x5 σ (fun a4 σ3 => am_ext σ σ3 → ∀ v5 : Int64, v5 = (x8 + a4) → c_Rm_factor_67 nl Ln xs (d + 1) this x1 x2 x3 x4 x5 x6 v5 (x10 + (1 : Int32)) (some (.int x11)) σ3 F)) ∧ (¬ (x2 < x11) → (am_is σ (some this) 12) ∧ k_Rm_runs nl Ln xs d this x1 x10 x11 x5 σ (fun a9 σ8 => am_ext σ σ8 → ∀ v10 : Int64, v10 = (x6 + a9) → c_Rm_factor_80 nl Ln xs (d + 1) this x1 x2 x3 x4 x5 v10 x8 x10 (x11 + (1 : Int32)) σ8 F))) : c_Rm_factor_80 nl Ln xs (d + 1) this x1 x2 x3 x4 x5 x6 x8 x10 x11 σ F := by
  obtain ⟨j80, j82, j83, j86, j88, j89, j90, j92, j94, j96, j99, j100, j102, j105, j108, j110, j111, j112, j114, j115, j116, j117, j119, j122, j123, j125, j128, -⟩ := P_Rm_factor_80 nl Ln xs
  unfold c_Rm_factor_80
  refine s_iload j80 rfl rfl ?_
  refine s_iload_n j82 rfl rfl ?_
  refine s_ic j83 rfl rfl am_cc_gt (fun hc1 => ?_) (fun hc1 => ?_)
  · replace h := h.1 hc1
    refine s_lload j108 rfl rfl ?_
    refine s_aload_n j110 rfl rfl ?_
    refine s_iload_n j111 rfl rfl ?_
    refine s_iload j112 rfl rfl ?_
    refine s_iload_n j114 rfl rfl ?_
    refine s_iconst j115 rfl kc_ic_1 ?_
    refine s_g j116 rfl rfl rfl rfl rfl rfl ?_
    refine s_iload j117 rfl rfl ?_
    obtain ⟨ho2, h⟩ := h
    refine s_virt j119 rfl rfl rfl rfl ho2 (by decide) (in_Rm_runs _ _ _ _ _) (am_r8 rfl) (am_bL h (fun a4 σ3 h hx3 => ?_))
    replace h := h hx3
    refine s_g j122 rfl rfl rfl rfl rfl rfl ?_
    refine s_lstoreV j123 rfl (n := 18) (L' := fun w => [some (am_ov (some this)), some (.int x1), some (.int x2), some (.int x3), some (.int x4), some (.int x5), some (.long x6), none, some (.long w), none, some (.int x10), some (.int x11), none, none, none, none, none, none]) rfl (by decide) (fun _ => rfl) (fun v5 hv6 => ?_)
    replace h := h v5 hv6
    refine s_iinc (L' := [some (am_ov (some this)), some (.int x1), some (.int x2), some (.int x3), some (.int x4), some (.int x5), some (.long x6), none, some (.long v5), none, some (.int (x10 + (1 : Int32))), some (.int x11), none, none, none, none, none, none]) j125 rfl rfl kc_ic_1 rfl ?_
    refine s_goto j128 rfl rfl ?_
    exact h
  · replace h := h.2 hc1
    refine s_lload j86 rfl rfl ?_
    refine s_aload_n j88 rfl rfl ?_
    refine s_iload_n j89 rfl rfl ?_
    refine s_iload j90 rfl rfl ?_
    refine s_iload j92 rfl rfl ?_
    refine s_iload j94 rfl rfl ?_
    obtain ⟨ho7, h⟩ := h
    refine s_virt j96 rfl rfl rfl rfl ho7 (by decide) (in_Rm_runs _ _ _ _ _) (am_r8 rfl) (am_bL h (fun a9 σ8 h hx8 => ?_))
    replace h := h hx8
    refine s_g j99 rfl rfl rfl rfl rfl rfl ?_
    refine s_lstoreV j100 rfl (n := 18) (L' := fun w => [some (am_ov (some this)), some (.int x1), some (.int x2), some (.int x3), some (.int x4), some (.int x5), some (.long w), none, some (.long x8), none, some (.int x10), some (.int x11), none, none, none, none, none, none]) rfl (by decide) (fun _ => rfl) (fun v10 hv11 => ?_)
    replace h := h v10 hv11
    refine s_iinc (L' := [some (am_ov (some this)), some (.int x1), some (.int x2), some (.int x3), some (.int x4), some (.int x5), some (.long v10), none, some (.long x8), none, some (.int x10), some (.int (x11 + (1 : Int32))), none, none, none, none, none, none]) j102 rfl rfl kc_ic_1 rfl ?_
    refine s_goto j105 rfl rfl ?_
    exact h
theorem P_Rm_factor_157 (nl : Bool) (Ln : Nat) (xs : Nat → Int32) : am_Jl (TT nl Ln xs) 343 [(157, .lload 14, 159, []), (159, .lconst 0, 160, []), (160, .lcmp, 161, []), (161, .ifCond .le 21, 164, []), (164, .lload 12, 166, []), (166, .lload 14, 168, []), (168, .lrem, 169, []), (169, .lstore 16, 171, []), (171, .lload 14, 173, []), (173, .lstore 12, 175, []), (175, .lload 16, 177, []), (177, .lstore 14, 179, []), (179, .goto (-22), 182, []), (182, .iload 4, 184, []), (184, .ifCond .ne 11, 187, []), (187, .lload 10, 189, []), (189, .lload 12, 191, []), (191, .ldiv, 192, []), (192, .goto 8, 195, []), (195, .lload 6, 197, []), (197, .lload 12, 199, []), (199, .ldiv, 200, []), (200, .lreturn, 201, [2])] := dk_ck (by decide +kernel)
set_option maxRecDepth 4096 in
theorem w_Rm_factor_157 {nl : Bool} {Ln : Nat} {xs : Nat → Int32} {d : Nat} {this : Nat} {x1 : Int32} {x2 : Int32} {x3 : Int32} {x4 : Int32} {x5 : Int32} {x6 : Int64} {x8 : Int64} {x10 : Int64} {x12 : Int64} {x14 : Int64} {x16 : Option Value} {x17 : Option Value} {σ : am_S} {F : Int64 → am_S → Prop} (h : ((0 : Int64) < x14 → (x14 ≠ 0) ∧ ∀ v3 : Int64, v3 = (x12 - x12 / x14 * x14) → c_Rm_factor_157 nl Ln xs (d + 1) this x1 x2 x3 x4 x5 x6 x8 x10 x14 v3 (some (.long v3)) none σ F) ∧ (¬ ((0 : Int64) < x14) → ((x4 = 0) → x12 ≠ 0) ∧ (¬ (x4 = 0) → x12 ≠ 0) ∧ ∀ w9 : Int64, w9 = (if x4 = 0 then (x10 / x12) else (x6 / x12)) → F w9 σ)) : c_Rm_factor_157 nl Ln xs (d + 1) this x1 x2 x3 x4 x5 x6 x8 x10 x12 x14 x16 x17 σ F := by
  obtain ⟨j157, j159, j160, j161, j164, j166, j168, j169, j171, j173, j175, j177, j179, j182, j184, j187, j189, j191, j192, j195, j197, j199, j200, -⟩ := P_Rm_factor_157 nl Ln xs
  unfold c_Rm_factor_157
  refine s_lload j157 rfl rfl ?_
  refine s_lconst j159 rfl rfl ?_
  refine s_g j160 rfl rfl rfl rfl rfl rfl ?_
  refine s_ifn j161 rfl rfl am_cl_le (fun hc1 => ?_) (fun hc1 => ?_)
  · replace h := h.2 hc1
    refine s_iload j182 rfl rfl ?_
    obtain ⟨ho6, h⟩ := h
    obtain ⟨ho7, h⟩ := h
    have K8 : ∀ (w9 : Int64), w9 = (if x4 = 0 then (x10 / x12) else (x6 / x12)) → am_C (TT nl Ln xs) (d + 1) 343 200 [some (am_ov (some this)), some (.int x1), some (.int x2), some (.int x3), some (.int x4), some (.int x5), some (.long x6), none, some (.long x8), none, some (.long x10), none, some (.long x12), none, some (.long x14), none, x16, x17] [.long w9] σ (am_qL F) := by
      intro w9 hw10
      replace h := h w9 hw10
      exact s_retL j200 rfl h
    refine s_ifn j184 rfl rfl am_cc_ne (fun hc5 => ?_) (fun hc5 => ?_)
    · refine s_lload j195 rfl rfl ?_
      refine s_lload j197 rfl rfl ?_
      refine s_ldiv j199 rfl (ho7 hc5) ?_
      exact K8 _ (am_t2 hc5 rfl)
    · refine s_lload j187 rfl rfl ?_
      refine s_lload j189 rfl rfl ?_
      refine s_ldiv j191 rfl (ho6 hc5) ?_
      refine s_goto j192 rfl rfl ?_
      exact K8 _ (am_t1 hc5 rfl)
  · replace h := h.1 hc1
    refine s_lload j164 rfl rfl ?_
    refine s_lload j166 rfl rfl ?_
    obtain ⟨ho2, h⟩ := h
    refine s_lrem j168 rfl ho2 ?_
    refine s_lstoreV j169 rfl (n := 18) (L' := fun w => [some (am_ov (some this)), some (.int x1), some (.int x2), some (.int x3), some (.int x4), some (.int x5), some (.long x6), none, some (.long x8), none, some (.long x10), none, some (.long x12), none, some (.long x14), none, some (.long w), none]) rfl (by decide) (fun _ => rfl) (fun v3 hv4 => ?_)
    replace h := h v3 hv4
    refine s_lload j171 rfl rfl ?_
    refine s_lstore j173 rfl (n := 18) (L' := [some (am_ov (some this)), some (.int x1), some (.int x2), some (.int x3), some (.int x4), some (.int x5), some (.long x6), none, some (.long x8), none, some (.long x10), none, some (.long x14), none, some (.long x14), none, some (.long v3), none]) rfl (by decide) rfl ?_
    refine s_lload j175 rfl rfl ?_
    refine s_lstore j177 rfl (n := 18) (L' := [some (am_ov (some this)), some (.int x1), some (.int x2), some (.int x3), some (.int x4), some (.int x5), some (.long x6), none, some (.long x8), none, some (.long x10), none, some (.long x14), none, some (.long v3), none, some (.long v3), none]) rfl (by decide) rfl ?_
    refine s_goto j179 rfl rfl ?_
    exact h
theorem P_Rm_of (nl : Bool) (Ln : Nat) (xs : Nat → Int32) : am_Jl (TT nl Ln xs) 344 [(0, .aload_n 0, 1, []), (1, .getfield 88, 4, [9, 12, 16, 2]), (4, .iload_n 1, 5, []), (5, .i2l, 6, []), (6, .invokevirtual 158, 9, [10, 208, 14, 3, 2]), (9, .ifCond .eq 15, 12, []), (12, .iload_n 2, 13, []), (13, .i2l, 14, []), (14, .lconst 0, 15, []), (15, .ldc2_w 318, 18, [6, 6]), (18, .invokestatic 154, 21, [12, 209, 6, 3]), (21, .ifCond .ne 6, 24, []), (24, .bipush (-2), 26, []), (26, .ireturn, 27, [1]), (27, .iload_n 2, 28, []), (28, .tableswitch 117 0 5 #[40, 50, 60, 70, 80, 107], 68, []), (68, .aload_n 0, 69, []), (69, .getfield 88, 72, [9, 12, 16, 2]), (72, .getfield 320, 75, [9, 13, 46, 2]), (75, .iload_n 1, 76, []), (76, .iaload, 77, []), (77, .ireturn, 78, [1]), (78, .aload_n 0, 79, []), (79, .getfield 88, 82, [9, 12, 16, 2]), (82, .getfield 323, 85, [9, 13, 47, 2]), (85, .iload_n 1, 86, []), (86, .iaload, 87, []), (87, .ireturn, 88, [1]), (88, .aload_n 0, 89, []), (89, .getfield 88, 92, [9, 12, 16, 2]), (92, .getfield 326, 95, [9, 13, 48, 2]), (95, .iload_n 1, 96, []), (96, .iaload, 97, []), (97, .ireturn, 98, [1]), (98, .aload_n 0, 99, []), (99, .getfield 88, 102, [9, 12, 16, 2]), (102, .getfield 162, 105, [9, 13, 49, 2]), (105, .iload_n 1, 106, []), (106, .iaload, 107, []), (107, .ireturn, 108, [1]), (108, .aload_n 0, 109, []), (109, .getfield 88, 112, [9, 12, 16, 2]), (112, .iload_n 1, 113, []), (113, .sipush 10950, 116, []), (116, .aload_n 0, 117, []), (117, .getfield 88, 120, [9, 12, 16, 2]), (120, .getfield 151, 123, [9, 13, 0, 0]), (123, .invokevirtual 292, 126, [10, 211, 14, 6, 4]), (126, .ifCond .eq 7, 129, []), (129, .iconst 1, 130, []), (130, .goto 4, 133, []), (133, .iconst 0, 134, []), (134, .ireturn, 135, [1]), (135, .aload_n 0, 136, []), (136, .getfield 88, 139, [9, 12, 16, 2]), (139, .getfield 296, 142, [9, 13, 51, 2]), (142, .iload_n 1, 143, []), (143, .iaload, 144, []), (144, .ireturn, 145, [1]), (145, .aload_n 0, 146, []), (146, .getfield 88, 149, [9, 12, 16, 2]), (149, .getfield 167, 152, [9, 13, 50, 2]), (152, .iload_n 1, 153, []), (153, .iaload, 154, []), (154, .ireturn, 155, [1])] := dk_ck (by decide +kernel)
set_option maxRecDepth 4096 in
theorem w_Rm_of {nl : Bool} {Ln : Nat} {xs : Nat → Int32} {d : Nat} {this : Nat} {p0 : Int32} {p1 : Int32} {σ : am_S} {F : Int32 → am_S → Prop} (h : (am_is σ (some this) 12) ∧ (am_is σ (am_fR σ 12016 this) 13) ∧ k_Ro_isCase nl Ln xs d ((am_fR σ 12016 this).getD 0) p0.toInt64 σ (fun a4 σ3 => am_ext σ σ3 → (a4 = true → k_Rm_in nl Ln xs d p1.toInt64 (0 : Int64) (6 : Int64) σ3 (fun a7 σ6 => am_ext σ3 σ6 → (a7 = true → (p1 = (0 : Int32) → (am_is σ6 (am_fR σ6 12016 this) 13) ∧ (am_ar σ6 1000 (am_fR σ6 13046 ((am_fR σ6 12016 this).getD 0)) p0) ∧ F (am_aI σ6 ((am_fR σ6 13046 ((am_fR σ6 12016 this).getD 0)).getD 0) p0.toNatClampNeg) σ6) ∧ (p1 = (1 : Int32) → (am_is σ6 (am_fR σ6 12016 this) 13) ∧ (am_ar σ6 1000 (am_fR σ6 13047 ((am_fR σ6 12016 this).getD 0)) p0) ∧ F (am_aI σ6 ((am_fR σ6 13047 ((am_fR σ6 12016 this).getD 0)).getD 0) p0.toNatClampNeg) σ6) ∧ (p1 = (2 : Int32) → (am_is σ6 (am_fR σ6 12016 this) 13) ∧ (am_ar σ6 1000 (am_fR σ6 13048 ((am_fR σ6 12016 this).getD 0)) p0) ∧ F (am_aI σ6 ((am_fR σ6 13048 ((am_fR σ6 12016 this).getD 0)).getD 0) p0.toNatClampNeg) σ6) ∧ (p1 = (3 : Int32) → (am_is σ6 (am_fR σ6 12016 this) 13) ∧ (am_ar σ6 1000 (am_fR σ6 13049 ((am_fR σ6 12016 this).getD 0)) p0) ∧ F (am_aI σ6 ((am_fR σ6 13049 ((am_fR σ6 12016 this).getD 0)).getD 0) p0.toNatClampNeg) σ6) ∧ (p1 = (4 : Int32) → (am_is σ6 (am_fR σ6 12016 this) 13) ∧ k_Ro_isOpen nl Ln xs d ((am_fR σ6 12016 this).getD 0) p0 (10950 : Int32) (am_fI σ6 13000 ((am_fR σ6 12016 this).getD 0)) σ6 (fun a19 σ18 => am_ext σ6 σ18 → F (if a19 = true then (1 : Int32) else 0) σ18)) ∧ (p1 = (5 : Int32) → (am_is σ6 (am_fR σ6 12016 this) 13) ∧ (am_ar σ6 1000 (am_fR σ6 13051 ((am_fR σ6 12016 this).getD 0)) p0) ∧ F (am_aI σ6 ((am_fR σ6 13051 ((am_fR σ6 12016 this).getD 0)).getD 0) p0.toNatClampNeg) σ6) ∧ ((p1.toInt < 0 ∨ 5 < p1.toInt) → (am_is σ6 (am_fR σ6 12016 this) 13) ∧ (am_ar σ6 1000 (am_fR σ6 13050 ((am_fR σ6 12016 this).getD 0)) p0) ∧ F (am_aI σ6 ((am_fR σ6 13050 ((am_fR σ6 12016 this).getD 0)).getD 0) p0.toNatClampNeg) σ6)) ∧ (¬ (a7 = true) → F (-2 : Int32) σ6))) ∧ (¬ (a4 = true) → F (-2 : Int32) σ3))) : k_Rm_of nl Ln xs (d + 1) this p0 p1 σ F := by
  obtain ⟨j0, j1, j4, j5, j6, j9, j12, j13, j14, j15, j18, j21, j24, j26, j27, j28, j68, j69, j72, j75, j76, j77, j78, j79, j82, j85, j86, j87, j88, j89, j92, j95, j96, j97, j98, j99, j102, j105, j106, j107, j108, j109, j112, j113, j116, j117, j120, j123, j126, j129, j130, j133, j134, j135, j136, j139, j142, j143, j144, j145, j146, j149, j152, j153, j154, -⟩ := P_Rm_of nl Ln xs
  have elo : am_lo 3 [am_ov (some this), .int p0, .int p1] = [some (am_ov (some this)), some (.int p0), some (.int p1)] := by simp only [am_lo, am_in_ov, am_in_int, am_in_long, am_in_nil]; rfl
  unfold k_Rm_of
  rw [elo]
  refine s_aload_n j0 rfl rfl ?_
  obtain ⟨ho1, h⟩ := h
  refine s_gfR j1 rfl ho1 ?_
  refine s_iload_n j4 rfl rfl ?_
  refine s_g j5 rfl rfl rfl rfl rfl rfl ?_
  obtain ⟨ho2, h⟩ := h
  refine s_virt j6 rfl rfl rfl rfl ho2 (by decide) (in_Ro_isCase _ _) (am_r8 rfl) (am_bB h (fun a4 σ3 h hx3 => ?_))
  replace h := h hx3
  refine s_ifn j9 rfl rfl am_cb_eq (fun hc5 => ?_) (fun hc5 => ?_)
  · replace h := h.2 hc5
    refine s_bipush j24 rfl kc_bi_m2 ?_
    exact s_retI j26 rfl h
  · replace h := h.1 hc5
    refine s_iload_n j12 rfl rfl ?_
    refine s_g j13 rfl rfl rfl rfl rfl rfl ?_
    refine s_lconst j14 rfl rfl ?_
    refine s_ldc2 j15 rfl kc_ll_6 ?_
    refine s_stat j18 rfl rfl rfl rfl (by decide) (in_Rm_in _ _ _) (am_r8 rfl) (am_bB h (fun a7 σ6 h hx6 => ?_))
    replace h := h hx6
    refine s_if j21 rfl rfl am_cb_ne (fun hc8 => ?_) (fun hc8 => ?_)
    · replace h := h.1 hc8
      refine s_iload_n j27 rfl rfl ?_
      by_cases hr28 : p1.toInt < 0 ∨ 5 < p1.toInt
      · refine s_tsw j28 (t := 145) ((am_sw_out hr28).trans rfl) ?_
        replace h := h.2.2.2.2.2.2 hr28
        refine s_aload_n j145 rfl rfl ?_
        refine s_gfR j146 rfl (am_is_ext hx6 (am_is_ext hx3 ho1)) ?_
        obtain ⟨ho26, h⟩ := h
        refine s_gfR j149 rfl ho26 ?_
        refine s_iload_n j152 rfl rfl ?_
        obtain ⟨ho27, h⟩ := h
        refine s_iaload j153 rfl ho27 ?_
        exact s_retI j154 rfl h
      · obtain ⟨k29, hk30, hv31⟩ := am_sw_in hr28
        have hk302 : k29 < 6 := by omega
        clear hk30
        match k29, hk302, hv31 with
        | 0, _, hv31 =>
          have hs : p1 = (0 : Int32) := am_te hv31 (by decide)
          refine s_tsw j28 (t := 68) (by show am_sw 28 117 0 5 #[40, 50, 60, 70, 80, 107] p1.toInt = _; rw [hv31]; rfl) ?_
          replace h := h.1 hs
          refine s_aload_n j68 rfl rfl ?_
          refine s_gfR j69 rfl (am_is_ext hx6 (am_is_ext hx3 ho1)) ?_
          obtain ⟨ho9, h⟩ := h
          refine s_gfR j72 rfl ho9 ?_
          refine s_iload_n j75 rfl rfl ?_
          obtain ⟨ho10, h⟩ := h
          refine s_iaload j76 rfl ho10 ?_
          exact s_retI j77 rfl h
        | 1, _, hv31 =>
          have hs : p1 = (1 : Int32) := am_te hv31 (by decide)
          refine s_tsw j28 (t := 78) (by show am_sw 28 117 0 5 #[40, 50, 60, 70, 80, 107] p1.toInt = _; rw [hv31]; rfl) ?_
          replace h := h.2.1 hs
          refine s_aload_n j78 rfl rfl ?_
          refine s_gfR j79 rfl (am_is_ext hx6 (am_is_ext hx3 ho1)) ?_
          obtain ⟨ho11, h⟩ := h
          refine s_gfR j82 rfl ho11 ?_
          refine s_iload_n j85 rfl rfl ?_
          obtain ⟨ho12, h⟩ := h
          refine s_iaload j86 rfl ho12 ?_
          exact s_retI j87 rfl h
        | 2, _, hv31 =>
          have hs : p1 = (2 : Int32) := am_te hv31 (by decide)
          refine s_tsw j28 (t := 88) (by show am_sw 28 117 0 5 #[40, 50, 60, 70, 80, 107] p1.toInt = _; rw [hv31]; rfl) ?_
          replace h := h.2.2.1 hs
          refine s_aload_n j88 rfl rfl ?_
          refine s_gfR j89 rfl (am_is_ext hx6 (am_is_ext hx3 ho1)) ?_
          obtain ⟨ho13, h⟩ := h
          refine s_gfR j92 rfl ho13 ?_
          refine s_iload_n j95 rfl rfl ?_
          obtain ⟨ho14, h⟩ := h
          refine s_iaload j96 rfl ho14 ?_
          exact s_retI j97 rfl h
        | 3, _, hv31 =>
          have hs : p1 = (3 : Int32) := am_te hv31 (by decide)
          refine s_tsw j28 (t := 98) (by show am_sw 28 117 0 5 #[40, 50, 60, 70, 80, 107] p1.toInt = _; rw [hv31]; rfl) ?_
          replace h := h.2.2.2.1 hs
          refine s_aload_n j98 rfl rfl ?_
          refine s_gfR j99 rfl (am_is_ext hx6 (am_is_ext hx3 ho1)) ?_
          obtain ⟨ho15, h⟩ := h
          refine s_gfR j102 rfl ho15 ?_
          refine s_iload_n j105 rfl rfl ?_
          obtain ⟨ho16, h⟩ := h
          refine s_iaload j106 rfl ho16 ?_
          exact s_retI j107 rfl h
        | 4, _, hv31 =>
          have hs : p1 = (4 : Int32) := am_te hv31 (by decide)
          refine s_tsw j28 (t := 108) (by show am_sw 28 117 0 5 #[40, 50, 60, 70, 80, 107] p1.toInt = _; rw [hv31]; rfl) ?_
          replace h := h.2.2.2.2.1 hs
          refine s_aload_n j108 rfl rfl ?_
          refine s_gfR j109 rfl (am_is_ext hx6 (am_is_ext hx3 ho1)) ?_
          refine s_iload_n j112 rfl rfl ?_
          refine s_sipush j113 rfl kc_si_10950 ?_
          refine s_aload_n j116 rfl rfl ?_
          refine s_gfR j117 rfl (am_is_ext hx6 (am_is_ext hx3 ho1)) ?_
          obtain ⟨ho17, h⟩ := h
          refine s_gfI j120 rfl ho17 ?_
          refine s_virt j123 rfl rfl rfl rfl ho17 (by decide) (in_Ro_isOpen _ _ _ _) (am_r8 rfl) (am_bB h (fun a19 σ18 h hx18 => ?_))
          replace h := h hx18
          have K21 : ∀ (w22 : Int32), w22 = (if a19 = true then (1 : Int32) else 0) → am_C (TT nl Ln xs) (d + 1) 344 134 [some (am_ov (some this)), some (.int p0), some (.int p1)] [.int w22] σ18 (am_qI F) := by
            intro w22 hw23
            subst hw23
            exact s_retI j134 rfl h
          refine s_ifn j126 rfl rfl am_cb_eq (fun hc20 => ?_) (fun hc20 => ?_)
          · refine s_iconst j133 rfl kc_ic_0 ?_
            exact K21 _ (am_e0 (Iff.trans Iff.rfl (am_p10 hc20)))
          · refine s_iconst j129 rfl kc_ic_1 ?_
            refine s_goto j130 rfl rfl ?_
            exact K21 _ (am_e1 (Iff.trans Iff.rfl (am_p9 hc20)))
        | 5, _, hv31 =>
          have hs : p1 = (5 : Int32) := am_te hv31 (by decide)
          refine s_tsw j28 (t := 135) (by show am_sw 28 117 0 5 #[40, 50, 60, 70, 80, 107] p1.toInt = _; rw [hv31]; rfl) ?_
          replace h := h.2.2.2.2.2.1 hs
          refine s_aload_n j135 rfl rfl ?_
          refine s_gfR j136 rfl (am_is_ext hx6 (am_is_ext hx3 ho1)) ?_
          obtain ⟨ho24, h⟩ := h
          refine s_gfR j139 rfl ho24 ?_
          refine s_iload_n j142 rfl rfl ?_
          obtain ⟨ho25, h⟩ := h
          refine s_iaload j143 rfl ho25 ?_
          exact s_retI j144 rfl h
        | n + 6, hk302, _ => exact absurd hk302 (by omega)
    · replace h := h.2 hc8
      refine s_bipush j24 rfl kc_bi_m2 ?_
      exact s_retI j26 rfl h
theorem P_Rm_count (nl : Bool) (Ln : Nat) (xs : Nat → Int32) : am_Jl (TT nl Ln xs) 345 [(0, .iload_n 1, 1, []), (1, .tableswitch 138 0 10 #[59, 67, 75, 83, 91, 99, 107, 115, 123, 128, 133], 60, []), (60, .aload_n 0, 61, []), (61, .getfield 88, 64, [9, 12, 16, 2]), (64, .getfield 329, 67, [9, 13, 1, 0]), (67, .ireturn, 68, [1]), (68, .aload_n 0, 69, []), (69, .getfield 88, 72, [9, 12, 16, 2]), (72, .getfield 332, 75, [9, 13, 2, 0]), (75, .ireturn, 76, [1]), (76, .aload_n 0, 77, []), (77, .getfield 88, 80, [9, 12, 16, 2]), (80, .getfield 335, 83, [9, 13, 35, 0]), (83, .ireturn, 84, [1]), (84, .aload_n 0, 85, []), (85, .getfield 88, 88, [9, 12, 16, 2]), (88, .getfield 285, 91, [9, 13, 45, 0]), (91, .ireturn, 92, [1]), (92, .aload_n 0, 93, []), (93, .getfield 88, 96, [9, 12, 16, 2]), (96, .getfield 151, 99, [9, 13, 0, 0]), (99, .ireturn, 100, [1]), (100, .aload_n 0, 101, []), (101, .getfield 88, 104, [9, 12, 16, 2]), (104, .getfield 338, 107, [9, 13, 60, 0]), (107, .ireturn, 108, [1]), (108, .aload_n 0, 109, []), (109, .getfield 88, 112, [9, 12, 16, 2]), (112, .getfield 341, 115, [9, 13, 61, 0]), (115, .ireturn, 116, [1]), (116, .aload_n 0, 117, []), (117, .getfield 88, 120, [9, 12, 16, 2]), (120, .getfield 344, 123, [9, 13, 63, 0]), (123, .ireturn, 124, [1]), (124, .aload_n 0, 125, []), (125, .getfield 140, 128, [9, 12, 3, 0]), (128, .ireturn, 129, [1]), (129, .aload_n 0, 130, []), (130, .getfield 105, 133, [9, 12, 5, 0]), (133, .ireturn, 134, [1]), (134, .aload_n 0, 135, []), (135, .getfield 170, 138, [9, 12, 6, 0]), (138, .ireturn, 139, [1]), (139, .bipush (-2), 141, []), (141, .ireturn, 142, [1])] := dk_ck (by decide +kernel)
set_option maxRecDepth 4096 in
theorem w_Rm_count {nl : Bool} {Ln : Nat} {xs : Nat → Int32} {d : Nat} {this : Nat} {p0 : Int32} {σ : am_S} {F : Int32 → am_S → Prop} (h : (p0 = (0 : Int32) → (am_is σ (some this) 12) ∧ (am_is σ (am_fR σ 12016 this) 13) ∧ F (am_fI σ 13001 ((am_fR σ 12016 this).getD 0)) σ) ∧ (p0 = (1 : Int32) → (am_is σ (some this) 12) ∧ (am_is σ (am_fR σ 12016 this) 13) ∧ F (am_fI σ 13002 ((am_fR σ 12016 this).getD 0)) σ) ∧ (p0 = (2 : Int32) → (am_is σ (some this) 12) ∧ (am_is σ (am_fR σ 12016 this) 13) ∧ F (am_fI σ 13035 ((am_fR σ 12016 this).getD 0)) σ) ∧ (p0 = (3 : Int32) → (am_is σ (some this) 12) ∧ (am_is σ (am_fR σ 12016 this) 13) ∧ F (am_fI σ 13045 ((am_fR σ 12016 this).getD 0)) σ) ∧ (p0 = (4 : Int32) → (am_is σ (some this) 12) ∧ (am_is σ (am_fR σ 12016 this) 13) ∧ F (am_fI σ 13000 ((am_fR σ 12016 this).getD 0)) σ) ∧ (p0 = (5 : Int32) → (am_is σ (some this) 12) ∧ (am_is σ (am_fR σ 12016 this) 13) ∧ F (am_fI σ 13060 ((am_fR σ 12016 this).getD 0)) σ) ∧ (p0 = (6 : Int32) → (am_is σ (some this) 12) ∧ (am_is σ (am_fR σ 12016 this) 13) ∧ F (am_fI σ 13061 ((am_fR σ 12016 this).getD 0)) σ) ∧ (p0 = (7 : Int32) → (am_is σ (some this) 12) ∧ (am_is σ (am_fR σ 12016 this) 13) ∧ F (am_fI σ 13063 ((am_fR σ 12016 this).getD 0)) σ) ∧ (p0 = (8 : Int32) → (am_is σ (some this) 12) ∧ F (am_fI σ 12003 this) σ) ∧ (p0 = (9 : Int32) → (am_is σ (some this) 12) ∧ F (am_fI σ 12005 this) σ) ∧ (p0 = (10 : Int32) → (am_is σ (some this) 12) ∧ F (am_fI σ 12006 this) σ) ∧ ((p0.toInt < 0 ∨ 10 < p0.toInt) → F (-2 : Int32) σ)) : k_Rm_count nl Ln xs (d + 1) this p0 σ F := by
  obtain ⟨j0, j1, j60, j61, j64, j67, j68, j69, j72, j75, j76, j77, j80, j83, j84, j85, j88, j91, j92, j93, j96, j99, j100, j101, j104, j107, j108, j109, j112, j115, j116, j117, j120, j123, j124, j125, j128, j129, j130, j133, j134, j135, j138, j139, j141, -⟩ := P_Rm_count nl Ln xs
  have elo : am_lo 2 [am_ov (some this), .int p0] = [some (am_ov (some this)), some (.int p0)] := by simp only [am_lo, am_in_ov, am_in_int, am_in_long, am_in_nil]; rfl
  unfold k_Rm_count
  rw [elo]
  refine s_iload_n j0 rfl rfl ?_
  by_cases hr20 : p0.toInt < 0 ∨ 10 < p0.toInt
  · refine s_tsw j1 (t := 139) ((am_sw_out hr20).trans rfl) ?_
    replace h := h.2.2.2.2.2.2.2.2.2.2.2 hr20
    refine s_bipush j139 rfl kc_bi_m2 ?_
    exact s_retI j141 rfl h
  · obtain ⟨k21, hk22, hv23⟩ := am_sw_in hr20
    have hk222 : k21 < 11 := by omega
    clear hk22
    match k21, hk222, hv23 with
    | 0, _, hv23 =>
      have hs : p0 = (0 : Int32) := am_te hv23 (by decide)
      refine s_tsw j1 (t := 60) (by show am_sw 1 138 0 10 #[59, 67, 75, 83, 91, 99, 107, 115, 123, 128, 133] p0.toInt = _; rw [hv23]; rfl) ?_
      replace h := h.1 hs
      refine s_aload_n j60 rfl rfl ?_
      obtain ⟨ho1, h⟩ := h
      refine s_gfR j61 rfl ho1 ?_
      obtain ⟨ho2, h⟩ := h
      refine s_gfI j64 rfl ho2 ?_
      exact s_retI j67 rfl h
    | 1, _, hv23 =>
      have hs : p0 = (1 : Int32) := am_te hv23 (by decide)
      refine s_tsw j1 (t := 68) (by show am_sw 1 138 0 10 #[59, 67, 75, 83, 91, 99, 107, 115, 123, 128, 133] p0.toInt = _; rw [hv23]; rfl) ?_
      replace h := h.2.1 hs
      refine s_aload_n j68 rfl rfl ?_
      obtain ⟨ho3, h⟩ := h
      refine s_gfR j69 rfl ho3 ?_
      obtain ⟨ho4, h⟩ := h
      refine s_gfI j72 rfl ho4 ?_
      exact s_retI j75 rfl h
    | 2, _, hv23 =>
      have hs : p0 = (2 : Int32) := am_te hv23 (by decide)
      refine s_tsw j1 (t := 76) (by show am_sw 1 138 0 10 #[59, 67, 75, 83, 91, 99, 107, 115, 123, 128, 133] p0.toInt = _; rw [hv23]; rfl) ?_
      replace h := h.2.2.1 hs
      refine s_aload_n j76 rfl rfl ?_
      obtain ⟨ho5, h⟩ := h
      refine s_gfR j77 rfl ho5 ?_
      obtain ⟨ho6, h⟩ := h
      refine s_gfI j80 rfl ho6 ?_
      exact s_retI j83 rfl h
    | 3, _, hv23 =>
      have hs : p0 = (3 : Int32) := am_te hv23 (by decide)
      refine s_tsw j1 (t := 84) (by show am_sw 1 138 0 10 #[59, 67, 75, 83, 91, 99, 107, 115, 123, 128, 133] p0.toInt = _; rw [hv23]; rfl) ?_
      replace h := h.2.2.2.1 hs
      refine s_aload_n j84 rfl rfl ?_
      obtain ⟨ho7, h⟩ := h
      refine s_gfR j85 rfl ho7 ?_
      obtain ⟨ho8, h⟩ := h
      refine s_gfI j88 rfl ho8 ?_
      exact s_retI j91 rfl h
    | 4, _, hv23 =>
      have hs : p0 = (4 : Int32) := am_te hv23 (by decide)
      refine s_tsw j1 (t := 92) (by show am_sw 1 138 0 10 #[59, 67, 75, 83, 91, 99, 107, 115, 123, 128, 133] p0.toInt = _; rw [hv23]; rfl) ?_
      replace h := h.2.2.2.2.1 hs
      refine s_aload_n j92 rfl rfl ?_
      obtain ⟨ho9, h⟩ := h
      refine s_gfR j93 rfl ho9 ?_
      obtain ⟨ho10, h⟩ := h
      refine s_gfI j96 rfl ho10 ?_
      exact s_retI j99 rfl h
    | 5, _, hv23 =>
      have hs : p0 = (5 : Int32) := am_te hv23 (by decide)
      refine s_tsw j1 (t := 100) (by show am_sw 1 138 0 10 #[59, 67, 75, 83, 91, 99, 107, 115, 123, 128, 133] p0.toInt = _; rw [hv23]; rfl) ?_
      replace h := h.2.2.2.2.2.1 hs
      refine s_aload_n j100 rfl rfl ?_
      obtain ⟨ho11, h⟩ := h
      refine s_gfR j101 rfl ho11 ?_
      obtain ⟨ho12, h⟩ := h
      refine s_gfI j104 rfl ho12 ?_
      exact s_retI j107 rfl h
    | 6, _, hv23 =>
      have hs : p0 = (6 : Int32) := am_te hv23 (by decide)
      refine s_tsw j1 (t := 108) (by show am_sw 1 138 0 10 #[59, 67, 75, 83, 91, 99, 107, 115, 123, 128, 133] p0.toInt = _; rw [hv23]; rfl) ?_
      replace h := h.2.2.2.2.2.2.1 hs
      refine s_aload_n j108 rfl rfl ?_
      obtain ⟨ho13, h⟩ := h
      refine s_gfR j109 rfl ho13 ?_
      obtain ⟨ho14, h⟩ := h
      refine s_gfI j112 rfl ho14 ?_
      exact s_retI j115 rfl h
    | 7, _, hv23 =>
      have hs : p0 = (7 : Int32) := am_te hv23 (by decide)
      refine s_tsw j1 (t := 116) (by show am_sw 1 138 0 10 #[59, 67, 75, 83, 91, 99, 107, 115, 123, 128, 133] p0.toInt = _; rw [hv23]; rfl) ?_
      replace h := h.2.2.2.2.2.2.2.1 hs
      refine s_aload_n j116 rfl rfl ?_
      obtain ⟨ho15, h⟩ := h
      refine s_gfR j117 rfl ho15 ?_
      obtain ⟨ho16, h⟩ := h
      refine s_gfI j120 rfl ho16 ?_
      exact s_retI j123 rfl h
    | 8, _, hv23 =>
      have hs : p0 = (8 : Int32) := am_te hv23 (by decide)
      refine s_tsw j1 (t := 124) (by show am_sw 1 138 0 10 #[59, 67, 75, 83, 91, 99, 107, 115, 123, 128, 133] p0.toInt = _; rw [hv23]; rfl) ?_
      replace h := h.2.2.2.2.2.2.2.2.1 hs
      refine s_aload_n j124 rfl rfl ?_
      obtain ⟨ho17, h⟩ := h
      refine s_gfI j125 rfl ho17 ?_
      exact s_retI j128 rfl h
    | 9, _, hv23 =>
      have hs : p0 = (9 : Int32) := am_te hv23 (by decide)
      refine s_tsw j1 (t := 129) (by show am_sw 1 138 0 10 #[59, 67, 75, 83, 91, 99, 107, 115, 123, 128, 133] p0.toInt = _; rw [hv23]; rfl) ?_
      replace h := h.2.2.2.2.2.2.2.2.2.1 hs
      refine s_aload_n j129 rfl rfl ?_
      obtain ⟨ho18, h⟩ := h
      refine s_gfI j130 rfl ho18 ?_
      exact s_retI j133 rfl h
    | 10, _, hv23 =>
      have hs : p0 = (10 : Int32) := am_te hv23 (by decide)
      refine s_tsw j1 (t := 134) (by show am_sw 1 138 0 10 #[59, 67, 75, 83, 91, 99, 107, 115, 123, 128, 133] p0.toInt = _; rw [hv23]; rfl) ?_
      replace h := h.2.2.2.2.2.2.2.2.2.2.1 hs
      refine s_aload_n j134 rfl rfl ?_
      obtain ⟨ho19, h⟩ := h
      refine s_gfI j135 rfl ho19 ?_
      exact s_retI j138 rfl h
    | n + 11, hk222, _ => exact absurd hk222 (by omega)
theorem P_Rm_write (nl : Bool) (Ln : Nat) (xs : Nat → Int32) : am_Jl (TT nl Ln xs) 346 [(0, .aload_n 0, 1, []), (1, .getfield 88, 4, [9, 12, 16, 2]), (4, .getfield 145, 7, [9, 13, 62, 3]), (7, .ifCond .eq 6, 10, []), (10, .bipush (-3), 12, []), (12, .ireturn, 13, [1]), (13, .aload_n 0, 14, []), (14, .iconst 0, 15, []), (15, .putfield 105, 18, [9, 12, 5, 0]), (18, .iconst 0, 19, []), (19, .istore_n 1, 20, []), (20, .iconst 0, 21, []), (21, .istore_n 2, 22, [])] := dk_ck (by decide +kernel)
set_option maxRecDepth 4096 in
theorem w_Rm_write {nl : Bool} {Ln : Nat} {xs : Nat → Int32} {d : Nat} {this : Nat} {σ : am_S} {F : Int32 → am_S → Prop} (h : (am_is σ (some this) 12) ∧ (am_is σ (am_fR σ 12016 this) 13) ∧ ((am_fI σ 13062 ((am_fR σ 12016 this).getD 0)) = 0 → ∀ σ4, σ4 = am_sfI σ 12005 this (0 : Int32) → c_Rm_write_22 nl Ln xs (d + 1) this (0 : Int32) (0 : Int32) σ4 F) ∧ (¬ ((am_fI σ 13062 ((am_fR σ 12016 this).getD 0)) = 0) → F (-3 : Int32) σ)) : k_Rm_write nl Ln xs (d + 1) this σ F := by
  obtain ⟨j0, j1, j4, j7, j10, j12, j13, j14, j15, j18, j19, j20, j21, -⟩ := P_Rm_write nl Ln xs
  have elo : am_lo 3 [am_ov (some this)] = [some (am_ov (some this)), none, none] := by simp only [am_lo, am_in_ov, am_in_int, am_in_long, am_in_nil]; rfl
  unfold k_Rm_write
  rw [elo]
  refine s_aload_n j0 rfl rfl ?_
  obtain ⟨ho1, h⟩ := h
  refine s_gfR j1 rfl ho1 ?_
  obtain ⟨ho2, h⟩ := h
  refine s_gfZ j4 rfl ho2 ?_
  refine s_if j7 rfl rfl am_cc_eq (fun hc3 => ?_) (fun hc3 => ?_)
  · replace h := h.1 hc3
    refine s_aload_n j13 rfl rfl ?_
    refine s_iconst j14 rfl kc_ic_0 ?_
    refine s_pfI j15 rfl ho1 (fun σ4 e5 => ?_)
    replace h := h σ4 e5
    have ek6 : am_kd σ4 = am_kd σ := by rw [e5]
    refine s_iconst j18 rfl kc_ic_0 ?_
    refine s_istore_n j19 rfl (n := 3) (L' := [some (am_ov (some this)), some (.int (0 : Int32)), none]) rfl (by decide) (am_st1_R [] _ _ _ _) ?_
    refine s_iconst j20 rfl kc_ic_0 ?_
    refine s_istore_n j21 rfl (n := 3) (L' := [some (am_ov (some this)), some (.int (0 : Int32)), some (.int (0 : Int32))]) rfl (by decide) rfl ?_
    exact h
  · replace h := h.2 hc3
    refine s_bipush j10 rfl kc_bi_m3 ?_
    exact s_retI j12 rfl h
theorem P_Rm_write_22 (nl : Bool) (Ln : Nat) (xs : Nat → Int32) : am_Jl (TT nl Ln xs) 346 [(22, .iload_n 2, 23, []), (23, .aload_n 0, 24, []), (24, .getfield 88, 27, [9, 12, 16, 2]), (27, .getfield 347, 30, [9, 13, 67, 0]), (30, .if_icmp .ge 41, 33, []), (33, .aload_n 0, 34, []), (34, .aload_n 0, 35, []), (35, .getfield 88, 38, [9, 12, 16, 2]), (38, .getfield 350, 41, [9, 13, 66, 2]), (41, .iload_n 2, 42, []), (42, .baload, 43, []), (43, .invokevirtual 116, 46, [10, 329, 13, 2, 2]), (46, .bipush 31, 48, []), (48, .iload_n 1, 49, []), (49, .imul, 50, []), (50, .aload_n 0, 51, []), (51, .getfield 88, 54, [9, 12, 16, 2]), (54, .getfield 350, 57, [9, 13, 66, 2]), (57, .iload_n 2, 58, []), (58, .baload, 59, []), (59, .sipush 255, 62, []), (62, .iand, 63, []), (63, .iadd, 64, []), (64, .istore_n 1, 65, []), (65, .iinc 2 1, 68, []), (68, .goto (-46), 71, []), (71, .bipush 24, 73, []), (73, .istore_n 2, 74, [])] := dk_ck (by decide +kernel)
set_option maxRecDepth 4096 in
theorem w_Rm_write_22 {nl : Bool} {Ln : Nat} {xs : Nat → Int32} {d : Nat} {this : Nat} {x1 : Int32} {x2 : Int32} {σ : am_S} {F : Int32 → am_S → Prop} (h : (am_is σ (some this) 12) ∧ (am_is σ (am_fR σ 12016 this) 13) ∧ (x2 < (am_fI σ 13067 ((am_fR σ 12016 this).getD 0)) → (am_ar σ 1002 (am_fR σ 13066 ((am_fR σ 12016 this).getD 0)) x2) ∧ k_Rm_put2 nl Ln xs d this (am_aI σ ((am_fR σ 13066 ((am_fR σ 12016 this).getD 0)).getD 0) x2.toNatClampNeg) σ (fun σ5 => am_ext σ σ5 → (am_is σ5 (am_fR σ5 12016 this) 13) ∧ (am_ar σ5 1002 (am_fR σ5 13066 ((am_fR σ5 12016 this).getD 0)) x2) ∧ ∀ v9 : Int32, v9 = (((31 : Int32) * x1) + ((am_aI σ5 ((am_fR σ5 13066 ((am_fR σ5 12016 this).getD 0)).getD 0) x2.toNatClampNeg) &&& (255 : Int32))) → c_Rm_write_22 nl Ln xs (d + 1) this v9 (x2 + (1 : Int32)) σ5 F)) ∧ (¬ (x2 < (am_fI σ 13067 ((am_fR σ 12016 this).getD 0))) → c_Rm_write_74 nl Ln xs (d + 1) this x1 (24 : Int32) σ F)) : c_Rm_write_22 nl Ln xs (d + 1) this x1 x2 σ F := by
  obtain ⟨j22, j23, j24, j27, j30, j33, j34, j35, j38, j41, j42, j43, j46, j48, j49, j50, j51, j54, j57, j58, j59, j62, j63, j64, j65, j68, j71, j73, -⟩ := P_Rm_write_22 nl Ln xs
  unfold c_Rm_write_22
  refine s_iload_n j22 rfl rfl ?_
  refine s_aload_n j23 rfl rfl ?_
  obtain ⟨ho1, h⟩ := h
  refine s_gfR j24 rfl ho1 ?_
  obtain ⟨ho2, h⟩ := h
  refine s_gfI j27 rfl ho2 ?_
  refine s_icn j30 rfl rfl am_cc_ge (fun hc3 => ?_) (fun hc3 => ?_)
  · replace h := h.2 hc3
    refine s_bipush j71 rfl kc_bi_24 ?_
    refine s_istore_n j73 rfl (n := 3) (L' := [some (am_ov (some this)), some (.int x1), some (.int (24 : Int32))]) rfl (by decide) rfl ?_
    exact h
  · replace h := h.1 hc3
    refine s_aload_n j33 rfl rfl ?_
    refine s_aload_n j34 rfl rfl ?_
    refine s_gfR j35 rfl ho1 ?_
    refine s_gfR j38 rfl ho2 ?_
    refine s_iload_n j41 rfl rfl ?_
    obtain ⟨ho4, h⟩ := h
    refine s_baload (k := 1002) (by decide) j42 rfl ho4 ?_
    refine s_virt j43 rfl rfl rfl rfl ho1 (by decide) (in_Rm_put2 _ _) (am_r8 rfl) (am_bV h (fun σ5 h hx5 => ?_))
    replace h := h hx5
    refine s_bipush j46 rfl kc_bi_31 ?_
    refine s_iload_n j48 rfl rfl ?_
    refine s_g j49 rfl rfl rfl rfl rfl rfl ?_
    refine s_aload_n j50 rfl rfl ?_
    refine s_gfR j51 rfl (am_is_ext hx5 ho1) ?_
    obtain ⟨ho7, h⟩ := h
    refine s_gfR j54 rfl ho7 ?_
    refine s_iload_n j57 rfl rfl ?_
    obtain ⟨ho8, h⟩ := h
    refine s_baload (k := 1002) (by decide) j58 rfl ho8 ?_
    refine s_sipush j59 rfl kc_si_255 ?_
    refine s_g j62 rfl rfl rfl rfl rfl rfl ?_
    refine s_g j63 rfl rfl rfl rfl rfl rfl ?_
    refine s_istore_nV j64 rfl (n := 3) (L' := fun w => [some (am_ov (some this)), some (.int w), some (.int x2)]) rfl (by decide) (fun _ => am_st1_R [] _ _ _ _) (fun v9 hv10 => ?_)
    replace h := h v9 hv10
    refine s_iinc (L' := [some (am_ov (some this)), some (.int v9), some (.int (x2 + (1 : Int32)))]) j65 rfl rfl kc_ic_1 rfl ?_
    refine s_goto j68 rfl rfl ?_
    exact h
theorem P_Rm_write_74 (nl : Bool) (Ln : Nat) (xs : Nat → Int32) : am_Jl (TT nl Ln xs) 346 [(74, .iload_n 2, 75, []), (75, .ifCond .lt 16, 78, []), (78, .aload_n 0, 79, []), (79, .iload_n 1, 80, []), (80, .iload_n 2, 81, []), (81, .ishr, 82, []), (82, .invokevirtual 116, 85, [10, 329, 13, 2, 2]), (85, .iinc 2 (-8), 88, []), (88, .goto (-14), 91, []), (91, .aload_n 0, 92, []), (92, .getfield 105, 95, [9, 12, 5, 0]), (95, .ireturn, 96, [1])] := dk_ck (by decide +kernel)
set_option maxRecDepth 4096 in
theorem w_Rm_write_74 {nl : Bool} {Ln : Nat} {xs : Nat → Int32} {d : Nat} {this : Nat} {x1 : Int32} {x2 : Int32} {σ : am_S} {F : Int32 → am_S → Prop} (h : (x2 < 0 → (am_is σ (some this) 12) ∧ F (am_fI σ 12005 this) σ) ∧ (¬ (x2 < 0) → (am_is σ (some this) 12) ∧ k_Rm_put2 nl Ln xs d this (x1 >>> (x2 &&& 31)) σ (fun σ4 => am_ext σ σ4 → c_Rm_write_74 nl Ln xs (d + 1) this x1 (x2 + (-8 : Int32)) σ4 F))) : c_Rm_write_74 nl Ln xs (d + 1) this x1 x2 σ F := by
  obtain ⟨j74, j75, j78, j79, j80, j81, j82, j85, j88, j91, j92, j95, -⟩ := P_Rm_write_74 nl Ln xs
  unfold c_Rm_write_74
  refine s_iload_n j74 rfl rfl ?_
  refine s_if j75 rfl rfl am_cc_lt (fun hc1 => ?_) (fun hc1 => ?_)
  · replace h := h.1 hc1
    refine s_aload_n j91 rfl rfl ?_
    obtain ⟨ho2, h⟩ := h
    refine s_gfI j92 rfl ho2 ?_
    exact s_retI j95 rfl h
  · replace h := h.2 hc1
    refine s_aload_n j78 rfl rfl ?_
    refine s_iload_n j79 rfl rfl ?_
    refine s_iload_n j80 rfl rfl ?_
    refine s_g j81 rfl rfl rfl rfl rfl rfl ?_
    obtain ⟨ho3, h⟩ := h
    refine s_virt j82 rfl rfl rfl rfl ho3 (by decide) (in_Rm_put2 _ _) (am_r8 rfl) (am_bV h (fun σ4 h hx4 => ?_))
    replace h := h hx4
    refine s_iinc (L' := [some (am_ov (some this)), some (.int x1), some (.int (x2 + (-8 : Int32)))]) j85 rfl rfl kc_ic_m8 rfl ?_
    refine s_goto j88 rfl rfl ?_
    exact h
theorem P_Rm_takeIn (nl : Bool) (Ln : Nat) (xs : Nat → Int32) : am_Jl (TT nl Ln xs) 347 [(0, .aload_n 0, 1, []), (1, .getfield 88, 4, [9, 12, 16, 2]), (4, .getfield 145, 7, [9, 13, 62, 3]), (7, .ifCond .eq 6, 10, []), (10, .bipush (-3), 12, []), (12, .ireturn, 13, [1]), (13, .aload_n 0, 14, []), (14, .getfield 373, 17, [9, 12, 7, 0]), (17, .bipush 40, 19, []), (19, .if_icmp .ne 6, 22, []), (22, .bipush (-7), 24, []), (24, .ireturn, 25, [1]), (25, .aload_n 0, 26, []), (26, .dup, 27, []), (27, .getfield 373, 30, [9, 12, 7, 0]), (30, .iconst 1, 31, []), (31, .iadd, 32, []), (32, .putfield 373, 35, [9, 12, 7, 0]), (35, .aload_n 0, 36, []), (36, .getfield 140, 39, [9, 12, 3, 0]), (39, .iconst 4, 40, []), (40, .if_icmp .ge 6, 43, []), (43, .bipush (-10), 45, []), (45, .ireturn, 46, [1]), (46, .aload_n 0, 47, []), (47, .getfield 140, 50, [9, 12, 3, 0]), (50, .iconst 4, 51, []), (51, .isub, 52, []), (52, .istore_n 1, 53, []), (53, .iconst 0, 54, []), (54, .istore_n 2, 55, []), (55, .iconst 0, 56, []), (56, .istore_n 3, 57, []), (57, .aload_n 0, 58, []), (58, .getfield 92, 61, [9, 12, 17, 2]), (61, .invokevirtual 376, 64, [10, 348, 14, 1, 1]), (64, .aload_n 0, 65, []), (65, .iconst 0, 66, []), (66, .putfield 353, 69, [9, 12, 19, 0])] := dk_ck (by decide +kernel)
set_option maxRecDepth 4096 in
theorem w_Rm_takeIn {nl : Bool} {Ln : Nat} {xs : Nat → Int32} {d : Nat} {this : Nat} {σ : am_S} {F : Int32 → am_S → Prop} (h : (am_is σ (some this) 12) ∧ (am_is σ (am_fR σ 12016 this) 13) ∧ ((am_fI σ 13062 ((am_fR σ 12016 this).getD 0)) = 0 → ((am_fI σ 12007 this) = (40 : Int32) → F (-7 : Int32) σ) ∧ (¬ ((am_fI σ 12007 this) = (40 : Int32)) → ∀ σ5, σ5 = am_sfI σ 12007 this ((am_fI σ 12007 this) + (1 : Int32)) → ((am_fI σ5 12003 this) < (4 : Int32) → F (-10 : Int32) σ5) ∧ (¬ ((am_fI σ5 12003 this) < (4 : Int32)) → ∀ v9 : Int32, v9 = ((am_fI σ5 12003 this) - (4 : Int32)) → (am_is σ5 (am_fR σ5 12017 this) 13) ∧ k_Ro_clear nl Ln xs d ((am_fR σ5 12017 this).getD 0) σ5 (fun σ12 => am_ext σ5 σ12 → ∀ σ14, σ14 = am_sfI σ12 12019 this (0 : Int32) → c_Rm_takeIn_69 nl Ln xs (d + 1) this v9 (0 : Int32) (0 : Int32) none σ14 F)))) ∧ (¬ ((am_fI σ 13062 ((am_fR σ 12016 this).getD 0)) = 0) → F (-3 : Int32) σ)) : k_Rm_takeIn nl Ln xs (d + 1) this σ F := by
  obtain ⟨j0, j1, j4, j7, j10, j12, j13, j14, j17, j19, j22, j24, j25, j26, j27, j30, j31, j32, j35, j36, j39, j40, j43, j45, j46, j47, j50, j51, j52, j53, j54, j55, j56, j57, j58, j61, j64, j65, j66, -⟩ := P_Rm_takeIn nl Ln xs
  have elo : am_lo 5 [am_ov (some this)] = [some (am_ov (some this)), none, none, none, none] := by simp only [am_lo, am_in_ov, am_in_int, am_in_long, am_in_nil]; rfl
  unfold k_Rm_takeIn
  rw [elo]
  refine s_aload_n j0 rfl rfl ?_
  obtain ⟨ho1, h⟩ := h
  refine s_gfR j1 rfl ho1 ?_
  obtain ⟨ho2, h⟩ := h
  refine s_gfZ j4 rfl ho2 ?_
  refine s_if j7 rfl rfl am_cc_eq (fun hc3 => ?_) (fun hc3 => ?_)
  · replace h := h.1 hc3
    refine s_aload_n j13 rfl rfl ?_
    refine s_gfI j14 rfl ho1 ?_
    refine s_bipush j17 rfl kc_bi_40 ?_
    refine s_icn j19 rfl rfl am_cc_ne (fun hc4 => ?_) (fun hc4 => ?_)
    · replace h := h.2 hc4
      refine s_aload_n j25 rfl rfl ?_
      refine s_dup j26 rfl (am_cov _) ?_
      refine s_gfI j27 rfl ho1 ?_
      refine s_iconst j30 rfl kc_ic_1 ?_
      refine s_g j31 rfl rfl rfl rfl rfl rfl ?_
      refine s_pfI j32 rfl ho1 (fun σ5 e6 => ?_)
      replace h := h σ5 e6
      have ek7 : am_kd σ5 = am_kd σ := by rw [e6]
      refine s_aload_n j35 rfl rfl ?_
      refine s_gfI j36 rfl (am_is_kd ek7 ho1) ?_
      refine s_iconst j39 rfl kc_ic_4 ?_
      refine s_icn j40 rfl rfl am_cc_ge (fun hc8 => ?_) (fun hc8 => ?_)
      · replace h := h.2 hc8
        refine s_aload_n j46 rfl rfl ?_
        refine s_gfI j47 rfl (am_is_kd ek7 ho1) ?_
        refine s_iconst j50 rfl kc_ic_4 ?_
        refine s_g j51 rfl rfl rfl rfl rfl rfl ?_
        refine s_istore_nV j52 rfl (n := 5) (L' := fun w => [some (am_ov (some this)), some (.int w), none, none, none]) rfl (by decide) (fun _ => am_st1_R [] _ _ _ _) (fun v9 hv10 => ?_)
        replace h := h v9 hv10
        refine s_iconst j53 rfl kc_ic_0 ?_
        refine s_istore_n j54 rfl (n := 5) (L' := [some (am_ov (some this)), some (.int v9), some (.int (0 : Int32)), none, none]) rfl (by decide) rfl ?_
        refine s_iconst j55 rfl kc_ic_0 ?_
        refine s_istore_n j56 rfl (n := 5) (L' := [some (am_ov (some this)), some (.int v9), some (.int (0 : Int32)), some (.int (0 : Int32)), none]) rfl (by decide) rfl ?_
        refine s_aload_n j57 rfl rfl ?_
        refine s_gfR j58 rfl (am_is_kd ek7 ho1) ?_
        obtain ⟨ho11, h⟩ := h
        refine s_virt j61 rfl rfl rfl rfl ho11 (by decide) (in_Ro_clear _) (am_r8 rfl) (am_bV h (fun σ12 h hx12 => ?_))
        replace h := h hx12
        refine s_aload_n j64 rfl rfl ?_
        refine s_iconst j65 rfl kc_ic_0 ?_
        refine s_pfI j66 rfl (am_is_ext hx12 (am_is_kd ek7 ho1)) (fun σ14 e15 => ?_)
        replace h := h σ14 e15
        have ek16 : am_kd σ14 = am_kd σ12 := by rw [e15]
        exact h
      · replace h := h.1 hc8
        refine s_bipush j43 rfl kc_bi_m10 ?_
        exact s_retI j45 rfl h
    · replace h := h.1 hc4
      refine s_bipush j22 rfl kc_bi_m7 ?_
      exact s_retI j24 rfl h
  · replace h := h.2 hc3
    refine s_bipush j10 rfl kc_bi_m3 ?_
    exact s_retI j12 rfl h
theorem P_Rm_takeIn_69 (nl : Bool) (Ln : Nat) (xs : Nat → Int32) : am_Jl (TT nl Ln xs) 347 [(69, .aload_n 0, 70, []), (70, .getfield 353, 73, [9, 12, 19, 0]), (73, .iload_n 1, 74, []), (74, .if_icmp .ge 33, 77, []), (77, .aload_n 0, 78, []), (78, .getfield 353, 81, [9, 12, 19, 0]), (81, .istore 4, 83, []), (83, .aload_n 0, 84, []), (84, .aload_n 0, 85, []), (85, .getfield 92, 88, [9, 12, 17, 2]), (88, .iload_n 1, 89, []), (89, .invokevirtual 379, 92, [10, 349, 13, 6, 3]), (92, .ifCond .ne 9, 95, []), (95, .bipush (-10), 97, []), (97, .iload 4, 99, []), (99, .isub, 100, []), (100, .ireturn, 101, [1]), (101, .iinc 2 1, 104, []), (104, .goto (-35), 107, []), (107, .iconst 0, 108, []), (108, .istore 4, 110, [])] := dk_ck (by decide +kernel)
set_option maxRecDepth 4096 in
theorem w_Rm_takeIn_69 {nl : Bool} {Ln : Nat} {xs : Nat → Int32} {d : Nat} {this : Nat} {x1 : Int32} {x2 : Int32} {x3 : Int32} {x4 : Option Value} {σ : am_S} {F : Int32 → am_S → Prop} (h : (am_is σ (some this) 12) ∧ ((am_fI σ 12019 this) < x1 → ∀ v3 : Int32, v3 = (am_fI σ 12019 this) → k_Rm_takesOne nl Ln xs d this (am_fR σ 12017 this) x1 σ (fun a6 σ5 => am_ext σ σ5 → (a6 = true → c_Rm_takeIn_69 nl Ln xs (d + 1) this x1 (x2 + (1 : Int32)) x3 (some (.int v3)) σ5 F) ∧ (¬ (a6 = true) → F ((-10 : Int32) - v3) σ5))) ∧ (¬ ((am_fI σ 12019 this) < x1) → c_Rm_takeIn_110 nl Ln xs (d + 1) this x1 x2 x3 (0 : Int32) σ F)) : c_Rm_takeIn_69 nl Ln xs (d + 1) this x1 x2 x3 x4 σ F := by
  obtain ⟨j69, j70, j73, j74, j77, j78, j81, j83, j84, j85, j88, j89, j92, j95, j97, j99, j100, j101, j104, j107, j108, -⟩ := P_Rm_takeIn_69 nl Ln xs
  unfold c_Rm_takeIn_69
  refine s_aload_n j69 rfl rfl ?_
  obtain ⟨ho1, h⟩ := h
  refine s_gfI j70 rfl ho1 ?_
  refine s_iload_n j73 rfl rfl ?_
  refine s_icn j74 rfl rfl am_cc_ge (fun hc2 => ?_) (fun hc2 => ?_)
  · replace h := h.2 hc2
    refine s_iconst j107 rfl kc_ic_0 ?_
    refine s_istore j108 rfl (n := 5) (L' := [some (am_ov (some this)), some (.int x1), some (.int x2), some (.int x3), some (.int (0 : Int32))]) rfl (by decide) rfl ?_
    exact h
  · replace h := h.1 hc2
    refine s_aload_n j77 rfl rfl ?_
    refine s_gfI j78 rfl ho1 ?_
    refine s_istoreV j81 rfl (n := 5) (L' := fun w => [some (am_ov (some this)), some (.int x1), some (.int x2), some (.int x3), some (.int w)]) rfl (by decide) (fun _ => rfl) (fun v3 hv4 => ?_)
    replace h := h v3 hv4
    refine s_aload_n j83 rfl rfl ?_
    refine s_aload_n j84 rfl rfl ?_
    refine s_gfR j85 rfl ho1 ?_
    refine s_iload_n j88 rfl rfl ?_
    refine s_virt j89 rfl rfl rfl rfl ho1 (by decide) (in_Rm_takesOne _ _ _) (am_r8 rfl) (am_bB h (fun a6 σ5 h hx5 => ?_))
    replace h := h hx5
    refine s_if j92 rfl rfl am_cb_ne (fun hc7 => ?_) (fun hc7 => ?_)
    · replace h := h.1 hc7
      refine s_iinc (L' := [some (am_ov (some this)), some (.int x1), some (.int (x2 + (1 : Int32))), some (.int x3), some (.int v3)]) j101 rfl rfl kc_ic_1 rfl ?_
      refine s_goto j104 rfl rfl ?_
      exact h
    · replace h := h.2 hc7
      refine s_bipush j95 rfl kc_bi_m10 ?_
      refine s_iload j97 rfl rfl ?_
      refine s_g j99 rfl rfl rfl rfl rfl rfl ?_
      exact s_retI j100 rfl h
theorem P_Rm_takeIn_110 (nl : Bool) (Ln : Nat) (xs : Nat → Int32) : am_Jl (TT nl Ln xs) 347 [(110, .iload 4, 112, []), (112, .iload_n 1, 113, []), (113, .if_icmp .ge 22, 116, []), (116, .bipush 31, 118, []), (118, .iload_n 3, 119, []), (119, .imul, 120, []), (120, .aload_n 0, 121, []), (121, .getfield 9, 124, [9, 12, 2, 2]), (124, .iload 4, 126, []), (126, .iaload, 127, []), (127, .iadd, 128, []), (128, .istore_n 3, 129, []), (129, .iinc 4 1, 132, []), (132, .goto (-22), 135, []), (135, .iconst 0, 136, []), (136, .istore 4, 138, [])] := dk_ck (by decide +kernel)
set_option maxRecDepth 4096 in
theorem w_Rm_takeIn_110 {nl : Bool} {Ln : Nat} {xs : Nat → Int32} {d : Nat} {this : Nat} {x1 : Int32} {x2 : Int32} {x3 : Int32} {x4 : Int32} {σ : am_S} {F : Int32 → am_S → Prop} (h : (x4 < x1 → (am_is σ (some this) 12) ∧ (am_ar σ 1000 (am_fR σ 12002 this) x4) ∧ ∀ v4 : Int32, v4 = (((31 : Int32) * x3) + (am_aI σ ((am_fR σ 12002 this).getD 0) x4.toNatClampNeg)) → c_Rm_takeIn_110 nl Ln xs (d + 1) this x1 x2 v4 (x4 + (1 : Int32)) σ F) ∧ (¬ (x4 < x1) → c_Rm_takeIn_138 nl Ln xs (d + 1) this x1 x2 x3 (0 : Int32) σ F)) : c_Rm_takeIn_110 nl Ln xs (d + 1) this x1 x2 x3 x4 σ F := by
  obtain ⟨j110, j112, j113, j116, j118, j119, j120, j121, j124, j126, j127, j128, j129, j132, j135, j136, -⟩ := P_Rm_takeIn_110 nl Ln xs
  unfold c_Rm_takeIn_110
  refine s_iload j110 rfl rfl ?_
  refine s_iload_n j112 rfl rfl ?_
  refine s_icn j113 rfl rfl am_cc_ge (fun hc1 => ?_) (fun hc1 => ?_)
  · replace h := h.2 hc1
    refine s_iconst j135 rfl kc_ic_0 ?_
    refine s_istore j136 rfl (n := 5) (L' := [some (am_ov (some this)), some (.int x1), some (.int x2), some (.int x3), some (.int (0 : Int32))]) rfl (by decide) rfl ?_
    exact h
  · replace h := h.1 hc1
    refine s_bipush j116 rfl kc_bi_31 ?_
    refine s_iload_n j118 rfl rfl ?_
    refine s_g j119 rfl rfl rfl rfl rfl rfl ?_
    refine s_aload_n j120 rfl rfl ?_
    obtain ⟨ho2, h⟩ := h
    refine s_gfR j121 rfl ho2 ?_
    refine s_iload j124 rfl rfl ?_
    obtain ⟨ho3, h⟩ := h
    refine s_iaload j126 rfl ho3 ?_
    refine s_g j127 rfl rfl rfl rfl rfl rfl ?_
    refine s_istore_nV j128 rfl (n := 5) (L' := fun w => [some (am_ov (some this)), some (.int x1), some (.int x2), some (.int w), some (.int x4)]) rfl (by decide) (fun _ => rfl) (fun v4 hv5 => ?_)
    replace h := h v4 hv5
    refine s_iinc (L' := [some (am_ov (some this)), some (.int x1), some (.int x2), some (.int v4), some (.int (x4 + (1 : Int32)))]) j129 rfl rfl kc_ic_1 rfl ?_
    refine s_goto j132 rfl rfl ?_
    exact h
theorem P_Rm_takeIn_138 (nl : Bool) (Ln : Nat) (xs : Nat → Int32) : am_Jl (TT nl Ln xs) 347 [(138, .iload 4, 140, []), (140, .iconst 4, 141, []), (141, .if_icmp .ge 40, 144, []), (144, .aload_n 0, 145, []), (145, .getfield 9, 148, [9, 12, 2, 2]), (148, .iload_n 1, 149, []), (149, .iload 4, 151, []), (151, .iadd, 152, []), (152, .iaload, 153, []), (153, .iload_n 3, 154, []), (154, .bipush 24, 156, []), (156, .bipush 8, 158, []), (158, .iload 4, 160, []), (160, .imul, 161, []), (161, .isub, 162, []), (162, .ishr, 163, []), (163, .sipush 255, 166, []), (166, .iand, 167, []), (167, .if_icmp .eq 8, 170, []), (170, .bipush (-10), 172, []), (172, .iload_n 1, 173, []), (173, .isub, 174, []), (174, .ireturn, 175, [1]), (175, .iinc 4 1, 178, []), (178, .goto (-40), 181, []), (181, .aload_n 0, 182, []), (182, .getfield 88, 185, [9, 12, 16, 2]), (185, .astore 4, 187, []), (187, .aload_n 0, 188, []), (188, .aload_n 0, 189, []), (189, .getfield 92, 192, [9, 12, 17, 2]), (192, .putfield 88, 195, [9, 12, 16, 2]), (195, .aload_n 0, 196, []), (196, .aload 4, 198, []), (198, .putfield 92, 201, [9, 12, 17, 2]), (201, .aload_n 0, 202, []), (202, .iconst 0, 203, []), (203, .putfield 140, 206, [9, 12, 3, 0]), (206, .iload_n 2, 207, []), (207, .ireturn, 208, [1])] := dk_ck (by decide +kernel)
set_option maxRecDepth 4096 in
theorem w_Rm_takeIn_138 {nl : Bool} {Ln : Nat} {xs : Nat → Int32} {d : Nat} {this : Nat} {x1 : Int32} {x2 : Int32} {x3 : Int32} {x4 : Int32} {σ : am_S} {F : Int32 → am_S → Prop} (h : (x4 < (4 : Int32) → (am_is σ (some this) 12) ∧ (am_ar σ 1000 (am_fR σ 12002 this) (x1 + x4)) ∧ ((am_aI σ ((am_fR σ 12002 this).getD 0) (x1 + x4).toNatClampNeg) = ((x3 >>> (((24 : Int32) - ((8 : Int32) * x4)) &&& 31)) &&& (255 : Int32)) → c_Rm_takeIn_138 nl Ln xs (d + 1) this x1 x2 x3 (x4 + (1 : Int32)) σ F) ∧ (¬ ((am_aI σ ((am_fR σ 12002 this).getD 0) (x1 + x4).toNatClampNeg) = ((x3 >>> (((24 : Int32) - ((8 : Int32) * x4)) &&& 31)) &&& (255 : Int32))) → F ((-10 : Int32) - x1) σ)) ∧ (¬ (x4 < (4 : Int32)) → (am_is σ (some this) 12) ∧ ∀ v6 : Option Nat, v6 = (am_fR σ 12016 this) → ∀ σ8, σ8 = am_sfR σ 12016 this (am_fR σ 12017 this) → ∀ σ11, σ11 = am_sfR σ8 12017 this v6 → ∀ σ14, σ14 = am_sfI σ11 12003 this (0 : Int32) → F x2 σ14)) : c_Rm_takeIn_138 nl Ln xs (d + 1) this x1 x2 x3 x4 σ F := by
  obtain ⟨j138, j140, j141, j144, j145, j148, j149, j151, j152, j153, j154, j156, j158, j160, j161, j162, j163, j166, j167, j170, j172, j173, j174, j175, j178, j181, j182, j185, j187, j188, j189, j192, j195, j196, j198, j201, j202, j203, j206, j207, -⟩ := P_Rm_takeIn_138 nl Ln xs
  unfold c_Rm_takeIn_138
  refine s_iload j138 rfl rfl ?_
  refine s_iconst j140 rfl kc_ic_4 ?_
  refine s_icn j141 rfl rfl am_cc_ge (fun hc1 => ?_) (fun hc1 => ?_)
  · replace h := h.2 hc1
    refine s_aload_n j181 rfl rfl ?_
    obtain ⟨ho5, h⟩ := h
    refine s_gfR j182 rfl ho5 ?_
    refine s_astoreV j185 rfl (n := 5) (L' := fun w => [some (am_ov (some this)), some (.int x1), some (.int x2), some (.int x3), some (am_ov w)]) rfl (by decide) (fun _ => rfl) (fun v6 hv7 => ?_)
    replace h := h v6 hv7
    refine s_aload_n j187 rfl rfl ?_
    refine s_aload_n j188 rfl rfl ?_
    refine s_gfR j189 rfl ho5 ?_
    refine s_pfR j192 rfl ho5 (fun σ8 e9 => ?_)
    replace h := h σ8 e9
    have ek10 : am_kd σ8 = am_kd σ := by rw [e9]
    refine s_aload_n j195 rfl rfl ?_
    refine s_aload j196 rfl rfl ?_
    refine s_pfR j198 rfl (am_is_kd ek10 ho5) (fun σ11 e12 => ?_)
    replace h := h σ11 e12
    have ek13 : am_kd σ11 = am_kd σ8 := by rw [e12]
    refine s_aload_n j201 rfl rfl ?_
    refine s_iconst j202 rfl kc_ic_0 ?_
    refine s_pfI j203 rfl (am_is_kd ek13 (am_is_kd ek10 ho5)) (fun σ14 e15 => ?_)
    replace h := h σ14 e15
    have ek16 : am_kd σ14 = am_kd σ11 := by rw [e15]
    refine s_iload_n j206 rfl rfl ?_
    exact s_retI j207 rfl h
  · replace h := h.1 hc1
    refine s_aload_n j144 rfl rfl ?_
    obtain ⟨ho2, h⟩ := h
    refine s_gfR j145 rfl ho2 ?_
    refine s_iload_n j148 rfl rfl ?_
    refine s_iload j149 rfl rfl ?_
    refine s_g j151 rfl rfl rfl rfl rfl rfl ?_
    obtain ⟨ho3, h⟩ := h
    refine s_iaload j152 rfl ho3 ?_
    refine s_iload_n j153 rfl rfl ?_
    refine s_bipush j154 rfl kc_bi_24 ?_
    refine s_bipush j156 rfl kc_bi_8 ?_
    refine s_iload j158 rfl rfl ?_
    refine s_g j160 rfl rfl rfl rfl rfl rfl ?_
    refine s_g j161 rfl rfl rfl rfl rfl rfl ?_
    refine s_g j162 rfl rfl rfl rfl rfl rfl ?_
    refine s_sipush j163 rfl kc_si_255 ?_
    refine s_g j166 rfl rfl rfl rfl rfl rfl ?_
    refine s_ic j167 rfl rfl am_cc_eq (fun hc4 => ?_) (fun hc4 => ?_)
    · replace h := h.1 hc4
      refine s_iinc (L' := [some (am_ov (some this)), some (.int x1), some (.int x2), some (.int x3), some (.int (x4 + (1 : Int32)))]) j175 rfl rfl kc_ic_1 rfl ?_
      refine s_goto j178 rfl rfl ?_
      exact h
    · replace h := h.2 hc4
      refine s_bipush j170 rfl kc_bi_m10 ?_
      refine s_iload_n j172 rfl rfl ?_
      refine s_g j173 rfl rfl rfl rfl rfl rfl ?_
      exact s_retI j174 rfl h
theorem P_Ro_clear (nl : Bool) (Ln : Nat) (xs : Nat → Int32) : am_Jl (TT nl Ln xs) 348 [(0, .aload_n 0, 1, []), (1, .iconst 0, 2, []), (2, .putfield 206, 5, [9, 13, 0, 0]), (5, .aload_n 0, 6, []), (6, .iconst 0, 7, []), (7, .putfield 210, 10, [9, 13, 1, 0]), (10, .aload_n 0, 11, []), (11, .iconst 0, 12, []), (12, .putfield 213, 15, [9, 13, 2, 0]), (15, .aload_n 0, 16, []), (16, .iconst 0, 17, []), (17, .putfield 216, 20, [9, 13, 6, 0]), (20, .aload_n 0, 21, []), (21, .iconst 0, 22, []), (22, .putfield 219, 25, [9, 13, 10, 0]), (25, .aload_n 0, 26, []), (26, .iconst 0, 27, []), (27, .putfield 222, 30, [9, 13, 15, 0]), (30, .aload_n 0, 31, []), (31, .iconst 0, 32, []), (32, .putfield 225, 35, [9, 13, 20, 0]), (35, .aload_n 0, 36, []), (36, .iconst 0, 37, []), (37, .putfield 228, 40, [9, 13, 24, 0]), (40, .aload_n 0, 41, []), (41, .iconst 0, 42, []), (42, .putfield 231, 45, [9, 13, 31, 0]), (45, .aload_n 0, 46, []), (46, .iconst 0, 47, []), (47, .putfield 234, 50, [9, 13, 35, 0]), (50, .aload_n 0, 51, []), (51, .iconst 0, 52, []), (52, .putfield 237, 55, [9, 13, 45, 0]), (55, .aload_n 0, 56, []), (56, .iconst 0, 57, []), (57, .putfield 240, 60, [9, 13, 60, 0]), (60, .aload_n 0, 61, []), (61, .iconst 0, 62, []), (62, .putfield 243, 65, [9, 13, 61, 0]), (65, .aload_n 0, 66, []), (66, .iconst 0, 67, []), (67, .putfield 246, 70, [9, 13, 62, 3]), (70, .aload_n 0, 71, []), (71, .iconst 0, 72, []), (72, .putfield 250, 75, [9, 13, 63, 0]), (75, .aload_n 0, 76, []), (76, .iconst 0, 77, []), (77, .putfield 253, 80, [9, 13, 67, 0]), (80, .return_, 81, [0])] := dk_ck (by decide +kernel)
set_option maxRecDepth 4096 in
theorem w_Ro_clear {nl : Bool} {Ln : Nat} {xs : Nat → Int32} {d : Nat} {this : Nat} {σ : am_S} {F : am_S → Prop} (h : (am_is σ (some this) 13) ∧ ∀ σ2, σ2 = am_sfI σ 13000 this (0 : Int32) → ∀ σ5, σ5 = am_sfI σ2 13001 this (0 : Int32) → ∀ σ8, σ8 = am_sfI σ5 13002 this (0 : Int32) → ∀ σ11, σ11 = am_sfI σ8 13006 this (0 : Int32) → ∀ σ14, σ14 = am_sfI σ11 13010 this (0 : Int32) → ∀ σ17, σ17 = am_sfI σ14 13015 this (0 : Int32) → ∀ σ20, σ20 = am_sfI σ17 13020 this (0 : Int32) → ∀ σ23, σ23 = am_sfI σ20 13024 this (0 : Int32) → ∀ σ26, σ26 = am_sfI σ23 13031 this (0 : Int32) → ∀ σ29, σ29 = am_sfI σ26 13035 this (0 : Int32) → ∀ σ32, σ32 = am_sfI σ29 13045 this (0 : Int32) → ∀ σ35, σ35 = am_sfI σ32 13060 this (0 : Int32) → ∀ σ38, σ38 = am_sfI σ35 13061 this (0 : Int32) → ∀ σ41, σ41 = am_sfI σ38 13062 this (0 : Int32) → ∀ σ44, σ44 = am_sfI σ41 13063 this (0 : Int32) → ∀ σ47, σ47 = am_sfI σ44 13067 this (0 : Int32) → F σ47) : k_Ro_clear nl Ln xs (d + 1) this σ F := by
  obtain ⟨j0, j1, j2, j5, j6, j7, j10, j11, j12, j15, j16, j17, j20, j21, j22, j25, j26, j27, j30, j31, j32, j35, j36, j37, j40, j41, j42, j45, j46, j47, j50, j51, j52, j55, j56, j57, j60, j61, j62, j65, j66, j67, j70, j71, j72, j75, j76, j77, j80, -⟩ := P_Ro_clear nl Ln xs
  have elo : am_lo 1 [am_ov (some this)] = [some (am_ov (some this))] := by simp only [am_lo, am_in_ov, am_in_int, am_in_long, am_in_nil]; rfl
  unfold k_Ro_clear
  rw [elo]
  refine s_aload_n j0 rfl rfl ?_
  refine s_iconst j1 rfl kc_ic_0 ?_
  obtain ⟨ho1, h⟩ := h
  refine s_pfI j2 rfl ho1 (fun σ2 e3 => ?_)
  replace h := h σ2 e3
  have ek4 : am_kd σ2 = am_kd σ := by rw [e3]
  refine s_aload_n j5 rfl rfl ?_
  refine s_iconst j6 rfl kc_ic_0 ?_
  refine s_pfI j7 rfl (am_is_kd ek4 ho1) (fun σ5 e6 => ?_)
  replace h := h σ5 e6
  have ek7 : am_kd σ5 = am_kd σ2 := by rw [e6]
  refine s_aload_n j10 rfl rfl ?_
  refine s_iconst j11 rfl kc_ic_0 ?_
  refine s_pfI j12 rfl (am_is_kd ek7 (am_is_kd ek4 ho1)) (fun σ8 e9 => ?_)
  replace h := h σ8 e9
  have ek10 : am_kd σ8 = am_kd σ5 := by rw [e9]
  refine s_aload_n j15 rfl rfl ?_
  refine s_iconst j16 rfl kc_ic_0 ?_
  refine s_pfI j17 rfl (am_is_kd ek10 (am_is_kd ek7 (am_is_kd ek4 ho1))) (fun σ11 e12 => ?_)
  replace h := h σ11 e12
  have ek13 : am_kd σ11 = am_kd σ8 := by rw [e12]
  refine s_aload_n j20 rfl rfl ?_
  refine s_iconst j21 rfl kc_ic_0 ?_
  refine s_pfI j22 rfl (am_is_kd ek13 (am_is_kd ek10 (am_is_kd ek7 (am_is_kd ek4 ho1)))) (fun σ14 e15 => ?_)
  replace h := h σ14 e15
  have ek16 : am_kd σ14 = am_kd σ11 := by rw [e15]
  refine s_aload_n j25 rfl rfl ?_
  refine s_iconst j26 rfl kc_ic_0 ?_
  refine s_pfI j27 rfl (am_is_kd ek16 (am_is_kd ek13 (am_is_kd ek10 (am_is_kd ek7 (am_is_kd ek4 ho1))))) (fun σ17 e18 => ?_)
  replace h := h σ17 e18
  have ek19 : am_kd σ17 = am_kd σ14 := by rw [e18]
  refine s_aload_n j30 rfl rfl ?_
  refine s_iconst j31 rfl kc_ic_0 ?_
  refine s_pfI j32 rfl (am_is_kd ek19 (am_is_kd ek16 (am_is_kd ek13 (am_is_kd ek10 (am_is_kd ek7 (am_is_kd ek4 ho1)))))) (fun σ20 e21 => ?_)
  replace h := h σ20 e21
  have ek22 : am_kd σ20 = am_kd σ17 := by rw [e21]
  refine s_aload_n j35 rfl rfl ?_
  refine s_iconst j36 rfl kc_ic_0 ?_
  refine s_pfI j37 rfl (am_is_kd ek22 (am_is_kd ek19 (am_is_kd ek16 (am_is_kd ek13 (am_is_kd ek10 (am_is_kd ek7 (am_is_kd ek4 ho1))))))) (fun σ23 e24 => ?_)
  replace h := h σ23 e24
  have ek25 : am_kd σ23 = am_kd σ20 := by rw [e24]
  refine s_aload_n j40 rfl rfl ?_
  refine s_iconst j41 rfl kc_ic_0 ?_
  refine s_pfI j42 rfl (am_is_kd ek25 (am_is_kd ek22 (am_is_kd ek19 (am_is_kd ek16 (am_is_kd ek13 (am_is_kd ek10 (am_is_kd ek7 (am_is_kd ek4 ho1)))))))) (fun σ26 e27 => ?_)
  replace h := h σ26 e27
  have ek28 : am_kd σ26 = am_kd σ23 := by rw [e27]
  refine s_aload_n j45 rfl rfl ?_
  refine s_iconst j46 rfl kc_ic_0 ?_
  refine s_pfI j47 rfl (am_is_kd ek28 (am_is_kd ek25 (am_is_kd ek22 (am_is_kd ek19 (am_is_kd ek16 (am_is_kd ek13 (am_is_kd ek10 (am_is_kd ek7 (am_is_kd ek4 ho1))))))))) (fun σ29 e30 => ?_)
  replace h := h σ29 e30
  have ek31 : am_kd σ29 = am_kd σ26 := by rw [e30]
  refine s_aload_n j50 rfl rfl ?_
  refine s_iconst j51 rfl kc_ic_0 ?_
  refine s_pfI j52 rfl (am_is_kd ek31 (am_is_kd ek28 (am_is_kd ek25 (am_is_kd ek22 (am_is_kd ek19 (am_is_kd ek16 (am_is_kd ek13 (am_is_kd ek10 (am_is_kd ek7 (am_is_kd ek4 ho1)))))))))) (fun σ32 e33 => ?_)
  replace h := h σ32 e33
  have ek34 : am_kd σ32 = am_kd σ29 := by rw [e33]
  refine s_aload_n j55 rfl rfl ?_
  refine s_iconst j56 rfl kc_ic_0 ?_
  refine s_pfI j57 rfl (am_is_kd ek34 (am_is_kd ek31 (am_is_kd ek28 (am_is_kd ek25 (am_is_kd ek22 (am_is_kd ek19 (am_is_kd ek16 (am_is_kd ek13 (am_is_kd ek10 (am_is_kd ek7 (am_is_kd ek4 ho1))))))))))) (fun σ35 e36 => ?_)
  replace h := h σ35 e36
  have ek37 : am_kd σ35 = am_kd σ32 := by rw [e36]
  refine s_aload_n j60 rfl rfl ?_
  refine s_iconst j61 rfl kc_ic_0 ?_
  refine s_pfI j62 rfl (am_is_kd ek37 (am_is_kd ek34 (am_is_kd ek31 (am_is_kd ek28 (am_is_kd ek25 (am_is_kd ek22 (am_is_kd ek19 (am_is_kd ek16 (am_is_kd ek13 (am_is_kd ek10 (am_is_kd ek7 (am_is_kd ek4 ho1)))))))))))) (fun σ38 e39 => ?_)
  replace h := h σ38 e39
  have ek40 : am_kd σ38 = am_kd σ35 := by rw [e39]
  refine s_aload_n j65 rfl rfl ?_
  refine s_iconst j66 rfl kc_ic_0 ?_
  refine s_pfZ j67 rfl (am_is_kd ek40 (am_is_kd ek37 (am_is_kd ek34 (am_is_kd ek31 (am_is_kd ek28 (am_is_kd ek25 (am_is_kd ek22 (am_is_kd ek19 (am_is_kd ek16 (am_is_kd ek13 (am_is_kd ek10 (am_is_kd ek7 (am_is_kd ek4 ho1))))))))))))) (Or.inl rfl) (fun σ41 e42 => ?_)
  replace h := h σ41 e42
  have ek43 : am_kd σ41 = am_kd σ38 := by rw [e42]
  refine s_aload_n j70 rfl rfl ?_
  refine s_iconst j71 rfl kc_ic_0 ?_
  refine s_pfI j72 rfl (am_is_kd ek43 (am_is_kd ek40 (am_is_kd ek37 (am_is_kd ek34 (am_is_kd ek31 (am_is_kd ek28 (am_is_kd ek25 (am_is_kd ek22 (am_is_kd ek19 (am_is_kd ek16 (am_is_kd ek13 (am_is_kd ek10 (am_is_kd ek7 (am_is_kd ek4 ho1)))))))))))))) (fun σ44 e45 => ?_)
  replace h := h σ44 e45
  have ek46 : am_kd σ44 = am_kd σ41 := by rw [e45]
  refine s_aload_n j75 rfl rfl ?_
  refine s_iconst j76 rfl kc_ic_0 ?_
  refine s_pfI j77 rfl (am_is_kd ek46 (am_is_kd ek43 (am_is_kd ek40 (am_is_kd ek37 (am_is_kd ek34 (am_is_kd ek31 (am_is_kd ek28 (am_is_kd ek25 (am_is_kd ek22 (am_is_kd ek19 (am_is_kd ek16 (am_is_kd ek13 (am_is_kd ek10 (am_is_kd ek7 (am_is_kd ek4 ho1))))))))))))))) (fun σ47 e48 => ?_)
  replace h := h σ47 e48
  have ek49 : am_kd σ47 = am_kd σ44 := by rw [e48]
  exact s_retV j80 rfl h
theorem P_Rm_takesOne (nl : Bool) (Ln : Nat) (xs : Nat → Int32) : am_Jl (TT nl Ln xs) 349 [(0, .aload_n 0, 1, []), (1, .iload_n 2, 2, []), (2, .invokevirtual 359, 5, [10, 350, 13, 8, 2]), (5, .ifCond .eq 17, 8, []), (8, .aload_n 0, 9, []), (9, .getfield 356, 12, [9, 12, 20, 1]), (12, .lconst 1, 13, []), (13, .ldc2_w 362, 16, [6, 22]), (16, .invokestatic 154, 19, [12, 209, 6, 3]), (19, .ifCond .ne 5, 22, []), (22, .iconst 0, 23, []), (23, .ireturn, 24, [4]), (24, .aload_n 0, 25, []), (25, .getfield 356, 28, [9, 12, 20, 1]), (28, .l2i, 29, []), (29, .istore_n 3, 30, []), (30, .iload_n 3, 31, []), (31, .invokestatic 364, 34, [12, 205, 1, 1]), (34, .istore 4, 36, []), (36, .iconst 0, 37, []), (37, .istore 5, 39, [])] := dk_ck (by decide +kernel)
set_option maxRecDepth 4096 in
theorem w_Rm_takesOne {nl : Bool} {Ln : Nat} {xs : Nat → Int32} {d : Nat} {this : Nat} {p0 : Option Nat} {p1 : Int32} {σ : am_S} {F : Bool → am_S → Prop} (h : (am_is σ (some this) 12) ∧ k_Rm_reads nl Ln xs d this p1 σ (fun a3 σ2 => am_ext σ σ2 → (a3 = true → k_Rm_in nl Ln xs d (am_fL σ2 12020 this) (1 : Int64) (22 : Int64) σ2 (fun a6 σ5 => am_ext σ2 σ5 → (a6 = true → ∀ v8 : Int32, v8 = (am_fL σ5 12020 this).toInt32 → k_Rm_argumentsOf nl Ln xs d v8 σ5 (fun a11 σ10 => am_ext σ5 σ10 → c_Rm_takesOne_39 nl Ln xs (d + 1) this p0 p1 v8 a11 (0 : Int32) σ10 F)) ∧ (¬ (a6 = true) → F false σ5))) ∧ (¬ (a3 = true) → F false σ2))) : k_Rm_takesOne nl Ln xs (d + 1) this p0 p1 σ F := by
  obtain ⟨j0, j1, j2, j5, j8, j9, j12, j13, j16, j19, j22, j23, j24, j25, j28, j29, j30, j31, j34, j36, j37, -⟩ := P_Rm_takesOne nl Ln xs
  have elo : am_lo 6 [am_ov (some this), am_ov p0, .int p1] = [some (am_ov (some this)), some (am_ov p0), some (.int p1), none, none, none] := by simp only [am_lo, am_in_ov, am_in_int, am_in_long, am_in_nil]; rfl
  unfold k_Rm_takesOne
  rw [elo]
  refine s_aload_n j0 rfl rfl ?_
  refine s_iload_n j1 rfl rfl ?_
  obtain ⟨ho1, h⟩ := h
  refine s_virt j2 rfl rfl rfl rfl ho1 (by decide) (in_Rm_reads _ _) (am_r8 rfl) (am_bB h (fun a3 σ2 h hx2 => ?_))
  replace h := h hx2
  refine s_ifn j5 rfl rfl am_cb_eq (fun hc4 => ?_) (fun hc4 => ?_)
  · replace h := h.2 hc4
    refine s_iconst j22 rfl kc_ic_0 ?_
    exact s_retZ0 j23 rfl h
  · replace h := h.1 hc4
    refine s_aload_n j8 rfl rfl ?_
    refine s_gfL j9 rfl (am_is_ext hx2 ho1) ?_
    refine s_lconst j12 rfl rfl ?_
    refine s_ldc2 j13 rfl kc_ll_22 ?_
    refine s_stat j16 rfl rfl rfl rfl (by decide) (in_Rm_in _ _ _) (am_r8 rfl) (am_bB h (fun a6 σ5 h hx5 => ?_))
    replace h := h hx5
    refine s_if j19 rfl rfl am_cb_ne (fun hc7 => ?_) (fun hc7 => ?_)
    · replace h := h.1 hc7
      refine s_aload_n j24 rfl rfl ?_
      refine s_gfL j25 rfl (am_is_ext hx5 (am_is_ext hx2 ho1)) ?_
      refine s_g j28 rfl rfl rfl rfl rfl rfl ?_
      refine s_istore_nV j29 rfl (n := 6) (L' := fun w => [some (am_ov (some this)), some (am_ov p0), some (.int p1), some (.int w), none, none]) rfl (by decide) (fun _ => rfl) (fun v8 hv9 => ?_)
      replace h := h v8 hv9
      refine s_iload_n j30 rfl rfl ?_
      refine s_stat j31 rfl rfl rfl rfl (by decide) (in_Rm_argumentsOf _) (am_r8 rfl) (am_bI h (fun a11 σ10 h hx10 => ?_))
      replace h := h hx10
      refine s_istore j34 rfl (n := 6) (L' := [some (am_ov (some this)), some (am_ov p0), some (.int p1), some (.int v8), some (.int a11), none]) rfl (by decide) rfl ?_
      refine s_iconst j36 rfl kc_ic_0 ?_
      refine s_istore j37 rfl (n := 6) (L' := [some (am_ov (some this)), some (am_ov p0), some (.int p1), some (.int v8), some (.int a11), some (.int (0 : Int32))]) rfl (by decide) rfl ?_
      exact h
    · replace h := h.2 hc7
      refine s_iconst j22 rfl kc_ic_0 ?_
      exact s_retZ0 j23 rfl h
theorem P_Rm_takesOne_39 (nl : Bool) (Ln : Nat) (xs : Nat → Int32) : am_Jl (TT nl Ln xs) 349 [(39, .iload 5, 41, []), (41, .bipush 6, 43, []), (43, .if_icmp .ge 17, 46, []), (46, .aload_n 0, 47, []), (47, .getfield 33, 50, [9, 12, 18, 2]), (50, .iload 5, 52, []), (52, .lconst 0, 53, []), (53, .lastore, 54, []), (54, .iinc 5 1, 57, []), (57, .goto (-18), 60, []), (60, .iconst 0, 61, []), (61, .istore 5, 63, [])] := dk_ck (by decide +kernel)
set_option maxRecDepth 4096 in
theorem w_Rm_takesOne_39 {nl : Bool} {Ln : Nat} {xs : Nat → Int32} {d : Nat} {this : Nat} {x1 : Option Nat} {x2 : Int32} {x3 : Int32} {x4 : Int32} {x5 : Int32} {σ : am_S} {F : Bool → am_S → Prop} (h : (x5 < (6 : Int32) → (am_is σ (some this) 12) ∧ (am_ar σ 1001 (am_fR σ 12018 this) x5) ∧ ∀ σ4, σ4 = am_saL σ ((am_fR σ 12018 this).getD 0) x5.toNatClampNeg (0 : Int64) → c_Rm_takesOne_39 nl Ln xs (d + 1) this x1 x2 x3 x4 (x5 + (1 : Int32)) σ4 F) ∧ (¬ (x5 < (6 : Int32)) → c_Rm_takesOne_63 nl Ln xs (d + 1) this x1 x2 x3 x4 (0 : Int32) σ F)) : c_Rm_takesOne_39 nl Ln xs (d + 1) this x1 x2 x3 x4 x5 σ F := by
  obtain ⟨j39, j41, j43, j46, j47, j50, j52, j53, j54, j57, j60, j61, -⟩ := P_Rm_takesOne_39 nl Ln xs
  unfold c_Rm_takesOne_39
  refine s_iload j39 rfl rfl ?_
  refine s_bipush j41 rfl kc_bi_6 ?_
  refine s_icn j43 rfl rfl am_cc_ge (fun hc1 => ?_) (fun hc1 => ?_)
  · replace h := h.2 hc1
    refine s_iconst j60 rfl kc_ic_0 ?_
    refine s_istore j61 rfl (n := 6) (L' := [some (am_ov (some this)), some (am_ov x1), some (.int x2), some (.int x3), some (.int x4), some (.int (0 : Int32))]) rfl (by decide) rfl ?_
    exact h
  · replace h := h.1 hc1
    refine s_aload_n j46 rfl rfl ?_
    obtain ⟨ho2, h⟩ := h
    refine s_gfR j47 rfl ho2 ?_
    refine s_iload j50 rfl rfl ?_
    refine s_lconst j52 rfl rfl ?_
    obtain ⟨ho3, h⟩ := h
    refine s_lastore j53 rfl ho3 (fun σ4 e5 => ?_)
    replace h := h σ4 e5
    have ek6 : am_kd σ4 = am_kd σ := by rw [e5]
    refine s_iinc (L' := [some (am_ov (some this)), some (am_ov x1), some (.int x2), some (.int x3), some (.int x4), some (.int (x5 + (1 : Int32)))]) j54 rfl rfl kc_ic_1 rfl ?_
    refine s_goto j57 rfl rfl ?_
    exact h
theorem P_Rm_takesOne_63 (nl : Bool) (Ln : Nat) (xs : Nat → Int32) : am_Jl (TT nl Ln xs) 349 [(63, .iload 5, 65, []), (65, .iload 4, 67, []), (67, .if_icmp .ge 53, 70, []), (70, .aload_n 0, 71, []), (71, .iload_n 2, 72, []), (72, .invokevirtual 359, 75, [10, 350, 13, 8, 2]), (75, .ifCond .eq 26, 78, []), (78, .iload_n 3, 79, []), (79, .iload 5, 81, []), (81, .invokestatic 367, 84, [12, 351, 2, 2]), (84, .ifCond .ne 19, 87, []), (87, .aload_n 0, 88, []), (88, .getfield 356, 91, [9, 12, 20, 1]), (91, .l2i, 92, []), (92, .i2l, 93, []), (93, .aload_n 0, 94, []), (94, .getfield 356, 97, [9, 12, 20, 1]), (97, .lcmp, 98, []), (98, .ifCond .eq 5, 101, []), (101, .iconst 0, 102, []), (102, .ireturn, 103, [4]), (103, .aload_n 0, 104, []), (104, .getfield 33, 107, [9, 12, 18, 2]), (107, .iload 5, 109, []), (109, .aload_n 0, 110, []), (110, .getfield 356, 113, [9, 12, 20, 1]), (113, .lastore, 114, []), (114, .iinc 5 1, 117, []), (117, .goto (-54), 120, []), (120, .iload_n 3, 121, []), (121, .bipush 6, 123, []), (123, .if_icmp .ne 79, 126, []), (126, .aload_n 0, 127, []), (127, .getfield 33, 130, [9, 12, 18, 2]), (130, .iconst 1, 131, []), (131, .laload, 132, []), (132, .lconst 0, 133, []), (133, .ldc2_w 371, 136, [6, 400]), (136, .invokestatic 154, 139, [12, 209, 6, 3]), (139, .ifCond .ne 5, 142, []), (142, .iconst 0, 143, []), (143, .ireturn, 144, [4]), (144, .iconst 0, 145, []), (145, .istore 5, 147, [])] := dk_ck (by decide +kernel)
set_option maxRecDepth 4096 in
theorem w_Rm_takesOne_63 {nl : Bool} {Ln : Nat} {xs : Nat → Int32} {d : Nat} {this : Nat} {x1 : Option Nat} {x2 : Int32} {x3 : Int32} {x4 : Int32} {x5 : Int32} {σ : am_S} {F : Bool → am_S → Prop} (h : (x5 < x4 → (am_is σ (some this) 12) ∧ k_Rm_reads nl Ln xs d this x2 σ (fun a4 σ3 => am_ext σ σ3 → (a4 = true → k_Rm_isLong nl Ln xs d x3 x5 σ3 (fun a7 σ6 => am_ext σ3 σ6 → (a7 = true → (am_ar σ6 1001 (am_fR σ6 12018 this) x5) ∧ ∀ σ10, σ10 = am_saL σ6 ((am_fR σ6 12018 this).getD 0) x5.toNatClampNeg (am_fL σ6 12020 this) → c_Rm_takesOne_63 nl Ln xs (d + 1) this x1 x2 x3 x4 (x5 + (1 : Int32)) σ10 F) ∧ (¬ (a7 = true) → (((am_fL σ6 12020 this).toInt32).toInt64 = (am_fL σ6 12020 this) → (am_ar σ6 1001 (am_fR σ6 12018 this) x5) ∧ ∀ σ15, σ15 = am_saL σ6 ((am_fR σ6 12018 this).getD 0) x5.toNatClampNeg (am_fL σ6 12020 this) → c_Rm_takesOne_63 nl Ln xs (d + 1) this x1 x2 x3 x4 (x5 + (1 : Int32)) σ15 F) ∧ (¬ (((am_fL σ6 12020 this).toInt32).toInt64 = (am_fL σ6 12020 this)) → F false σ6)))) ∧ (¬ (a4 = true) → F false σ3))) ∧ (¬ (x5 < x4) → (x3 = (6 : Int32) → (am_is σ (some this) 12) ∧ (am_ar σ 1001 (am_fR σ 12018 this) (1 : Int32)) ∧ k_Rm_in nl Ln xs d (am_aL σ ((am_fR σ 12018 this).getD 0) (1 : Int32).toNatClampNeg) (0 : Int64) (400 : Int64) σ (fun a22 σ21 => am_ext σ σ21 → (a22 = true → c_Rm_takesOne_147 nl Ln xs (d + 1) this x1 x2 x3 x4 (0 : Int32) σ21 F) ∧ (¬ (a22 = true) → F false σ21))) ∧ (¬ (x3 = (6 : Int32)) → c_Rm_takesOne_202 nl Ln xs (d + 1) this x1 x2 x3 x4 x5 σ F))) : c_Rm_takesOne_63 nl Ln xs (d + 1) this x1 x2 x3 x4 x5 σ F := by
  obtain ⟨j63, j65, j67, j70, j71, j72, j75, j78, j79, j81, j84, j87, j88, j91, j92, j93, j94, j97, j98, j101, j102, j103, j104, j107, j109, j110, j113, j114, j117, j120, j121, j123, j126, j127, j130, j131, j132, j133, j136, j139, j142, j143, j144, j145, -⟩ := P_Rm_takesOne_63 nl Ln xs
  unfold c_Rm_takesOne_63
  refine s_iload j63 rfl rfl ?_
  refine s_iload j65 rfl rfl ?_
  refine s_icn j67 rfl rfl am_cc_ge (fun hc1 => ?_) (fun hc1 => ?_)
  · replace h := h.2 hc1
    refine s_iload_n j120 rfl rfl ?_
    refine s_bipush j121 rfl kc_bi_6 ?_
    refine s_icn j123 rfl rfl am_cc_ne (fun hc18 => ?_) (fun hc18 => ?_)
    · replace h := h.2 hc18
      exact h
    · replace h := h.1 hc18
      refine s_aload_n j126 rfl rfl ?_
      obtain ⟨ho19, h⟩ := h
      refine s_gfR j127 rfl ho19 ?_
      refine s_iconst j130 rfl kc_ic_1 ?_
      obtain ⟨ho20, h⟩ := h
      refine s_laload j131 rfl ho20 ?_
      refine s_lconst j132 rfl rfl ?_
      refine s_ldc2 j133 rfl kc_ll_400 ?_
      refine s_stat j136 rfl rfl rfl rfl (by decide) (in_Rm_in _ _ _) (am_r8 rfl) (am_bB h (fun a22 σ21 h hx21 => ?_))
      replace h := h hx21
      refine s_if j139 rfl rfl am_cb_ne (fun hc23 => ?_) (fun hc23 => ?_)
      · replace h := h.1 hc23
        refine s_iconst j144 rfl kc_ic_0 ?_
        refine s_istore j145 rfl (n := 6) (L' := [some (am_ov (some this)), some (am_ov x1), some (.int x2), some (.int x3), some (.int x4), some (.int (0 : Int32))]) rfl (by decide) rfl ?_
        exact h
      · replace h := h.2 hc23
        refine s_iconst j142 rfl kc_ic_0 ?_
        exact s_retZ0 j143 rfl h
  · replace h := h.1 hc1
    refine s_aload_n j70 rfl rfl ?_
    refine s_iload_n j71 rfl rfl ?_
    obtain ⟨ho2, h⟩ := h
    refine s_virt j72 rfl rfl rfl rfl ho2 (by decide) (in_Rm_reads _ _) (am_r8 rfl) (am_bB h (fun a4 σ3 h hx3 => ?_))
    replace h := h hx3
    refine s_ifn j75 rfl rfl am_cb_eq (fun hc5 => ?_) (fun hc5 => ?_)
    · replace h := h.2 hc5
      refine s_iconst j101 rfl kc_ic_0 ?_
      exact s_retZ0 j102 rfl h
    · replace h := h.1 hc5
      refine s_iload_n j78 rfl rfl ?_
      refine s_iload j79 rfl rfl ?_
      refine s_stat j81 rfl rfl rfl rfl (by decide) (in_Rm_isLong _ _) (am_r8 rfl) (am_bB h (fun a7 σ6 h hx6 => ?_))
      replace h := h hx6
      refine s_if j84 rfl rfl am_cb_ne (fun hc8 => ?_) (fun hc8 => ?_)
      · replace h := h.1 hc8
        refine s_aload_n j103 rfl rfl ?_
        refine s_gfR j104 rfl (am_is_ext hx6 (am_is_ext hx3 ho2)) ?_
        refine s_iload j107 rfl rfl ?_
        refine s_aload_n j109 rfl rfl ?_
        refine s_gfL j110 rfl (am_is_ext hx6 (am_is_ext hx3 ho2)) ?_
        obtain ⟨ho9, h⟩ := h
        refine s_lastore j113 rfl ho9 (fun σ10 e11 => ?_)
        replace h := h σ10 e11
        have ek12 : am_kd σ10 = am_kd σ6 := by rw [e11]
        refine s_iinc (L' := [some (am_ov (some this)), some (am_ov x1), some (.int x2), some (.int x3), some (.int x4), some (.int (x5 + (1 : Int32)))]) j114 rfl rfl kc_ic_1 rfl ?_
        refine s_goto j117 rfl rfl ?_
        exact h
      · replace h := h.2 hc8
        refine s_aload_n j87 rfl rfl ?_
        refine s_gfL j88 rfl (am_is_ext hx6 (am_is_ext hx3 ho2)) ?_
        refine s_g j91 rfl rfl rfl rfl rfl rfl ?_
        refine s_g j92 rfl rfl rfl rfl rfl rfl ?_
        refine s_aload_n j93 rfl rfl ?_
        refine s_gfL j94 rfl (am_is_ext hx6 (am_is_ext hx3 ho2)) ?_
        refine s_g j97 rfl rfl rfl rfl rfl rfl ?_
        refine s_if j98 rfl rfl am_cl_eq (fun hc13 => ?_) (fun hc13 => ?_)
        · replace h := h.1 hc13
          refine s_aload_n j103 rfl rfl ?_
          refine s_gfR j104 rfl (am_is_ext hx6 (am_is_ext hx3 ho2)) ?_
          refine s_iload j107 rfl rfl ?_
          refine s_aload_n j109 rfl rfl ?_
          refine s_gfL j110 rfl (am_is_ext hx6 (am_is_ext hx3 ho2)) ?_
          obtain ⟨ho14, h⟩ := h
          refine s_lastore j113 rfl ho14 (fun σ15 e16 => ?_)
          replace h := h σ15 e16
          have ek17 : am_kd σ15 = am_kd σ6 := by rw [e16]
          refine s_iinc (L' := [some (am_ov (some this)), some (am_ov x1), some (.int x2), some (.int x3), some (.int x4), some (.int (x5 + (1 : Int32)))]) j114 rfl rfl kc_ic_1 rfl ?_
          refine s_goto j117 rfl rfl ?_
          exact h
        · replace h := h.2 hc13
          refine s_iconst j101 rfl kc_ic_0 ?_
          exact s_retZ0 j102 rfl h
theorem P_Rm_takesOne_147 (nl : Bool) (Ln : Nat) (xs : Nat → Int32) : am_Jl (TT nl Ln xs) 349 [(147, .iload 5, 149, []), (149, .i2l, 150, []), (150, .aload_n 0, 151, []), (151, .getfield 33, 154, [9, 12, 18, 2]), (154, .iconst 1, 155, []), (155, .laload, 156, []), (156, .lcmp, 157, []), (157, .ifCond .ge 45, 160, []), (160, .aload_n 0, 161, []), (161, .iload_n 2, 162, []), (162, .invokevirtual 359, 165, [10, 350, 13, 8, 2]), (165, .ifCond .eq 17, 168, []), (168, .aload_n 0, 169, []), (169, .getfield 356, 172, [9, 12, 20, 1]), (172, .lconst 0, 173, []), (173, .ldc2_w 143, 176, [6, 255]), (176, .invokestatic 154, 179, [12, 209, 6, 3]), (179, .ifCond .ne 5, 182, []), (182, .iconst 0, 183, []), (183, .ireturn, 184, [4]), (184, .aload_n 1, 185, []), (185, .getfield 148, 188, [9, 13, 90, 2]), (188, .iload 5, 190, []), (190, .aload_n 0, 191, []), (191, .getfield 356, 194, [9, 12, 20, 1]), (194, .l2i, 195, []), (195, .iastore, 196, []), (196, .iinc 5 1, 199, []), (199, .goto (-52), 202, [])] := dk_ck (by decide +kernel)
set_option maxRecDepth 4096 in
theorem w_Rm_takesOne_147 {nl : Bool} {Ln : Nat} {xs : Nat → Int32} {d : Nat} {this : Nat} {x1 : Option Nat} {x2 : Int32} {x3 : Int32} {x4 : Int32} {x5 : Int32} {σ : am_S} {F : Bool → am_S → Prop} (h : (am_is σ (some this) 12) ∧ (am_ar σ 1001 (am_fR σ 12018 this) (1 : Int32)) ∧ (x5.toInt64 < (am_aL σ ((am_fR σ 12018 this).getD 0) (1 : Int32).toNatClampNeg) → k_Rm_reads nl Ln xs d this x2 σ (fun a5 σ4 => am_ext σ σ4 → (a5 = true → k_Rm_in nl Ln xs d (am_fL σ4 12020 this) (0 : Int64) (255 : Int64) σ4 (fun a8 σ7 => am_ext σ4 σ7 → (a8 = true → (am_is σ7 x1 13) ∧ (am_ar σ7 1000 (am_fR σ7 13090 (x1.getD 0)) x5) ∧ ∀ σ12, σ12 = am_saI σ7 ((am_fR σ7 13090 (x1.getD 0)).getD 0) x5.toNatClampNeg ((am_fL σ7 12020 this).toInt32) → c_Rm_takesOne_147 nl Ln xs (d + 1) this x1 x2 x3 x4 (x5 + (1 : Int32)) σ12 F) ∧ (¬ (a8 = true) → F false σ7))) ∧ (¬ (a5 = true) → F false σ4))) ∧ (¬ (x5.toInt64 < (am_aL σ ((am_fR σ 12018 this).getD 0) (1 : Int32).toNatClampNeg)) → c_Rm_takesOne_202 nl Ln xs (d + 1) this x1 x2 x3 x4 x5 σ F)) : c_Rm_takesOne_147 nl Ln xs (d + 1) this x1 x2 x3 x4 x5 σ F := by
  obtain ⟨j147, j149, j150, j151, j154, j155, j156, j157, j160, j161, j162, j165, j168, j169, j172, j173, j176, j179, j182, j183, j184, j185, j188, j190, j191, j194, j195, j196, j199, -⟩ := P_Rm_takesOne_147 nl Ln xs
  unfold c_Rm_takesOne_147
  refine s_iload j147 rfl rfl ?_
  refine s_g j149 rfl rfl rfl rfl rfl rfl ?_
  refine s_aload_n j150 rfl rfl ?_
  obtain ⟨ho1, h⟩ := h
  refine s_gfR j151 rfl ho1 ?_
  refine s_iconst j154 rfl kc_ic_1 ?_
  obtain ⟨ho2, h⟩ := h
  refine s_laload j155 rfl ho2 ?_
  refine s_g j156 rfl rfl rfl rfl rfl rfl ?_
  refine s_ifn j157 rfl rfl am_cl_ge (fun hc3 => ?_) (fun hc3 => ?_)
  · replace h := h.2 hc3
    exact h
  · replace h := h.1 hc3
    refine s_aload_n j160 rfl rfl ?_
    refine s_iload_n j161 rfl rfl ?_
    refine s_virt j162 rfl rfl rfl rfl ho1 (by decide) (in_Rm_reads _ _) (am_r8 rfl) (am_bB h (fun a5 σ4 h hx4 => ?_))
    replace h := h hx4
    refine s_ifn j165 rfl rfl am_cb_eq (fun hc6 => ?_) (fun hc6 => ?_)
    · replace h := h.2 hc6
      refine s_iconst j182 rfl kc_ic_0 ?_
      exact s_retZ0 j183 rfl h
    · replace h := h.1 hc6
      refine s_aload_n j168 rfl rfl ?_
      refine s_gfL j169 rfl (am_is_ext hx4 ho1) ?_
      refine s_lconst j172 rfl rfl ?_
      refine s_ldc2 j173 rfl kc_ll_255 ?_
      refine s_stat j176 rfl rfl rfl rfl (by decide) (in_Rm_in _ _ _) (am_r8 rfl) (am_bB h (fun a8 σ7 h hx7 => ?_))
      replace h := h hx7
      refine s_if j179 rfl rfl am_cb_ne (fun hc9 => ?_) (fun hc9 => ?_)
      · replace h := h.1 hc9
        refine s_aload_n j184 rfl rfl ?_
        obtain ⟨ho10, h⟩ := h
        refine s_gfR j185 rfl ho10 ?_
        refine s_iload j188 rfl rfl ?_
        refine s_aload_n j190 rfl rfl ?_
        refine s_gfL j191 rfl (am_is_ext hx7 (am_is_ext hx4 ho1)) ?_
        refine s_g j194 rfl rfl rfl rfl rfl rfl ?_
        obtain ⟨ho11, h⟩ := h
        refine s_iastore j195 rfl ho11 (fun σ12 e13 => ?_)
        replace h := h σ12 e13
        have ek14 : am_kd σ12 = am_kd σ7 := by rw [e13]
        refine s_iinc (L' := [some (am_ov (some this)), some (am_ov x1), some (.int x2), some (.int x3), some (.int x4), some (.int (x5 + (1 : Int32)))]) j196 rfl rfl kc_ic_1 rfl ?_
        refine s_goto j199 rfl rfl ?_
        exact h
      · replace h := h.2 hc9
        refine s_iconst j182 rfl kc_ic_0 ?_
        exact s_retZ0 j183 rfl h
theorem P_Rm_takesOne_202 (nl : Bool) (Ln : Nat) (xs : Nat → Int32) : am_Jl (TT nl Ln xs) 349 [(202, .aload_n 1, 203, []), (203, .iload_n 3, 204, []), (204, .aload_n 0, 205, []), (205, .getfield 33, 208, [9, 12, 18, 2]), (208, .invokevirtual 133, 211, [10, 201, 14, 4, 3]), (211, .istore 5, 213, []), (213, .iload 5, 215, []), (215, .ifCond .ge 23, 218, []), (218, .iload 5, 220, []), (220, .bipush (-8), 222, []), (222, .if_icmp .eq 16, 225, []), (225, .iload_n 3, 226, []), (226, .bipush 21, 228, []), (228, .if_icmp .ne 14, 231, []), (231, .iload 5, 233, []), (233, .bipush (-20), 235, []), (235, .if_icmp .gt 7, 238, []), (238, .iconst 1, 239, []), (239, .goto 4, 242, []), (242, .iconst 0, 243, []), (243, .ireturn, 244, [4])] := dk_ck (by decide +kernel)
set_option maxRecDepth 4096 in
theorem w_Rm_takesOne_202 {nl : Bool} {Ln : Nat} {xs : Nat → Int32} {d : Nat} {this : Nat} {x1 : Option Nat} {x2 : Int32} {x3 : Int32} {x4 : Int32} {x5 : Int32} {σ : am_S} {F : Bool → am_S → Prop} (h : (am_is σ (some this) 12) ∧ (am_is σ x1 13) ∧ k_Ro_act nl Ln xs d (x1.getD 0) x3 (am_fR σ 12018 this) σ (fun a4 σ3 => am_ext σ σ3 → F (decide (¬ (a4 < 0) ∨ ((a4 = (-8 : Int32)) ∨ ((x3 = (21 : Int32)) ∧ (¬ ((-20 : Int32) < a4)))))) σ3)) : c_Rm_takesOne_202 nl Ln xs (d + 1) this x1 x2 x3 x4 x5 σ F := by
  obtain ⟨j202, j203, j204, j205, j208, j211, j213, j215, j218, j220, j222, j225, j226, j228, j231, j233, j235, j238, j239, j242, j243, -⟩ := P_Rm_takesOne_202 nl Ln xs
  unfold c_Rm_takesOne_202
  refine s_aload_n j202 rfl rfl ?_
  refine s_iload_n j203 rfl rfl ?_
  refine s_aload_n j204 rfl rfl ?_
  obtain ⟨ho1, h⟩ := h
  refine s_gfR j205 rfl ho1 ?_
  obtain ⟨ho2, h⟩ := h
  refine s_virt j208 rfl rfl rfl rfl ho2 (by decide) (in_Ro_act _ _ _) (am_r8 rfl) (am_bI h (fun a4 σ3 h hx3 => ?_))
  replace h := h hx3
  refine s_istore j211 rfl (n := 6) (L' := [some (am_ov (some this)), some (am_ov x1), some (.int x2), some (.int x3), some (.int x4), some (.int a4)]) rfl (by decide) rfl ?_
  refine s_iload j213 rfl rfl ?_
  have K9 : ∀ (w10 : Int32), w10 = (if ¬ (a4 < 0) ∨ ((a4 = (-8 : Int32)) ∨ ((x3 = (21 : Int32)) ∧ (¬ ((-20 : Int32) < a4)))) then (1 : Int32) else 0) → am_C (TT nl Ln xs) (d + 1) 349 243 [some (am_ov (some this)), some (am_ov x1), some (.int x2), some (.int x3), some (.int x4), some (.int a4)] [.int w10] σ3 (am_qB F) := by
    intro w10 hw11
    subst hw11
    exact s_retZ j243 rfl h
  refine s_ifn j215 rfl rfl am_cc_ge (fun hc5 => ?_) (fun hc5 => ?_)
  · refine s_iconst j238 rfl kc_ic_1 ?_
    refine s_goto j239 rfl rfl ?_
    exact K9 _ (am_e1 (Iff.trans Iff.rfl (am_p7 hc5)))
  · refine s_iload j218 rfl rfl ?_
    refine s_bipush j220 rfl kc_bi_m8 ?_
    refine s_ic j222 rfl rfl am_cc_eq (fun hc6 => ?_) (fun hc6 => ?_)
    · refine s_iconst j238 rfl kc_ic_1 ?_
      refine s_goto j239 rfl rfl ?_
      exact K9 _ (am_e1 (am_p8 hc5 (Iff.trans Iff.rfl (am_p3 hc6))))
    · refine s_iload_n j225 rfl rfl ?_
      refine s_bipush j226 rfl kc_bi_21 ?_
      refine s_icn j228 rfl rfl am_cc_ne (fun hc7 => ?_) (fun hc7 => ?_)
      · refine s_iconst j242 rfl kc_ic_0 ?_
        exact K9 _ (am_e0 (am_p8 hc5 (am_p4 hc6 (Iff.trans Iff.rfl (am_p2 hc7)))))
      · refine s_iload j231 rfl rfl ?_
        refine s_bipush j233 rfl kc_bi_m20 ?_
        refine s_ic j235 rfl rfl am_cc_gt (fun hc8 => ?_) (fun hc8 => ?_)
        · refine s_iconst j242 rfl kc_ic_0 ?_
          exact K9 _ (am_e0 (am_p8 hc5 (am_p4 hc6 (am_p1 hc7 (Iff.trans Iff.rfl (am_p11 hc8))))))
        · refine s_iconst j238 rfl kc_ic_1 ?_
          refine s_goto j239 rfl rfl ?_
          exact K9 _ (am_e1 (am_p8 hc5 (am_p4 hc6 (am_p1 hc7 (Iff.trans Iff.rfl (am_p12 hc8))))))
