/-! statements of methods, 12 (by wip/whole/gensteps.py) -/
theorem P_Ro_average (nl : Bool) (Ln : Nat) (xs : Nat → Int32) : am_Jl (TT nl Ln xs) 240 [(0, .aload_n 0, 1, []), (1, .invokevirtual 380, 4, [10, 241, 14, 3, 1]), (4, .ifCond .ne 21, 7, []), (7, .aload_n 0, 8, []), (8, .aload_n 0, 9, []), (9, .getfield 371, 12, [9, 13, 71, 0]), (12, .bipush 8, 14, []), (14, .invokevirtual 377, 17, [10, 224, 14, 6, 3]), (17, .ldc2_w 256, 20, [6, 18446744073709551615]), (20, .lcmp, 21, []), (21, .ifCond .ne 4, 24, []), (24, .return_, 25, [0])] := dk_ck (by decide +kernel)
set_option maxRecDepth 4096 in
theorem w_Ro_average {nl : Bool} {Ln : Nat} {xs : Nat → Int32} {d : Nat} {this : Nat} {p0 : Int64} {σ : am_S} {F : am_S → Prop} (h : (am_is σ (some this) 13) ∧ k_Ro_averages nl Ln xs d this σ (fun a3 σ2 => am_ext σ σ2 → (a3 = true → c_Ro_average_25 nl Ln xs (d + 1) this p0 σ2 F) ∧ (¬ (a3 = true) → k_Ro_told nl Ln xs d this (am_fI σ2 13071 this) (8 : Int32) σ2 (fun a6 σ5 => am_ext σ2 σ5 → (a6 = (-1 : Int64) → F σ5) ∧ (¬ (a6 = (-1 : Int64)) → c_Ro_average_25 nl Ln xs (d + 1) this p0 σ5 F))))) : k_Ro_average nl Ln xs (d + 1) this p0 σ F := by
  obtain ⟨j0, j1, j4, j7, j8, j9, j12, j14, j17, j20, j21, j24, -⟩ := P_Ro_average nl Ln xs
  have elo : am_lo 7 [am_ov (some this), .long p0] = [some (am_ov (some this)), some (.long p0), none, none, none, none, none] := by simp only [am_lo, am_in_ov, am_in_int, am_in_long, am_in_nil]; rfl
  unfold k_Ro_average
  rw [elo]
  refine s_aload_n j0 rfl rfl ?_
  obtain ⟨ho1, h⟩ := h
  refine s_virt j1 rfl rfl rfl rfl ho1 (by decide) (in_Ro_averages _) (am_r8 rfl) (am_bB h (fun a3 σ2 h hx2 => ?_))
  replace h := h hx2
  refine s_if j4 rfl rfl am_cb_ne (fun hc4 => ?_) (fun hc4 => ?_)
  · replace h := h.1 hc4
    exact h
  · replace h := h.2 hc4
    refine s_aload_n j7 rfl rfl ?_
    refine s_aload_n j8 rfl rfl ?_
    refine s_gfI j9 rfl (am_is_ext hx2 ho1) ?_
    refine s_bipush j12 rfl kc_bi_8 ?_
    refine s_virt j14 rfl rfl rfl rfl (am_is_ext hx2 ho1) (by decide) (in_Ro_told _ _ _) (am_r8 rfl) (am_bL h (fun a6 σ5 h hx5 => ?_))
    replace h := h hx5
    refine s_ldc2 j17 rfl kc_ll_m1 ?_
    refine s_g j20 rfl rfl rfl rfl rfl rfl ?_
    refine s_ifn j21 rfl rfl am_cl_ne (fun hc7 => ?_) (fun hc7 => ?_)
    · replace h := h.2 hc7
      exact h
    · replace h := h.1 hc7
      exact s_retV j24 rfl h
theorem P_Ro_average_25 (nl : Bool) (Ln : Nat) (xs : Nat → Int32) : am_Jl (TT nl Ln xs) 240 [(25, .aload_n 0, 26, []), (26, .getfield 295, 29, [9, 13, 77, 1]), (29, .lload_n 1, 30, []), (30, .invokestatic 384, 33, [12, 242, 4, 2]), (33, .ifCond .eq 9, 36, []), (36, .aload_n 0, 37, []), (37, .iconst 5, 38, []), (38, .invokevirtual 348, 41, [10, 220, 14, 2, 2]), (41, .return_, 42, [0]), (42, .aload_n 0, 43, []), (43, .iconst 1, 44, []), (44, .invokevirtual 360, 47, [10, 236, 14, 5, 2]), (47, .lstore_n 3, 48, []), (48, .lload_n 3, 49, []), (49, .lconst 0, 50, []), (50, .lcmp, 51, []), (51, .ifCond .ne 9, 54, []), (54, .aload_n 0, 55, []), (55, .iconst 4, 56, []), (56, .invokevirtual 348, 59, [10, 220, 14, 2, 2]), (59, .return_, 60, [0]), (60, .aload_n 0, 61, []), (61, .getfield 295, 64, [9, 13, 77, 1]), (64, .lload_n 1, 65, []), (65, .lmul, 66, []), (66, .lload_n 3, 67, []), (67, .ldiv, 68, []), (68, .lstore 5, 70, []), (70, .aload_n 0, 71, []), (71, .iconst 3, 72, []), (72, .iconst 0, 73, []), (73, .lload 5, 75, []), (75, .aload_n 0, 76, []), (76, .getfield 295, 79, [9, 13, 77, 1]), (79, .lcmp, 80, []), (80, .ifCond .ge 13, 83, []), (83, .aload_n 0, 84, []), (84, .getfield 295, 87, [9, 13, 77, 1]), (87, .lload 5, 89, []), (89, .lsub, 90, []), (90, .goto 4, 93, []), (93, .lconst 0, 94, []), (94, .invokevirtual 388, 97, [10, 243, 14, 5, 4]), (97, .return_, 98, [0])] := dk_ck (by decide +kernel)
set_option maxRecDepth 4096 in
theorem w_Ro_average_25 {nl : Bool} {Ln : Nat} {xs : Nat → Int32} {d : Nat} {this : Nat} {x1 : Int64} {σ : am_S} {F : am_S → Prop} (h : (am_is σ (some this) 13) ∧ k_Rm_isGreat nl Ln xs d (am_fL σ 13077 this) x1 σ (fun a3 σ2 => am_ext σ σ2 → (a3 = true → k_Ro_meets nl Ln xs d this (5 : Int32) σ2 (fun σ5 => am_ext σ2 σ5 → F σ5)) ∧ (¬ (a3 = true) → k_Ro_all nl Ln xs d this (1 : Int32) σ2 (fun a8 σ7 => am_ext σ2 σ7 → (a8 = (0 : Int64) → k_Ro_meets nl Ln xs d this (4 : Int32) σ7 (fun σ10 => am_ext σ7 σ10 → F σ10)) ∧ (¬ (a8 = (0 : Int64)) → (a8 ≠ 0) ∧ ∀ v13 : Int64, v13 = (((am_fL σ7 13077 this) * x1) / a8) → ∀ w17 : Int64, w17 = (if v13 < (am_fL σ7 13077 this) then ((am_fL σ7 13077 this) - v13) else (0 : Int64)) → k_Ro_less nl Ln xs d this (3 : Int32) (0 : Int32) w17 σ7 (fun σ19 => am_ext σ7 σ19 → F σ19)))))) : c_Ro_average_25 nl Ln xs (d + 1) this x1 σ F := by
  obtain ⟨j25, j26, j29, j30, j33, j36, j37, j38, j41, j42, j43, j44, j47, j48, j49, j50, j51, j54, j55, j56, j59, j60, j61, j64, j65, j66, j67, j68, j70, j71, j72, j73, j75, j76, j79, j80, j83, j84, j87, j89, j90, j93, j94, j97, -⟩ := P_Ro_average_25 nl Ln xs
  unfold c_Ro_average_25
  refine s_aload_n j25 rfl rfl ?_
  obtain ⟨ho1, h⟩ := h
  refine s_gfL j26 rfl ho1 ?_
  refine s_lload_n j29 rfl rfl ?_
  refine s_stat j30 rfl rfl rfl rfl (by decide) (in_Rm_isGreat _ _) (am_r8 rfl) (am_bB h (fun a3 σ2 h hx2 => ?_))
  replace h := h hx2
  refine s_ifn j33 rfl rfl am_cb_eq (fun hc4 => ?_) (fun hc4 => ?_)
  · replace h := h.2 hc4
    refine s_aload_n j42 rfl rfl ?_
    refine s_iconst j43 rfl kc_ic_1 ?_
    refine s_virt j44 rfl rfl rfl rfl (am_is_ext hx2 ho1) (by decide) (in_Ro_all _ _) (am_r8 rfl) (am_bL h (fun a8 σ7 h hx7 => ?_))
    replace h := h hx7
    refine s_lstore_n j47 rfl (n := 7) (L' := [some (am_ov (some this)), some (.long x1), none, some (.long a8), none, none, none]) rfl (by decide) rfl ?_
    refine s_lload_n j48 rfl rfl ?_
    refine s_lconst j49 rfl rfl ?_
    refine s_g j50 rfl rfl rfl rfl rfl rfl ?_
    refine s_ifn j51 rfl rfl am_cl_ne (fun hc9 => ?_) (fun hc9 => ?_)
    · replace h := h.2 hc9
      refine s_aload_n j60 rfl rfl ?_
      refine s_gfL j61 rfl (am_is_ext hx7 (am_is_ext hx2 ho1)) ?_
      refine s_lload_n j64 rfl rfl ?_
      refine s_g j65 rfl rfl rfl rfl rfl rfl ?_
      refine s_lload_n j66 rfl rfl ?_
      obtain ⟨ho12, h⟩ := h
      refine s_ldiv j67 rfl ho12 ?_
      refine s_lstoreV j68 rfl (n := 7) (L' := fun w => [some (am_ov (some this)), some (.long x1), none, some (.long a8), none, some (.long w), none]) rfl (by decide) (fun _ => rfl) (fun v13 hv14 => ?_)
      replace h := h v13 hv14
      refine s_aload_n j70 rfl rfl ?_
      refine s_iconst j71 rfl kc_ic_3 ?_
      refine s_iconst j72 rfl kc_ic_0 ?_
      refine s_lload j73 rfl rfl ?_
      refine s_aload_n j75 rfl rfl ?_
      refine s_gfL j76 rfl (am_is_ext hx7 (am_is_ext hx2 ho1)) ?_
      refine s_g j79 rfl rfl rfl rfl rfl rfl ?_
      have K16 : ∀ (w17 : Int64), w17 = (if v13 < (am_fL σ7 13077 this) then ((am_fL σ7 13077 this) - v13) else (0 : Int64)) → am_C (TT nl Ln xs) (d + 1) 240 94 [some (am_ov (some this)), some (.long x1), none, some (.long a8), none, some (.long v13), none] [.long w17, .int (0 : Int32), .int (3 : Int32), am_ov (some this)] σ7 (am_qV F) := by
        intro w17 hw18
        replace h := h w17 hw18
        refine s_virt j94 rfl rfl rfl rfl (am_is_ext hx7 (am_is_ext hx2 ho1)) (by decide) (in_Ro_less _ _ _ _) (am_r8 rfl) (am_bV h (fun σ19 h hx19 => ?_))
        replace h := h hx19
        exact s_retV j97 rfl h
      refine s_ifn j80 rfl rfl am_cl_ge (fun hc15 => ?_) (fun hc15 => ?_)
      · refine s_lconst j93 rfl rfl ?_
        exact K16 _ (am_t2 hc15 rfl)
      · refine s_aload_n j83 rfl rfl ?_
        refine s_gfL j84 rfl (am_is_ext hx7 (am_is_ext hx2 ho1)) ?_
        refine s_lload j87 rfl rfl ?_
        refine s_g j89 rfl rfl rfl rfl rfl rfl ?_
        refine s_goto j90 rfl rfl ?_
        exact K16 _ (am_t1 hc15 rfl)
    · replace h := h.1 hc9
      refine s_aload_n j54 rfl rfl ?_
      refine s_iconst j55 rfl kc_ic_4 ?_
      refine s_virt j56 rfl rfl rfl rfl (am_is_ext hx7 (am_is_ext hx2 ho1)) (by decide) (in_Ro_meets _ _) (am_r8 rfl) (am_bV h (fun σ10 h hx10 => ?_))
      replace h := h hx10
      exact s_retV j59 rfl h
  · replace h := h.1 hc4
    refine s_aload_n j36 rfl rfl ?_
    refine s_iconst j37 rfl kc_ic_5 ?_
    refine s_virt j38 rfl rfl rfl rfl (am_is_ext hx2 ho1) (by decide) (in_Ro_meets _ _) (am_r8 rfl) (am_bV h (fun σ5 h hx5 => ?_))
    replace h := h hx5
    exact s_retV j41 rfl h
theorem P_Ro_averages (nl : Bool) (Ln : Nat) (xs : Nat → Int32) : am_Jl (TT nl Ln xs) 241 [(0, .aload_n 0, 1, []), (1, .invokevirtual 354, 4, [10, 230, 14, 2, 1]), (4, .istore_n 1, 5, []), (5, .iload_n 1, 6, []), (6, .iconst 4, 7, []), (7, .if_icmp .eq 8, 10, []), (10, .iload_n 1, 11, []), (11, .iconst 5, 12, []), (12, .if_icmp .ne 31, 15, [])] := dk_ck (by decide +kernel)
set_option maxRecDepth 4096 in
theorem w_Ro_averages {nl : Bool} {Ln : Nat} {xs : Nat → Int32} {d : Nat} {this : Nat} {σ : am_S} {F : Bool → am_S → Prop} (h : (am_is σ (some this) 13) ∧ k_Ro_owner nl Ln xs d this σ (fun a3 σ2 => am_ext σ σ2 → (a3 = (4 : Int32) → c_Ro_averages_15 nl Ln xs (d + 1) this a3 σ2 F) ∧ (¬ (a3 = (4 : Int32)) → (a3 = (5 : Int32) → c_Ro_averages_15 nl Ln xs (d + 1) this a3 σ2 F) ∧ (¬ (a3 = (5 : Int32)) → c_Ro_averages_43 nl Ln xs (d + 1) this a3 σ2 F)))) : k_Ro_averages nl Ln xs (d + 1) this σ F := by
  obtain ⟨j0, j1, j4, j5, j6, j7, j10, j11, j12, -⟩ := P_Ro_averages nl Ln xs
  have elo : am_lo 3 [am_ov (some this)] = [some (am_ov (some this)), none, none] := by simp only [am_lo, am_in_ov, am_in_int, am_in_long, am_in_nil]; rfl
  unfold k_Ro_averages
  rw [elo]
  refine s_aload_n j0 rfl rfl ?_
  obtain ⟨ho1, h⟩ := h
  refine s_virt j1 rfl rfl rfl rfl ho1 (by decide) (in_Ro_owner _) (am_r8 rfl) (am_bI h (fun a3 σ2 h hx2 => ?_))
  replace h := h hx2
  refine s_istore_n j4 rfl (n := 3) (L' := [some (am_ov (some this)), some (.int a3), none]) rfl (by decide) (am_st1_R [] _ _ _ _) ?_
  refine s_iload_n j5 rfl rfl ?_
  refine s_iconst j6 rfl kc_ic_4 ?_
  refine s_ic j7 rfl rfl am_cc_eq (fun hc4 => ?_) (fun hc4 => ?_)
  · replace h := h.1 hc4
    exact h
  · replace h := h.2 hc4
    refine s_iload_n j10 rfl rfl ?_
    refine s_iconst j11 rfl kc_ic_5 ?_
    refine s_icn j12 rfl rfl am_cc_ne (fun hc5 => ?_) (fun hc5 => ?_)
    · replace h := h.2 hc5
      exact h
    · replace h := h.1 hc5
      exact h
theorem P_Ro_averages_15 (nl : Bool) (Ln : Nat) (xs : Nat → Int32) : am_Jl (TT nl Ln xs) 241 [(15, .aload_n 0, 16, []), (16, .getfield 3, 19, [9, 13, 99, 2]), (19, .bipush 10, 21, []), (21, .iload_n 1, 22, []), (22, .imul, 23, []), (23, .iconst 2, 24, []), (24, .iadd, 25, []), (25, .invokevirtual 322, 28, [10, 226, 13, 2, 2]), (28, .iload_n 1, 29, []), (29, .iconst 5, 30, []), (30, .if_icmp .eq 11, 33, []), (33, .aload_n 0, 34, []), (34, .iconst 2, 35, []), (35, .invokevirtual 342, 38, [10, 232, 14, 2, 2]), (38, .ifCond .eq 5, 41, []), (41, .iconst 0, 42, []), (42, .ireturn, 43, [4])] := dk_ck (by decide +kernel)
set_option maxRecDepth 4096 in
theorem w_Ro_averages_15 {nl : Bool} {Ln : Nat} {xs : Nat → Int32} {d : Nat} {this : Nat} {x1 : Int32} {σ : am_S} {F : Bool → am_S → Prop} (h : (am_is σ (some this) 13) ∧ (am_is σ (am_fR σ 13099 this) 12) ∧ k_Rm_traced nl Ln xs d ((am_fR σ 13099 this).getD 0) (((10 : Int32) * x1) + (2 : Int32)) σ (fun σ3 => am_ext σ σ3 → (x1 = (5 : Int32) → F false σ3) ∧ (¬ (x1 = (5 : Int32)) → k_Ro_is nl Ln xs d this (2 : Int32) σ3 (fun a7 σ6 => am_ext σ3 σ6 → (a7 = true → F false σ6) ∧ (¬ (a7 = true) → c_Ro_averages_43 nl Ln xs (d + 1) this x1 σ6 F))))) : c_Ro_averages_15 nl Ln xs (d + 1) this x1 σ F := by
  obtain ⟨j15, j16, j19, j21, j22, j23, j24, j25, j28, j29, j30, j33, j34, j35, j38, j41, j42, -⟩ := P_Ro_averages_15 nl Ln xs
  unfold c_Ro_averages_15
  refine s_aload_n j15 rfl rfl ?_
  obtain ⟨ho1, h⟩ := h
  refine s_gfR j16 rfl ho1 ?_
  refine s_bipush j19 rfl kc_bi_10 ?_
  refine s_iload_n j21 rfl rfl ?_
  refine s_g j22 rfl rfl rfl rfl rfl rfl ?_
  refine s_iconst j23 rfl kc_ic_2 ?_
  refine s_g j24 rfl rfl rfl rfl rfl rfl ?_
  obtain ⟨ho2, h⟩ := h
  refine s_virt j25 rfl rfl rfl rfl ho2 (by decide) (in_Rm_traced _ _) (am_r8 rfl) (am_bV h (fun σ3 h hx3 => ?_))
  replace h := h hx3
  refine s_iload_n j28 rfl rfl ?_
  refine s_iconst j29 rfl kc_ic_5 ?_
  refine s_ic j30 rfl rfl am_cc_eq (fun hc5 => ?_) (fun hc5 => ?_)
  · replace h := h.1 hc5
    refine s_iconst j41 rfl kc_ic_0 ?_
    exact s_retZ0 j42 rfl h
  · replace h := h.2 hc5
    refine s_aload_n j33 rfl rfl ?_
    refine s_iconst j34 rfl kc_ic_2 ?_
    refine s_virt j35 rfl rfl rfl rfl (am_is_ext hx3 ho1) (by decide) (in_Ro_is _ _) (am_r8 rfl) (am_bB h (fun a7 σ6 h hx6 => ?_))
    replace h := h hx6
    refine s_ifn j38 rfl rfl am_cb_eq (fun hc8 => ?_) (fun hc8 => ?_)
    · replace h := h.2 hc8
      exact h
    · replace h := h.1 hc8
      refine s_iconst j41 rfl kc_ic_0 ?_
      exact s_retZ0 j42 rfl h
theorem P_Ro_averages_43 (nl : Bool) (Ln : Nat) (xs : Nat → Int32) : am_Jl (TT nl Ln xs) 241 [(43, .iload_n 1, 44, []), (44, .iconst 3, 45, []), (45, .if_icmp .eq 8, 48, []), (48, .iload_n 1, 49, []), (49, .iconst 4, 50, []), (50, .if_icmp .ne 7, 53, []), (53, .iconst 1, 54, []), (54, .goto 4, 57, []), (57, .iconst 0, 58, [])] := dk_ck (by decide +kernel)
set_option maxRecDepth 4096 in
theorem w_Ro_averages_43 {nl : Bool} {Ln : Nat} {xs : Nat → Int32} {d : Nat} {this : Nat} {x1 : Int32} {σ : am_S} {F : Bool → am_S → Prop} (h : c_Ro_averages_58 nl Ln xs (d + 1) this x1 (if (x1 = (3 : Int32)) ∨ (x1 = (4 : Int32)) then (1 : Int32) else 0) σ F) : c_Ro_averages_43 nl Ln xs (d + 1) this x1 σ F := by
  obtain ⟨j43, j44, j45, j48, j49, j50, j53, j54, j57, -⟩ := P_Ro_averages_43 nl Ln xs
  unfold c_Ro_averages_43
  refine s_iload_n j43 rfl rfl ?_
  refine s_iconst j44 rfl kc_ic_3 ?_
  have K3 : ∀ (w4 : Int32), w4 = (if (x1 = (3 : Int32)) ∨ (x1 = (4 : Int32)) then (1 : Int32) else 0) → am_C (TT nl Ln xs) (d + 1) 241 58 [some (am_ov (some this)), some (.int x1), none] [.int w4] σ (am_qB F) := by
    intro w4 hw5
    subst hw5
    exact h
  refine s_ic j45 rfl rfl am_cc_eq (fun hc1 => ?_) (fun hc1 => ?_)
  · refine s_iconst j53 rfl kc_ic_1 ?_
    refine s_goto j54 rfl rfl ?_
    exact K3 _ (am_e1 (Iff.trans Iff.rfl (am_p3 hc1)))
  · refine s_iload_n j48 rfl rfl ?_
    refine s_iconst j49 rfl kc_ic_4 ?_
    refine s_icn j50 rfl rfl am_cc_ne (fun hc2 => ?_) (fun hc2 => ?_)
    · refine s_iconst j57 rfl kc_ic_0 ?_
      exact K3 _ (am_e0 (am_p4 hc1 (Iff.trans Iff.rfl (am_p10 hc2))))
    · refine s_iconst j53 rfl kc_ic_1 ?_
      refine s_goto j54 rfl rfl ?_
      exact K3 _ (am_e1 (am_p4 hc1 (Iff.trans Iff.rfl (am_p9 hc2))))
theorem P_Ro_averages_58 (nl : Bool) (Ln : Nat) (xs : Nat → Int32) : am_Jl (TT nl Ln xs) 241 [(58, .istore_n 2, 59, []), (59, .aload_n 0, 60, []), (60, .getfield 3, 63, [9, 13, 99, 2]), (63, .iload_n 2, 64, []), (64, .ifCond .eq 8, 67, []), (67, .bipush 22, 69, []), (69, .goto 4, 72, []), (72, .iconst 2, 73, []), (73, .invokevirtual 322, 76, [10, 226, 13, 2, 2]), (76, .iload_n 2, 77, []), (77, .ireturn, 78, [4])] := dk_ck (by decide +kernel)
set_option maxRecDepth 4096 in
theorem w_Ro_averages_58 {nl : Bool} {Ln : Nat} {xs : Nat → Int32} {d : Nat} {this : Nat} {x1 : Int32} {y0 : Int32} {σ : am_S} {F : Bool → am_S → Prop} (h : (am_is σ (some this) 13) ∧ ∀ w4 : Int32, w4 = (if y0 = 0 then (2 : Int32) else (22 : Int32)) → (am_is σ (am_fR σ 13099 this) 12) ∧ k_Rm_traced nl Ln xs d ((am_fR σ 13099 this).getD 0) w4 σ (fun σ7 => am_ext σ σ7 → (y0 = 0 ∨ y0 = 1) ∧ F (decide (y0 = 1)) σ7)) : c_Ro_averages_58 nl Ln xs (d + 1) this x1 y0 σ F := by
  obtain ⟨j58, j59, j60, j63, j64, j67, j69, j72, j73, j76, j77, -⟩ := P_Ro_averages_58 nl Ln xs
  unfold c_Ro_averages_58
  refine s_istore_n j58 rfl (n := 3) (L' := [some (am_ov (some this)), some (.int x1), some (.int y0)]) rfl (by decide) rfl ?_
  refine s_aload_n j59 rfl rfl ?_
  obtain ⟨ho1, h⟩ := h
  refine s_gfR j60 rfl ho1 ?_
  refine s_iload_n j63 rfl rfl ?_
  have K3 : ∀ (w4 : Int32), w4 = (if y0 = 0 then (2 : Int32) else (22 : Int32)) → am_C (TT nl Ln xs) (d + 1) 241 73 [some (am_ov (some this)), some (.int x1), some (.int y0)] [.int w4, am_ov (am_fR σ 13099 this)] σ (am_qB F) := by
    intro w4 hw5
    replace h := h w4 hw5
    obtain ⟨ho6, h⟩ := h
    refine s_virt j73 rfl rfl rfl rfl ho6 (by decide) (in_Rm_traced _ _) (am_r8 rfl) (am_bV h (fun σ7 h hx7 => ?_))
    replace h := h hx7
    refine s_iload_n j76 rfl rfl ?_
    obtain ⟨ho9, h⟩ := h
    exact s_retZf j77 rfl ho9 h
  refine s_if j64 rfl rfl am_cc_eq (fun hc2 => ?_) (fun hc2 => ?_)
  · refine s_iconst j72 rfl kc_ic_2 ?_
    exact K3 _ (am_t1 hc2 rfl)
  · refine s_bipush j67 rfl kc_bi_22 ?_
    refine s_goto j69 rfl rfl ?_
    exact K3 _ (am_t2 hc2 rfl)
theorem P_Rm_isGreat (nl : Bool) (Ln : Nat) (xs : Nat → Int32) : am_Jl (TT nl Ln xs) 242 [(0, .lload_n 0, 1, []), (1, .lconst 0, 2, []), (2, .lcmp, 3, []), (3, .ifCond .eq 17, 6, []), (6, .lload_n 2, 7, []), (7, .ldc2_w 95, 10, [6, 4611686018427387904]), (10, .lload_n 0, 11, []), (11, .ldiv, 12, []), (12, .lcmp, 13, []), (13, .ifCond .le 7, 16, []), (16, .iconst 1, 17, []), (17, .goto 4, 20, []), (20, .iconst 0, 21, []), (21, .ireturn, 22, [4])] := dk_ck (by decide +kernel)
set_option maxRecDepth 4096 in
theorem w_Rm_isGreat {nl : Bool} {Ln : Nat} {xs : Nat → Int32} {d : Nat} {p0 : Int64} {p1 : Int64} {σ : am_S} {F : Bool → am_S → Prop} (h : (¬ (p0 = (0 : Int64)) → p0 ≠ 0) ∧ F (decide (¬ (p0 = (0 : Int64)) ∧ (((4611686018427387904 : Int64) / p0) < p1))) σ) : k_Rm_isGreat nl Ln xs (d + 1) p0 p1 σ F := by
  obtain ⟨j0, j1, j2, j3, j6, j7, j10, j11, j12, j13, j16, j17, j20, j21, -⟩ := P_Rm_isGreat nl Ln xs
  have elo : am_lo 4 [.long p0, .long p1] = [some (.long p0), none, some (.long p1), none] := by simp only [am_lo, am_in_ov, am_in_int, am_in_long, am_in_nil]; rfl
  unfold k_Rm_isGreat
  rw [elo]
  refine s_lload_n j0 rfl rfl ?_
  refine s_lconst j1 rfl rfl ?_
  refine s_g j2 rfl rfl rfl rfl rfl rfl ?_
  obtain ⟨ho2, h⟩ := h
  have K4 : ∀ (w5 : Int32), w5 = (if ¬ (p0 = (0 : Int64)) ∧ (((4611686018427387904 : Int64) / p0) < p1) then (1 : Int32) else 0) → am_C (TT nl Ln xs) (d + 1) 242 21 [some (.long p0), none, some (.long p1), none] [.int w5] σ (am_qB F) := by
    intro w5 hw6
    subst hw6
    exact s_retZ j21 rfl h
  refine s_if j3 rfl rfl am_cl_eq (fun hc1 => ?_) (fun hc1 => ?_)
  · refine s_iconst j20 rfl kc_ic_0 ?_
    exact K4 _ (am_e0 (Iff.trans Iff.rfl (am_p6 hc1)))
  · refine s_lload_n j6 rfl rfl ?_
    refine s_ldc2 j7 rfl kc_ll_4611686018427387904 ?_
    refine s_lload_n j10 rfl rfl ?_
    refine s_ldiv j11 rfl (ho2 hc1) ?_
    refine s_g j12 rfl rfl rfl rfl rfl rfl ?_
    refine s_ifn j13 rfl rfl am_cl_le (fun hc3 => ?_) (fun hc3 => ?_)
    · refine s_iconst j20 rfl kc_ic_0 ?_
      exact K4 _ (am_e0 (am_p5 hc1 (Iff.trans Iff.rfl (am_p10 hc3))))
    · refine s_iconst j16 rfl kc_ic_1 ?_
      refine s_goto j17 rfl rfl ?_
      exact K4 _ (am_e1 (am_p5 hc1 (Iff.trans Iff.rfl (am_p9 hc3))))
theorem P_Ro_less (nl : Bool) (Ln : Nat) (xs : Nat → Int32) : am_Jl (TT nl Ln xs) 243 [(0, .lload_n 3, 1, []), (1, .lconst 0, 2, []), (2, .lcmp, 3, []), (3, .ifCond .eq 21, 6, []), (6, .aload_n 0, 7, []), (7, .iload_n 1, 8, []), (8, .iload_n 2, 9, []), (9, .lload_n 3, 10, []), (10, .lneg, 11, []), (11, .invokevirtual 291, 14, [10, 228, 14, 5, 4]), (14, .aload_n 0, 15, []), (15, .dup, 16, []), (16, .getfield 295, 19, [9, 13, 77, 1]), (19, .lload_n 3, 20, []), (20, .lsub, 21, []), (21, .putfield 295, 24, [9, 13, 77, 1]), (24, .return_, 25, [0])] := dk_ck (by decide +kernel)
set_option maxRecDepth 4096 in
theorem w_Ro_less {nl : Bool} {Ln : Nat} {xs : Nat → Int32} {d : Nat} {this : Nat} {p0 : Int32} {p1 : Int32} {p2 : Int64} {σ : am_S} {F : am_S → Prop} (h : (p2 = (0 : Int64) → F σ) ∧ (¬ (p2 = (0 : Int64)) → (am_is σ (some this) 13) ∧ k_Ro_row nl Ln xs d this p0 p1 (-p2) σ (fun σ3 => am_ext σ σ3 → ∀ σ5, σ5 = am_sfL σ3 13077 this ((am_fL σ3 13077 this) - p2) → F σ5))) : k_Ro_less nl Ln xs (d + 1) this p0 p1 p2 σ F := by
  obtain ⟨j0, j1, j2, j3, j6, j7, j8, j9, j10, j11, j14, j15, j16, j19, j20, j21, j24, -⟩ := P_Ro_less nl Ln xs
  have elo : am_lo 5 [am_ov (some this), .int p0, .int p1, .long p2] = [some (am_ov (some this)), some (.int p0), some (.int p1), some (.long p2), none] := by simp only [am_lo, am_in_ov, am_in_int, am_in_long, am_in_nil]; rfl
  unfold k_Ro_less
  rw [elo]
  refine s_lload_n j0 rfl rfl ?_
  refine s_lconst j1 rfl rfl ?_
  refine s_g j2 rfl rfl rfl rfl rfl rfl ?_
  refine s_if j3 rfl rfl am_cl_eq (fun hc1 => ?_) (fun hc1 => ?_)
  · replace h := h.1 hc1
    exact s_retV j24 rfl h
  · replace h := h.2 hc1
    refine s_aload_n j6 rfl rfl ?_
    refine s_iload_n j7 rfl rfl ?_
    refine s_iload_n j8 rfl rfl ?_
    refine s_lload_n j9 rfl rfl ?_
    refine s_g j10 rfl rfl rfl rfl rfl rfl ?_
    obtain ⟨ho2, h⟩ := h
    refine s_virt j11 rfl rfl rfl rfl ho2 (by decide) (in_Ro_row _ _ _ _) (am_r8 rfl) (am_bV h (fun σ3 h hx3 => ?_))
    replace h := h hx3
    refine s_aload_n j14 rfl rfl ?_
    refine s_dup j15 rfl (am_cov _) ?_
    refine s_gfL j16 rfl (am_is_ext hx3 ho2) ?_
    refine s_lload_n j19 rfl rfl ?_
    refine s_g j20 rfl rfl rfl rfl rfl rfl ?_
    refine s_pfL j21 rfl (am_is_ext hx3 ho2) (fun σ5 e6 => ?_)
    replace h := h σ5 e6
    have ek7 : am_kd σ5 = am_kd σ3 := by rw [e6]
    exact s_retV j24 rfl h
theorem P_Ro_self (nl : Bool) (Ln : Nat) (xs : Nat → Int32) : am_Jl (TT nl Ln xs) 244 [(0, .aload_n 0, 1, []), (1, .invokevirtual 354, 4, [10, 230, 14, 2, 1]), (4, .istore_n 1, 5, []), (5, .iload_n 1, 6, []), (6, .bipush 7, 8, []), (8, .if_icmp .ne 12, 11, []), (11, .aload_n 0, 12, []), (12, .getfield 3, 15, [9, 13, 99, 2]), (15, .bipush 73, 17, []), (17, .invokevirtual 322, 20, [10, 226, 13, 2, 2])] := dk_ck (by decide +kernel)
set_option maxRecDepth 4096 in
theorem w_Ro_self {nl : Bool} {Ln : Nat} {xs : Nat → Int32} {d : Nat} {this : Nat} {σ : am_S} {F : Int32 → am_S → Prop} (h : (am_is σ (some this) 13) ∧ k_Ro_owner nl Ln xs d this σ (fun a3 σ2 => am_ext σ σ2 → (a3 = (7 : Int32) → (am_is σ2 (am_fR σ2 13099 this) 12) ∧ k_Rm_traced nl Ln xs d ((am_fR σ2 13099 this).getD 0) (73 : Int32) σ2 (fun σ6 => am_ext σ2 σ6 → c_Ro_self_20 nl Ln xs (d + 1) this a3 σ6 F)) ∧ (¬ (a3 = (7 : Int32)) → c_Ro_self_20 nl Ln xs (d + 1) this a3 σ2 F))) : k_Ro_self nl Ln xs (d + 1) this σ F := by
  obtain ⟨j0, j1, j4, j5, j6, j8, j11, j12, j15, j17, -⟩ := P_Ro_self nl Ln xs
  have elo : am_lo 2 [am_ov (some this)] = [some (am_ov (some this)), none] := by simp only [am_lo, am_in_ov, am_in_int, am_in_long, am_in_nil]; rfl
  unfold k_Ro_self
  rw [elo]
  refine s_aload_n j0 rfl rfl ?_
  obtain ⟨ho1, h⟩ := h
  refine s_virt j1 rfl rfl rfl rfl ho1 (by decide) (in_Ro_owner _) (am_r8 rfl) (am_bI h (fun a3 σ2 h hx2 => ?_))
  replace h := h hx2
  refine s_istore_n j4 rfl (n := 2) (L' := [some (am_ov (some this)), some (.int a3)]) rfl (by decide) (am_st1_R [] _ _ _ _) ?_
  refine s_iload_n j5 rfl rfl ?_
  refine s_bipush j6 rfl kc_bi_7 ?_
  refine s_icn j8 rfl rfl am_cc_ne (fun hc4 => ?_) (fun hc4 => ?_)
  · replace h := h.2 hc4
    exact h
  · replace h := h.1 hc4
    refine s_aload_n j11 rfl rfl ?_
    refine s_gfR j12 rfl (am_is_ext hx2 ho1) ?_
    refine s_bipush j15 rfl kc_bi_73 ?_
    obtain ⟨ho5, h⟩ := h
    refine s_virt j17 rfl rfl rfl rfl ho5 (by decide) (in_Rm_traced _ _) (am_r8 rfl) (am_bV h (fun σ6 h hx6 => ?_))
    replace h := h hx6
    exact h
theorem P_Ro_self_20 (nl : Bool) (Ln : Nat) (xs : Nat → Int32) : am_Jl (TT nl Ln xs) 244 [(20, .iload_n 1, 21, []), (21, .bipush 6, 23, []), (23, .if_icmp .eq 9, 26, []), (26, .iload_n 1, 27, []), (27, .bipush 7, 29, []), (29, .if_icmp .ne 34, 32, [])] := dk_ck (by decide +kernel)
set_option maxRecDepth 4096 in
theorem w_Ro_self_20 {nl : Bool} {Ln : Nat} {xs : Nat → Int32} {d : Nat} {this : Nat} {x1 : Int32} {σ : am_S} {F : Int32 → am_S → Prop} (h : (x1 = (6 : Int32) → c_Ro_self_32 nl Ln xs (d + 1) this x1 σ F) ∧ (¬ (x1 = (6 : Int32)) → (x1 = (7 : Int32) → c_Ro_self_32 nl Ln xs (d + 1) this x1 σ F) ∧ (¬ (x1 = (7 : Int32)) → c_Ro_self_63 nl Ln xs (d + 1) this x1 σ F))) : c_Ro_self_20 nl Ln xs (d + 1) this x1 σ F := by
  obtain ⟨j20, j21, j23, j26, j27, j29, -⟩ := P_Ro_self_20 nl Ln xs
  unfold c_Ro_self_20
  refine s_iload_n j20 rfl rfl ?_
  refine s_bipush j21 rfl kc_bi_6 ?_
  refine s_ic j23 rfl rfl am_cc_eq (fun hc1 => ?_) (fun hc1 => ?_)
  · replace h := h.1 hc1
    exact h
  · replace h := h.2 hc1
    refine s_iload_n j26 rfl rfl ?_
    refine s_bipush j27 rfl kc_bi_7 ?_
    refine s_icn j29 rfl rfl am_cc_ne (fun hc2 => ?_) (fun hc2 => ?_)
    · replace h := h.2 hc2
      exact h
    · replace h := h.1 hc2
      exact h
theorem P_Ro_self_32 (nl : Bool) (Ln : Nat) (xs : Nat → Int32) : am_Jl (TT nl Ln xs) 244 [(32, .aload_n 0, 33, []), (33, .getfield 3, 36, [9, 13, 99, 2]), (36, .bipush 63, 38, []), (38, .invokevirtual 322, 41, [10, 226, 13, 2, 2]), (41, .aload_n 0, 42, []), (42, .iconst 2, 43, []), (43, .invokevirtual 342, 46, [10, 232, 14, 2, 2]), (46, .ifCond .eq 17, 49, []), (49, .iload_n 1, 50, []), (50, .bipush 7, 52, []), (52, .if_icmp .ne 8, 55, []), (55, .bipush 15, 57, []), (57, .goto 5, 60, []), (60, .bipush 10, 62, []), (62, .ireturn, 63, [1])] := dk_ck (by decide +kernel)
set_option maxRecDepth 4096 in
theorem w_Ro_self_32 {nl : Bool} {Ln : Nat} {xs : Nat → Int32} {d : Nat} {this : Nat} {x1 : Int32} {σ : am_S} {F : Int32 → am_S → Prop} (h : (am_is σ (some this) 13) ∧ (am_is σ (am_fR σ 13099 this) 12) ∧ k_Rm_traced nl Ln xs d ((am_fR σ 13099 this).getD 0) (63 : Int32) σ (fun σ3 => am_ext σ σ3 → k_Ro_is nl Ln xs d this (2 : Int32) σ3 (fun a6 σ5 => am_ext σ3 σ5 → (a6 = true → ∀ w10 : Int32, w10 = (if x1 = (7 : Int32) then (15 : Int32) else (10 : Int32)) → F w10 σ5) ∧ (¬ (a6 = true) → c_Ro_self_63 nl Ln xs (d + 1) this x1 σ5 F)))) : c_Ro_self_32 nl Ln xs (d + 1) this x1 σ F := by
  obtain ⟨j32, j33, j36, j38, j41, j42, j43, j46, j49, j50, j52, j55, j57, j60, j62, -⟩ := P_Ro_self_32 nl Ln xs
  unfold c_Ro_self_32
  refine s_aload_n j32 rfl rfl ?_
  obtain ⟨ho1, h⟩ := h
  refine s_gfR j33 rfl ho1 ?_
  refine s_bipush j36 rfl kc_bi_63 ?_
  obtain ⟨ho2, h⟩ := h
  refine s_virt j38 rfl rfl rfl rfl ho2 (by decide) (in_Rm_traced _ _) (am_r8 rfl) (am_bV h (fun σ3 h hx3 => ?_))
  replace h := h hx3
  refine s_aload_n j41 rfl rfl ?_
  refine s_iconst j42 rfl kc_ic_2 ?_
  refine s_virt j43 rfl rfl rfl rfl (am_is_ext hx3 ho1) (by decide) (in_Ro_is _ _) (am_r8 rfl) (am_bB h (fun a6 σ5 h hx5 => ?_))
  replace h := h hx5
  refine s_ifn j46 rfl rfl am_cb_eq (fun hc7 => ?_) (fun hc7 => ?_)
  · replace h := h.2 hc7
    exact h
  · replace h := h.1 hc7
    refine s_iload_n j49 rfl rfl ?_
    refine s_bipush j50 rfl kc_bi_7 ?_
    have K9 : ∀ (w10 : Int32), w10 = (if x1 = (7 : Int32) then (15 : Int32) else (10 : Int32)) → am_C (TT nl Ln xs) (d + 1) 244 62 [some (am_ov (some this)), some (.int x1)] [.int w10] σ5 (am_qI F) := by
      intro w10 hw11
      replace h := h w10 hw11
      exact s_retI j62 rfl h
    refine s_icn j52 rfl rfl am_cc_ne (fun hc8 => ?_) (fun hc8 => ?_)
    · refine s_bipush j60 rfl kc_bi_10 ?_
      exact K9 _ (am_t2 hc8 rfl)
    · refine s_bipush j55 rfl kc_bi_15 ?_
      refine s_goto j57 rfl rfl ?_
      exact K9 _ (am_t1 hc8 rfl)
theorem P_Ro_self_63 (nl : Bool) (Ln : Nat) (xs : Nat → Int32) : am_Jl (TT nl Ln xs) 244 [(63, .aload_n 0, 64, []), (64, .getfield 3, 67, [9, 13, 99, 2]), (67, .bipush 13, 69, []), (69, .invokevirtual 322, 72, [10, 226, 13, 2, 2]), (72, .iload_n 1, 73, []), (73, .bipush 7, 75, []), (75, .if_icmp .ne 7, 78, []), (78, .iconst 5, 79, []), (79, .goto 4, 82, []), (82, .iconst 0, 83, []), (83, .ireturn, 84, [1])] := dk_ck (by decide +kernel)
set_option maxRecDepth 4096 in
theorem w_Ro_self_63 {nl : Bool} {Ln : Nat} {xs : Nat → Int32} {d : Nat} {this : Nat} {x1 : Int32} {σ : am_S} {F : Int32 → am_S → Prop} (h : (am_is σ (some this) 13) ∧ (am_is σ (am_fR σ 13099 this) 12) ∧ k_Rm_traced nl Ln xs d ((am_fR σ 13099 this).getD 0) (13 : Int32) σ (fun σ3 => am_ext σ σ3 → ∀ w7 : Int32, w7 = (if x1 = (7 : Int32) then (5 : Int32) else (0 : Int32)) → F w7 σ3)) : c_Ro_self_63 nl Ln xs (d + 1) this x1 σ F := by
  obtain ⟨j63, j64, j67, j69, j72, j73, j75, j78, j79, j82, j83, -⟩ := P_Ro_self_63 nl Ln xs
  unfold c_Ro_self_63
  refine s_aload_n j63 rfl rfl ?_
  obtain ⟨ho1, h⟩ := h
  refine s_gfR j64 rfl ho1 ?_
  refine s_bipush j67 rfl kc_bi_13 ?_
  obtain ⟨ho2, h⟩ := h
  refine s_virt j69 rfl rfl rfl rfl ho2 (by decide) (in_Rm_traced _ _) (am_r8 rfl) (am_bV h (fun σ3 h hx3 => ?_))
  replace h := h hx3
  refine s_iload_n j72 rfl rfl ?_
  refine s_bipush j73 rfl kc_bi_7 ?_
  have K6 : ∀ (w7 : Int32), w7 = (if x1 = (7 : Int32) then (5 : Int32) else (0 : Int32)) → am_C (TT nl Ln xs) (d + 1) 244 83 [some (am_ov (some this)), some (.int x1)] [.int w7] σ3 (am_qI F) := by
    intro w7 hw8
    replace h := h w7 hw8
    exact s_retI j83 rfl h
  refine s_icn j75 rfl rfl am_cc_ne (fun hc5 => ?_) (fun hc5 => ?_)
  · refine s_iconst j82 rfl kc_ic_0 ?_
    exact K6 _ (am_t2 hc5 rfl)
  · refine s_iconst j78 rfl kc_ic_5 ?_
    refine s_goto j79 rfl rfl ?_
    exact K6 _ (am_t1 hc5 rfl)
theorem P_Ro_shared (nl : Bool) (Ln : Nat) (xs : Nat → Int32) : am_Jl (TT nl Ln xs) 245 [(0, .iconst 0, 1, []), (1, .istore_n 1, 2, [])] := dk_ck (by decide +kernel)
set_option maxRecDepth 4096 in
theorem w_Ro_shared {nl : Bool} {Ln : Nat} {xs : Nat → Int32} {d : Nat} {this : Nat} {σ : am_S} {F : am_S → Prop} (h : c_Ro_shared_2 nl Ln xs (d + 1) this (0 : Int32) σ F) : k_Ro_shared nl Ln xs (d + 1) this σ F := by
  obtain ⟨j0, j1, -⟩ := P_Ro_shared nl Ln xs
  have elo : am_lo 6 [am_ov (some this)] = [some (am_ov (some this)), none, none, none, none, none] := by simp only [am_lo, am_in_ov, am_in_int, am_in_long, am_in_nil]; rfl
  unfold k_Ro_shared
  rw [elo]
  refine s_iconst j0 rfl kc_ic_0 ?_
  refine s_istore_n j1 rfl (n := 6) (L' := [some (am_ov (some this)), some (.int (0 : Int32)), none, none, none, none]) rfl (by decide) (am_st1_R [] _ _ _ _) ?_
  exact h
theorem P_Ro_shared_2 (nl : Bool) (Ln : Nat) (xs : Nat → Int32) : am_Jl (TT nl Ln xs) 245 [(2, .iload_n 1, 3, []), (3, .bipush 6, 5, []), (5, .if_icmp .ge 49, 8, []), (8, .aload_n 0, 9, []), (9, .getfield 176, 12, [9, 13, 80, 2]), (12, .iload_n 1, 13, []), (13, .iload_n 1, 14, []), (14, .ifCond .ne 7, 17, []), (17, .iconst 1, 18, []), (18, .goto 4, 21, []), (21, .iconst 0, 22, []), (54, .bipush 40, 56, []), (56, .aload_n 0, 57, []), (57, .getfield 305, 60, [9, 13, 68, 0]), (60, .imul, 61, []), (61, .istore_n 1, 62, [])] := dk_ck (by decide +kernel)
set_option maxRecDepth 4096 in
theorem w_Ro_shared_2 {nl : Bool} {Ln : Nat} {xs : Nat → Int32} {d : Nat} {this : Nat} {x1 : Int32} {σ : am_S} {F : am_S → Prop} (h : (x1 < (6 : Int32) → (am_is σ (some this) 13) ∧ c_Ro_shared_22 nl Ln xs (d + 1) this x1 (am_fR σ 13080 this) x1 (if x1 = 0 then (1 : Int32) else 0) σ F) ∧ (¬ (x1 < (6 : Int32)) → (am_is σ (some this) 13) ∧ ∀ v8 : Int32, v8 = ((40 : Int32) * (am_fI σ 13068 this)) → c_Ro_shared_62 nl Ln xs (d + 1) this v8 σ F)) : c_Ro_shared_2 nl Ln xs (d + 1) this x1 σ F := by
  obtain ⟨j2, j3, j5, j8, j9, j12, j13, j14, j17, j18, j21, j54, j56, j57, j60, j61, -⟩ := P_Ro_shared_2 nl Ln xs
  unfold c_Ro_shared_2
  refine s_iload_n j2 rfl rfl ?_
  refine s_bipush j3 rfl kc_bi_6 ?_
  refine s_icn j5 rfl rfl am_cc_ge (fun hc1 => ?_) (fun hc1 => ?_)
  · replace h := h.2 hc1
    refine s_bipush j54 rfl kc_bi_40 ?_
    refine s_aload_n j56 rfl rfl ?_
    obtain ⟨ho7, h⟩ := h
    refine s_gfI j57 rfl ho7 ?_
    refine s_g j60 rfl rfl rfl rfl rfl rfl ?_
    refine s_istore_nV j61 rfl (n := 6) (L' := fun w => [some (am_ov (some this)), some (.int w), none, none, none, none]) rfl (by decide) (fun _ => am_st1_R [] _ _ _ _) (fun v8 hv9 => ?_)
    replace h := h v8 hv9
    exact h
  · replace h := h.1 hc1
    refine s_aload_n j8 rfl rfl ?_
    obtain ⟨ho2, h⟩ := h
    refine s_gfR j9 rfl ho2 ?_
    refine s_iload_n j12 rfl rfl ?_
    refine s_iload_n j13 rfl rfl ?_
    have K4 : ∀ (w5 : Int32), w5 = (if x1 = 0 then (1 : Int32) else 0) → am_C (TT nl Ln xs) (d + 1) 245 22 [some (am_ov (some this)), some (.int x1), none, none, none, none] [.int w5, .int x1, am_ov (am_fR σ 13080 this)] σ (am_qV F) := by
      intro w5 hw6
      subst hw6
      exact h
    refine s_ifn j14 rfl rfl am_cc_ne (fun hc3 => ?_) (fun hc3 => ?_)
    · refine s_iconst j21 rfl kc_ic_0 ?_
      exact K4 _ (am_e0 (Iff.trans Iff.rfl (am_p10 hc3)))
    · refine s_iconst j17 rfl kc_ic_1 ?_
      refine s_goto j18 rfl rfl ?_
      exact K4 _ (am_e1 (Iff.trans Iff.rfl (am_p9 hc3)))
theorem P_Ro_shared_22 (nl : Bool) (Ln : Nat) (xs : Nat → Int32) : am_Jl (TT nl Ln xs) 245 [(22, .bastore, 23, []), (23, .aload_n 0, 24, []), (24, .getfield 179, 27, [9, 13, 81, 2]), (27, .iload_n 1, 28, []), (28, .iload_n 1, 29, []), (29, .ifCond .ne 10, 32, []), (32, .aload_n 0, 33, []), (33, .getfield 295, 36, [9, 13, 77, 1]), (36, .goto 4, 39, []), (39, .lconst 0, 40, []), (40, .lastore, 41, []), (41, .aload_n 0, 42, []), (42, .getfield 182, 45, [9, 13, 82, 2]), (45, .iload_n 1, 46, []), (46, .lconst 0, 47, []), (47, .lastore, 48, []), (48, .iinc 1 1, 51, []), (51, .goto (-49), 54, [])] := dk_ck (by decide +kernel)
set_option maxRecDepth 4096 in
theorem w_Ro_shared_22 {nl : Bool} {Ln : Nat} {xs : Nat → Int32} {d : Nat} {this : Nat} {x1 : Int32} {y0 : Option Nat} {y1 : Int32} {y2 : Int32} {σ : am_S} {F : am_S → Prop} (h : (am_ar σ 1003 y0 y1) ∧ ∀ σ2, σ2 = am_saI σ (y0.getD 0) y1.toNatClampNeg (vp_nar .boolean y2) → (am_is σ2 (some this) 13) ∧ ∀ w8 : Int64, w8 = (if x1 = 0 then (am_fL σ2 13077 this) else (0 : Int64)) → (am_ar σ2 1001 (am_fR σ2 13081 this) x1) ∧ ∀ σ11, σ11 = am_saL σ2 ((am_fR σ2 13081 this).getD 0) x1.toNatClampNeg w8 → (am_ar σ11 1001 (am_fR σ11 13082 this) x1) ∧ ∀ σ15, σ15 = am_saL σ11 ((am_fR σ11 13082 this).getD 0) x1.toNatClampNeg (0 : Int64) → c_Ro_shared_2 nl Ln xs (d + 1) this (x1 + (1 : Int32)) σ15 F) : c_Ro_shared_22 nl Ln xs (d + 1) this x1 y0 y1 y2 σ F := by
  obtain ⟨j22, j23, j24, j27, j28, j29, j32, j33, j36, j39, j40, j41, j42, j45, j46, j47, j48, j51, -⟩ := P_Ro_shared_22 nl Ln xs
  unfold c_Ro_shared_22
  obtain ⟨ho1, h⟩ := h
  refine s_zastore j22 rfl ho1 (fun σ2 e3 => ?_)
  replace h := h σ2 e3
  have ek4 : am_kd σ2 = am_kd σ := by rw [e3]
  refine s_aload_n j23 rfl rfl ?_
  obtain ⟨ho5, h⟩ := h
  refine s_gfR j24 rfl ho5 ?_
  refine s_iload_n j27 rfl rfl ?_
  refine s_iload_n j28 rfl rfl ?_
  have K7 : ∀ (w8 : Int64), w8 = (if x1 = 0 then (am_fL σ2 13077 this) else (0 : Int64)) → am_C (TT nl Ln xs) (d + 1) 245 40 [some (am_ov (some this)), some (.int x1), none, none, none, none] [.long w8, .int x1, am_ov (am_fR σ2 13081 this)] σ2 (am_qV F) := by
    intro w8 hw9
    replace h := h w8 hw9
    obtain ⟨ho10, h⟩ := h
    refine s_lastore j40 rfl ho10 (fun σ11 e12 => ?_)
    replace h := h σ11 e12
    have ek13 : am_kd σ11 = am_kd σ2 := by rw [e12]
    refine s_aload_n j41 rfl rfl ?_
    refine s_gfR j42 rfl (am_is_kd ek13 ho5) ?_
    refine s_iload_n j45 rfl rfl ?_
    refine s_lconst j46 rfl rfl ?_
    obtain ⟨ho14, h⟩ := h
    refine s_lastore j47 rfl ho14 (fun σ15 e16 => ?_)
    replace h := h σ15 e16
    have ek17 : am_kd σ15 = am_kd σ11 := by rw [e16]
    refine s_iinc (L' := [some (am_ov (some this)), some (.int (x1 + (1 : Int32))), none, none, none, none]) j48 rfl rfl kc_ic_1 (am_st1_R [] _ _ _ _) ?_
    refine s_goto j51 rfl rfl ?_
    exact h
  refine s_ifn j29 rfl rfl am_cc_ne (fun hc6 => ?_) (fun hc6 => ?_)
  · refine s_lconst j39 rfl rfl ?_
    exact K7 _ (am_t2 hc6 rfl)
  · refine s_aload_n j32 rfl rfl ?_
    refine s_gfL j33 rfl ho5 ?_
    refine s_goto j36 rfl rfl ?_
    exact K7 _ (am_t1 hc6 rfl)
theorem P_Ro_shared_62 (nl : Bool) (Ln : Nat) (xs : Nat → Int32) : am_Jl (TT nl Ln xs) 245 [(62, .iload_n 1, 63, []), (63, .bipush 40, 65, []), (65, .aload_n 0, 66, []), (66, .getfield 305, 69, [9, 13, 68, 0]), (69, .imul, 70, []), (70, .aload_n 0, 71, []), (71, .getfield 138, 74, [9, 13, 51, 2]), (74, .aload_n 0, 75, []), (75, .getfield 305, 78, [9, 13, 68, 0]), (78, .iaload, 79, []), (79, .iadd, 80, []), (80, .if_icmp .ge 65, 83, []), (83, .aload_n 0, 84, []), (84, .getfield 141, 87, [9, 13, 52, 2]), (87, .iload_n 1, 88, []), (88, .iaload, 89, []), (89, .bipush 17, 91, []), (91, .if_icmp .ne 48, 94, []), (94, .aload_n 0, 95, []), (95, .iload_n 1, 96, []), (96, .aload_n 0, 97, []), (97, .getfield 308, 100, [9, 13, 72, 0]), (100, .aload_n 0, 101, []), (101, .getfield 311, 104, [9, 13, 73, 0]), (104, .invokevirtual 262, 107, [10, 212, 14, 4, 4]), (107, .ifCond .eq 32, 110, []), (110, .aload_n 0, 111, []), (111, .getfield 176, 114, [9, 13, 80, 2]), (114, .aload_n 0, 115, []), (115, .getfield 150, 118, [9, 13, 55, 2]), (118, .iload_n 1, 119, []), (119, .iaload, 120, []), (120, .iconst 1, 121, []), (121, .bastore, 122, []), (122, .aload_n 0, 123, []), (123, .getfield 179, 126, [9, 13, 81, 2]), (126, .aload_n 0, 127, []), (127, .getfield 150, 130, [9, 13, 55, 2]), (130, .iload_n 1, 131, []), (131, .iaload, 132, []), (132, .aload_n 0, 133, []), (133, .getfield 159, 136, [9, 13, 58, 2]), (136, .iload_n 1, 137, []), (137, .laload, 138, []), (138, .lastore, 139, []), (139, .iinc 1 1, 142, []), (142, .goto (-80), 145, []), (145, .lconst 0, 146, []), (146, .lstore_n 1, 147, []), (147, .aload_n 0, 148, []), (148, .iconst 0, 149, []), (149, .putfield 426, 152, [9, 13, 84, 0]), (152, .iconst 0, 153, []), (153, .istore_n 3, 154, [])] := dk_ck (by decide +kernel)
set_option maxRecDepth 4096 in
theorem w_Ro_shared_62 {nl : Bool} {Ln : Nat} {xs : Nat → Int32} {d : Nat} {this : Nat} {x1 : Int32} {σ : am_S} {F : am_S → Prop} (h : (am_is σ (some this) 13) ∧ (am_ar σ 1000 (am_fR σ 13051 this) (am_fI σ 13068 this)) ∧ (x1 < (((40 : Int32) * (am_fI σ 13068 this)) + (am_aI σ ((am_fR σ 13051 this).getD 0) (am_fI σ 13068 this).toNatClampNeg)) → (am_ar σ 1000 (am_fR σ 13052 this) x1) ∧ ((am_aI σ ((am_fR σ 13052 this).getD 0) x1.toNatClampNeg) = (17 : Int32) → k_Ro_counts nl Ln xs d this x1 (am_fI σ 13072 this) (am_fI σ 13073 this) σ (fun a7 σ6 => am_ext σ σ6 → (a7 = true → (am_ar σ6 1000 (am_fR σ6 13055 this) x1) ∧ (am_ar σ6 1003 (am_fR σ6 13080 this) (am_aI σ6 ((am_fR σ6 13055 this).getD 0) x1.toNatClampNeg)) ∧ ∀ σ11, σ11 = am_saI σ6 ((am_fR σ6 13080 this).getD 0) (am_aI σ6 ((am_fR σ6 13055 this).getD 0) x1.toNatClampNeg).toNatClampNeg (vp_nar .boolean (1 : Int32)) → (am_ar σ11 1000 (am_fR σ11 13055 this) x1) ∧ (am_ar σ11 1001 (am_fR σ11 13058 this) x1) ∧ (am_ar σ11 1001 (am_fR σ11 13081 this) (am_aI σ11 ((am_fR σ11 13055 this).getD 0) x1.toNatClampNeg)) ∧ ∀ σ17, σ17 = am_saL σ11 ((am_fR σ11 13081 this).getD 0) (am_aI σ11 ((am_fR σ11 13055 this).getD 0) x1.toNatClampNeg).toNatClampNeg (am_aL σ11 ((am_fR σ11 13058 this).getD 0) x1.toNatClampNeg) → c_Ro_shared_62 nl Ln xs (d + 1) this (x1 + (1 : Int32)) σ17 F) ∧ (¬ (a7 = true) → c_Ro_shared_62 nl Ln xs (d + 1) this (x1 + (1 : Int32)) σ6 F))) ∧ (¬ ((am_aI σ ((am_fR σ 13052 this).getD 0) x1.toNatClampNeg) = (17 : Int32)) → c_Ro_shared_62 nl Ln xs (d + 1) this (x1 + (1 : Int32)) σ F)) ∧ (¬ (x1 < (((40 : Int32) * (am_fI σ 13068 this)) + (am_aI σ ((am_fR σ 13051 this).getD 0) (am_fI σ 13068 this).toNatClampNeg))) → ∀ σ20, σ20 = am_sfI σ 13084 this (0 : Int32) → c_Ro_shared_154 nl Ln xs (d + 1) this (0 : Int64) (0 : Int32) σ20 F)) : c_Ro_shared_62 nl Ln xs (d + 1) this x1 σ F := by
  obtain ⟨j62, j63, j65, j66, j69, j70, j71, j74, j75, j78, j79, j80, j83, j84, j87, j88, j89, j91, j94, j95, j96, j97, j100, j101, j104, j107, j110, j111, j114, j115, j118, j119, j120, j121, j122, j123, j126, j127, j130, j131, j132, j133, j136, j137, j138, j139, j142, j145, j146, j147, j148, j149, j152, j153, -⟩ := P_Ro_shared_62 nl Ln xs
  unfold c_Ro_shared_62
  refine s_iload_n j62 rfl rfl ?_
  refine s_bipush j63 rfl kc_bi_40 ?_
  refine s_aload_n j65 rfl rfl ?_
  obtain ⟨ho1, h⟩ := h
  refine s_gfI j66 rfl ho1 ?_
  refine s_g j69 rfl rfl rfl rfl rfl rfl ?_
  refine s_aload_n j70 rfl rfl ?_
  refine s_gfR j71 rfl ho1 ?_
  refine s_aload_n j74 rfl rfl ?_
  refine s_gfI j75 rfl ho1 ?_
  obtain ⟨ho2, h⟩ := h
  refine s_iaload j78 rfl ho2 ?_
  refine s_g j79 rfl rfl rfl rfl rfl rfl ?_
  refine s_icn j80 rfl rfl am_cc_ge (fun hc3 => ?_) (fun hc3 => ?_)
  · replace h := h.2 hc3
    refine s_lconst j145 rfl rfl ?_
    refine s_lstore_n j146 rfl (n := 6) (L' := [some (am_ov (some this)), some (.long (0 : Int64)), none, none, none, none]) rfl (by decide) (am_st2_R [] _ _ _ _ _) ?_
    refine s_aload_n j147 rfl rfl ?_
    refine s_iconst j148 rfl kc_ic_0 ?_
    refine s_pfI j149 rfl ho1 (fun σ20 e21 => ?_)
    replace h := h σ20 e21
    have ek22 : am_kd σ20 = am_kd σ := by rw [e21]
    refine s_iconst j152 rfl kc_ic_0 ?_
    refine s_istore_n j153 rfl (n := 6) (L' := [some (am_ov (some this)), some (.long (0 : Int64)), none, some (.int (0 : Int32)), none, none]) rfl (by decide) rfl ?_
    exact h
  · replace h := h.1 hc3
    refine s_aload_n j83 rfl rfl ?_
    refine s_gfR j84 rfl ho1 ?_
    refine s_iload_n j87 rfl rfl ?_
    obtain ⟨ho4, h⟩ := h
    refine s_iaload j88 rfl ho4 ?_
    refine s_bipush j89 rfl kc_bi_17 ?_
    refine s_icn j91 rfl rfl am_cc_ne (fun hc5 => ?_) (fun hc5 => ?_)
    · replace h := h.2 hc5
      refine s_iinc (L' := [some (am_ov (some this)), some (.int (x1 + (1 : Int32))), none, none, none, none]) j139 rfl rfl kc_ic_1 (am_st1_R [] _ _ _ _) ?_
      refine s_goto j142 rfl rfl ?_
      exact h
    · replace h := h.1 hc5
      refine s_aload_n j94 rfl rfl ?_
      refine s_iload_n j95 rfl rfl ?_
      refine s_aload_n j96 rfl rfl ?_
      refine s_gfI j97 rfl ho1 ?_
      refine s_aload_n j100 rfl rfl ?_
      refine s_gfI j101 rfl ho1 ?_
      refine s_virt j104 rfl rfl rfl rfl ho1 (by decide) (in_Ro_counts _ _ _ _) (am_r8 rfl) (am_bB h (fun a7 σ6 h hx6 => ?_))
      replace h := h hx6
      refine s_ifn j107 rfl rfl am_cb_eq (fun hc8 => ?_) (fun hc8 => ?_)
      · replace h := h.2 hc8
        refine s_iinc (L' := [some (am_ov (some this)), some (.int (x1 + (1 : Int32))), none, none, none, none]) j139 rfl rfl kc_ic_1 (am_st1_R [] _ _ _ _) ?_
        refine s_goto j142 rfl rfl ?_
        exact h
      · replace h := h.1 hc8
        refine s_aload_n j110 rfl rfl ?_
        refine s_gfR j111 rfl (am_is_ext hx6 ho1) ?_
        refine s_aload_n j114 rfl rfl ?_
        refine s_gfR j115 rfl (am_is_ext hx6 ho1) ?_
        refine s_iload_n j118 rfl rfl ?_
        obtain ⟨ho9, h⟩ := h
        refine s_iaload j119 rfl ho9 ?_
        refine s_iconst j120 rfl kc_ic_1 ?_
        obtain ⟨ho10, h⟩ := h
        refine s_zastore j121 rfl ho10 (fun σ11 e12 => ?_)
        replace h := h σ11 e12
        have ek13 : am_kd σ11 = am_kd σ6 := by rw [e12]
        refine s_aload_n j122 rfl rfl ?_
        refine s_gfR j123 rfl (am_is_kd ek13 (am_is_ext hx6 ho1)) ?_
        refine s_aload_n j126 rfl rfl ?_
        refine s_gfR j127 rfl (am_is_kd ek13 (am_is_ext hx6 ho1)) ?_
        refine s_iload_n j130 rfl rfl ?_
        obtain ⟨ho14, h⟩ := h
        refine s_iaload j131 rfl ho14 ?_
        refine s_aload_n j132 rfl rfl ?_
        refine s_gfR j133 rfl (am_is_kd ek13 (am_is_ext hx6 ho1)) ?_
        refine s_iload_n j136 rfl rfl ?_
        obtain ⟨ho15, h⟩ := h
        refine s_laload j137 rfl ho15 ?_
        obtain ⟨ho16, h⟩ := h
        refine s_lastore j138 rfl ho16 (fun σ17 e18 => ?_)
        replace h := h σ17 e18
        have ek19 : am_kd σ17 = am_kd σ11 := by rw [e18]
        refine s_iinc (L' := [some (am_ov (some this)), some (.int (x1 + (1 : Int32))), none, none, none, none]) j139 rfl rfl kc_ic_1 (am_st1_R [] _ _ _ _) ?_
        refine s_goto j142 rfl rfl ?_
        exact h
theorem P_Ro_shared_154 (nl : Bool) (Ln : Nat) (xs : Nat → Int32) : am_Jl (TT nl Ln xs) 245 [(154, .iload_n 3, 155, []), (155, .bipush 6, 157, []), (157, .if_icmp .ge 32, 160, []), (160, .aload_n 0, 161, []), (161, .getfield 176, 164, [9, 13, 80, 2]), (164, .iload_n 3, 165, []), (165, .baload, 166, []), (166, .ifCond .eq 17, 169, []), (169, .lload_n 1, 170, []), (170, .aload_n 0, 171, []), (171, .getfield 179, 174, [9, 13, 81, 2]), (174, .iload_n 3, 175, []), (175, .laload, 176, []), (176, .ladd, 177, []), (177, .lstore_n 1, 178, []), (178, .aload_n 0, 179, []), (179, .iload_n 3, 180, []), (180, .invokevirtual 429, 183, [10, 246, 14, 3, 2]), (183, .iinc 3 1, 186, []), (186, .goto (-32), 189, []), (189, .aload_n 0, 190, []), (190, .getfield 426, 193, [9, 13, 84, 0]), (193, .iconst 1, 194, []), (194, .if_icmp .ne 4, 197, []), (197, .return_, 198, [0]), (198, .aload_n 0, 199, []), (199, .getfield 408, 202, [9, 13, 76, 1]), (202, .lload_n 1, 203, []), (203, .lcmp, 204, []), (204, .ifCond .ge 10, 207, []), (207, .aload_n 0, 208, []), (208, .getfield 408, 211, [9, 13, 76, 1]), (211, .goto 4, 214, []), (214, .lload_n 1, 215, [])] := dk_ck (by decide +kernel)
set_option maxRecDepth 4096 in
theorem w_Ro_shared_154 {nl : Bool} {Ln : Nat} {xs : Nat → Int32} {d : Nat} {this : Nat} {x1 : Int64} {x3 : Int32} {σ : am_S} {F : am_S → Prop} (h : (x3 < (6 : Int32) → (am_is σ (some this) 13) ∧ (am_ar σ 1003 (am_fR σ 13080 this) x3) ∧ ((am_aI σ ((am_fR σ 13080 this).getD 0) x3.toNatClampNeg) = 0 → c_Ro_shared_154 nl Ln xs (d + 1) this x1 (x3 + (1 : Int32)) σ F) ∧ (¬ ((am_aI σ ((am_fR σ 13080 this).getD 0) x3.toNatClampNeg) = 0) → (am_ar σ 1001 (am_fR σ 13081 this) x3) ∧ ∀ v6 : Int64, v6 = (x1 + (am_aL σ ((am_fR σ 13081 this).getD 0) x3.toNatClampNeg)) → k_Ro_enter nl Ln xs d this x3 σ (fun σ8 => am_ext σ σ8 → c_Ro_shared_154 nl Ln xs (d + 1) this v6 (x3 + (1 : Int32)) σ8 F))) ∧ (¬ (x3 < (6 : Int32)) → (am_is σ (some this) 13) ∧ ((am_fI σ 13084 this) = (1 : Int32) → F σ) ∧ (¬ ((am_fI σ 13084 this) = (1 : Int32)) → ∀ w14 : Int64, w14 = (if (am_fL σ 13076 this) < x1 then (am_fL σ 13076 this) else x1) → c_Ro_shared_215 nl Ln xs (d + 1) this x1 x3 w14 σ F))) : c_Ro_shared_154 nl Ln xs (d + 1) this x1 x3 σ F := by
  obtain ⟨j154, j155, j157, j160, j161, j164, j165, j166, j169, j170, j171, j174, j175, j176, j177, j178, j179, j180, j183, j186, j189, j190, j193, j194, j197, j198, j199, j202, j203, j204, j207, j208, j211, j214, -⟩ := P_Ro_shared_154 nl Ln xs
  unfold c_Ro_shared_154
  refine s_iload_n j154 rfl rfl ?_
  refine s_bipush j155 rfl kc_bi_6 ?_
  refine s_icn j157 rfl rfl am_cc_ge (fun hc1 => ?_) (fun hc1 => ?_)
  · replace h := h.2 hc1
    refine s_aload_n j189 rfl rfl ?_
    obtain ⟨ho10, h⟩ := h
    refine s_gfI j190 rfl ho10 ?_
    refine s_iconst j193 rfl kc_ic_1 ?_
    refine s_icn j194 rfl rfl am_cc_ne (fun hc11 => ?_) (fun hc11 => ?_)
    · replace h := h.2 hc11
      refine s_aload_n j198 rfl rfl ?_
      refine s_gfL j199 rfl ho10 ?_
      refine s_lload_n j202 rfl rfl ?_
      refine s_g j203 rfl rfl rfl rfl rfl rfl ?_
      have K13 : ∀ (w14 : Int64), w14 = (if (am_fL σ 13076 this) < x1 then (am_fL σ 13076 this) else x1) → am_C (TT nl Ln xs) (d + 1) 245 215 [some (am_ov (some this)), some (.long x1), none, some (.int x3), none, none] [.long w14] σ (am_qV F) := by
        intro w14 hw15
        replace h := h w14 hw15
        exact h
      refine s_ifn j204 rfl rfl am_cl_ge (fun hc12 => ?_) (fun hc12 => ?_)
      · refine s_lload_n j214 rfl rfl ?_
        exact K13 _ (am_t2 hc12 rfl)
      · refine s_aload_n j207 rfl rfl ?_
        refine s_gfL j208 rfl ho10 ?_
        refine s_goto j211 rfl rfl ?_
        exact K13 _ (am_t1 hc12 rfl)
    · replace h := h.1 hc11
      exact s_retV j197 rfl h
  · replace h := h.1 hc1
    refine s_aload_n j160 rfl rfl ?_
    obtain ⟨ho2, h⟩ := h
    refine s_gfR j161 rfl ho2 ?_
    refine s_iload_n j164 rfl rfl ?_
    obtain ⟨ho3, h⟩ := h
    refine s_baload (k := 1003) (by decide) j165 rfl ho3 ?_
    refine s_if j166 rfl rfl am_cc_eq (fun hc4 => ?_) (fun hc4 => ?_)
    · replace h := h.1 hc4
      refine s_iinc (L' := [some (am_ov (some this)), some (.long x1), none, some (.int (x3 + (1 : Int32))), none, none]) j183 rfl rfl kc_ic_1 rfl ?_
      refine s_goto j186 rfl rfl ?_
      exact h
    · replace h := h.2 hc4
      refine s_lload_n j169 rfl rfl ?_
      refine s_aload_n j170 rfl rfl ?_
      refine s_gfR j171 rfl ho2 ?_
      refine s_iload_n j174 rfl rfl ?_
      obtain ⟨ho5, h⟩ := h
      refine s_laload j175 rfl ho5 ?_
      refine s_g j176 rfl rfl rfl rfl rfl rfl ?_
      refine s_lstore_nV j177 rfl (n := 6) (L' := fun w => [some (am_ov (some this)), some (.long w), none, some (.int x3), none, none]) rfl (by decide) (fun _ => am_st2_R [] _ _ _ _ _) (fun v6 hv7 => ?_)
      replace h := h v6 hv7
      refine s_aload_n j178 rfl rfl ?_
      refine s_iload_n j179 rfl rfl ?_
      refine s_virt j180 rfl rfl rfl rfl ho2 (by decide) (in_Ro_enter _ _) (am_r8 rfl) (am_bV h (fun σ8 h hx8 => ?_))
      replace h := h hx8
      refine s_iinc (L' := [some (am_ov (some this)), some (.long v6), none, some (.int (x3 + (1 : Int32))), none, none]) j183 rfl rfl kc_ic_1 rfl ?_
      refine s_goto j186 rfl rfl ?_
      exact h
theorem P_Ro_shared_215 (nl : Bool) (Ln : Nat) (xs : Nat → Int32) : am_Jl (TT nl Ln xs) 245 [(215, .lstore_n 3, 216, []), (216, .aload_n 0, 217, []), (217, .aload_n 0, 218, []), (218, .getfield 351, 221, [9, 13, 70, 0]), (221, .aload_n 0, 222, []), (222, .getfield 311, 225, [9, 13, 73, 0]), (225, .invokevirtual 432, 228, [10, 248, 14, 5, 3]), (228, .istore 5, 230, []), (230, .iload 5, 232, []), (232, .ifCond .ne 12, 235, []), (235, .aload_n 0, 236, []), (236, .lload_n 3, 237, []), (237, .lload_n 1, 238, []), (238, .invokevirtual 435, 241, [10, 249, 14, 9, 3]), (241, .goto 22, 244, []), (244, .iload 5, 246, []), (246, .iconst 1, 247, []), (247, .if_icmp .ne 11, 250, []), (250, .aload_n 0, 251, []), (251, .lload_n 3, 252, []), (252, .invokevirtual 439, 255, [10, 251, 14, 14, 2]), (255, .goto 8, 258, []), (258, .aload_n 0, 259, []), (259, .lload_n 3, 260, []), (260, .invokevirtual 442, 263, [10, 252, 14, 7, 2])] := dk_ck (by decide +kernel)
set_option maxRecDepth 4096 in
theorem w_Ro_shared_215 {nl : Bool} {Ln : Nat} {xs : Nat → Int32} {d : Nat} {this : Nat} {x1 : Int64} {x3 : Int32} {y0 : Int64} {σ : am_S} {F : am_S → Prop} (h : (am_is σ (some this) 13) ∧ k_Ro_rule nl Ln xs d this (am_fI σ 13070 this) (am_fI σ 13073 this) σ (fun a3 σ2 => am_ext σ σ2 → (a3 = 0 → k_Ro_byParts nl Ln xs d this y0 x1 σ2 (fun σ5 => am_ext σ2 σ5 → c_Ro_shared_263 nl Ln xs (d + 1) this x1 y0 a3 σ5 F)) ∧ (¬ (a3 = 0) → (a3 = (1 : Int32) → k_Ro_byRounds nl Ln xs d this y0 σ2 (fun σ8 => am_ext σ2 σ8 → c_Ro_shared_263 nl Ln xs (d + 1) this x1 y0 a3 σ8 F)) ∧ (¬ (a3 = (1 : Int32)) → k_Ro_byRanks nl Ln xs d this y0 σ2 (fun σ10 => am_ext σ2 σ10 → c_Ro_shared_263 nl Ln xs (d + 1) this x1 y0 a3 σ10 F))))) : c_Ro_shared_215 nl Ln xs (d + 1) this x1 x3 y0 σ F := by
  obtain ⟨j215, j216, j217, j218, j221, j222, j225, j228, j230, j232, j235, j236, j237, j238, j241, j244, j246, j247, j250, j251, j252, j255, j258, j259, j260, -⟩ := P_Ro_shared_215 nl Ln xs
  unfold c_Ro_shared_215
  refine s_lstore_n j215 rfl (n := 6) (L' := [some (am_ov (some this)), some (.long x1), none, some (.long y0), none, none]) rfl (by decide) rfl ?_
  refine s_aload_n j216 rfl rfl ?_
  refine s_aload_n j217 rfl rfl ?_
  obtain ⟨ho1, h⟩ := h
  refine s_gfI j218 rfl ho1 ?_
  refine s_aload_n j221 rfl rfl ?_
  refine s_gfI j222 rfl ho1 ?_
  refine s_virt j225 rfl rfl rfl rfl ho1 (by decide) (in_Ro_rule _ _ _) (am_r8 rfl) (am_bI h (fun a3 σ2 h hx2 => ?_))
  replace h := h hx2
  refine s_istore j228 rfl (n := 6) (L' := [some (am_ov (some this)), some (.long x1), none, some (.long y0), none, some (.int a3)]) rfl (by decide) rfl ?_
  refine s_iload j230 rfl rfl ?_
  refine s_ifn j232 rfl rfl am_cc_ne (fun hc4 => ?_) (fun hc4 => ?_)
  · replace h := h.2 hc4
    refine s_iload j244 rfl rfl ?_
    refine s_iconst j246 rfl kc_ic_1 ?_
    refine s_icn j247 rfl rfl am_cc_ne (fun hc7 => ?_) (fun hc7 => ?_)
    · replace h := h.2 hc7
      refine s_aload_n j258 rfl rfl ?_
      refine s_lload_n j259 rfl rfl ?_
      refine s_virt j260 rfl rfl rfl rfl (am_is_ext hx2 ho1) (by decide) (in_Ro_byRanks _ _) (am_r8 rfl) (am_bV h (fun σ10 h hx10 => ?_))
      replace h := h hx10
      exact h
    · replace h := h.1 hc7
      refine s_aload_n j250 rfl rfl ?_
      refine s_lload_n j251 rfl rfl ?_
      refine s_virt j252 rfl rfl rfl rfl (am_is_ext hx2 ho1) (by decide) (in_Ro_byRounds _ _) (am_r8 rfl) (am_bV h (fun σ8 h hx8 => ?_))
      replace h := h hx8
      refine s_goto j255 rfl rfl ?_
      exact h
  · replace h := h.1 hc4
    refine s_aload_n j235 rfl rfl ?_
    refine s_lload_n j236 rfl rfl ?_
    refine s_lload_n j237 rfl rfl ?_
    refine s_virt j238 rfl rfl rfl rfl (am_is_ext hx2 ho1) (by decide) (in_Ro_byParts _ _ _) (am_r8 rfl) (am_bV h (fun σ5 h hx5 => ?_))
    replace h := h hx5
    refine s_goto j241 rfl rfl ?_
    exact h
theorem P_Ro_shared_263 (nl : Bool) (Ln : Nat) (xs : Nat → Int32) : am_Jl (TT nl Ln xs) 245 [(263, .aload_n 0, 264, []), (264, .getfield 266, 267, [9, 13, 74, 0]), (267, .ifCond .ne 26, 270, []), (270, .aload_n 0, 271, []), (271, .bipush 7, 273, []), (273, .aload_n 0, 274, []), (274, .getfield 426, 277, [9, 13, 84, 0]), (277, .iconst 1, 278, []), (278, .isub, 279, []), (279, .aload_n 0, 280, []), (280, .getfield 295, 283, [9, 13, 77, 1]), (283, .aload_n 0, 284, []), (284, .getfield 182, 287, [9, 13, 82, 2]), (287, .iconst 0, 288, []), (288, .laload, 289, []), (289, .lsub, 290, []), (290, .invokevirtual 388, 293, [10, 243, 14, 5, 4]), (293, .return_, 294, [0])] := dk_ck (by decide +kernel)
set_option maxRecDepth 4096 in
theorem w_Ro_shared_263 {nl : Bool} {Ln : Nat} {xs : Nat → Int32} {d : Nat} {this : Nat} {x1 : Int64} {x3 : Int64} {x5 : Int32} {σ : am_S} {F : am_S → Prop} (h : (am_is σ (some this) 13) ∧ ((am_fI σ 13074 this) = 0 → (am_ar σ 1001 (am_fR σ 13082 this) (0 : Int32)) ∧ k_Ro_less nl Ln xs d this (7 : Int32) ((am_fI σ 13084 this) - (1 : Int32)) ((am_fL σ 13077 this) - (am_aL σ ((am_fR σ 13082 this).getD 0) (0 : Int32).toNatClampNeg)) σ (fun σ4 => am_ext σ σ4 → F σ4)) ∧ (¬ ((am_fI σ 13074 this) = 0) → F σ)) : c_Ro_shared_263 nl Ln xs (d + 1) this x1 x3 x5 σ F := by
  obtain ⟨j263, j264, j267, j270, j271, j273, j274, j277, j278, j279, j280, j283, j284, j287, j288, j289, j290, j293, -⟩ := P_Ro_shared_263 nl Ln xs
  unfold c_Ro_shared_263
  refine s_aload_n j263 rfl rfl ?_
  obtain ⟨ho1, h⟩ := h
  refine s_gfI j264 rfl ho1 ?_
  refine s_ifn j267 rfl rfl am_cc_ne (fun hc2 => ?_) (fun hc2 => ?_)
  · replace h := h.2 hc2
    exact s_retV j293 rfl h
  · replace h := h.1 hc2
    refine s_aload_n j270 rfl rfl ?_
    refine s_bipush j271 rfl kc_bi_7 ?_
    refine s_aload_n j273 rfl rfl ?_
    refine s_gfI j274 rfl ho1 ?_
    refine s_iconst j277 rfl kc_ic_1 ?_
    refine s_g j278 rfl rfl rfl rfl rfl rfl ?_
    refine s_aload_n j279 rfl rfl ?_
    refine s_gfL j280 rfl ho1 ?_
    refine s_aload_n j283 rfl rfl ?_
    refine s_gfR j284 rfl ho1 ?_
    refine s_iconst j287 rfl kc_ic_0 ?_
    obtain ⟨ho3, h⟩ := h
    refine s_laload j288 rfl ho3 ?_
    refine s_g j289 rfl rfl rfl rfl rfl rfl ?_
    refine s_virt j290 rfl rfl rfl rfl ho1 (by decide) (in_Ro_less _ _ _ _) (am_r8 rfl) (am_bV h (fun σ4 h hx4 => ?_))
    replace h := h hx4
    exact s_retV j293 rfl h
theorem P_Ro_enter (nl : Bool) (Ln : Nat) (xs : Nat → Int32) : am_Jl (TT nl Ln xs) 246 [(0, .aload_n 0, 1, []), (1, .getfield 426, 4, [9, 13, 84, 0]), (4, .istore_n 2, 5, [])] := dk_ck (by decide +kernel)
set_option maxRecDepth 4096 in
theorem w_Ro_enter {nl : Bool} {Ln : Nat} {xs : Nat → Int32} {d : Nat} {this : Nat} {p0 : Int32} {σ : am_S} {F : am_S → Prop} (h : (am_is σ (some this) 13) ∧ ∀ v2 : Int32, v2 = (am_fI σ 13084 this) → c_Ro_enter_5 nl Ln xs (d + 1) this p0 v2 σ F) : k_Ro_enter nl Ln xs (d + 1) this p0 σ F := by
  obtain ⟨j0, j1, j4, -⟩ := P_Ro_enter nl Ln xs
  have elo : am_lo 3 [am_ov (some this), .int p0] = [some (am_ov (some this)), some (.int p0), none] := by simp only [am_lo, am_in_ov, am_in_int, am_in_long, am_in_nil]; rfl
  unfold k_Ro_enter
  rw [elo]
  refine s_aload_n j0 rfl rfl ?_
  obtain ⟨ho1, h⟩ := h
  refine s_gfI j1 rfl ho1 ?_
  refine s_istore_nV j4 rfl (n := 3) (L' := fun w => [some (am_ov (some this)), some (.int p0), some (.int w)]) rfl (by decide) (fun _ => rfl) (fun v2 hv3 => ?_)
  replace h := h v2 hv3
  exact h
theorem P_Ro_enter_5 (nl : Bool) (Ln : Nat) (xs : Nat → Int32) : am_Jl (TT nl Ln xs) 246 [(5, .iload_n 2, 6, []), (6, .ifCond .le 51, 9, []), (9, .aload_n 0, 10, []), (10, .aload_n 0, 11, []), (11, .getfield 185, 14, [9, 13, 83, 2]), (14, .iload_n 2, 15, []), (15, .iconst 1, 16, []), (16, .isub, 17, []), (17, .iaload, 18, []), (18, .aload_n 0, 19, []), (19, .getfield 311, 22, [9, 13, 73, 0]), (22, .invokevirtual 445, 25, [10, 247, 14, 5, 3]), (25, .aload_n 0, 26, []), (26, .iload_n 1, 27, []), (27, .aload_n 0, 28, []), (28, .getfield 311, 31, [9, 13, 73, 0]), (31, .invokevirtual 445, 34, [10, 247, 14, 5, 3]), (34, .if_icmp .le 23, 37, []), (37, .aload_n 0, 38, []), (38, .getfield 185, 41, [9, 13, 83, 2]), (41, .iload_n 2, 42, []), (42, .aload_n 0, 43, []), (43, .getfield 185, 46, [9, 13, 83, 2]), (46, .iload_n 2, 47, []), (47, .iconst 1, 48, []), (48, .isub, 49, []), (49, .iaload, 50, []), (50, .iastore, 51, []), (51, .iinc 2 (-1), 54, []), (54, .goto (-49), 57, []), (57, .aload_n 0, 58, []), (58, .getfield 185, 61, [9, 13, 83, 2]), (61, .iload_n 2, 62, []), (62, .iload_n 1, 63, []), (63, .iastore, 64, []), (64, .aload_n 0, 65, []), (65, .dup, 66, []), (66, .getfield 426, 69, [9, 13, 84, 0]), (69, .iconst 1, 70, []), (70, .iadd, 71, []), (71, .putfield 426, 74, [9, 13, 84, 0]), (74, .return_, 75, [0])] := dk_ck (by decide +kernel)
set_option maxRecDepth 4096 in
theorem w_Ro_enter_5 {nl : Bool} {Ln : Nat} {xs : Nat → Int32} {d : Nat} {this : Nat} {x1 : Int32} {x2 : Int32} {σ : am_S} {F : am_S → Prop} (h : (0 < x2 → (am_is σ (some this) 13) ∧ (am_ar σ 1000 (am_fR σ 13083 this) (x2 - (1 : Int32))) ∧ k_Ro_rank nl Ln xs d this (am_aI σ ((am_fR σ 13083 this).getD 0) (x2 - (1 : Int32)).toNatClampNeg) (am_fI σ 13073 this) σ (fun a5 σ4 => am_ext σ σ4 → k_Ro_rank nl Ln xs d this x1 (am_fI σ4 13073 this) σ4 (fun a7 σ6 => am_ext σ4 σ6 → (a7 < a5 → (am_ar σ6 1000 (am_fR σ6 13083 this) (x2 - (1 : Int32))) ∧ (am_ar σ6 1000 (am_fR σ6 13083 this) x2) ∧ ∀ σ11, σ11 = am_saI σ6 ((am_fR σ6 13083 this).getD 0) x2.toNatClampNeg (am_aI σ6 ((am_fR σ6 13083 this).getD 0) (x2 - (1 : Int32)).toNatClampNeg) → c_Ro_enter_5 nl Ln xs (d + 1) this x1 (x2 + (-1 : Int32)) σ11 F) ∧ (¬ (a7 < a5) → (am_ar σ6 1000 (am_fR σ6 13083 this) x2) ∧ ∀ σ15, σ15 = am_saI σ6 ((am_fR σ6 13083 this).getD 0) x2.toNatClampNeg x1 → ∀ σ18, σ18 = am_sfI σ15 13084 this ((am_fI σ15 13084 this) + (1 : Int32)) → F σ18)))) ∧ (¬ (0 < x2) → (am_is σ (some this) 13) ∧ (am_ar σ 1000 (am_fR σ 13083 this) x2) ∧ ∀ σ23, σ23 = am_saI σ ((am_fR σ 13083 this).getD 0) x2.toNatClampNeg x1 → ∀ σ26, σ26 = am_sfI σ23 13084 this ((am_fI σ23 13084 this) + (1 : Int32)) → F σ26)) : c_Ro_enter_5 nl Ln xs (d + 1) this x1 x2 σ F := by
  obtain ⟨j5, j6, j9, j10, j11, j14, j15, j16, j17, j18, j19, j22, j25, j26, j27, j28, j31, j34, j37, j38, j41, j42, j43, j46, j47, j48, j49, j50, j51, j54, j57, j58, j61, j62, j63, j64, j65, j66, j69, j70, j71, j74, -⟩ := P_Ro_enter_5 nl Ln xs
  unfold c_Ro_enter_5
  refine s_iload_n j5 rfl rfl ?_
  refine s_ifn j6 rfl rfl am_cc_le (fun hc1 => ?_) (fun hc1 => ?_)
  · replace h := h.2 hc1
    refine s_aload_n j57 rfl rfl ?_
    obtain ⟨ho21, h⟩ := h
    refine s_gfR j58 rfl ho21 ?_
    refine s_iload_n j61 rfl rfl ?_
    refine s_iload_n j62 rfl rfl ?_
    obtain ⟨ho22, h⟩ := h
    refine s_iastore j63 rfl ho22 (fun σ23 e24 => ?_)
    replace h := h σ23 e24
    have ek25 : am_kd σ23 = am_kd σ := by rw [e24]
    refine s_aload_n j64 rfl rfl ?_
    refine s_dup j65 rfl (am_cov _) ?_
    refine s_gfI j66 rfl (am_is_kd ek25 ho21) ?_
    refine s_iconst j69 rfl kc_ic_1 ?_
    refine s_g j70 rfl rfl rfl rfl rfl rfl ?_
    refine s_pfI j71 rfl (am_is_kd ek25 ho21) (fun σ26 e27 => ?_)
    replace h := h σ26 e27
    have ek28 : am_kd σ26 = am_kd σ23 := by rw [e27]
    exact s_retV j74 rfl h
  · replace h := h.1 hc1
    refine s_aload_n j9 rfl rfl ?_
    refine s_aload_n j10 rfl rfl ?_
    obtain ⟨ho2, h⟩ := h
    refine s_gfR j11 rfl ho2 ?_
    refine s_iload_n j14 rfl rfl ?_
    refine s_iconst j15 rfl kc_ic_1 ?_
    refine s_g j16 rfl rfl rfl rfl rfl rfl ?_
    obtain ⟨ho3, h⟩ := h
    refine s_iaload j17 rfl ho3 ?_
    refine s_aload_n j18 rfl rfl ?_
    refine s_gfI j19 rfl ho2 ?_
    refine s_virt j22 rfl rfl rfl rfl ho2 (by decide) (in_Ro_rank _ _ _) (am_r8 rfl) (am_bI h (fun a5 σ4 h hx4 => ?_))
    replace h := h hx4
    refine s_aload_n j25 rfl rfl ?_
    refine s_iload_n j26 rfl rfl ?_
    refine s_aload_n j27 rfl rfl ?_
    refine s_gfI j28 rfl (am_is_ext hx4 ho2) ?_
    refine s_virt j31 rfl rfl rfl rfl (am_is_ext hx4 ho2) (by decide) (in_Ro_rank _ _ _) (am_r8 rfl) (am_bI h (fun a7 σ6 h hx6 => ?_))
    replace h := h hx6
    refine s_icn j34 rfl rfl am_cc_le (fun hc8 => ?_) (fun hc8 => ?_)
    · replace h := h.2 hc8
      refine s_aload_n j57 rfl rfl ?_
      refine s_gfR j58 rfl (am_is_ext hx6 (am_is_ext hx4 ho2)) ?_
      refine s_iload_n j61 rfl rfl ?_
      refine s_iload_n j62 rfl rfl ?_
      obtain ⟨ho14, h⟩ := h
      refine s_iastore j63 rfl ho14 (fun σ15 e16 => ?_)
      replace h := h σ15 e16
      have ek17 : am_kd σ15 = am_kd σ6 := by rw [e16]
      refine s_aload_n j64 rfl rfl ?_
      refine s_dup j65 rfl (am_cov _) ?_
      refine s_gfI j66 rfl (am_is_kd ek17 (am_is_ext hx6 (am_is_ext hx4 ho2))) ?_
      refine s_iconst j69 rfl kc_ic_1 ?_
      refine s_g j70 rfl rfl rfl rfl rfl rfl ?_
      refine s_pfI j71 rfl (am_is_kd ek17 (am_is_ext hx6 (am_is_ext hx4 ho2))) (fun σ18 e19 => ?_)
      replace h := h σ18 e19
      have ek20 : am_kd σ18 = am_kd σ15 := by rw [e19]
      exact s_retV j74 rfl h
    · replace h := h.1 hc8
      refine s_aload_n j37 rfl rfl ?_
      refine s_gfR j38 rfl (am_is_ext hx6 (am_is_ext hx4 ho2)) ?_
      refine s_iload_n j41 rfl rfl ?_
      refine s_aload_n j42 rfl rfl ?_
      refine s_gfR j43 rfl (am_is_ext hx6 (am_is_ext hx4 ho2)) ?_
      refine s_iload_n j46 rfl rfl ?_
      refine s_iconst j47 rfl kc_ic_1 ?_
      refine s_g j48 rfl rfl rfl rfl rfl rfl ?_
      obtain ⟨ho9, h⟩ := h
      refine s_iaload j49 rfl ho9 ?_
      obtain ⟨ho10, h⟩ := h
      refine s_iastore j50 rfl ho10 (fun σ11 e12 => ?_)
      replace h := h σ11 e12
      have ek13 : am_kd σ11 = am_kd σ6 := by rw [e12]
      refine s_iinc (L' := [some (am_ov (some this)), some (.int x1), some (.int (x2 + (-1 : Int32)))]) j51 rfl rfl kc_ic_m1 rfl ?_
      refine s_goto j54 rfl rfl ?_
      exact h
theorem P_Ro_rank (nl : Bool) (Ln : Nat) (xs : Nat → Int32) : am_Jl (TT nl Ln xs) 247 [(0, .iload_n 1, 1, []), (1, .istore_n 3, 2, []), (2, .iconst 0, 3, []), (3, .istore 4, 5, [])] := dk_ck (by decide +kernel)
set_option maxRecDepth 4096 in
theorem w_Ro_rank {nl : Bool} {Ln : Nat} {xs : Nat → Int32} {d : Nat} {this : Nat} {p0 : Int32} {p1 : Int32} {σ : am_S} {F : Int32 → am_S → Prop} (h : c_Ro_rank_5 nl Ln xs (d + 1) this p0 p1 p0 (0 : Int32) σ F) : k_Ro_rank nl Ln xs (d + 1) this p0 p1 σ F := by
  obtain ⟨j0, j1, j2, j3, -⟩ := P_Ro_rank nl Ln xs
  have elo : am_lo 5 [am_ov (some this), .int p0, .int p1] = [some (am_ov (some this)), some (.int p0), some (.int p1), none, none] := by simp only [am_lo, am_in_ov, am_in_int, am_in_long, am_in_nil]; rfl
  unfold k_Ro_rank
  rw [elo]
  refine s_iload_n j0 rfl rfl ?_
  refine s_istore_n j1 rfl (n := 5) (L' := [some (am_ov (some this)), some (.int p0), some (.int p1), some (.int p0), none]) rfl (by decide) rfl ?_
  refine s_iconst j2 rfl kc_ic_0 ?_
  refine s_istore j3 rfl (n := 5) (L' := [some (am_ov (some this)), some (.int p0), some (.int p1), some (.int p0), some (.int (0 : Int32))]) rfl (by decide) rfl ?_
  exact h
theorem P_Ro_rank_5 (nl : Bool) (Ln : Nat) (xs : Nat → Int32) : am_Jl (TT nl Ln xs) 247 [(5, .iload 4, 7, []), (7, .aload_n 0, 8, []), (8, .getfield 216, 11, [9, 13, 6, 0]), (11, .if_icmp .ge 43, 14, []), (14, .aload_n 0, 15, []), (15, .getfield 25, 18, [9, 13, 7, 2]), (18, .iload 4, 20, []), (20, .iaload, 21, []), (21, .iload_n 1, 22, []), (22, .if_icmp .ne 24, 25, []), (25, .aload_n 0, 26, []), (26, .getfield 31, 29, [9, 13, 9, 2]), (29, .iload 4, 31, []), (31, .iaload, 32, []), (32, .iload_n 2, 33, []), (33, .if_icmp .gt 13, 36, []), (36, .aload_n 0, 37, []), (37, .getfield 28, 40, [9, 13, 8, 2]), (40, .iload 4, 42, []), (42, .iaload, 43, []), (43, .goto 4, 46, []), (46, .iload_n 3, 47, []), (47, .istore_n 3, 48, []), (48, .iinc 4 1, 51, []), (51, .goto (-46), 54, []), (54, .iload_n 3, 55, []), (55, .ireturn, 56, [1])] := dk_ck (by decide +kernel)
set_option maxRecDepth 4096 in
theorem w_Ro_rank_5 {nl : Bool} {Ln : Nat} {xs : Nat → Int32} {d : Nat} {this : Nat} {x1 : Int32} {x2 : Int32} {x3 : Int32} {x4 : Int32} {σ : am_S} {F : Int32 → am_S → Prop} (h : (am_is σ (some this) 13) ∧ (x4 < (am_fI σ 13006 this) → (am_ar σ 1000 (am_fR σ 13007 this) x4) ∧ (((am_aI σ ((am_fR σ 13007 this).getD 0) x4.toNatClampNeg) = x1) → am_ar σ 1000 (am_fR σ 13009 this) x4) ∧ (((am_aI σ ((am_fR σ 13007 this).getD 0) x4.toNatClampNeg) = x1) → ¬ (x2 < (am_aI σ ((am_fR σ 13009 this).getD 0) x4.toNatClampNeg)) → am_ar σ 1000 (am_fR σ 13008 this) x4) ∧ ∀ w9 : Int32, w9 = (if (am_aI σ ((am_fR σ 13007 this).getD 0) x4.toNatClampNeg) = x1 then (if x2 < (am_aI σ ((am_fR σ 13009 this).getD 0) x4.toNatClampNeg) then x3 else (am_aI σ ((am_fR σ 13008 this).getD 0) x4.toNatClampNeg)) else x3) → c_Ro_rank_5 nl Ln xs (d + 1) this x1 x2 w9 (x4 + (1 : Int32)) σ F) ∧ (¬ (x4 < (am_fI σ 13006 this)) → F x3 σ)) : c_Ro_rank_5 nl Ln xs (d + 1) this x1 x2 x3 x4 σ F := by
  obtain ⟨j5, j7, j8, j11, j14, j15, j18, j20, j21, j22, j25, j26, j29, j31, j32, j33, j36, j37, j40, j42, j43, j46, j47, j48, j51, j54, j55, -⟩ := P_Ro_rank_5 nl Ln xs
  unfold c_Ro_rank_5
  refine s_iload j5 rfl rfl ?_
  refine s_aload_n j7 rfl rfl ?_
  obtain ⟨ho1, h⟩ := h
  refine s_gfI j8 rfl ho1 ?_
  refine s_icn j11 rfl rfl am_cc_ge (fun hc2 => ?_) (fun hc2 => ?_)
  · replace h := h.2 hc2
    refine s_iload_n j54 rfl rfl ?_
    exact s_retI j55 rfl h
  · replace h := h.1 hc2
    refine s_aload_n j14 rfl rfl ?_
    refine s_gfR j15 rfl ho1 ?_
    refine s_iload j18 rfl rfl ?_
    obtain ⟨ho3, h⟩ := h
    refine s_iaload j20 rfl ho3 ?_
    refine s_iload_n j21 rfl rfl ?_
    obtain ⟨ho5, h⟩ := h
    obtain ⟨ho7, h⟩ := h
    have K8 : ∀ (w9 : Int32), w9 = (if (am_aI σ ((am_fR σ 13007 this).getD 0) x4.toNatClampNeg) = x1 then (if x2 < (am_aI σ ((am_fR σ 13009 this).getD 0) x4.toNatClampNeg) then x3 else (am_aI σ ((am_fR σ 13008 this).getD 0) x4.toNatClampNeg)) else x3) → am_C (TT nl Ln xs) (d + 1) 247 47 [some (am_ov (some this)), some (.int x1), some (.int x2), some (.int x3), some (.int x4)] [.int w9] σ (am_qI F) := by
      intro w9 hw10
      replace h := h w9 hw10
      refine s_istore_n j47 rfl (n := 5) (L' := [some (am_ov (some this)), some (.int x1), some (.int x2), some (.int w9), some (.int x4)]) rfl (by decide) rfl ?_
      refine s_iinc (L' := [some (am_ov (some this)), some (.int x1), some (.int x2), some (.int w9), some (.int (x4 + (1 : Int32)))]) j48 rfl rfl kc_ic_1 rfl ?_
      refine s_goto j51 rfl rfl ?_
      exact h
    refine s_icn j22 rfl rfl am_cc_ne (fun hc4 => ?_) (fun hc4 => ?_)
    · refine s_iload_n j46 rfl rfl ?_
      exact K8 _ (am_t2 hc4 rfl)
    · refine s_aload_n j25 rfl rfl ?_
      refine s_gfR j26 rfl ho1 ?_
      refine s_iload j29 rfl rfl ?_
      refine s_iaload j31 rfl (ho5 hc4) ?_
      refine s_iload_n j32 rfl rfl ?_
      refine s_ic j33 rfl rfl am_cc_gt (fun hc6 => ?_) (fun hc6 => ?_)
      · refine s_iload_n j46 rfl rfl ?_
        exact K8 _ (am_t1 hc4 (am_t1 hc6 rfl))
      · refine s_aload_n j36 rfl rfl ?_
        refine s_gfR j37 rfl ho1 ?_
        refine s_iload j40 rfl rfl ?_
        refine s_iaload j42 rfl (ho7 hc4 hc6) ?_
        refine s_goto j43 rfl rfl ?_
        exact K8 _ (am_t1 hc4 (am_t2 hc6 rfl))
theorem P_Ro_rule (nl : Bool) (Ln : Nat) (xs : Nat → Int32) : am_Jl (TT nl Ln xs) 248 [(0, .iconst 0, 1, []), (1, .istore_n 3, 2, []), (2, .iconst 0, 3, []), (3, .istore 4, 5, [])] := dk_ck (by decide +kernel)
set_option maxRecDepth 4096 in
theorem w_Ro_rule {nl : Bool} {Ln : Nat} {xs : Nat → Int32} {d : Nat} {this : Nat} {p0 : Int32} {p1 : Int32} {σ : am_S} {F : Int32 → am_S → Prop} (h : c_Ro_rule_5 nl Ln xs (d + 1) this p0 p1 (0 : Int32) (0 : Int32) σ F) : k_Ro_rule nl Ln xs (d + 1) this p0 p1 σ F := by
  obtain ⟨j0, j1, j2, j3, -⟩ := P_Ro_rule nl Ln xs
  have elo : am_lo 5 [am_ov (some this), .int p0, .int p1] = [some (am_ov (some this)), some (.int p0), some (.int p1), none, none] := by simp only [am_lo, am_in_ov, am_in_int, am_in_long, am_in_nil]; rfl
  unfold k_Ro_rule
  rw [elo]
  refine s_iconst j0 rfl kc_ic_0 ?_
  refine s_istore_n j1 rfl (n := 5) (L' := [some (am_ov (some this)), some (.int p0), some (.int p1), some (.int (0 : Int32)), none]) rfl (by decide) rfl ?_
  refine s_iconst j2 rfl kc_ic_0 ?_
  refine s_istore j3 rfl (n := 5) (L' := [some (am_ov (some this)), some (.int p0), some (.int p1), some (.int (0 : Int32)), some (.int (0 : Int32))]) rfl (by decide) rfl ?_
  exact h
theorem P_Ro_rule_5 (nl : Bool) (Ln : Nat) (xs : Nat → Int32) : am_Jl (TT nl Ln xs) 248 [(5, .iload 4, 7, []), (7, .aload_n 0, 8, []), (8, .getfield 225, 11, [9, 13, 20, 0]), (11, .if_icmp .ge 43, 14, []), (14, .aload_n 0, 15, []), (15, .getfield 59, 18, [9, 13, 21, 2]), (18, .iload 4, 20, []), (20, .iaload, 21, []), (21, .iload_n 1, 22, []), (22, .if_icmp .ne 24, 25, []), (25, .aload_n 0, 26, []), (26, .getfield 65, 29, [9, 13, 23, 2]), (29, .iload 4, 31, []), (31, .iaload, 32, []), (32, .iload_n 2, 33, []), (33, .if_icmp .gt 13, 36, []), (36, .aload_n 0, 37, []), (37, .getfield 62, 40, [9, 13, 22, 2]), (40, .iload 4, 42, []), (42, .iaload, 43, []), (43, .goto 4, 46, []), (46, .iload_n 3, 47, []), (47, .istore_n 3, 48, []), (48, .iinc 4 1, 51, []), (51, .goto (-46), 54, []), (54, .iload_n 3, 55, []), (55, .ireturn, 56, [1])] := dk_ck (by decide +kernel)
set_option maxRecDepth 4096 in
theorem w_Ro_rule_5 {nl : Bool} {Ln : Nat} {xs : Nat → Int32} {d : Nat} {this : Nat} {x1 : Int32} {x2 : Int32} {x3 : Int32} {x4 : Int32} {σ : am_S} {F : Int32 → am_S → Prop} (h : (am_is σ (some this) 13) ∧ (x4 < (am_fI σ 13020 this) → (am_ar σ 1000 (am_fR σ 13021 this) x4) ∧ (((am_aI σ ((am_fR σ 13021 this).getD 0) x4.toNatClampNeg) = x1) → am_ar σ 1000 (am_fR σ 13023 this) x4) ∧ (((am_aI σ ((am_fR σ 13021 this).getD 0) x4.toNatClampNeg) = x1) → ¬ (x2 < (am_aI σ ((am_fR σ 13023 this).getD 0) x4.toNatClampNeg)) → am_ar σ 1000 (am_fR σ 13022 this) x4) ∧ ∀ w9 : Int32, w9 = (if (am_aI σ ((am_fR σ 13021 this).getD 0) x4.toNatClampNeg) = x1 then (if x2 < (am_aI σ ((am_fR σ 13023 this).getD 0) x4.toNatClampNeg) then x3 else (am_aI σ ((am_fR σ 13022 this).getD 0) x4.toNatClampNeg)) else x3) → c_Ro_rule_5 nl Ln xs (d + 1) this x1 x2 w9 (x4 + (1 : Int32)) σ F) ∧ (¬ (x4 < (am_fI σ 13020 this)) → F x3 σ)) : c_Ro_rule_5 nl Ln xs (d + 1) this x1 x2 x3 x4 σ F := by
  obtain ⟨j5, j7, j8, j11, j14, j15, j18, j20, j21, j22, j25, j26, j29, j31, j32, j33, j36, j37, j40, j42, j43, j46, j47, j48, j51, j54, j55, -⟩ := P_Ro_rule_5 nl Ln xs
  unfold c_Ro_rule_5
  refine s_iload j5 rfl rfl ?_
  refine s_aload_n j7 rfl rfl ?_
  obtain ⟨ho1, h⟩ := h
  refine s_gfI j8 rfl ho1 ?_
  refine s_icn j11 rfl rfl am_cc_ge (fun hc2 => ?_) (fun hc2 => ?_)
  · replace h := h.2 hc2
    refine s_iload_n j54 rfl rfl ?_
    exact s_retI j55 rfl h
  · replace h := h.1 hc2
    refine s_aload_n j14 rfl rfl ?_
    refine s_gfR j15 rfl ho1 ?_
    refine s_iload j18 rfl rfl ?_
    obtain ⟨ho3, h⟩ := h
    refine s_iaload j20 rfl ho3 ?_
    refine s_iload_n j21 rfl rfl ?_
    obtain ⟨ho5, h⟩ := h
    obtain ⟨ho7, h⟩ := h
    have K8 : ∀ (w9 : Int32), w9 = (if (am_aI σ ((am_fR σ 13021 this).getD 0) x4.toNatClampNeg) = x1 then (if x2 < (am_aI σ ((am_fR σ 13023 this).getD 0) x4.toNatClampNeg) then x3 else (am_aI σ ((am_fR σ 13022 this).getD 0) x4.toNatClampNeg)) else x3) → am_C (TT nl Ln xs) (d + 1) 248 47 [some (am_ov (some this)), some (.int x1), some (.int x2), some (.int x3), some (.int x4)] [.int w9] σ (am_qI F) := by
      intro w9 hw10
      replace h := h w9 hw10
      refine s_istore_n j47 rfl (n := 5) (L' := [some (am_ov (some this)), some (.int x1), some (.int x2), some (.int w9), some (.int x4)]) rfl (by decide) rfl ?_
      refine s_iinc (L' := [some (am_ov (some this)), some (.int x1), some (.int x2), some (.int w9), some (.int (x4 + (1 : Int32)))]) j48 rfl rfl kc_ic_1 rfl ?_
      refine s_goto j51 rfl rfl ?_
      exact h
    refine s_icn j22 rfl rfl am_cc_ne (fun hc4 => ?_) (fun hc4 => ?_)
    · refine s_iload_n j46 rfl rfl ?_
      exact K8 _ (am_t2 hc4 rfl)
    · refine s_aload_n j25 rfl rfl ?_
      refine s_gfR j26 rfl ho1 ?_
      refine s_iload j29 rfl rfl ?_
      refine s_iaload j31 rfl (ho5 hc4) ?_
      refine s_iload_n j32 rfl rfl ?_
      refine s_ic j33 rfl rfl am_cc_gt (fun hc6 => ?_) (fun hc6 => ?_)
      · refine s_iload_n j46 rfl rfl ?_
        exact K8 _ (am_t1 hc4 (am_t1 hc6 rfl))
      · refine s_aload_n j36 rfl rfl ?_
        refine s_gfR j37 rfl ho1 ?_
        refine s_iload j40 rfl rfl ?_
        refine s_iaload j42 rfl (ho7 hc4 hc6) ?_
        refine s_goto j43 rfl rfl ?_
        exact K8 _ (am_t1 hc4 (am_t2 hc6 rfl))
theorem P_Ro_byParts (nl : Bool) (Ln : Nat) (xs : Nat → Int32) : am_Jl (TT nl Ln xs) 249 [(0, .lload_n 3, 1, []), (1, .lconst 0, 2, []), (2, .lcmp, 3, []), (3, .ifCond .ne 9, 6, []), (6, .aload_n 0, 7, []), (7, .iconst 4, 8, []), (8, .invokevirtual 348, 11, [10, 220, 14, 2, 2]), (11, .return_, 12, [0]), (12, .lload_n 1, 13, []), (13, .lstore 5, 15, []), (15, .iconst 0, 16, []), (16, .istore 7, 18, [])] := dk_ck (by decide +kernel)
set_option maxRecDepth 4096 in
theorem w_Ro_byParts {nl : Bool} {Ln : Nat} {xs : Nat → Int32} {d : Nat} {this : Nat} {p0 : Int64} {p1 : Int64} {σ : am_S} {F : am_S → Prop} (h : (p1 = (0 : Int64) → (am_is σ (some this) 13) ∧ k_Ro_meets nl Ln xs d this (4 : Int32) σ (fun σ3 => am_ext σ σ3 → F σ3)) ∧ (¬ (p1 = (0 : Int64)) → c_Ro_byParts_18 nl Ln xs (d + 1) this p0 p1 p0 (0 : Int32) none σ F)) : k_Ro_byParts nl Ln xs (d + 1) this p0 p1 σ F := by
  obtain ⟨j0, j1, j2, j3, j6, j7, j8, j11, j12, j13, j15, j16, -⟩ := P_Ro_byParts nl Ln xs
  have elo : am_lo 9 [am_ov (some this), .long p0, .long p1] = [some (am_ov (some this)), some (.long p0), none, some (.long p1), none, none, none, none, none] := by simp only [am_lo, am_in_ov, am_in_int, am_in_long, am_in_nil]; rfl
  unfold k_Ro_byParts
  rw [elo]
  refine s_lload_n j0 rfl rfl ?_
  refine s_lconst j1 rfl rfl ?_
  refine s_g j2 rfl rfl rfl rfl rfl rfl ?_
  refine s_ifn j3 rfl rfl am_cl_ne (fun hc1 => ?_) (fun hc1 => ?_)
  · replace h := h.2 hc1
    refine s_lload_n j12 rfl rfl ?_
    refine s_lstore j13 rfl (n := 9) (L' := [some (am_ov (some this)), some (.long p0), none, some (.long p1), none, some (.long p0), none, none, none]) rfl (by decide) rfl ?_
    refine s_iconst j15 rfl kc_ic_0 ?_
    refine s_istore j16 rfl (n := 9) (L' := [some (am_ov (some this)), some (.long p0), none, some (.long p1), none, some (.long p0), none, some (.int (0 : Int32)), none]) rfl (by decide) rfl ?_
    exact h
  · replace h := h.1 hc1
    refine s_aload_n j6 rfl rfl ?_
    refine s_iconst j7 rfl kc_ic_4 ?_
    obtain ⟨ho2, h⟩ := h
    refine s_virt j8 rfl rfl rfl rfl ho2 (by decide) (in_Ro_meets _ _) (am_r8 rfl) (am_bV h (fun σ3 h hx3 => ?_))
    replace h := h hx3
    exact s_retV j11 rfl h
theorem P_Ro_byParts_18 (nl : Bool) (Ln : Nat) (xs : Nat → Int32) : am_Jl (TT nl Ln xs) 249 [(18, .iload 7, 20, []), (20, .aload_n 0, 21, []), (21, .getfield 426, 24, [9, 13, 84, 0]), (24, .if_icmp .ge 68, 27, []), (27, .aload_n 0, 28, []), (28, .getfield 185, 31, [9, 13, 83, 2]), (31, .iload 7, 33, []), (33, .iaload, 34, []), (34, .istore 8, 36, []), (36, .lload_n 1, 37, []), (37, .aload_n 0, 38, []), (38, .getfield 179, 41, [9, 13, 81, 2]), (41, .iload 8, 43, []), (43, .laload, 44, []), (44, .invokestatic 384, 47, [12, 242, 4, 2]), (47, .ifCond .eq 9, 50, []), (50, .aload_n 0, 51, []), (51, .iconst 5, 52, []), (52, .invokevirtual 348, 55, [10, 220, 14, 2, 2]), (55, .return_, 56, [0]), (56, .aload_n 0, 57, []), (57, .getfield 182, 60, [9, 13, 82, 2]), (60, .iload 8, 62, []), (62, .lload_n 1, 63, []), (63, .aload_n 0, 64, []), (64, .getfield 179, 67, [9, 13, 81, 2]), (67, .iload 8, 69, []), (69, .laload, 70, []), (70, .lmul, 71, []), (71, .lload_n 3, 72, []), (72, .ldiv, 73, []), (73, .lastore, 74, []), (74, .lload 5, 76, []), (76, .aload_n 0, 77, []), (77, .getfield 182, 80, [9, 13, 82, 2]), (80, .iload 8, 82, []), (82, .laload, 83, []), (83, .lsub, 84, []), (84, .lstore 5, 86, []), (86, .iinc 7 1, 89, []), (89, .goto (-71), 92, []), (92, .aload_n 0, 93, []), (93, .lload 5, 95, []), (95, .invokevirtual 448, 98, [10, 250, 14, 6, 2]), (98, .return_, 99, [0])] := dk_ck (by decide +kernel)
set_option maxRecDepth 4096 in
theorem w_Ro_byParts_18 {nl : Bool} {Ln : Nat} {xs : Nat → Int32} {d : Nat} {this : Nat} {x1 : Int64} {x3 : Int64} {x5 : Int64} {x7 : Int32} {x8 : Option Value} {σ : am_S} {F : am_S → Prop} (h : (am_is σ (some this) 13) ∧ (x7 < (am_fI σ 13084 this) → (am_ar σ 1000 (am_fR σ 13083 this) x7) ∧ ∀ v4 : Int32, v4 = (am_aI σ ((am_fR σ 13083 this).getD 0) x7.toNatClampNeg) → (am_ar σ 1001 (am_fR σ 13081 this) v4) ∧ k_Rm_isGreat nl Ln xs d x1 (am_aL σ ((am_fR σ 13081 this).getD 0) v4.toNatClampNeg) σ (fun a8 σ7 => am_ext σ σ7 → (a8 = true → k_Ro_meets nl Ln xs d this (5 : Int32) σ7 (fun σ10 => am_ext σ7 σ10 → F σ10)) ∧ (¬ (a8 = true) → (am_ar σ7 1001 (am_fR σ7 13081 this) v4) ∧ (x3 ≠ 0) ∧ (am_ar σ7 1001 (am_fR σ7 13082 this) v4) ∧ ∀ σ15, σ15 = am_saL σ7 ((am_fR σ7 13082 this).getD 0) v4.toNatClampNeg ((x1 * (am_aL σ7 ((am_fR σ7 13081 this).getD 0) v4.toNatClampNeg)) / x3) → (am_ar σ15 1001 (am_fR σ15 13082 this) v4) ∧ ∀ v19 : Int64, v19 = (x5 - (am_aL σ15 ((am_fR σ15 13082 this).getD 0) v4.toNatClampNeg)) → c_Ro_byParts_18 nl Ln xs (d + 1) this x1 x3 v19 (x7 + (1 : Int32)) (some (.int v4)) σ15 F))) ∧ (¬ (x7 < (am_fI σ 13084 this)) → k_Ro_cents nl Ln xs d this x5 σ (fun σ21 => am_ext σ σ21 → F σ21))) : c_Ro_byParts_18 nl Ln xs (d + 1) this x1 x3 x5 x7 x8 σ F := by
  obtain ⟨j18, j20, j21, j24, j27, j28, j31, j33, j34, j36, j37, j38, j41, j43, j44, j47, j50, j51, j52, j55, j56, j57, j60, j62, j63, j64, j67, j69, j70, j71, j72, j73, j74, j76, j77, j80, j82, j83, j84, j86, j89, j92, j93, j95, j98, -⟩ := P_Ro_byParts_18 nl Ln xs
  unfold c_Ro_byParts_18
  refine s_iload j18 rfl rfl ?_
  refine s_aload_n j20 rfl rfl ?_
  obtain ⟨ho1, h⟩ := h
  refine s_gfI j21 rfl ho1 ?_
  refine s_icn j24 rfl rfl am_cc_ge (fun hc2 => ?_) (fun hc2 => ?_)
  · replace h := h.2 hc2
    refine s_aload_n j92 rfl rfl ?_
    refine s_lload j93 rfl rfl ?_
    refine s_virt j95 rfl rfl rfl rfl ho1 (by decide) (in_Ro_cents _ _) (am_r8 rfl) (am_bV h (fun σ21 h hx21 => ?_))
    replace h := h hx21
    exact s_retV j98 rfl h
  · replace h := h.1 hc2
    refine s_aload_n j27 rfl rfl ?_
    refine s_gfR j28 rfl ho1 ?_
    refine s_iload j31 rfl rfl ?_
    obtain ⟨ho3, h⟩ := h
    refine s_iaload j33 rfl ho3 ?_
    refine s_istoreV j34 rfl (n := 9) (L' := fun w => [some (am_ov (some this)), some (.long x1), none, some (.long x3), none, some (.long x5), none, some (.int x7), some (.int w)]) rfl (by decide) (fun _ => rfl) (fun v4 hv5 => ?_)
    replace h := h v4 hv5
    refine s_lload_n j36 rfl rfl ?_
    refine s_aload_n j37 rfl rfl ?_
    refine s_gfR j38 rfl ho1 ?_
    refine s_iload j41 rfl rfl ?_
    obtain ⟨ho6, h⟩ := h
    refine s_laload j43 rfl ho6 ?_
    refine s_stat j44 rfl rfl rfl rfl (by decide) (in_Rm_isGreat _ _) (am_r8 rfl) (am_bB h (fun a8 σ7 h hx7 => ?_))
    replace h := h hx7
    refine s_ifn j47 rfl rfl am_cb_eq (fun hc9 => ?_) (fun hc9 => ?_)
    · replace h := h.2 hc9
      refine s_aload_n j56 rfl rfl ?_
      refine s_gfR j57 rfl (am_is_ext hx7 ho1) ?_
      refine s_iload j60 rfl rfl ?_
      refine s_lload_n j62 rfl rfl ?_
      refine s_aload_n j63 rfl rfl ?_
      refine s_gfR j64 rfl (am_is_ext hx7 ho1) ?_
      refine s_iload j67 rfl rfl ?_
      obtain ⟨ho12, h⟩ := h
      refine s_laload j69 rfl ho12 ?_
      refine s_g j70 rfl rfl rfl rfl rfl rfl ?_
      refine s_lload_n j71 rfl rfl ?_
      obtain ⟨ho13, h⟩ := h
      refine s_ldiv j72 rfl ho13 ?_
      obtain ⟨ho14, h⟩ := h
      refine s_lastore j73 rfl ho14 (fun σ15 e16 => ?_)
      replace h := h σ15 e16
      have ek17 : am_kd σ15 = am_kd σ7 := by rw [e16]
      refine s_lload j74 rfl rfl ?_
      refine s_aload_n j76 rfl rfl ?_
      refine s_gfR j77 rfl (am_is_kd ek17 (am_is_ext hx7 ho1)) ?_
      refine s_iload j80 rfl rfl ?_
      obtain ⟨ho18, h⟩ := h
      refine s_laload j82 rfl ho18 ?_
      refine s_g j83 rfl rfl rfl rfl rfl rfl ?_
      refine s_lstoreV j84 rfl (n := 9) (L' := fun w => [some (am_ov (some this)), some (.long x1), none, some (.long x3), none, some (.long w), none, some (.int x7), some (.int v4)]) rfl (by decide) (fun _ => rfl) (fun v19 hv20 => ?_)
      replace h := h v19 hv20
      refine s_iinc (L' := [some (am_ov (some this)), some (.long x1), none, some (.long x3), none, some (.long v19), none, some (.int (x7 + (1 : Int32))), some (.int v4)]) j86 rfl rfl kc_ic_1 rfl ?_
      refine s_goto j89 rfl rfl ?_
      exact h
    · replace h := h.1 hc9
      refine s_aload_n j50 rfl rfl ?_
      refine s_iconst j51 rfl kc_ic_5 ?_
      refine s_virt j52 rfl rfl rfl rfl (am_is_ext hx7 ho1) (by decide) (in_Ro_meets _ _) (am_r8 rfl) (am_bV h (fun σ10 h hx10 => ?_))
      replace h := h hx10
      exact s_retV j55 rfl h
theorem P_Ro_cents (nl : Bool) (Ln : Nat) (xs : Nat → Int32) : am_Jl (TT nl Ln xs) 250 [(0, .lload_n 1, 1, []), (1, .lstore_n 3, 2, [])] := dk_ck (by decide +kernel)
set_option maxRecDepth 4096 in
theorem w_Ro_cents {nl : Bool} {Ln : Nat} {xs : Nat → Int32} {d : Nat} {this : Nat} {p0 : Int64} {σ : am_S} {F : am_S → Prop} (h : c_Ro_cents_2 nl Ln xs (d + 1) this p0 p0 none σ F) : k_Ro_cents nl Ln xs (d + 1) this p0 σ F := by
  obtain ⟨j0, j1, -⟩ := P_Ro_cents nl Ln xs
  have elo : am_lo 6 [am_ov (some this), .long p0] = [some (am_ov (some this)), some (.long p0), none, none, none, none] := by simp only [am_lo, am_in_ov, am_in_int, am_in_long, am_in_nil]; rfl
  unfold k_Ro_cents
  rw [elo]
  refine s_lload_n j0 rfl rfl ?_
  refine s_lstore_n j1 rfl (n := 6) (L' := [some (am_ov (some this)), some (.long p0), none, some (.long p0), none, none]) rfl (by decide) rfl ?_
  exact h
theorem P_Ro_cents_2 (nl : Bool) (Ln : Nat) (xs : Nat → Int32) : am_Jl (TT nl Ln xs) 250 [(2, .lload_n 3, 3, []), (3, .lconst 0, 4, []), (4, .lcmp, 5, []), (5, .ifCond .le 78, 8, []), (8, .iconst 0, 9, []), (9, .istore 5, 11, []), (83, .return_, 84, [0])] := dk_ck (by decide +kernel)
set_option maxRecDepth 4096 in
theorem w_Ro_cents_2 {nl : Bool} {Ln : Nat} {xs : Nat → Int32} {d : Nat} {this : Nat} {x1 : Int64} {x3 : Int64} {x5 : Option Value} {σ : am_S} {F : am_S → Prop} (h : ((0 : Int64) < x3 → c_Ro_cents_11 nl Ln xs (d + 1) this x1 x3 (0 : Int32) σ F) ∧ (¬ ((0 : Int64) < x3) → F σ)) : c_Ro_cents_2 nl Ln xs (d + 1) this x1 x3 x5 σ F := by
  obtain ⟨j2, j3, j4, j5, j8, j9, j83, -⟩ := P_Ro_cents_2 nl Ln xs
  unfold c_Ro_cents_2
  refine s_lload_n j2 rfl rfl ?_
  refine s_lconst j3 rfl rfl ?_
  refine s_g j4 rfl rfl rfl rfl rfl rfl ?_
  refine s_ifn j5 rfl rfl am_cl_le (fun hc1 => ?_) (fun hc1 => ?_)
  · replace h := h.2 hc1
    exact s_retV j83 rfl h
  · replace h := h.1 hc1
    refine s_iconst j8 rfl kc_ic_0 ?_
    refine s_istore j9 rfl (n := 6) (L' := [some (am_ov (some this)), some (.long x1), none, some (.long x3), none, some (.int (0 : Int32))]) rfl (by decide) rfl ?_
    exact h
theorem P_Ro_cents_11 (nl : Bool) (Ln : Nat) (xs : Nat → Int32) : am_Jl (TT nl Ln xs) 250 [(11, .iload 5, 13, []), (13, .aload_n 0, 14, []), (14, .getfield 426, 17, [9, 13, 84, 0]), (17, .if_icmp .ge 63, 20, []), (20, .lload_n 3, 21, []), (21, .lconst 0, 22, []), (22, .lcmp, 23, []), (23, .ifCond .le 57, 26, []), (26, .aload_n 0, 27, []), (27, .getfield 182, 30, [9, 13, 82, 2]), (30, .aload_n 0, 31, []), (31, .getfield 185, 34, [9, 13, 83, 2]), (34, .iload 5, 36, []), (36, .iaload, 37, []), (37, .laload, 38, []), (38, .aload_n 0, 39, []), (39, .getfield 179, 42, [9, 13, 81, 2]), (42, .aload_n 0, 43, []), (43, .getfield 185, 46, [9, 13, 83, 2]), (46, .iload 5, 48, []), (48, .iaload, 49, []), (49, .laload, 50, []), (50, .lcmp, 51, []), (51, .ifCond .ge 23, 54, []), (54, .aload_n 0, 55, []), (55, .getfield 182, 58, [9, 13, 82, 2]), (58, .aload_n 0, 59, []), (59, .getfield 185, 62, [9, 13, 83, 2]), (62, .iload 5, 64, []), (64, .iaload, 65, []), (65, .dup2, 66, []), (66, .laload, 67, []), (67, .lconst 1, 68, []), (68, .ladd, 69, []), (69, .lastore, 70, []), (70, .lload_n 3, 71, []), (71, .lconst 1, 72, []), (72, .lsub, 73, []), (73, .lstore_n 3, 74, []), (74, .iinc 5 1, 77, []), (77, .goto (-66), 80, []), (80, .goto (-78), 83, [])] := dk_ck (by decide +kernel)
set_option maxRecDepth 4096 in
theorem w_Ro_cents_11 {nl : Bool} {Ln : Nat} {xs : Nat → Int32} {d : Nat} {this : Nat} {x1 : Int64} {x3 : Int64} {x5 : Int32} {σ : am_S} {F : am_S → Prop} (h : (am_is σ (some this) 13) ∧ (x5 < (am_fI σ 13084 this) → ((0 : Int64) < x3 → (am_ar σ 1000 (am_fR σ 13083 this) x5) ∧ (am_ar σ 1001 (am_fR σ 13082 this) (am_aI σ ((am_fR σ 13083 this).getD 0) x5.toNatClampNeg)) ∧ (am_ar σ 1000 (am_fR σ 13083 this) x5) ∧ (am_ar σ 1001 (am_fR σ 13081 this) (am_aI σ ((am_fR σ 13083 this).getD 0) x5.toNatClampNeg)) ∧ ((am_aL σ ((am_fR σ 13082 this).getD 0) (am_aI σ ((am_fR σ 13083 this).getD 0) x5.toNatClampNeg).toNatClampNeg) < (am_aL σ ((am_fR σ 13081 this).getD 0) (am_aI σ ((am_fR σ 13083 this).getD 0) x5.toNatClampNeg).toNatClampNeg) → (am_ar σ 1000 (am_fR σ 13083 this) x5) ∧ (am_ar σ 1001 (am_fR σ 13082 this) (am_aI σ ((am_fR σ 13083 this).getD 0) x5.toNatClampNeg)) ∧ (am_ar σ 1001 (am_fR σ 13082 this) (am_aI σ ((am_fR σ 13083 this).getD 0) x5.toNatClampNeg)) ∧ ∀ σ12, σ12 = am_saL σ ((am_fR σ 13082 this).getD 0) (am_aI σ ((am_fR σ 13083 this).getD 0) x5.toNatClampNeg).toNatClampNeg ((am_aL σ ((am_fR σ 13082 this).getD 0) (am_aI σ ((am_fR σ 13083 this).getD 0) x5.toNatClampNeg).toNatClampNeg) + (1 : Int64)) → ∀ v15 : Int64, v15 = (x3 - (1 : Int64)) → c_Ro_cents_11 nl Ln xs (d + 1) this x1 v15 (x5 + (1 : Int32)) σ12 F) ∧ (¬ ((am_aL σ ((am_fR σ 13082 this).getD 0) (am_aI σ ((am_fR σ 13083 this).getD 0) x5.toNatClampNeg).toNatClampNeg) < (am_aL σ ((am_fR σ 13081 this).getD 0) (am_aI σ ((am_fR σ 13083 this).getD 0) x5.toNatClampNeg).toNatClampNeg)) → c_Ro_cents_11 nl Ln xs (d + 1) this x1 x3 (x5 + (1 : Int32)) σ F)) ∧ (¬ ((0 : Int64) < x3) → c_Ro_cents_2 nl Ln xs (d + 1) this x1 x3 (some (.int x5)) σ F)) ∧ (¬ (x5 < (am_fI σ 13084 this)) → c_Ro_cents_2 nl Ln xs (d + 1) this x1 x3 (some (.int x5)) σ F)) : c_Ro_cents_11 nl Ln xs (d + 1) this x1 x3 x5 σ F := by
  obtain ⟨j11, j13, j14, j17, j20, j21, j22, j23, j26, j27, j30, j31, j34, j36, j37, j38, j39, j42, j43, j46, j48, j49, j50, j51, j54, j55, j58, j59, j62, j64, j65, j66, j67, j68, j69, j70, j71, j72, j73, j74, j77, j80, -⟩ := P_Ro_cents_11 nl Ln xs
  unfold c_Ro_cents_11
  refine s_iload j11 rfl rfl ?_
  refine s_aload_n j13 rfl rfl ?_
  obtain ⟨ho1, h⟩ := h
  refine s_gfI j14 rfl ho1 ?_
  refine s_icn j17 rfl rfl am_cc_ge (fun hc2 => ?_) (fun hc2 => ?_)
  · replace h := h.2 hc2
    refine s_goto j80 rfl rfl ?_
    exact h
  · replace h := h.1 hc2
    refine s_lload_n j20 rfl rfl ?_
    refine s_lconst j21 rfl rfl ?_
    refine s_g j22 rfl rfl rfl rfl rfl rfl ?_
    refine s_ifn j23 rfl rfl am_cl_le (fun hc3 => ?_) (fun hc3 => ?_)
    · replace h := h.2 hc3
      refine s_goto j80 rfl rfl ?_
      exact h
    · replace h := h.1 hc3
      refine s_aload_n j26 rfl rfl ?_
      refine s_gfR j27 rfl ho1 ?_
      refine s_aload_n j30 rfl rfl ?_
      refine s_gfR j31 rfl ho1 ?_
      refine s_iload j34 rfl rfl ?_
      obtain ⟨ho4, h⟩ := h
      refine s_iaload j36 rfl ho4 ?_
      obtain ⟨ho5, h⟩ := h
      refine s_laload j37 rfl ho5 ?_
      refine s_aload_n j38 rfl rfl ?_
      refine s_gfR j39 rfl ho1 ?_
      refine s_aload_n j42 rfl rfl ?_
      refine s_gfR j43 rfl ho1 ?_
      refine s_iload j46 rfl rfl ?_
      obtain ⟨ho6, h⟩ := h
      refine s_iaload j48 rfl ho6 ?_
      obtain ⟨ho7, h⟩ := h
      refine s_laload j49 rfl ho7 ?_
      refine s_g j50 rfl rfl rfl rfl rfl rfl ?_
      refine s_ifn j51 rfl rfl am_cl_ge (fun hc8 => ?_) (fun hc8 => ?_)
      · replace h := h.2 hc8
        refine s_iinc (L' := [some (am_ov (some this)), some (.long x1), none, some (.long x3), none, some (.int (x5 + (1 : Int32)))]) j74 rfl rfl kc_ic_1 rfl ?_
        refine s_goto j77 rfl rfl ?_
        exact h
      · replace h := h.1 hc8
        refine s_aload_n j54 rfl rfl ?_
        refine s_gfR j55 rfl ho1 ?_
        refine s_aload_n j58 rfl rfl ?_
        refine s_gfR j59 rfl ho1 ?_
        refine s_iload j62 rfl rfl ?_
        obtain ⟨ho9, h⟩ := h
        refine s_iaload j64 rfl ho9 ?_
        refine s_dup2 j65 rfl (am_cov _) ?_
        obtain ⟨ho10, h⟩ := h
        refine s_laload j66 rfl ho10 ?_
        refine s_lconst j67 rfl rfl ?_
        refine s_g j68 rfl rfl rfl rfl rfl rfl ?_
        obtain ⟨ho11, h⟩ := h
        refine s_lastore j69 rfl ho11 (fun σ12 e13 => ?_)
        replace h := h σ12 e13
        have ek14 : am_kd σ12 = am_kd σ := by rw [e13]
        refine s_lload_n j70 rfl rfl ?_
        refine s_lconst j71 rfl rfl ?_
        refine s_g j72 rfl rfl rfl rfl rfl rfl ?_
        refine s_lstore_nV j73 rfl (n := 6) (L' := fun w => [some (am_ov (some this)), some (.long x1), none, some (.long w), none, some (.int x5)]) rfl (by decide) (fun _ => rfl) (fun v15 hv16 => ?_)
        replace h := h v15 hv16
        refine s_iinc (L' := [some (am_ov (some this)), some (.long x1), none, some (.long v15), none, some (.int (x5 + (1 : Int32)))]) j74 rfl rfl kc_ic_1 rfl ?_
        refine s_goto j77 rfl rfl ?_
        exact h
theorem P_Ro_byRounds (nl : Bool) (Ln : Nat) (xs : Nat → Int32) : am_Jl (TT nl Ln xs) 251 [(0, .lload_n 1, 1, []), (1, .lstore_n 3, 2, [])] := dk_ck (by decide +kernel)
set_option maxRecDepth 4096 in
theorem w_Ro_byRounds {nl : Bool} {Ln : Nat} {xs : Nat → Int32} {d : Nat} {this : Nat} {p0 : Int64} {σ : am_S} {F : am_S → Prop} (h : c_Ro_byRounds_2 nl Ln xs (d + 1) this p0 p0 none none none none none none none none none σ F) : k_Ro_byRounds nl Ln xs (d + 1) this p0 σ F := by
  obtain ⟨j0, j1, -⟩ := P_Ro_byRounds nl Ln xs
  have elo : am_lo 14 [am_ov (some this), .long p0] = [some (am_ov (some this)), some (.long p0), none, none, none, none, none, none, none, none, none, none, none, none] := by simp only [am_lo, am_in_ov, am_in_int, am_in_long, am_in_nil]; rfl
  unfold k_Ro_byRounds
  rw [elo]
  refine s_lload_n j0 rfl rfl ?_
  refine s_lstore_n j1 rfl (n := 14) (L' := [some (am_ov (some this)), some (.long p0), none, some (.long p0), none, none, none, none, none, none, none, none, none, none]) rfl (by decide) rfl ?_
  exact h
theorem P_Ro_byRounds_2 (nl : Bool) (Ln : Nat) (xs : Nat → Int32) : am_Jl (TT nl Ln xs) 251 [(2, .lload_n 3, 3, []), (3, .lconst 0, 4, []), (4, .lcmp, 5, []), (5, .ifCond .le 169, 8, []), (8, .iconst 0, 9, []), (9, .istore 5, 11, []), (11, .iconst 0, 12, []), (12, .istore 6, 14, []), (174, .return_, 175, [0])] := dk_ck (by decide +kernel)
set_option maxRecDepth 4096 in
theorem w_Ro_byRounds_2 {nl : Bool} {Ln : Nat} {xs : Nat → Int32} {d : Nat} {this : Nat} {x1 : Int64} {x3 : Int64} {x5 : Option Value} {x6 : Option Value} {x7 : Option Value} {x8 : Option Value} {x9 : Option Value} {x10 : Option Value} {x11 : Option Value} {x12 : Option Value} {x13 : Option Value} {σ : am_S} {F : am_S → Prop} (h : ((0 : Int64) < x3 → c_Ro_byRounds_14 nl Ln xs (d + 1) this x1 x3 (0 : Int32) (0 : Int32) x7 x8 x9 x10 x11 x12 x13 σ F) ∧ (¬ ((0 : Int64) < x3) → F σ)) : c_Ro_byRounds_2 nl Ln xs (d + 1) this x1 x3 x5 x6 x7 x8 x9 x10 x11 x12 x13 σ F := by
  obtain ⟨j2, j3, j4, j5, j8, j9, j11, j12, j174, -⟩ := P_Ro_byRounds_2 nl Ln xs
  unfold c_Ro_byRounds_2
  refine s_lload_n j2 rfl rfl ?_
  refine s_lconst j3 rfl rfl ?_
  refine s_g j4 rfl rfl rfl rfl rfl rfl ?_
  refine s_ifn j5 rfl rfl am_cl_le (fun hc1 => ?_) (fun hc1 => ?_)
  · replace h := h.2 hc1
    exact s_retV j174 rfl h
  · replace h := h.1 hc1
    refine s_iconst j8 rfl kc_ic_0 ?_
    refine s_istore j9 rfl (n := 14) (L' := [some (am_ov (some this)), some (.long x1), none, some (.long x3), none, some (.int (0 : Int32)), x6, x7, x8, x9, x10, x11, x12, x13]) rfl (by decide) rfl ?_
    refine s_iconst j11 rfl kc_ic_0 ?_
    refine s_istore j12 rfl (n := 14) (L' := [some (am_ov (some this)), some (.long x1), none, some (.long x3), none, some (.int (0 : Int32)), some (.int (0 : Int32)), x7, x8, x9, x10, x11, x12, x13]) rfl (by decide) rfl ?_
    exact h
theorem P_Ro_byRounds_14 (nl : Bool) (Ln : Nat) (xs : Nat → Int32) : am_Jl (TT nl Ln xs) 251 [(14, .iload 6, 16, []), (16, .aload_n 0, 17, []), (17, .getfield 426, 20, [9, 13, 84, 0]), (20, .if_icmp .ge 47, 23, []), (23, .iload 5, 25, []), (25, .aload_n 0, 26, []), (26, .getfield 182, 29, [9, 13, 82, 2]), (29, .aload_n 0, 30, []), (30, .getfield 185, 33, [9, 13, 83, 2]), (33, .iload 6, 35, []), (35, .iaload, 36, []), (36, .laload, 37, []), (37, .aload_n 0, 38, []), (38, .getfield 179, 41, [9, 13, 81, 2]), (41, .aload_n 0, 42, []), (42, .getfield 185, 45, [9, 13, 83, 2]), (45, .iload 6, 47, []), (47, .iaload, 48, []), (48, .laload, 49, []), (49, .lcmp, 50, []), (50, .ifCond .ge 7, 53, []), (53, .iconst 1, 54, []), (54, .goto 4, 57, []), (57, .iconst 0, 58, []), (58, .iadd, 59, []), (59, .istore 5, 61, []), (61, .iinc 6 1, 64, []), (64, .goto (-50), 67, []), (67, .iload 5, 69, []), (69, .ifCond .ne 4, 72, []), (72, .return_, 73, [0]), (73, .lload_n 3, 74, []), (74, .iload 5, 76, []), (76, .i2l, 77, []), (77, .ldiv, 78, []), (78, .lstore 6, 80, []), (80, .lload 6, 82, []), (82, .lconst 0, 83, []), (83, .lcmp, 84, []), (84, .ifCond .ne 9, 87, []), (87, .aload_n 0, 88, []), (88, .lload_n 3, 89, []), (89, .invokevirtual 448, 92, [10, 250, 14, 6, 2]), (92, .return_, 93, [0]), (93, .iconst 0, 94, []), (94, .istore 8, 96, [])] := dk_ck (by decide +kernel)
set_option maxRecDepth 4096 in
theorem w_Ro_byRounds_14 {nl : Bool} {Ln : Nat} {xs : Nat → Int32} {d : Nat} {this : Nat} {x1 : Int64} {x3 : Int64} {x5 : Int32} {x6 : Int32} {x7 : Option Value} {x8 : Option Value} {x9 : Option Value} {x10 : Option Value} {x11 : Option Value} {x12 : Option Value} {x13 : Option Value} {σ : am_S} {F : am_S → Prop} (h : (am_is σ (some this) 13) ∧ (x6 < (am_fI σ 13084 this) → (am_ar σ 1000 (am_fR σ 13083 this) x6) ∧ (am_ar σ 1001 (am_fR σ 13082 this) (am_aI σ ((am_fR σ 13083 this).getD 0) x6.toNatClampNeg)) ∧ (am_ar σ 1000 (am_fR σ 13083 this) x6) ∧ (am_ar σ 1001 (am_fR σ 13081 this) (am_aI σ ((am_fR σ 13083 this).getD 0) x6.toNatClampNeg)) ∧ ∀ v11 : Int32, v11 = (x5 + (if (am_aL σ ((am_fR σ 13082 this).getD 0) (am_aI σ ((am_fR σ 13083 this).getD 0) x6.toNatClampNeg).toNatClampNeg) < (am_aL σ ((am_fR σ 13081 this).getD 0) (am_aI σ ((am_fR σ 13083 this).getD 0) x6.toNatClampNeg).toNatClampNeg) then (1 : Int32) else 0)) → c_Ro_byRounds_14 nl Ln xs (d + 1) this x1 x3 v11 (x6 + (1 : Int32)) x7 x8 x9 x10 x11 x12 x13 σ F) ∧ (¬ (x6 < (am_fI σ 13084 this)) → (x5 = 0 → F σ) ∧ (¬ (x5 = 0) → (x5.toInt64 ≠ 0) ∧ ∀ v15 : Int64, v15 = (x3 / x5.toInt64) → (v15 = (0 : Int64) → k_Ro_cents nl Ln xs d this x3 σ (fun σ18 => am_ext σ σ18 → F σ18)) ∧ (¬ (v15 = (0 : Int64)) → c_Ro_byRounds_96 nl Ln xs (d + 1) this x1 x3 x5 v15 (0 : Int32) x9 x10 x11 x12 x13 σ F)))) : c_Ro_byRounds_14 nl Ln xs (d + 1) this x1 x3 x5 x6 x7 x8 x9 x10 x11 x12 x13 σ F := by
  obtain ⟨j14, j16, j17, j20, j23, j25, j26, j29, j30, j33, j35, j36, j37, j38, j41, j42, j45, j47, j48, j49, j50, j53, j54, j57, j58, j59, j61, j64, j67, j69, j72, j73, j74, j76, j77, j78, j80, j82, j83, j84, j87, j88, j89, j92, j93, j94, -⟩ := P_Ro_byRounds_14 nl Ln xs
  unfold c_Ro_byRounds_14
  refine s_iload j14 rfl rfl ?_
  refine s_aload_n j16 rfl rfl ?_
  obtain ⟨ho1, h⟩ := h
  refine s_gfI j17 rfl ho1 ?_
  refine s_icn j20 rfl rfl am_cc_ge (fun hc2 => ?_) (fun hc2 => ?_)
  · replace h := h.2 hc2
    refine s_iload j67 rfl rfl ?_
    refine s_ifn j69 rfl rfl am_cc_ne (fun hc13 => ?_) (fun hc13 => ?_)
    · replace h := h.2 hc13
      refine s_lload_n j73 rfl rfl ?_
      refine s_iload j74 rfl rfl ?_
      refine s_g j76 rfl rfl rfl rfl rfl rfl ?_
      obtain ⟨ho14, h⟩ := h
      refine s_ldiv j77 rfl ho14 ?_
      refine s_lstoreV j78 rfl (n := 14) (L' := fun w => [some (am_ov (some this)), some (.long x1), none, some (.long x3), none, some (.int x5), some (.long w), none, x8, x9, x10, x11, x12, x13]) rfl (by decide) (fun _ => rfl) (fun v15 hv16 => ?_)
      replace h := h v15 hv16
      refine s_lload j80 rfl rfl ?_
      refine s_lconst j82 rfl rfl ?_
      refine s_g j83 rfl rfl rfl rfl rfl rfl ?_
      refine s_ifn j84 rfl rfl am_cl_ne (fun hc17 => ?_) (fun hc17 => ?_)
      · replace h := h.2 hc17
        refine s_iconst j93 rfl kc_ic_0 ?_
        refine s_istore j94 rfl (n := 14) (L' := [some (am_ov (some this)), some (.long x1), none, some (.long x3), none, some (.int x5), some (.long v15), none, some (.int (0 : Int32)), x9, x10, x11, x12, x13]) rfl (by decide) rfl ?_
        exact h
      · replace h := h.1 hc17
        refine s_aload_n j87 rfl rfl ?_
        refine s_lload_n j88 rfl rfl ?_
        refine s_virt j89 rfl rfl rfl rfl ho1 (by decide) (in_Ro_cents _ _) (am_r8 rfl) (am_bV h (fun σ18 h hx18 => ?_))
        replace h := h hx18
        exact s_retV j92 rfl h
    · replace h := h.1 hc13
      exact s_retV j72 rfl h
  · replace h := h.1 hc2
    refine s_iload j23 rfl rfl ?_
    refine s_aload_n j25 rfl rfl ?_
    refine s_gfR j26 rfl ho1 ?_
    refine s_aload_n j29 rfl rfl ?_
    refine s_gfR j30 rfl ho1 ?_
    refine s_iload j33 rfl rfl ?_
    obtain ⟨ho3, h⟩ := h
    refine s_iaload j35 rfl ho3 ?_
    obtain ⟨ho4, h⟩ := h
    refine s_laload j36 rfl ho4 ?_
    refine s_aload_n j37 rfl rfl ?_
    refine s_gfR j38 rfl ho1 ?_
    refine s_aload_n j41 rfl rfl ?_
    refine s_gfR j42 rfl ho1 ?_
    refine s_iload j45 rfl rfl ?_
    obtain ⟨ho5, h⟩ := h
    refine s_iaload j47 rfl ho5 ?_
    obtain ⟨ho6, h⟩ := h
    refine s_laload j48 rfl ho6 ?_
    refine s_g j49 rfl rfl rfl rfl rfl rfl ?_
    have K8 : ∀ (w9 : Int32), w9 = (if (am_aL σ ((am_fR σ 13082 this).getD 0) (am_aI σ ((am_fR σ 13083 this).getD 0) x6.toNatClampNeg).toNatClampNeg) < (am_aL σ ((am_fR σ 13081 this).getD 0) (am_aI σ ((am_fR σ 13083 this).getD 0) x6.toNatClampNeg).toNatClampNeg) then (1 : Int32) else 0) → am_C (TT nl Ln xs) (d + 1) 251 58 [some (am_ov (some this)), some (.long x1), none, some (.long x3), none, some (.int x5), some (.int x6), x7, x8, x9, x10, x11, x12, x13] [.int w9, .int x5] σ (am_qV F) := by
      intro w9 hw10
      subst hw10
      refine s_g j58 rfl rfl rfl rfl rfl rfl ?_
      refine s_istoreV j59 rfl (n := 14) (L' := fun w => [some (am_ov (some this)), some (.long x1), none, some (.long x3), none, some (.int w), some (.int x6), x7, x8, x9, x10, x11, x12, x13]) rfl (by decide) (fun _ => rfl) (fun v11 hv12 => ?_)
      replace h := h v11 hv12
      refine s_iinc (L' := [some (am_ov (some this)), some (.long x1), none, some (.long x3), none, some (.int v11), some (.int (x6 + (1 : Int32))), x7, x8, x9, x10, x11, x12, x13]) j61 rfl rfl kc_ic_1 rfl ?_
      refine s_goto j64 rfl rfl ?_
      exact h
    refine s_ifn j50 rfl rfl am_cl_ge (fun hc7 => ?_) (fun hc7 => ?_)
    · refine s_iconst j57 rfl kc_ic_0 ?_
      exact K8 _ (am_e0 (Iff.trans Iff.rfl (am_p10 hc7)))
    · refine s_iconst j53 rfl kc_ic_1 ?_
      refine s_goto j54 rfl rfl ?_
      exact K8 _ (am_e1 (Iff.trans Iff.rfl (am_p9 hc7)))
theorem P_Ro_byRounds_96 (nl : Bool) (Ln : Nat) (xs : Nat → Int32) : am_Jl (TT nl Ln xs) 251 [(96, .iload 8, 98, []), (98, .aload_n 0, 99, []), (99, .getfield 426, 102, [9, 13, 84, 0]), (102, .if_icmp .ge 69, 105, []), (105, .aload_n 0, 106, []), (106, .getfield 185, 109, [9, 13, 83, 2]), (109, .iload 8, 111, []), (111, .iaload, 112, []), (112, .istore 9, 114, []), (114, .aload_n 0, 115, []), (115, .getfield 179, 118, [9, 13, 81, 2]), (118, .iload 9, 120, []), (120, .laload, 121, []), (121, .aload_n 0, 122, []), (122, .getfield 182, 125, [9, 13, 82, 2]), (125, .iload 9, 127, []), (127, .laload, 128, []), (128, .lsub, 129, []), (129, .lstore 10, 131, []), (131, .lload 10, 133, []), (133, .lload 6, 135, []), (135, .lcmp, 136, []), (136, .ifCond .ge 8, 139, []), (139, .lload 10, 141, []), (141, .goto 5, 144, []), (144, .lload 6, 146, []), (171, .goto (-169), 174, [])] := dk_ck (by decide +kernel)
set_option maxRecDepth 4096 in
theorem w_Ro_byRounds_96 {nl : Bool} {Ln : Nat} {xs : Nat → Int32} {d : Nat} {this : Nat} {x1 : Int64} {x3 : Int64} {x5 : Int32} {x6 : Int64} {x8 : Int32} {x9 : Option Value} {x10 : Option Value} {x11 : Option Value} {x12 : Option Value} {x13 : Option Value} {σ : am_S} {F : am_S → Prop} (h : (am_is σ (some this) 13) ∧ (x8 < (am_fI σ 13084 this) → (am_ar σ 1000 (am_fR σ 13083 this) x8) ∧ ∀ v4 : Int32, v4 = (am_aI σ ((am_fR σ 13083 this).getD 0) x8.toNatClampNeg) → (am_ar σ 1001 (am_fR σ 13081 this) v4) ∧ (am_ar σ 1001 (am_fR σ 13082 this) v4) ∧ ∀ v8 : Int64, v8 = ((am_aL σ ((am_fR σ 13081 this).getD 0) v4.toNatClampNeg) - (am_aL σ ((am_fR σ 13082 this).getD 0) v4.toNatClampNeg)) → ∀ w12 : Int64, w12 = (if v8 < x6 then v8 else x6) → c_Ro_byRounds_146 nl Ln xs (d + 1) this x1 x3 x5 x6 x8 v4 v8 x12 x13 w12 σ F) ∧ (¬ (x8 < (am_fI σ 13084 this)) → c_Ro_byRounds_2 nl Ln xs (d + 1) this x1 x3 (some (.int x5)) (some (.long x6)) none (some (.int x8)) x9 x10 x11 x12 x13 σ F)) : c_Ro_byRounds_96 nl Ln xs (d + 1) this x1 x3 x5 x6 x8 x9 x10 x11 x12 x13 σ F := by
  obtain ⟨j96, j98, j99, j102, j105, j106, j109, j111, j112, j114, j115, j118, j120, j121, j122, j125, j127, j128, j129, j131, j133, j135, j136, j139, j141, j144, j171, -⟩ := P_Ro_byRounds_96 nl Ln xs
  unfold c_Ro_byRounds_96
  refine s_iload j96 rfl rfl ?_
  refine s_aload_n j98 rfl rfl ?_
  obtain ⟨ho1, h⟩ := h
  refine s_gfI j99 rfl ho1 ?_
  refine s_icn j102 rfl rfl am_cc_ge (fun hc2 => ?_) (fun hc2 => ?_)
  · replace h := h.2 hc2
    refine s_goto j171 rfl rfl ?_
    exact h
  · replace h := h.1 hc2
    refine s_aload_n j105 rfl rfl ?_
    refine s_gfR j106 rfl ho1 ?_
    refine s_iload j109 rfl rfl ?_
    obtain ⟨ho3, h⟩ := h
    refine s_iaload j111 rfl ho3 ?_
    refine s_istoreV j112 rfl (n := 14) (L' := fun w => [some (am_ov (some this)), some (.long x1), none, some (.long x3), none, some (.int x5), some (.long x6), none, some (.int x8), some (.int w), x10, x11, x12, x13]) rfl (by decide) (fun _ => rfl) (fun v4 hv5 => ?_)
    replace h := h v4 hv5
    refine s_aload_n j114 rfl rfl ?_
    refine s_gfR j115 rfl ho1 ?_
    refine s_iload j118 rfl rfl ?_
    obtain ⟨ho6, h⟩ := h
    refine s_laload j120 rfl ho6 ?_
    refine s_aload_n j121 rfl rfl ?_
    refine s_gfR j122 rfl ho1 ?_
    refine s_iload j125 rfl rfl ?_
    obtain ⟨ho7, h⟩ := h
    refine s_laload j127 rfl ho7 ?_
    refine s_g j128 rfl rfl rfl rfl rfl rfl ?_
    refine s_lstoreV j129 rfl (n := 14) (L' := fun w => [some (am_ov (some this)), some (.long x1), none, some (.long x3), none, some (.int x5), some (.long x6), none, some (.int x8), some (.int v4), some (.long w), none, x12, x13]) rfl (by decide) (fun _ => rfl) (fun v8 hv9 => ?_)
    replace h := h v8 hv9
    refine s_lload j131 rfl rfl ?_
    refine s_lload j133 rfl rfl ?_
    refine s_g j135 rfl rfl rfl rfl rfl rfl ?_
    have K11 : ∀ (w12 : Int64), w12 = (if v8 < x6 then v8 else x6) → am_C (TT nl Ln xs) (d + 1) 251 146 [some (am_ov (some this)), some (.long x1), none, some (.long x3), none, some (.int x5), some (.long x6), none, some (.int x8), some (.int v4), some (.long v8), none, x12, x13] [.long w12] σ (am_qV F) := by
      intro w12 hw13
      replace h := h w12 hw13
      exact h
    refine s_ifn j136 rfl rfl am_cl_ge (fun hc10 => ?_) (fun hc10 => ?_)
    · refine s_lload j144 rfl rfl ?_
      exact K11 _ (am_t2 hc10 rfl)
    · refine s_lload j139 rfl rfl ?_
      refine s_goto j141 rfl rfl ?_
      exact K11 _ (am_t1 hc10 rfl)
theorem P_Ro_byRounds_146 (nl : Bool) (Ln : Nat) (xs : Nat → Int32) : am_Jl (TT nl Ln xs) 251 [(146, .lstore 12, 148, []), (148, .aload_n 0, 149, []), (149, .getfield 182, 152, [9, 13, 82, 2]), (152, .iload 9, 154, []), (154, .dup2, 155, []), (155, .laload, 156, []), (156, .lload 12, 158, []), (158, .ladd, 159, []), (159, .lastore, 160, []), (160, .lload_n 3, 161, []), (161, .lload 12, 163, []), (163, .lsub, 164, []), (164, .lstore_n 3, 165, []), (165, .iinc 8 1, 168, []), (168, .goto (-72), 171, [])] := dk_ck (by decide +kernel)
set_option maxRecDepth 4096 in
theorem w_Ro_byRounds_146 {nl : Bool} {Ln : Nat} {xs : Nat → Int32} {d : Nat} {this : Nat} {x1 : Int64} {x3 : Int64} {x5 : Int32} {x6 : Int64} {x8 : Int32} {x9 : Int32} {x10 : Int64} {x12 : Option Value} {x13 : Option Value} {y0 : Int64} {σ : am_S} {F : am_S → Prop} (h : (am_is σ (some this) 13) ∧ (am_ar σ 1001 (am_fR σ 13082 this) x9) ∧ (am_ar σ 1001 (am_fR σ 13082 this) x9) ∧ ∀ σ4, σ4 = am_saL σ ((am_fR σ 13082 this).getD 0) x9.toNatClampNeg ((am_aL σ ((am_fR σ 13082 this).getD 0) x9.toNatClampNeg) + y0) → ∀ v7 : Int64, v7 = (x3 - y0) → c_Ro_byRounds_96 nl Ln xs (d + 1) this x1 v7 x5 x6 (x8 + (1 : Int32)) (some (.int x9)) (some (.long x10)) none (some (.long y0)) none σ4 F) : c_Ro_byRounds_146 nl Ln xs (d + 1) this x1 x3 x5 x6 x8 x9 x10 x12 x13 y0 σ F := by
  obtain ⟨j146, j148, j149, j152, j154, j155, j156, j158, j159, j160, j161, j163, j164, j165, j168, -⟩ := P_Ro_byRounds_146 nl Ln xs
  unfold c_Ro_byRounds_146
  refine s_lstore j146 rfl (n := 14) (L' := [some (am_ov (some this)), some (.long x1), none, some (.long x3), none, some (.int x5), some (.long x6), none, some (.int x8), some (.int x9), some (.long x10), none, some (.long y0), none]) rfl (by decide) rfl ?_
  refine s_aload_n j148 rfl rfl ?_
  obtain ⟨ho1, h⟩ := h
  refine s_gfR j149 rfl ho1 ?_
  refine s_iload j152 rfl rfl ?_
  refine s_dup2 j154 rfl (am_cov _) ?_
  obtain ⟨ho2, h⟩ := h
  refine s_laload j155 rfl ho2 ?_
  refine s_lload j156 rfl rfl ?_
  refine s_g j158 rfl rfl rfl rfl rfl rfl ?_
  obtain ⟨ho3, h⟩ := h
  refine s_lastore j159 rfl ho3 (fun σ4 e5 => ?_)
  replace h := h σ4 e5
  have ek6 : am_kd σ4 = am_kd σ := by rw [e5]
  refine s_lload_n j160 rfl rfl ?_
  refine s_lload j161 rfl rfl ?_
  refine s_g j163 rfl rfl rfl rfl rfl rfl ?_
  refine s_lstore_nV j164 rfl (n := 14) (L' := fun w => [some (am_ov (some this)), some (.long x1), none, some (.long w), none, some (.int x5), some (.long x6), none, some (.int x8), some (.int x9), some (.long x10), none, some (.long y0), none]) rfl (by decide) (fun _ => rfl) (fun v7 hv8 => ?_)
  replace h := h v7 hv8
  refine s_iinc (L' := [some (am_ov (some this)), some (.long x1), none, some (.long v7), none, some (.int x5), some (.long x6), none, some (.int (x8 + (1 : Int32))), some (.int x9), some (.long x10), none, some (.long y0), none]) j165 rfl rfl kc_ic_1 rfl ?_
  refine s_goto j168 rfl rfl ?_
  exact h
theorem P_Ro_byRanks (nl : Bool) (Ln : Nat) (xs : Nat → Int32) : am_Jl (TT nl Ln xs) 252 [(0, .lload_n 1, 1, []), (1, .lstore_n 3, 2, []), (2, .iconst 0, 3, []), (3, .istore 5, 5, [])] := dk_ck (by decide +kernel)
set_option maxRecDepth 4096 in
theorem w_Ro_byRanks {nl : Bool} {Ln : Nat} {xs : Nat → Int32} {d : Nat} {this : Nat} {p0 : Int64} {σ : am_S} {F : am_S → Prop} (h : c_Ro_byRanks_5 nl Ln xs (d + 1) this p0 p0 (0 : Int32) none σ F) : k_Ro_byRanks nl Ln xs (d + 1) this p0 σ F := by
  obtain ⟨j0, j1, j2, j3, -⟩ := P_Ro_byRanks nl Ln xs
  have elo : am_lo 7 [am_ov (some this), .long p0] = [some (am_ov (some this)), some (.long p0), none, none, none, none, none] := by simp only [am_lo, am_in_ov, am_in_int, am_in_long, am_in_nil]; rfl
  unfold k_Ro_byRanks
  rw [elo]
  refine s_lload_n j0 rfl rfl ?_
  refine s_lstore_n j1 rfl (n := 7) (L' := [some (am_ov (some this)), some (.long p0), none, some (.long p0), none, none, none]) rfl (by decide) rfl ?_
  refine s_iconst j2 rfl kc_ic_0 ?_
  refine s_istore j3 rfl (n := 7) (L' := [some (am_ov (some this)), some (.long p0), none, some (.long p0), none, some (.int (0 : Int32)), none]) rfl (by decide) rfl ?_
  exact h
theorem P_Ro_byRanks_5 (nl : Bool) (Ln : Nat) (xs : Nat → Int32) : am_Jl (TT nl Ln xs) 252 [(5, .iload 5, 7, []), (7, .aload_n 0, 8, []), (8, .getfield 426, 11, [9, 13, 84, 0]), (11, .if_icmp .ge 58, 14, []), (14, .aload_n 0, 15, []), (15, .getfield 185, 18, [9, 13, 83, 2]), (18, .iload 5, 20, []), (20, .iaload, 21, []), (21, .istore 6, 23, []), (23, .aload_n 0, 24, []), (24, .getfield 182, 27, [9, 13, 82, 2]), (27, .iload 6, 29, []), (29, .aload_n 0, 30, []), (30, .getfield 179, 33, [9, 13, 81, 2]), (33, .iload 6, 35, []), (35, .laload, 36, []), (36, .lload_n 3, 37, []), (37, .lcmp, 38, []), (38, .ifCond .ge 13, 41, []), (41, .aload_n 0, 42, []), (42, .getfield 179, 45, [9, 13, 81, 2]), (45, .iload 6, 47, []), (47, .laload, 48, []), (48, .goto 4, 51, []), (51, .lload_n 3, 52, []), (52, .lastore, 53, []), (53, .lload_n 3, 54, []), (54, .aload_n 0, 55, []), (55, .getfield 182, 58, [9, 13, 82, 2]), (58, .iload 6, 60, []), (60, .laload, 61, []), (61, .lsub, 62, []), (62, .lstore_n 3, 63, []), (63, .iinc 5 1, 66, []), (66, .goto (-61), 69, []), (69, .return_, 70, [0])] := dk_ck (by decide +kernel)
set_option maxRecDepth 4096 in
theorem w_Ro_byRanks_5 {nl : Bool} {Ln : Nat} {xs : Nat → Int32} {d : Nat} {this : Nat} {x1 : Int64} {x3 : Int64} {x5 : Int32} {x6 : Option Value} {σ : am_S} {F : am_S → Prop} (h : (am_is σ (some this) 13) ∧ (x5 < (am_fI σ 13084 this) → (am_ar σ 1000 (am_fR σ 13083 this) x5) ∧ ∀ v4 : Int32, v4 = (am_aI σ ((am_fR σ 13083 this).getD 0) x5.toNatClampNeg) → (am_ar σ 1001 (am_fR σ 13081 this) v4) ∧ (((am_aL σ ((am_fR σ 13081 this).getD 0) v4.toNatClampNeg) < x3) → am_ar σ 1001 (am_fR σ 13081 this) v4) ∧ ∀ w10 : Int64, w10 = (if (am_aL σ ((am_fR σ 13081 this).getD 0) v4.toNatClampNeg) < x3 then (am_aL σ ((am_fR σ 13081 this).getD 0) v4.toNatClampNeg) else x3) → (am_ar σ 1001 (am_fR σ 13082 this) v4) ∧ ∀ σ13, σ13 = am_saL σ ((am_fR σ 13082 this).getD 0) v4.toNatClampNeg w10 → (am_ar σ13 1001 (am_fR σ13 13082 this) v4) ∧ ∀ v17 : Int64, v17 = (x3 - (am_aL σ13 ((am_fR σ13 13082 this).getD 0) v4.toNatClampNeg)) → c_Ro_byRanks_5 nl Ln xs (d + 1) this x1 v17 (x5 + (1 : Int32)) (some (.int v4)) σ13 F) ∧ (¬ (x5 < (am_fI σ 13084 this)) → F σ)) : c_Ro_byRanks_5 nl Ln xs (d + 1) this x1 x3 x5 x6 σ F := by
  obtain ⟨j5, j7, j8, j11, j14, j15, j18, j20, j21, j23, j24, j27, j29, j30, j33, j35, j36, j37, j38, j41, j42, j45, j47, j48, j51, j52, j53, j54, j55, j58, j60, j61, j62, j63, j66, j69, -⟩ := P_Ro_byRanks_5 nl Ln xs
  unfold c_Ro_byRanks_5
  refine s_iload j5 rfl rfl ?_
  refine s_aload_n j7 rfl rfl ?_
  obtain ⟨ho1, h⟩ := h
  refine s_gfI j8 rfl ho1 ?_
  refine s_icn j11 rfl rfl am_cc_ge (fun hc2 => ?_) (fun hc2 => ?_)
  · replace h := h.2 hc2
    exact s_retV j69 rfl h
  · replace h := h.1 hc2
    refine s_aload_n j14 rfl rfl ?_
    refine s_gfR j15 rfl ho1 ?_
    refine s_iload j18 rfl rfl ?_
    obtain ⟨ho3, h⟩ := h
    refine s_iaload j20 rfl ho3 ?_
    refine s_istoreV j21 rfl (n := 7) (L' := fun w => [some (am_ov (some this)), some (.long x1), none, some (.long x3), none, some (.int x5), some (.int w)]) rfl (by decide) (fun _ => rfl) (fun v4 hv5 => ?_)
    replace h := h v4 hv5
    refine s_aload_n j23 rfl rfl ?_
    refine s_gfR j24 rfl ho1 ?_
    refine s_iload j27 rfl rfl ?_
    refine s_aload_n j29 rfl rfl ?_
    refine s_gfR j30 rfl ho1 ?_
    refine s_iload j33 rfl rfl ?_
    obtain ⟨ho6, h⟩ := h
    refine s_laload j35 rfl ho6 ?_
    refine s_lload_n j36 rfl rfl ?_
    refine s_g j37 rfl rfl rfl rfl rfl rfl ?_
    obtain ⟨ho8, h⟩ := h
    have K9 : ∀ (w10 : Int64), w10 = (if (am_aL σ ((am_fR σ 13081 this).getD 0) v4.toNatClampNeg) < x3 then (am_aL σ ((am_fR σ 13081 this).getD 0) v4.toNatClampNeg) else x3) → am_C (TT nl Ln xs) (d + 1) 252 52 [some (am_ov (some this)), some (.long x1), none, some (.long x3), none, some (.int x5), some (.int v4)] [.long w10, .int v4, am_ov (am_fR σ 13082 this)] σ (am_qV F) := by
      intro w10 hw11
      replace h := h w10 hw11
      obtain ⟨ho12, h⟩ := h
      refine s_lastore j52 rfl ho12 (fun σ13 e14 => ?_)
      replace h := h σ13 e14
      have ek15 : am_kd σ13 = am_kd σ := by rw [e14]
      refine s_lload_n j53 rfl rfl ?_
      refine s_aload_n j54 rfl rfl ?_
      refine s_gfR j55 rfl (am_is_kd ek15 ho1) ?_
      refine s_iload j58 rfl rfl ?_
      obtain ⟨ho16, h⟩ := h
      refine s_laload j60 rfl ho16 ?_
      refine s_g j61 rfl rfl rfl rfl rfl rfl ?_
      refine s_lstore_nV j62 rfl (n := 7) (L' := fun w => [some (am_ov (some this)), some (.long x1), none, some (.long w), none, some (.int x5), some (.int v4)]) rfl (by decide) (fun _ => rfl) (fun v17 hv18 => ?_)
      replace h := h v17 hv18
      refine s_iinc (L' := [some (am_ov (some this)), some (.long x1), none, some (.long v17), none, some (.int (x5 + (1 : Int32))), some (.int v4)]) j63 rfl rfl kc_ic_1 rfl ?_
      refine s_goto j66 rfl rfl ?_
      exact h
    refine s_ifn j38 rfl rfl am_cl_ge (fun hc7 => ?_) (fun hc7 => ?_)
    · refine s_lload_n j51 rfl rfl ?_
      exact K9 _ (am_t2 hc7 rfl)
    · refine s_aload_n j41 rfl rfl ?_
      refine s_gfR j42 rfl ho1 ?_
      refine s_iload j45 rfl rfl ?_
      refine s_laload j47 rfl (ho8 hc7) ?_
      refine s_goto j48 rfl rfl ?_
      exact K9 _ (am_t1 hc7 rfl)
theorem P_Ro_laid (nl : Bool) (Ln : Nat) (xs : Nat → Int32) : am_Jl (TT nl Ln xs) 253 [(0, .aload_n 0, 1, []), (1, .getfield 305, 4, [9, 13, 68, 0]), (4, .istore 5, 6, []), (6, .aload_n 0, 7, []), (7, .getfield 351, 10, [9, 13, 70, 0]), (10, .istore 6, 12, []), (12, .aload_n 0, 13, []), (13, .getfield 371, 16, [9, 13, 71, 0]), (16, .istore 7, 18, []), (18, .aload_n 0, 19, []), (19, .aload_n 0, 20, []), (20, .getfield 305, 23, [9, 13, 68, 0]), (23, .invokevirtual 464, 26, [10, 254, 14, 2, 2]), (26, .istore 8, 28, []), (28, .aload_n 0, 29, []), (29, .getfield 295, 32, [9, 13, 77, 1]), (32, .lstore 9, 34, []), (34, .aload_n 0, 35, []), (35, .getfield 272, 38, [9, 13, 78, 1]), (38, .lstore 11, 40, []), (40, .aload_n 0, 41, []), (41, .invokevirtual 467, 44, [10, 255, 14, 3, 1]), (44, .bipush 11, 46, []), (46, .if_icmp .ne 7, 49, []), (49, .iconst 1, 50, []), (50, .goto 4, 53, []), (53, .iconst 0, 54, []), (54, .istore 13, 56, []), (56, .aload_n 0, 57, []), (57, .getfield 3, 60, [9, 13, 99, 2]), (60, .getfield 276, 63, [9, 12, 15, 3]), (63, .istore 14, 65, []), (65, .iconst 0, 66, []), (66, .istore 15, 68, []), (68, .aload_n 0, 69, []), (69, .getfield 3, 72, [9, 13, 99, 2]), (72, .iconst 0, 73, []), (73, .putfield 276, 76, [9, 12, 15, 3]), (76, .iconst 0, 77, []), (77, .istore 16, 79, [])] := dk_ck (by decide +kernel)
set_option maxRecDepth 4096 in
theorem w_Ro_laid {nl : Bool} {Ln : Nat} {xs : Nat → Int32} {d : Nat} {this : Nat} {p0 : Int64} {p1 : Int64} {σ : am_S} {F : am_S → Prop} (h : (am_is σ (some this) 13) ∧ ∀ v2 : Int32, v2 = (am_fI σ 13068 this) → ∀ v4 : Int32, v4 = (am_fI σ 13070 this) → ∀ v6 : Int32, v6 = (am_fI σ 13071 this) → k_Ro_lossYear nl Ln xs d this (am_fI σ 13068 this) σ (fun a9 σ8 => am_ext σ σ8 → ∀ v10 : Int64, v10 = (am_fL σ8 13077 this) → ∀ v12 : Int64, v12 = (am_fL σ8 13078 this) → k_Ro_lastBy nl Ln xs d this σ8 (fun a15 σ14 => am_ext σ8 σ14 → (am_is σ14 (am_fR σ14 13099 this) 12) ∧ ∀ v21 : Int32, v21 = (am_fI σ14 12015 ((am_fR σ14 13099 this).getD 0)) → ∀ σ23, σ23 = am_sfI σ14 12015 ((am_fR σ14 13099 this).getD 0) (0 : Int32) → c_Ro_laid_79 nl Ln xs (d + 1) this p0 p1 v2 v4 v6 a9 v10 v12 (if a15 = (11 : Int32) then (1 : Int32) else 0) v21 (0 : Int32) (0 : Int32) σ23 F))) : k_Ro_laid nl Ln xs (d + 1) this p0 p1 σ F := by
  obtain ⟨j0, j1, j4, j6, j7, j10, j12, j13, j16, j18, j19, j20, j23, j26, j28, j29, j32, j34, j35, j38, j40, j41, j44, j46, j49, j50, j53, j54, j56, j57, j60, j63, j65, j66, j68, j69, j72, j73, j76, j77, -⟩ := P_Ro_laid nl Ln xs
  have elo : am_lo 27 [am_ov (some this), .long p0, .long p1] = [some (am_ov (some this)), some (.long p0), none, some (.long p1), none, none, none, none, none, none, none, none, none, none, none, none, none, none, none, none, none, none, none, none, none, none, none] := by simp only [am_lo, am_in_ov, am_in_int, am_in_long, am_in_nil]; rfl
  unfold k_Ro_laid
  rw [elo]
  refine s_aload_n j0 rfl rfl ?_
  obtain ⟨ho1, h⟩ := h
  refine s_gfI j1 rfl ho1 ?_
  refine s_istoreV j4 rfl (n := 27) (L' := fun w => [some (am_ov (some this)), some (.long p0), none, some (.long p1), none, some (.int w), none, none, none, none, none, none, none, none, none, none, none, none, none, none, none, none, none, none, none, none, none]) rfl (by decide) (fun _ => rfl) (fun v2 hv3 => ?_)
  replace h := h v2 hv3
  refine s_aload_n j6 rfl rfl ?_
  refine s_gfI j7 rfl ho1 ?_
  refine s_istoreV j10 rfl (n := 27) (L' := fun w => [some (am_ov (some this)), some (.long p0), none, some (.long p1), none, some (.int v2), some (.int w), none, none, none, none, none, none, none, none, none, none, none, none, none, none, none, none, none, none, none, none]) rfl (by decide) (fun _ => rfl) (fun v4 hv5 => ?_)
  replace h := h v4 hv5
  refine s_aload_n j12 rfl rfl ?_
  refine s_gfI j13 rfl ho1 ?_
  refine s_istoreV j16 rfl (n := 27) (L' := fun w => [some (am_ov (some this)), some (.long p0), none, some (.long p1), none, some (.int v2), some (.int v4), some (.int w), none, none, none, none, none, none, none, none, none, none, none, none, none, none, none, none, none, none, none]) rfl (by decide) (fun _ => rfl) (fun v6 hv7 => ?_)
  replace h := h v6 hv7
  refine s_aload_n j18 rfl rfl ?_
  refine s_aload_n j19 rfl rfl ?_
  refine s_gfI j20 rfl ho1 ?_
  refine s_virt j23 rfl rfl rfl rfl ho1 (by decide) (in_Ro_lossYear _ _) (am_r8 rfl) (am_bI h (fun a9 σ8 h hx8 => ?_))
  replace h := h hx8
  refine s_istore j26 rfl (n := 27) (L' := [some (am_ov (some this)), some (.long p0), none, some (.long p1), none, some (.int v2), some (.int v4), some (.int v6), some (.int a9), none, none, none, none, none, none, none, none, none, none, none, none, none, none, none, none, none, none]) rfl (by decide) rfl ?_
  refine s_aload_n j28 rfl rfl ?_
  refine s_gfL j29 rfl (am_is_ext hx8 ho1) ?_
  refine s_lstoreV j32 rfl (n := 27) (L' := fun w => [some (am_ov (some this)), some (.long p0), none, some (.long p1), none, some (.int v2), some (.int v4), some (.int v6), some (.int a9), some (.long w), none, none, none, none, none, none, none, none, none, none, none, none, none, none, none, none, none]) rfl (by decide) (fun _ => rfl) (fun v10 hv11 => ?_)
  replace h := h v10 hv11
  refine s_aload_n j34 rfl rfl ?_
  refine s_gfL j35 rfl (am_is_ext hx8 ho1) ?_
  refine s_lstoreV j38 rfl (n := 27) (L' := fun w => [some (am_ov (some this)), some (.long p0), none, some (.long p1), none, some (.int v2), some (.int v4), some (.int v6), some (.int a9), some (.long v10), none, some (.long w), none, none, none, none, none, none, none, none, none, none, none, none, none, none, none]) rfl (by decide) (fun _ => rfl) (fun v12 hv13 => ?_)
  replace h := h v12 hv13
  refine s_aload_n j40 rfl rfl ?_
  refine s_virt j41 rfl rfl rfl rfl (am_is_ext hx8 ho1) (by decide) (in_Ro_lastBy _) (am_r8 rfl) (am_bI h (fun a15 σ14 h hx14 => ?_))
  replace h := h hx14
  refine s_bipush j44 rfl kc_bi_11 ?_
  have K17 : ∀ (w18 : Int32), w18 = (if a15 = (11 : Int32) then (1 : Int32) else 0) → am_C (TT nl Ln xs) (d + 1) 253 54 [some (am_ov (some this)), some (.long p0), none, some (.long p1), none, some (.int v2), some (.int v4), some (.int v6), some (.int a9), some (.long v10), none, some (.long v12), none, none, none, none, none, none, none, none, none, none, none, none, none, none, none] [.int w18] σ14 (am_qV F) := by
    intro w18 hw19
    subst hw19
    refine s_istore j54 rfl (n := 27) (L' := [some (am_ov (some this)), some (.long p0), none, some (.long p1), none, some (.int v2), some (.int v4), some (.int v6), some (.int a9), some (.long v10), none, some (.long v12), none, some (.int (if a15 = (11 : Int32) then (1 : Int32) else 0)), none, none, none, none, none, none, none, none, none, none, none, none, none]) rfl (by decide) rfl ?_
    refine s_aload_n j56 rfl rfl ?_
    refine s_gfR j57 rfl (am_is_ext hx14 (am_is_ext hx8 ho1)) ?_
    obtain ⟨ho20, h⟩ := h
    refine s_gfZ j60 rfl ho20 ?_
    refine s_istoreV j63 rfl (n := 27) (L' := fun w => [some (am_ov (some this)), some (.long p0), none, some (.long p1), none, some (.int v2), some (.int v4), some (.int v6), some (.int a9), some (.long v10), none, some (.long v12), none, some (.int (if a15 = (11 : Int32) then (1 : Int32) else 0)), some (.int w), none, none, none, none, none, none, none, none, none, none, none, none]) rfl (by decide) (fun _ => rfl) (fun v21 hv22 => ?_)
    replace h := h v21 hv22
    refine s_iconst j65 rfl kc_ic_0 ?_
    refine s_istore j66 rfl (n := 27) (L' := [some (am_ov (some this)), some (.long p0), none, some (.long p1), none, some (.int v2), some (.int v4), some (.int v6), some (.int a9), some (.long v10), none, some (.long v12), none, some (.int (if a15 = (11 : Int32) then (1 : Int32) else 0)), some (.int v21), some (.int (0 : Int32)), none, none, none, none, none, none, none, none, none, none, none]) rfl (by decide) rfl ?_
    refine s_aload_n j68 rfl rfl ?_
    refine s_gfR j69 rfl (am_is_ext hx14 (am_is_ext hx8 ho1)) ?_
    refine s_iconst j72 rfl kc_ic_0 ?_
    refine s_pfZ j73 rfl ho20 (Or.inl rfl) (fun σ23 e24 => ?_)
    replace h := h σ23 e24
    have ek25 : am_kd σ23 = am_kd σ14 := by rw [e24]
    refine s_iconst j76 rfl kc_ic_0 ?_
    refine s_istore j77 rfl (n := 27) (L' := [some (am_ov (some this)), some (.long p0), none, some (.long p1), none, some (.int v2), some (.int v4), some (.int v6), some (.int a9), some (.long v10), none, some (.long v12), none, some (.int (if a15 = (11 : Int32) then (1 : Int32) else 0)), some (.int v21), some (.int (0 : Int32)), some (.int (0 : Int32)), none, none, none, none, none, none, none, none, none, none]) rfl (by decide) rfl ?_
    exact h
  refine s_icn j46 rfl rfl am_cc_ne (fun hc16 => ?_) (fun hc16 => ?_)
  · refine s_iconst j53 rfl kc_ic_0 ?_
    exact K17 _ (am_e0 (Iff.trans Iff.rfl (am_p10 hc16)))
  · refine s_iconst j49 rfl kc_ic_1 ?_
    refine s_goto j50 rfl rfl ?_
    exact K17 _ (am_e1 (Iff.trans Iff.rfl (am_p9 hc16)))
theorem P_Ro_laid_79 (nl : Bool) (Ln : Nat) (xs : Nat → Int32) : am_Jl (TT nl Ln xs) 253 [(79, .iload 16, 81, []), (81, .aload_n 0, 82, []), (82, .getfield 237, 85, [9, 13, 45, 0]), (85, .if_icmp .ge 116, 88, []), (88, .aload_n 0, 89, []), (89, .getfield 135, 92, [9, 13, 50, 2]), (92, .iload 16, 94, []), (94, .iaload, 95, []), (95, .aload_n 0, 96, []), (96, .getfield 311, 99, [9, 13, 73, 0]), (99, .if_icmp .gt 96, 102, []), (102, .aload_n 0, 103, []), (103, .getfield 132, 106, [9, 13, 49, 2]), (106, .iload 16, 108, []), (108, .iaload, 109, []), (109, .aload_n 0, 110, []), (110, .getfield 308, 113, [9, 13, 72, 0]), (113, .if_icmp .gt 82, 116, []), (116, .aload_n 0, 117, []), (117, .iload 16, 119, []), (119, .invokevirtual 464, 122, [10, 254, 14, 2, 2]), (122, .iload 8, 124, []), (124, .if_icmp .ne 71, 127, []), (127, .aload_n 0, 128, []), (128, .iload 16, 130, []), (130, .aload_n 0, 131, []), (131, .getfield 311, 134, [9, 13, 73, 0]), (134, .invokevirtual 391, 137, [10, 218, 14, 5, 3]), (137, .iload 6, 139, []), (139, .if_icmp .ne 56, 142, []), (142, .aload_n 0, 143, []), (143, .getfield 191, 146, [9, 13, 86, 2]), (146, .iload 16, 148, []), (148, .lload 9, 150, []), (150, .lastore, 151, []), (151, .iload 16, 153, []), (153, .iload 5, 155, []), (155, .if_icmp .eq 28, 158, []), (158, .aload_n 0, 159, []), (159, .iload 16, 161, []), (161, .aload_n 0, 162, []), (162, .getfield 308, 165, [9, 13, 72, 0]), (165, .aload_n 0, 166, []), (166, .getfield 311, 169, [9, 13, 73, 0]), (169, .invokevirtual 451, 172, [10, 217, 14, 7, 4]), (172, .aload_n 0, 173, []), (173, .getfield 191, 176, [9, 13, 86, 2]), (176, .iload 16, 178, []), (178, .aload_n 0, 179, []), (179, .getfield 295, 182, [9, 13, 77, 1]), (182, .lastore, 183, []), (195, .iinc 16 1, 198, []), (198, .goto (-119), 201, []), (201, .aload_n 0, 202, []), (202, .getfield 3, 205, [9, 13, 99, 2]), (205, .iload 14, 207, []), (207, .putfield 276, 210, [9, 12, 15, 3]), (210, .aload_n 0, 211, []), (211, .iload 5, 213, []), (213, .putfield 305, 216, [9, 13, 68, 0]), (216, .aload_n 0, 217, []), (217, .aload_n 0, 218, []), (218, .getfield 129, 221, [9, 13, 48, 2]), (221, .aload_n 0, 222, []), (222, .getfield 305, 225, [9, 13, 68, 0]), (225, .iaload, 226, []), (226, .putfield 298, 229, [9, 13, 69, 0]), (229, .aload_n 0, 230, []), (230, .iload 6, 232, []), (232, .putfield 351, 235, [9, 13, 70, 0]), (235, .aload_n 0, 236, []), (236, .iload 7, 238, []), (238, .putfield 371, 241, [9, 13, 71, 0]), (241, .aload_n 0, 242, []), (242, .iconst 0, 243, []), (243, .putfield 266, 246, [9, 13, 74, 0]), (246, .aload_n 0, 247, []), (247, .iconst 0, 248, []), (248, .putfield 368, 251, [9, 13, 75, 3]), (251, .aload_n 0, 252, []), (252, .lload 9, 254, []), (254, .putfield 295, 257, [9, 13, 77, 1]), (257, .aload_n 0, 258, []), (258, .lload 11, 260, []), (260, .putfield 272, 263, [9, 13, 78, 1]), (263, .lload_n 1, 264, []), (264, .ldc2_w 256, 267, [6, 18446744073709551615]), (267, .lcmp, 268, []), (268, .ifCond .ne 7, 271, []), (271, .lconst 0, 272, []), (272, .goto 4, 275, []), (275, .lload_n 1, 276, []), (276, .lstore 16, 278, []), (278, .lload_n 3, 279, []), (279, .lstore 18, 281, []), (281, .iconst 0, 282, []), (282, .istore 20, 284, [])] := dk_ck (by decide +kernel)
set_option maxRecDepth 4096 in
theorem w_Ro_laid_79 {nl : Bool} {Ln : Nat} {xs : Nat → Int32} {d : Nat} {this : Nat} {x1 : Int64} {x3 : Int64} {x5 : Int32} {x6 : Int32} {x7 : Int32} {x8 : Int32} {x9 : Int64} {x11 : Int64} {x13 : Int32} {x14 : Int32} {x15 : Int32} {x16 : Int32} {σ : am_S} {F : am_S → Prop} (h : (am_is σ (some this) 13) ∧ (x16 < (am_fI σ 13045 this) → (am_ar σ 1000 (am_fR σ 13050 this) x16) ∧ ((am_fI σ 13073 this) < (am_aI σ ((am_fR σ 13050 this).getD 0) x16.toNatClampNeg) → c_Ro_laid_79 nl Ln xs (d + 1) this x1 x3 x5 x6 x7 x8 x9 x11 x13 x14 x15 (x16 + (1 : Int32)) σ F) ∧ (¬ ((am_fI σ 13073 this) < (am_aI σ ((am_fR σ 13050 this).getD 0) x16.toNatClampNeg)) → (am_ar σ 1000 (am_fR σ 13049 this) x16) ∧ ((am_fI σ 13072 this) < (am_aI σ ((am_fR σ 13049 this).getD 0) x16.toNatClampNeg) → c_Ro_laid_79 nl Ln xs (d + 1) this x1 x3 x5 x6 x7 x8 x9 x11 x13 x14 x15 (x16 + (1 : Int32)) σ F) ∧ (¬ ((am_fI σ 13072 this) < (am_aI σ ((am_fR σ 13049 this).getD 0) x16.toNatClampNeg)) → k_Ro_lossYear nl Ln xs d this x16 σ (fun a8 σ7 => am_ext σ σ7 → (a8 = x8 → k_Ro_coverOf nl Ln xs d this x16 (am_fI σ7 13073 this) σ7 (fun a11 σ10 => am_ext σ7 σ10 → (a11 = x6 → (am_ar σ10 1001 (am_fR σ10 13086 this) x16) ∧ ∀ σ14, σ14 = am_saL σ10 ((am_fR σ10 13086 this).getD 0) x16.toNatClampNeg x9 → (x16 = x5 → c_Ro_laid_183 nl Ln xs (d + 1) this x1 x3 x5 x6 x7 x8 x9 x11 x13 x14 x15 x16 σ14 F) ∧ (¬ (x16 = x5) → k_Ro_begin nl Ln xs d this x16 (am_fI σ14 13072 this) (am_fI σ14 13073 this) σ14 (fun σ18 => am_ext σ14 σ18 → (am_ar σ18 1001 (am_fR σ18 13086 this) x16) ∧ ∀ σ21, σ21 = am_saL σ18 ((am_fR σ18 13086 this).getD 0) x16.toNatClampNeg (am_fL σ18 13077 this) → c_Ro_laid_183 nl Ln xs (d + 1) this x1 x3 x5 x6 x7 x8 x9 x11 x13 x14 x15 x16 σ21 F))) ∧ (¬ (a11 = x6) → c_Ro_laid_79 nl Ln xs (d + 1) this x1 x3 x5 x6 x7 x8 x9 x11 x13 x14 x15 (x16 + (1 : Int32)) σ10 F))) ∧ (¬ (a8 = x8) → c_Ro_laid_79 nl Ln xs (d + 1) this x1 x3 x5 x6 x7 x8 x9 x11 x13 x14 x15 (x16 + (1 : Int32)) σ7 F))))) ∧ (¬ (x16 < (am_fI σ 13045 this)) → (am_is σ (am_fR σ 13099 this) 12) ∧ (x14 = 0 ∨ x14 = 1) ∧ ∀ σ26, σ26 = am_sfI σ 12015 ((am_fR σ 13099 this).getD 0) x14 → ∀ σ29, σ29 = am_sfI σ26 13068 this x5 → (am_ar σ29 1000 (am_fR σ29 13048 this) (am_fI σ29 13068 this)) ∧ ∀ σ33, σ33 = am_sfI σ29 13069 this (am_aI σ29 ((am_fR σ29 13048 this).getD 0) (am_fI σ29 13068 this).toNatClampNeg) → ∀ σ36, σ36 = am_sfI σ33 13070 this x6 → ∀ σ39, σ39 = am_sfI σ36 13071 this x7 → ∀ σ42, σ42 = am_sfI σ39 13074 this (0 : Int32) → ∀ σ45, σ45 = am_sfI σ42 13075 this (0 : Int32) → ∀ σ48, σ48 = am_sfL σ45 13077 this x9 → ∀ σ51, σ51 = am_sfL σ48 13078 this x11 → ∀ w56 : Int64, w56 = (if x1 = (-1 : Int64) then (0 : Int64) else x1) → c_Ro_laid_284 nl Ln xs (d + 1) this x1 x3 x5 x6 x7 x8 x9 x11 x13 x14 x15 w56 x3 (0 : Int32) none none none none none none σ51 F)) : c_Ro_laid_79 nl Ln xs (d + 1) this x1 x3 x5 x6 x7 x8 x9 x11 x13 x14 x15 x16 σ F := by
  obtain ⟨j79, j81, j82, j85, j88, j89, j92, j94, j95, j96, j99, j102, j103, j106, j108, j109, j110, j113, j116, j117, j119, j122, j124, j127, j128, j130, j131, j134, j137, j139, j142, j143, j146, j148, j150, j151, j153, j155, j158, j159, j161, j162, j165, j166, j169, j172, j173, j176, j178, j179, j182, j195, j198, j201, j202, j205, j207, j210, j211, j213, j216, j217, j218, j221, j222, j225, j226, j229, j230, j232, j235, j236, j238, j241, j242, j243, j246, j247, j248, j251, j252, j254, j257, j258, j260, j263, j264, j267, j268, j271, j272, j275, j276, j278, j279, j281, j282, -⟩ := P_Ro_laid_79 nl Ln xs
  unfold c_Ro_laid_79
  refine s_iload j79 rfl rfl ?_
  refine s_aload_n j81 rfl rfl ?_
  obtain ⟨ho1, h⟩ := h
  refine s_gfI j82 rfl ho1 ?_
  refine s_icn j85 rfl rfl am_cc_ge (fun hc2 => ?_) (fun hc2 => ?_)
  · replace h := h.2 hc2
    refine s_aload_n j201 rfl rfl ?_
    refine s_gfR j202 rfl ho1 ?_
    refine s_iload j205 rfl rfl ?_
    obtain ⟨ho24, h⟩ := h
    obtain ⟨ho25, h⟩ := h
    refine s_pfZ j207 rfl ho24 ho25 (fun σ26 e27 => ?_)
    replace h := h σ26 e27
    have ek28 : am_kd σ26 = am_kd σ := by rw [e27]
    refine s_aload_n j210 rfl rfl ?_
    refine s_iload j211 rfl rfl ?_
    refine s_pfI j213 rfl (am_is_kd ek28 ho1) (fun σ29 e30 => ?_)
    replace h := h σ29 e30
    have ek31 : am_kd σ29 = am_kd σ26 := by rw [e30]
    refine s_aload_n j216 rfl rfl ?_
    refine s_aload_n j217 rfl rfl ?_
    refine s_gfR j218 rfl (am_is_kd ek31 (am_is_kd ek28 ho1)) ?_
    refine s_aload_n j221 rfl rfl ?_
    refine s_gfI j222 rfl (am_is_kd ek31 (am_is_kd ek28 ho1)) ?_
    obtain ⟨ho32, h⟩ := h
    refine s_iaload j225 rfl ho32 ?_
    refine s_pfI j226 rfl (am_is_kd ek31 (am_is_kd ek28 ho1)) (fun σ33 e34 => ?_)
    replace h := h σ33 e34
    have ek35 : am_kd σ33 = am_kd σ29 := by rw [e34]
    refine s_aload_n j229 rfl rfl ?_
    refine s_iload j230 rfl rfl ?_
    refine s_pfI j232 rfl (am_is_kd ek35 (am_is_kd ek31 (am_is_kd ek28 ho1))) (fun σ36 e37 => ?_)
    replace h := h σ36 e37
    have ek38 : am_kd σ36 = am_kd σ33 := by rw [e37]
    refine s_aload_n j235 rfl rfl ?_
    refine s_iload j236 rfl rfl ?_
    refine s_pfI j238 rfl (am_is_kd ek38 (am_is_kd ek35 (am_is_kd ek31 (am_is_kd ek28 ho1)))) (fun σ39 e40 => ?_)
    replace h := h σ39 e40
    have ek41 : am_kd σ39 = am_kd σ36 := by rw [e40]
    refine s_aload_n j241 rfl rfl ?_
    refine s_iconst j242 rfl kc_ic_0 ?_
    refine s_pfI j243 rfl (am_is_kd ek41 (am_is_kd ek38 (am_is_kd ek35 (am_is_kd ek31 (am_is_kd ek28 ho1))))) (fun σ42 e43 => ?_)
    replace h := h σ42 e43
    have ek44 : am_kd σ42 = am_kd σ39 := by rw [e43]
    refine s_aload_n j246 rfl rfl ?_
    refine s_iconst j247 rfl kc_ic_0 ?_
    refine s_pfZ j248 rfl (am_is_kd ek44 (am_is_kd ek41 (am_is_kd ek38 (am_is_kd ek35 (am_is_kd ek31 (am_is_kd ek28 ho1)))))) (Or.inl rfl) (fun σ45 e46 => ?_)
    replace h := h σ45 e46
    have ek47 : am_kd σ45 = am_kd σ42 := by rw [e46]
    refine s_aload_n j251 rfl rfl ?_
    refine s_lload j252 rfl rfl ?_
    refine s_pfL j254 rfl (am_is_kd ek47 (am_is_kd ek44 (am_is_kd ek41 (am_is_kd ek38 (am_is_kd ek35 (am_is_kd ek31 (am_is_kd ek28 ho1))))))) (fun σ48 e49 => ?_)
    replace h := h σ48 e49
    have ek50 : am_kd σ48 = am_kd σ45 := by rw [e49]
    refine s_aload_n j257 rfl rfl ?_
    refine s_lload j258 rfl rfl ?_
    refine s_pfL j260 rfl (am_is_kd ek50 (am_is_kd ek47 (am_is_kd ek44 (am_is_kd ek41 (am_is_kd ek38 (am_is_kd ek35 (am_is_kd ek31 (am_is_kd ek28 ho1)))))))) (fun σ51 e52 => ?_)
    replace h := h σ51 e52
    have ek53 : am_kd σ51 = am_kd σ48 := by rw [e52]
    refine s_lload_n j263 rfl rfl ?_
    refine s_ldc2 j264 rfl kc_ll_m1 ?_
    refine s_g j267 rfl rfl rfl rfl rfl rfl ?_
    have K55 : ∀ (w56 : Int64), w56 = (if x1 = (-1 : Int64) then (0 : Int64) else x1) → am_C (TT nl Ln xs) (d + 1) 253 276 [some (am_ov (some this)), some (.long x1), none, some (.long x3), none, some (.int x5), some (.int x6), some (.int x7), some (.int x8), some (.long x9), none, some (.long x11), none, some (.int x13), some (.int x14), some (.int x15), some (.int x16), none, none, none, none, none, none, none, none, none, none] [.long w56] σ51 (am_qV F) := by
      intro w56 hw57
      replace h := h w56 hw57
      refine s_lstore j276 rfl (n := 27) (L' := [some (am_ov (some this)), some (.long x1), none, some (.long x3), none, some (.int x5), some (.int x6), some (.int x7), some (.int x8), some (.long x9), none, some (.long x11), none, some (.int x13), some (.int x14), some (.int x15), some (.long w56), none, none, none, none, none, none, none, none, none, none]) rfl (by decide) rfl ?_
      refine s_lload_n j278 rfl rfl ?_
      refine s_lstore j279 rfl (n := 27) (L' := [some (am_ov (some this)), some (.long x1), none, some (.long x3), none, some (.int x5), some (.int x6), some (.int x7), some (.int x8), some (.long x9), none, some (.long x11), none, some (.int x13), some (.int x14), some (.int x15), some (.long w56), none, some (.long x3), none, none, none, none, none, none, none, none]) rfl (by decide) rfl ?_
      refine s_iconst j281 rfl kc_ic_0 ?_
      refine s_istore j282 rfl (n := 27) (L' := [some (am_ov (some this)), some (.long x1), none, some (.long x3), none, some (.int x5), some (.int x6), some (.int x7), some (.int x8), some (.long x9), none, some (.long x11), none, some (.int x13), some (.int x14), some (.int x15), some (.long w56), none, some (.long x3), none, some (.int (0 : Int32)), none, none, none, none, none, none]) rfl (by decide) rfl ?_
      exact h
    refine s_ifn j268 rfl rfl am_cl_ne (fun hc54 => ?_) (fun hc54 => ?_)
    · refine s_lload_n j275 rfl rfl ?_
      exact K55 _ (am_t2 hc54 rfl)
    · refine s_lconst j271 rfl rfl ?_
      refine s_goto j272 rfl rfl ?_
      exact K55 _ (am_t1 hc54 rfl)
  · replace h := h.1 hc2
    refine s_aload_n j88 rfl rfl ?_
    refine s_gfR j89 rfl ho1 ?_
    refine s_iload j92 rfl rfl ?_
    obtain ⟨ho3, h⟩ := h
    refine s_iaload j94 rfl ho3 ?_
    refine s_aload_n j95 rfl rfl ?_
    refine s_gfI j96 rfl ho1 ?_
    refine s_ic j99 rfl rfl am_cc_gt (fun hc4 => ?_) (fun hc4 => ?_)
    · replace h := h.1 hc4
      refine s_iinc (L' := [some (am_ov (some this)), some (.long x1), none, some (.long x3), none, some (.int x5), some (.int x6), some (.int x7), some (.int x8), some (.long x9), none, some (.long x11), none, some (.int x13), some (.int x14), some (.int x15), some (.int (x16 + (1 : Int32))), none, none, none, none, none, none, none, none, none, none]) j195 rfl rfl kc_ic_1 rfl ?_
      refine s_goto j198 rfl rfl ?_
      exact h
    · replace h := h.2 hc4
      refine s_aload_n j102 rfl rfl ?_
      refine s_gfR j103 rfl ho1 ?_
      refine s_iload j106 rfl rfl ?_
      obtain ⟨ho5, h⟩ := h
      refine s_iaload j108 rfl ho5 ?_
      refine s_aload_n j109 rfl rfl ?_
      refine s_gfI j110 rfl ho1 ?_
      refine s_ic j113 rfl rfl am_cc_gt (fun hc6 => ?_) (fun hc6 => ?_)
      · replace h := h.1 hc6
        refine s_iinc (L' := [some (am_ov (some this)), some (.long x1), none, some (.long x3), none, some (.int x5), some (.int x6), some (.int x7), some (.int x8), some (.long x9), none, some (.long x11), none, some (.int x13), some (.int x14), some (.int x15), some (.int (x16 + (1 : Int32))), none, none, none, none, none, none, none, none, none, none]) j195 rfl rfl kc_ic_1 rfl ?_
        refine s_goto j198 rfl rfl ?_
        exact h
      · replace h := h.2 hc6
        refine s_aload_n j116 rfl rfl ?_
        refine s_iload j117 rfl rfl ?_
        refine s_virt j119 rfl rfl rfl rfl ho1 (by decide) (in_Ro_lossYear _ _) (am_r8 rfl) (am_bI h (fun a8 σ7 h hx7 => ?_))
        replace h := h hx7
        refine s_iload j122 rfl rfl ?_
        refine s_icn j124 rfl rfl am_cc_ne (fun hc9 => ?_) (fun hc9 => ?_)
        · replace h := h.2 hc9
          refine s_iinc (L' := [some (am_ov (some this)), some (.long x1), none, some (.long x3), none, some (.int x5), some (.int x6), some (.int x7), some (.int x8), some (.long x9), none, some (.long x11), none, some (.int x13), some (.int x14), some (.int x15), some (.int (x16 + (1 : Int32))), none, none, none, none, none, none, none, none, none, none]) j195 rfl rfl kc_ic_1 rfl ?_
          refine s_goto j198 rfl rfl ?_
          exact h
        · replace h := h.1 hc9
          refine s_aload_n j127 rfl rfl ?_
          refine s_iload j128 rfl rfl ?_
          refine s_aload_n j130 rfl rfl ?_
          refine s_gfI j131 rfl (am_is_ext hx7 ho1) ?_
          refine s_virt j134 rfl rfl rfl rfl (am_is_ext hx7 ho1) (by decide) (in_Ro_coverOf _ _ _) (am_r8 rfl) (am_bI h (fun a11 σ10 h hx10 => ?_))
          replace h := h hx10
          refine s_iload j137 rfl rfl ?_
          refine s_icn j139 rfl rfl am_cc_ne (fun hc12 => ?_) (fun hc12 => ?_)
          · replace h := h.2 hc12
            refine s_iinc (L' := [some (am_ov (some this)), some (.long x1), none, some (.long x3), none, some (.int x5), some (.int x6), some (.int x7), some (.int x8), some (.long x9), none, some (.long x11), none, some (.int x13), some (.int x14), some (.int x15), some (.int (x16 + (1 : Int32))), none, none, none, none, none, none, none, none, none, none]) j195 rfl rfl kc_ic_1 rfl ?_
            refine s_goto j198 rfl rfl ?_
            exact h
          · replace h := h.1 hc12
            refine s_aload_n j142 rfl rfl ?_
            refine s_gfR j143 rfl (am_is_ext hx10 (am_is_ext hx7 ho1)) ?_
            refine s_iload j146 rfl rfl ?_
            refine s_lload j148 rfl rfl ?_
            obtain ⟨ho13, h⟩ := h
            refine s_lastore j150 rfl ho13 (fun σ14 e15 => ?_)
            replace h := h σ14 e15
            have ek16 : am_kd σ14 = am_kd σ10 := by rw [e15]
            refine s_iload j151 rfl rfl ?_
            refine s_iload j153 rfl rfl ?_
            refine s_ic j155 rfl rfl am_cc_eq (fun hc17 => ?_) (fun hc17 => ?_)
            · replace h := h.1 hc17
              exact h
            · replace h := h.2 hc17
              refine s_aload_n j158 rfl rfl ?_
              refine s_iload j159 rfl rfl ?_
              refine s_aload_n j161 rfl rfl ?_
              refine s_gfI j162 rfl (am_is_kd ek16 (am_is_ext hx10 (am_is_ext hx7 ho1))) ?_
              refine s_aload_n j165 rfl rfl ?_
              refine s_gfI j166 rfl (am_is_kd ek16 (am_is_ext hx10 (am_is_ext hx7 ho1))) ?_
              refine s_virt j169 rfl rfl rfl rfl (am_is_kd ek16 (am_is_ext hx10 (am_is_ext hx7 ho1))) (by decide) (in_Ro_begin _ _ _ _) (am_r8 rfl) (am_bV h (fun σ18 h hx18 => ?_))
              replace h := h hx18
              refine s_aload_n j172 rfl rfl ?_
              refine s_gfR j173 rfl (am_is_ext hx18 (am_is_kd ek16 (am_is_ext hx10 (am_is_ext hx7 ho1)))) ?_
              refine s_iload j176 rfl rfl ?_
              refine s_aload_n j178 rfl rfl ?_
              refine s_gfL j179 rfl (am_is_ext hx18 (am_is_kd ek16 (am_is_ext hx10 (am_is_ext hx7 ho1)))) ?_
              obtain ⟨ho20, h⟩ := h
              refine s_lastore j182 rfl ho20 (fun σ21 e22 => ?_)
              replace h := h σ21 e22
              have ek23 : am_kd σ21 = am_kd σ18 := by rw [e22]
              exact h
theorem P_Ro_laid_183 (nl : Bool) (Ln : Nat) (xs : Nat → Int32) : am_Jl (TT nl Ln xs) 253 [(183, .aload_n 0, 184, []), (184, .iload 16, 186, []), (186, .iload 15, 188, []), (188, .iload 13, 190, []), (190, .invokevirtual 470, 193, [10, 256, 14, 5, 4]), (193, .istore 15, 195, []), (195, .iinc 16 1, 198, []), (198, .goto (-119), 201, [])] := dk_ck (by decide +kernel)
set_option maxRecDepth 4096 in
theorem w_Ro_laid_183 {nl : Bool} {Ln : Nat} {xs : Nat → Int32} {d : Nat} {this : Nat} {x1 : Int64} {x3 : Int64} {x5 : Int32} {x6 : Int32} {x7 : Int32} {x8 : Int32} {x9 : Int64} {x11 : Int64} {x13 : Int32} {x14 : Int32} {x15 : Int32} {x16 : Int32} {σ : am_S} {F : am_S → Prop} (h : (am_is σ (some this) 13) ∧ k_Ro_lay nl Ln xs d this x16 x15 x13 σ (fun a3 σ2 => am_ext σ σ2 → c_Ro_laid_79 nl Ln xs (d + 1) this x1 x3 x5 x6 x7 x8 x9 x11 x13 x14 a3 (x16 + (1 : Int32)) σ2 F)) : c_Ro_laid_183 nl Ln xs (d + 1) this x1 x3 x5 x6 x7 x8 x9 x11 x13 x14 x15 x16 σ F := by
  obtain ⟨j183, j184, j186, j188, j190, j193, j195, j198, -⟩ := P_Ro_laid_183 nl Ln xs
  unfold c_Ro_laid_183
  refine s_aload_n j183 rfl rfl ?_
  refine s_iload j184 rfl rfl ?_
  refine s_iload j186 rfl rfl ?_
  refine s_iload j188 rfl rfl ?_
  obtain ⟨ho1, h⟩ := h
  refine s_virt j190 rfl rfl rfl rfl ho1 (by decide) (in_Ro_lay _ _ _ _) (am_r8 rfl) (am_bI h (fun a3 σ2 h hx2 => ?_))
  replace h := h hx2
  refine s_istore j193 rfl (n := 27) (L' := [some (am_ov (some this)), some (.long x1), none, some (.long x3), none, some (.int x5), some (.int x6), some (.int x7), some (.int x8), some (.long x9), none, some (.long x11), none, some (.int x13), some (.int x14), some (.int a3), some (.int x16), none, none, none, none, none, none, none, none, none, none]) rfl (by decide) rfl ?_
  refine s_iinc (L' := [some (am_ov (some this)), some (.long x1), none, some (.long x3), none, some (.int x5), some (.int x6), some (.int x7), some (.int x8), some (.long x9), none, some (.long x11), none, some (.int x13), some (.int x14), some (.int a3), some (.int (x16 + (1 : Int32))), none, none, none, none, none, none, none, none, none, none]) j195 rfl rfl kc_ic_1 rfl ?_
  refine s_goto j198 rfl rfl ?_
  exact h
theorem P_Ro_laid_284 (nl : Bool) (Ln : Nat) (xs : Nat → Int32) : am_Jl (TT nl Ln xs) 253 [(284, .iload 20, 286, []), (286, .iload 15, 288, []), (288, .if_icmp .ge 137, 291, []), (291, .aload_n 0, 292, []), (292, .getfield 191, 295, [9, 13, 86, 2]), (295, .aload_n 0, 296, []), (296, .getfield 188, 299, [9, 13, 85, 2]), (299, .iload 20, 301, []), (301, .iaload, 302, []), (302, .laload, 303, []), (303, .lload 16, 305, []), (305, .lcmp, 306, []), (306, .ifCond .ge 18, 309, []), (309, .aload_n 0, 310, []), (310, .getfield 191, 313, [9, 13, 86, 2]), (313, .aload_n 0, 314, []), (314, .getfield 188, 317, [9, 13, 85, 2]), (317, .iload 20, 319, []), (319, .iaload, 320, []), (320, .laload, 321, []), (321, .goto 5, 324, []), (324, .lload 16, 326, []), (425, .return_, 426, [0])] := dk_ck (by decide +kernel)
set_option maxRecDepth 4096 in
theorem w_Ro_laid_284 {nl : Bool} {Ln : Nat} {xs : Nat → Int32} {d : Nat} {this : Nat} {x1 : Int64} {x3 : Int64} {x5 : Int32} {x6 : Int32} {x7 : Int32} {x8 : Int32} {x9 : Int64} {x11 : Int64} {x13 : Int32} {x14 : Int32} {x15 : Int32} {x16 : Int64} {x18 : Int64} {x20 : Int32} {x21 : Option Value} {x22 : Option Value} {x23 : Option Value} {x24 : Option Value} {x25 : Option Value} {x26 : Option Value} {σ : am_S} {F : am_S → Prop} (h : (x20 < x15 → (am_is σ (some this) 13) ∧ (am_ar σ 1000 (am_fR σ 13085 this) x20) ∧ (am_ar σ 1001 (am_fR σ 13086 this) (am_aI σ ((am_fR σ 13085 this).getD 0) x20.toNatClampNeg)) ∧ (((am_aL σ ((am_fR σ 13086 this).getD 0) (am_aI σ ((am_fR σ 13085 this).getD 0) x20.toNatClampNeg).toNatClampNeg) < x16) → am_ar σ 1000 (am_fR σ 13085 this) x20) ∧ (((am_aL σ ((am_fR σ 13086 this).getD 0) (am_aI σ ((am_fR σ 13085 this).getD 0) x20.toNatClampNeg).toNatClampNeg) < x16) → am_ar σ 1001 (am_fR σ 13086 this) (am_aI σ ((am_fR σ 13085 this).getD 0) x20.toNatClampNeg)) ∧ ∀ w9 : Int64, w9 = (if (am_aL σ ((am_fR σ 13086 this).getD 0) (am_aI σ ((am_fR σ 13085 this).getD 0) x20.toNatClampNeg).toNatClampNeg) < x16 then (am_aL σ ((am_fR σ 13086 this).getD 0) (am_aI σ ((am_fR σ 13085 this).getD 0) x20.toNatClampNeg).toNatClampNeg) else x16) → c_Ro_laid_326 nl Ln xs (d + 1) this x1 x3 x5 x6 x7 x8 x9 x11 x13 x14 x15 x16 x18 x20 x21 x22 x23 x24 x25 x26 w9 σ F) ∧ (¬ (x20 < x15) → F σ)) : c_Ro_laid_284 nl Ln xs (d + 1) this x1 x3 x5 x6 x7 x8 x9 x11 x13 x14 x15 x16 x18 x20 x21 x22 x23 x24 x25 x26 σ F := by
  obtain ⟨j284, j286, j288, j291, j292, j295, j296, j299, j301, j302, j303, j305, j306, j309, j310, j313, j314, j317, j319, j320, j321, j324, j425, -⟩ := P_Ro_laid_284 nl Ln xs
  unfold c_Ro_laid_284
  refine s_iload j284 rfl rfl ?_
  refine s_iload j286 rfl rfl ?_
  refine s_icn j288 rfl rfl am_cc_ge (fun hc1 => ?_) (fun hc1 => ?_)
  · replace h := h.2 hc1
    exact s_retV j425 rfl h
  · replace h := h.1 hc1
    refine s_aload_n j291 rfl rfl ?_
    obtain ⟨ho2, h⟩ := h
    refine s_gfR j292 rfl ho2 ?_
    refine s_aload_n j295 rfl rfl ?_
    refine s_gfR j296 rfl ho2 ?_
    refine s_iload j299 rfl rfl ?_
    obtain ⟨ho3, h⟩ := h
    refine s_iaload j301 rfl ho3 ?_
    obtain ⟨ho4, h⟩ := h
    refine s_laload j302 rfl ho4 ?_
    refine s_lload j303 rfl rfl ?_
    refine s_g j305 rfl rfl rfl rfl rfl rfl ?_
    obtain ⟨ho6, h⟩ := h
    obtain ⟨ho7, h⟩ := h
    have K8 : ∀ (w9 : Int64), w9 = (if (am_aL σ ((am_fR σ 13086 this).getD 0) (am_aI σ ((am_fR σ 13085 this).getD 0) x20.toNatClampNeg).toNatClampNeg) < x16 then (am_aL σ ((am_fR σ 13086 this).getD 0) (am_aI σ ((am_fR σ 13085 this).getD 0) x20.toNatClampNeg).toNatClampNeg) else x16) → am_C (TT nl Ln xs) (d + 1) 253 326 [some (am_ov (some this)), some (.long x1), none, some (.long x3), none, some (.int x5), some (.int x6), some (.int x7), some (.int x8), some (.long x9), none, some (.long x11), none, some (.int x13), some (.int x14), some (.int x15), some (.long x16), none, some (.long x18), none, some (.int x20), x21, x22, x23, x24, x25, x26] [.long w9] σ (am_qV F) := by
      intro w9 hw10
      replace h := h w9 hw10
      exact h
    refine s_ifn j306 rfl rfl am_cl_ge (fun hc5 => ?_) (fun hc5 => ?_)
    · refine s_lload j324 rfl rfl ?_
      exact K8 _ (am_t2 hc5 rfl)
    · refine s_aload_n j309 rfl rfl ?_
      refine s_gfR j310 rfl ho2 ?_
      refine s_aload_n j313 rfl rfl ?_
      refine s_gfR j314 rfl ho2 ?_
      refine s_iload j317 rfl rfl ?_
      refine s_iaload j319 rfl (ho6 hc5) ?_
      refine s_laload j320 rfl (ho7 hc5) ?_
      refine s_goto j321 rfl rfl ?_
      exact K8 _ (am_t1 hc5 rfl)
theorem P_Ro_laid_326 (nl : Bool) (Ln : Nat) (xs : Nat → Int32) : am_Jl (TT nl Ln xs) 253 [(326, .lstore 21, 328, []), (328, .lload 16, 330, []), (330, .lload 21, 332, []), (332, .lsub, 333, []), (333, .lstore 16, 335, []), (335, .aload_n 0, 336, []), (336, .getfield 191, 339, [9, 13, 86, 2]), (339, .aload_n 0, 340, []), (340, .getfield 188, 343, [9, 13, 85, 2]), (343, .iload 20, 345, []), (345, .iaload, 346, []), (346, .laload, 347, []), (347, .lload 21, 349, []), (349, .lsub, 350, []), (350, .lstore 23, 352, []), (352, .lload_n 3, 353, []), (353, .ldc2_w 256, 356, [6, 18446744073709551615]), (356, .lcmp, 357, []), (357, .ifCond .eq 19, 360, []), (360, .lload 23, 362, []), (362, .lload 18, 364, []), (364, .lcmp, 365, []), (365, .ifCond .le 11, 368, []), (368, .lload 23, 370, []), (370, .lload 18, 372, []), (372, .lsub, 373, []), (373, .goto 4, 376, []), (376, .lconst 0, 377, [])] := dk_ck (by decide +kernel)
set_option maxRecDepth 4096 in
theorem w_Ro_laid_326 {nl : Bool} {Ln : Nat} {xs : Nat → Int32} {d : Nat} {this : Nat} {x1 : Int64} {x3 : Int64} {x5 : Int32} {x6 : Int32} {x7 : Int32} {x8 : Int32} {x9 : Int64} {x11 : Int64} {x13 : Int32} {x14 : Int32} {x15 : Int32} {x16 : Int64} {x18 : Int64} {x20 : Int32} {x21 : Option Value} {x22 : Option Value} {x23 : Option Value} {x24 : Option Value} {x25 : Option Value} {x26 : Option Value} {y0 : Int64} {σ : am_S} {F : am_S → Prop} (h : ∀ v1 : Int64, v1 = (x16 - y0) → (am_is σ (some this) 13) ∧ (am_ar σ 1000 (am_fR σ 13085 this) x20) ∧ (am_ar σ 1001 (am_fR σ 13086 this) (am_aI σ ((am_fR σ 13085 this).getD 0) x20.toNatClampNeg)) ∧ ∀ v6 : Int64, v6 = ((am_aL σ ((am_fR σ 13086 this).getD 0) (am_aI σ ((am_fR σ 13085 this).getD 0) x20.toNatClampNeg).toNatClampNeg) - y0) → ∀ w11 : Int64, w11 = (if x3 = (-1 : Int64) then (0 : Int64) else (if x18 < v6 then (v6 - x18) else (0 : Int64))) → c_Ro_laid_377 nl Ln xs (d + 1) this x1 x3 x5 x6 x7 x8 x9 x11 x13 x14 x15 v1 x18 x20 y0 v6 x25 x26 w11 σ F) : c_Ro_laid_326 nl Ln xs (d + 1) this x1 x3 x5 x6 x7 x8 x9 x11 x13 x14 x15 x16 x18 x20 x21 x22 x23 x24 x25 x26 y0 σ F := by
  obtain ⟨j326, j328, j330, j332, j333, j335, j336, j339, j340, j343, j345, j346, j347, j349, j350, j352, j353, j356, j357, j360, j362, j364, j365, j368, j370, j372, j373, j376, -⟩ := P_Ro_laid_326 nl Ln xs
  unfold c_Ro_laid_326
  refine s_lstore j326 rfl (n := 27) (L' := [some (am_ov (some this)), some (.long x1), none, some (.long x3), none, some (.int x5), some (.int x6), some (.int x7), some (.int x8), some (.long x9), none, some (.long x11), none, some (.int x13), some (.int x14), some (.int x15), some (.long x16), none, some (.long x18), none, some (.int x20), some (.long y0), none, x23, x24, x25, x26]) rfl (by decide) rfl ?_
  refine s_lload j328 rfl rfl ?_
  refine s_lload j330 rfl rfl ?_
  refine s_g j332 rfl rfl rfl rfl rfl rfl ?_
  refine s_lstoreV j333 rfl (n := 27) (L' := fun w => [some (am_ov (some this)), some (.long x1), none, some (.long x3), none, some (.int x5), some (.int x6), some (.int x7), some (.int x8), some (.long x9), none, some (.long x11), none, some (.int x13), some (.int x14), some (.int x15), some (.long w), none, some (.long x18), none, some (.int x20), some (.long y0), none, x23, x24, x25, x26]) rfl (by decide) (fun _ => rfl) (fun v1 hv2 => ?_)
  replace h := h v1 hv2
  refine s_aload_n j335 rfl rfl ?_
  obtain ⟨ho3, h⟩ := h
  refine s_gfR j336 rfl ho3 ?_
  refine s_aload_n j339 rfl rfl ?_
  refine s_gfR j340 rfl ho3 ?_
  refine s_iload j343 rfl rfl ?_
  obtain ⟨ho4, h⟩ := h
  refine s_iaload j345 rfl ho4 ?_
  obtain ⟨ho5, h⟩ := h
  refine s_laload j346 rfl ho5 ?_
  refine s_lload j347 rfl rfl ?_
  refine s_g j349 rfl rfl rfl rfl rfl rfl ?_
  refine s_lstoreV j350 rfl (n := 27) (L' := fun w => [some (am_ov (some this)), some (.long x1), none, some (.long x3), none, some (.int x5), some (.int x6), some (.int x7), some (.int x8), some (.long x9), none, some (.long x11), none, some (.int x13), some (.int x14), some (.int x15), some (.long v1), none, some (.long x18), none, some (.int x20), some (.long y0), none, some (.long w), none, x25, x26]) rfl (by decide) (fun _ => rfl) (fun v6 hv7 => ?_)
  replace h := h v6 hv7
  refine s_lload_n j352 rfl rfl ?_
  refine s_ldc2 j353 rfl kc_ll_m1 ?_
  refine s_g j356 rfl rfl rfl rfl rfl rfl ?_
  have K10 : ∀ (w11 : Int64), w11 = (if x3 = (-1 : Int64) then (0 : Int64) else (if x18 < v6 then (v6 - x18) else (0 : Int64))) → am_C (TT nl Ln xs) (d + 1) 253 377 [some (am_ov (some this)), some (.long x1), none, some (.long x3), none, some (.int x5), some (.int x6), some (.int x7), some (.int x8), some (.long x9), none, some (.long x11), none, some (.int x13), some (.int x14), some (.int x15), some (.long v1), none, some (.long x18), none, some (.int x20), some (.long y0), none, some (.long v6), none, x25, x26] [.long w11] σ (am_qV F) := by
    intro w11 hw12
    replace h := h w11 hw12
    exact h
  refine s_if j357 rfl rfl am_cl_eq (fun hc8 => ?_) (fun hc8 => ?_)
  · refine s_lconst j376 rfl rfl ?_
    exact K10 _ (am_t1 hc8 rfl)
  · refine s_lload j360 rfl rfl ?_
    refine s_lload j362 rfl rfl ?_
    refine s_g j364 rfl rfl rfl rfl rfl rfl ?_
    refine s_ifn j365 rfl rfl am_cl_le (fun hc9 => ?_) (fun hc9 => ?_)
    · refine s_lconst j376 rfl rfl ?_
      exact K10 _ (am_t2 hc8 (am_t2 hc9 rfl))
    · refine s_lload j368 rfl rfl ?_
      refine s_lload j370 rfl rfl ?_
      refine s_g j372 rfl rfl rfl rfl rfl rfl ?_
      refine s_goto j373 rfl rfl ?_
      exact K10 _ (am_t2 hc8 (am_t1 hc9 rfl))
theorem P_Ro_laid_377 (nl : Bool) (Ln : Nat) (xs : Nat → Int32) : am_Jl (TT nl Ln xs) 253 [(377, .lstore 25, 379, []), (379, .lload 18, 381, []), (381, .lload 23, 383, []), (383, .lload 25, 385, []), (385, .lsub, 386, []), (386, .lsub, 387, []), (387, .lstore 18, 389, []), (389, .aload_n 0, 390, []), (390, .getfield 188, 393, [9, 13, 85, 2]), (393, .iload 20, 395, []), (395, .iaload, 396, []), (396, .iload 5, 398, []), (398, .if_icmp .ne 21, 401, []), (401, .aload_n 0, 402, []), (402, .bipush 8, 404, []), (404, .iconst 0, 405, []), (405, .lload 21, 407, []), (407, .invokevirtual 388, 410, [10, 243, 14, 5, 4]), (410, .aload_n 0, 411, []), (411, .bipush 9, 413, []), (413, .iconst 0, 414, []), (414, .lload 25, 416, []), (416, .invokevirtual 388, 419, [10, 243, 14, 5, 4]), (419, .iinc 20 1, 422, []), (422, .goto (-138), 425, [])] := dk_ck (by decide +kernel)
set_option maxRecDepth 4096 in
theorem w_Ro_laid_377 {nl : Bool} {Ln : Nat} {xs : Nat → Int32} {d : Nat} {this : Nat} {x1 : Int64} {x3 : Int64} {x5 : Int32} {x6 : Int32} {x7 : Int32} {x8 : Int32} {x9 : Int64} {x11 : Int64} {x13 : Int32} {x14 : Int32} {x15 : Int32} {x16 : Int64} {x18 : Int64} {x20 : Int32} {x21 : Int64} {x23 : Int64} {x25 : Option Value} {x26 : Option Value} {y0 : Int64} {σ : am_S} {F : am_S → Prop} (h : ∀ v1 : Int64, v1 = (x18 - (x23 - y0)) → (am_is σ (some this) 13) ∧ (am_ar σ 1000 (am_fR σ 13085 this) x20) ∧ ((am_aI σ ((am_fR σ 13085 this).getD 0) x20.toNatClampNeg) = x5 → k_Ro_less nl Ln xs d this (8 : Int32) (0 : Int32) x21 σ (fun σ6 => am_ext σ σ6 → k_Ro_less nl Ln xs d this (9 : Int32) (0 : Int32) y0 σ6 (fun σ8 => am_ext σ6 σ8 → c_Ro_laid_284 nl Ln xs (d + 1) this x1 x3 x5 x6 x7 x8 x9 x11 x13 x14 x15 x16 v1 (x20 + (1 : Int32)) (some (.long x21)) none (some (.long x23)) none (some (.long y0)) none σ8 F))) ∧ (¬ ((am_aI σ ((am_fR σ 13085 this).getD 0) x20.toNatClampNeg) = x5) → c_Ro_laid_284 nl Ln xs (d + 1) this x1 x3 x5 x6 x7 x8 x9 x11 x13 x14 x15 x16 v1 (x20 + (1 : Int32)) (some (.long x21)) none (some (.long x23)) none (some (.long y0)) none σ F)) : c_Ro_laid_377 nl Ln xs (d + 1) this x1 x3 x5 x6 x7 x8 x9 x11 x13 x14 x15 x16 x18 x20 x21 x23 x25 x26 y0 σ F := by
  obtain ⟨j377, j379, j381, j383, j385, j386, j387, j389, j390, j393, j395, j396, j398, j401, j402, j404, j405, j407, j410, j411, j413, j414, j416, j419, j422, -⟩ := P_Ro_laid_377 nl Ln xs
  unfold c_Ro_laid_377
  refine s_lstore j377 rfl (n := 27) (L' := [some (am_ov (some this)), some (.long x1), none, some (.long x3), none, some (.int x5), some (.int x6), some (.int x7), some (.int x8), some (.long x9), none, some (.long x11), none, some (.int x13), some (.int x14), some (.int x15), some (.long x16), none, some (.long x18), none, some (.int x20), some (.long x21), none, some (.long x23), none, some (.long y0), none]) rfl (by decide) rfl ?_
  refine s_lload j379 rfl rfl ?_
  refine s_lload j381 rfl rfl ?_
  refine s_lload j383 rfl rfl ?_
  refine s_g j385 rfl rfl rfl rfl rfl rfl ?_
  refine s_g j386 rfl rfl rfl rfl rfl rfl ?_
  refine s_lstoreV j387 rfl (n := 27) (L' := fun w => [some (am_ov (some this)), some (.long x1), none, some (.long x3), none, some (.int x5), some (.int x6), some (.int x7), some (.int x8), some (.long x9), none, some (.long x11), none, some (.int x13), some (.int x14), some (.int x15), some (.long x16), none, some (.long w), none, some (.int x20), some (.long x21), none, some (.long x23), none, some (.long y0), none]) rfl (by decide) (fun _ => rfl) (fun v1 hv2 => ?_)
  replace h := h v1 hv2
  refine s_aload_n j389 rfl rfl ?_
  obtain ⟨ho3, h⟩ := h
  refine s_gfR j390 rfl ho3 ?_
  refine s_iload j393 rfl rfl ?_
  obtain ⟨ho4, h⟩ := h
  refine s_iaload j395 rfl ho4 ?_
  refine s_iload j396 rfl rfl ?_
  refine s_icn j398 rfl rfl am_cc_ne (fun hc5 => ?_) (fun hc5 => ?_)
  · replace h := h.2 hc5
    refine s_iinc (L' := [some (am_ov (some this)), some (.long x1), none, some (.long x3), none, some (.int x5), some (.int x6), some (.int x7), some (.int x8), some (.long x9), none, some (.long x11), none, some (.int x13), some (.int x14), some (.int x15), some (.long x16), none, some (.long v1), none, some (.int (x20 + (1 : Int32))), some (.long x21), none, some (.long x23), none, some (.long y0), none]) j419 rfl rfl kc_ic_1 rfl ?_
    refine s_goto j422 rfl rfl ?_
    exact h
  · replace h := h.1 hc5
    refine s_aload_n j401 rfl rfl ?_
    refine s_bipush j402 rfl kc_bi_8 ?_
    refine s_iconst j404 rfl kc_ic_0 ?_
    refine s_lload j405 rfl rfl ?_
    refine s_virt j407 rfl rfl rfl rfl ho3 (by decide) (in_Ro_less _ _ _ _) (am_r8 rfl) (am_bV h (fun σ6 h hx6 => ?_))
    replace h := h hx6
    refine s_aload_n j410 rfl rfl ?_
    refine s_bipush j411 rfl kc_bi_9 ?_
    refine s_iconst j413 rfl kc_ic_0 ?_
    refine s_lload j414 rfl rfl ?_
    refine s_virt j416 rfl rfl rfl rfl (am_is_ext hx6 ho3) (by decide) (in_Ro_less _ _ _ _) (am_r8 rfl) (am_bV h (fun σ8 h hx8 => ?_))
    replace h := h hx8
    refine s_iinc (L' := [some (am_ov (some this)), some (.long x1), none, some (.long x3), none, some (.int x5), some (.int x6), some (.int x7), some (.int x8), some (.long x9), none, some (.long x11), none, some (.int x13), some (.int x14), some (.int x15), some (.long x16), none, some (.long v1), none, some (.int (x20 + (1 : Int32))), some (.long x21), none, some (.long x23), none, some (.long y0), none]) j419 rfl rfl kc_ic_1 rfl ?_
    refine s_goto j422 rfl rfl ?_
    exact h
