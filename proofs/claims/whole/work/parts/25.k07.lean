/-! statements of methods, 7 (by wip/whole/gensteps.py) -/
theorem P_Co_undo (nl : Bool) (Ln : Nat) (xs : Nat → Int32) : am_Jl (TT nl Ln xs) 149 [(0, .aload_n 0, 1, []), (1, .bipush 22, 3, []), (3, .lconst 0, 4, []), (4, .lconst 0, 5, []), (5, .lconst 0, 6, []), (6, .lconst 0, 7, []), (7, .invokevirtual 67, 10, [10, 8, 1, 10, 6]), (10, .aload_n 0, 11, []), (11, .getfield 56, 14, [9, 0, 7, 2]), (14, .aload_n 0, 15, []), (15, .getfield 24, 18, [9, 0, 3, 2]), (18, .aload_n 0, 19, []), (19, .getfield 18, 22, [9, 0, 1, 2]), (22, .invokevirtual 71, 25, [10, 9, 7, 7, 3]), (25, .ireturn, 26, [1])] := dk_ck (by decide +kernel)
set_option maxRecDepth 4096 in
theorem w_Co_undo {nl : Bool} {Ln : Nat} {xs : Nat → Int32} {d : Nat} {this : Nat} {σ : am_S} {F : Int32 → am_S → Prop} (h : (am_is σ (some this) 0) ∧ k_Co_fill nl Ln xs d this (22 : Int32) (0 : Int64) (0 : Int64) (0 : Int64) (0 : Int64) σ (fun σ2 => am_ext σ σ2 → (am_is σ2 (am_fR σ2 7 this) 6) ∧ k_Bk_perform nl Ln xs d ((am_fR σ2 7 this).getD 0) (am_fR σ2 3 this) (am_fR σ2 1 this) σ2 (fun a6 σ5 => am_ext σ2 σ5 → F a6 σ5))) : k_Co_undo nl Ln xs (d + 1) this σ F := by
  obtain ⟨j0, j1, j3, j4, j5, j6, j7, j10, j11, j14, j15, j18, j19, j22, j25, -⟩ := P_Co_undo nl Ln xs
  have elo : am_lo 1 [am_ov (some this)] = [some (am_ov (some this))] := by simp only [am_lo, am_in_ov, am_in_int, am_in_long, am_in_nil]; rfl
  unfold k_Co_undo
  rw [elo]
  refine s_aload_n j0 rfl rfl ?_
  refine s_bipush j1 rfl kc_bi_22 ?_
  refine s_lconst j3 rfl rfl ?_
  refine s_lconst j4 rfl rfl ?_
  refine s_lconst j5 rfl rfl ?_
  refine s_lconst j6 rfl rfl ?_
  obtain ⟨ho1, h⟩ := h
  refine s_virt j7 rfl rfl rfl rfl ho1 (by decide) (in_Co_fill _ _ _ _ _ _) (am_r8 rfl) (am_bV h (fun σ2 h hx2 => ?_))
  replace h := h hx2
  refine s_aload_n j10 rfl rfl ?_
  refine s_gfR j11 rfl (am_is_ext hx2 ho1) ?_
  refine s_aload_n j14 rfl rfl ?_
  refine s_gfR j15 rfl (am_is_ext hx2 ho1) ?_
  refine s_aload_n j18 rfl rfl ?_
  refine s_gfR j19 rfl (am_is_ext hx2 ho1) ?_
  obtain ⟨ho4, h⟩ := h
  refine s_virt j22 rfl rfl rfl rfl ho4 (by decide) (in_Bk_perform _ _ _) (am_r8 rfl) (am_bI h (fun a6 σ5 h hx5 => ?_))
  replace h := h hx5
  exact s_retI j25 rfl h
theorem P_Co_owed (nl : Bool) (Ln : Nat) (xs : Nat → Int32) : am_Jl (TT nl Ln xs) 150 [(0, .aload_n 0, 1, []), (1, .getfield 56, 4, [9, 0, 7, 2]), (4, .iload_n 1, 5, []), (5, .i2l, 6, []), (6, .invokevirtual 86, 9, [10, 12, 7, 3, 2]), (9, .astore 4, 11, []), (11, .aload 4, 13, []), (13, .ifnull 52, 16, []), (16, .aload_n 0, 17, []), (17, .getfield 33, 20, [9, 0, 4, 2]), (20, .getfield 90, 23, [9, 2, 1, 0]), (23, .sipush 2500, 26, []), (26, .if_icmp .ge 39, 29, []), (29, .iload_n 2, 30, []), (30, .aload 4, 32, []), (32, .getfield 93, 35, [9, 11, 3, 0]), (35, .if_icmp .lt 30, 38, []), (38, .iload_n 2, 39, []), (39, .sipush 10949, 42, []), (42, .if_icmp .gt 23, 45, []), (45, .iload_n 3, 46, []), (46, .aload 4, 48, []), (48, .getfield 98, 51, [9, 11, 4, 0]), (51, .if_icmp .lt 14, 54, []), (54, .iload_n 3, 55, []), (55, .aload_n 0, 56, []), (56, .getfield 56, 59, [9, 0, 7, 2]), (59, .getfield 101, 62, [9, 6, 15, 0]), (62, .if_icmp .le 7, 65, []), (65, .ldc2_w 104, 68, [6, 9223372036854775808]), (68, .lreturn, 69, [2]), (69, .aload_n 0, 70, []), (70, .getfield 33, 73, [9, 0, 4, 2]), (73, .aload_n 0, 74, []), (74, .getfield 56, 77, [9, 0, 7, 2]), (77, .aload 4, 79, []), (79, .iload_n 2, 80, []), (80, .iload_n 3, 81, []), (81, .invokevirtual 106, 84, [10, 23, 3, 22, 5]), (84, .aload_n 0, 85, []), (85, .getfield 33, 88, [9, 0, 4, 2]), (88, .getfield 110, 91, [9, 2, 2, 2]), (91, .astore 5, 93, []), (93, .aload_n 0, 94, []), (94, .getfield 33, 97, [9, 0, 4, 2]), (97, .aload_n 0, 98, []), (98, .getfield 63, 101, [9, 0, 9, 2]), (101, .putfield 110, 104, [9, 2, 2, 2]), (104, .aload_n 0, 105, []), (105, .aload 5, 107, []), (107, .putfield 63, 110, [9, 0, 9, 2]), (110, .aload_n 0, 111, []), (111, .getfield 63, 114, [9, 0, 9, 2]), (114, .getfield 113, 117, [9, 3, 6, 0]), (117, .ifCond .eq 9, 120, []), (120, .ldc2_w 104, 123, [6, 9223372036854775808]), (123, .goto 10, 126, []), (126, .aload_n 0, 127, []), (127, .getfield 63, 130, [9, 0, 9, 2]), (130, .invokevirtual 116, 133, [10, 69, 4, 4, 1]), (133, .lreturn, 134, [2])] := dk_ck (by decide +kernel)
set_option maxRecDepth 4096 in
theorem w_Co_owed {nl : Bool} {Ln : Nat} {xs : Nat → Int32} {d : Nat} {this : Nat} {p0 : Int32} {p1 : Int32} {p2 : Int32} {σ : am_S} {F : Int64 → am_S → Prop} (h : (am_is σ (some this) 0) ∧ (am_is σ (am_fR σ 7 this) 6) ∧ k_Bk_caseAt nl Ln xs d ((am_fR σ 7 this).getD 0) p0.toInt64 σ (fun a4 σ3 => am_ext σ σ3 → (a4 = none → F (-9223372036854775808 : Int64) σ3) ∧ (¬ (a4 = none) → (am_is σ3 (am_fR σ3 4 this) 2) ∧ ((am_fI σ3 2001 ((am_fR σ3 4 this).getD 0)) < (2500 : Int32) → (am_is σ3 a4 11) ∧ (p1 < (am_fI σ3 11003 (a4.getD 0)) → F (-9223372036854775808 : Int64) σ3) ∧ (¬ (p1 < (am_fI σ3 11003 (a4.getD 0))) → ((10949 : Int32) < p1 → F (-9223372036854775808 : Int64) σ3) ∧ (¬ ((10949 : Int32) < p1) → (p2 < (am_fI σ3 11004 (a4.getD 0)) → F (-9223372036854775808 : Int64) σ3) ∧ (¬ (p2 < (am_fI σ3 11004 (a4.getD 0))) → (am_is σ3 (am_fR σ3 7 this) 6) ∧ ((am_fI σ3 6015 ((am_fR σ3 7 this).getD 0)) < p2 → F (-9223372036854775808 : Int64) σ3) ∧ (¬ ((am_fI σ3 6015 ((am_fR σ3 7 this).getD 0)) < p2) → k_Wk_settle nl Ln xs d ((am_fR σ3 4 this).getD 0) (am_fR σ3 7 this) a4 p1 p2 σ3 (fun σ14 => am_ext σ3 σ14 → (am_is σ14 (am_fR σ14 4 this) 2) ∧ ∀ v17 : Option Nat, v17 = (am_fR σ14 2002 ((am_fR σ14 4 this).getD 0)) → ∀ σ19, σ19 = am_sfR σ14 2002 ((am_fR σ14 4 this).getD 0) (am_fR σ14 9 this) → ∀ σ22, σ22 = am_sfR σ19 9 this v17 → (am_is σ22 (am_fR σ22 9 this) 3) ∧ ((am_fI σ22 3006 ((am_fR σ22 9 this).getD 0)) = 0 → k_Vw_total nl Ln xs d ((am_fR σ22 9 this).getD 0) σ22 (fun a28 σ27 => am_ext σ22 σ27 → F a28 σ27)) ∧ (¬ ((am_fI σ22 3006 ((am_fR σ22 9 this).getD 0)) = 0) → F (-9223372036854775808 : Int64) σ22))))))) ∧ (¬ ((am_fI σ3 2001 ((am_fR σ3 4 this).getD 0)) < (2500 : Int32)) → F (-9223372036854775808 : Int64) σ3)))) : k_Co_owed nl Ln xs (d + 1) this p0 p1 p2 σ F := by
  obtain ⟨j0, j1, j4, j5, j6, j9, j11, j13, j16, j17, j20, j23, j26, j29, j30, j32, j35, j38, j39, j42, j45, j46, j48, j51, j54, j55, j56, j59, j62, j65, j68, j69, j70, j73, j74, j77, j79, j80, j81, j84, j85, j88, j91, j93, j94, j97, j98, j101, j104, j105, j107, j110, j111, j114, j117, j120, j123, j126, j127, j130, j133, -⟩ := P_Co_owed nl Ln xs
  have elo : am_lo 6 [am_ov (some this), .int p0, .int p1, .int p2] = [some (am_ov (some this)), some (.int p0), some (.int p1), some (.int p2), none, none] := by simp only [am_lo, am_in_ov, am_in_int, am_in_long, am_in_nil]; rfl
  unfold k_Co_owed
  rw [elo]
  refine s_aload_n j0 rfl rfl ?_
  obtain ⟨ho1, h⟩ := h
  refine s_gfR j1 rfl ho1 ?_
  refine s_iload_n j4 rfl rfl ?_
  refine s_g j5 rfl rfl rfl rfl rfl rfl ?_
  obtain ⟨ho2, h⟩ := h
  refine s_virt j6 rfl rfl rfl rfl ho2 (by decide) (in_Bk_caseAt _ _) (am_r8 rfl) (am_bR h (fun a4 σ3 h hx3 => ?_))
  replace h := h hx3
  refine s_astore j9 rfl (n := 6) (L' := [some (am_ov (some this)), some (.int p0), some (.int p1), some (.int p2), some (am_ov a4), none]) rfl (by decide) rfl ?_
  refine s_aload j11 rfl rfl ?_
  refine s_ifnull j13 rfl rfl (fun hc5 => ?_) (fun hc5 => ?_)
  · replace h := h.1 hc5
    refine s_ldc2 j65 rfl kc_ll_m9223372036854775808 ?_
    exact s_retL j68 rfl h
  · replace h := h.2 hc5
    refine s_aload_n j16 rfl rfl ?_
    refine s_gfR j17 rfl (am_is_ext hx3 ho1) ?_
    obtain ⟨ho6, h⟩ := h
    refine s_gfI j20 rfl ho6 ?_
    refine s_sipush j23 rfl kc_si_2500 ?_
    refine s_icn j26 rfl rfl am_cc_ge (fun hc7 => ?_) (fun hc7 => ?_)
    · replace h := h.2 hc7
      refine s_ldc2 j65 rfl kc_ll_m9223372036854775808 ?_
      exact s_retL j68 rfl h
    · replace h := h.1 hc7
      refine s_iload_n j29 rfl rfl ?_
      refine s_aload j30 rfl rfl ?_
      obtain ⟨ho8, h⟩ := h
      refine s_gfI j32 rfl ho8 ?_
      refine s_ic j35 rfl rfl am_cc_lt (fun hc9 => ?_) (fun hc9 => ?_)
      · replace h := h.1 hc9
        refine s_ldc2 j65 rfl kc_ll_m9223372036854775808 ?_
        exact s_retL j68 rfl h
      · replace h := h.2 hc9
        refine s_iload_n j38 rfl rfl ?_
        refine s_sipush j39 rfl kc_si_10949 ?_
        refine s_ic j42 rfl rfl am_cc_gt (fun hc10 => ?_) (fun hc10 => ?_)
        · replace h := h.1 hc10
          refine s_ldc2 j65 rfl kc_ll_m9223372036854775808 ?_
          exact s_retL j68 rfl h
        · replace h := h.2 hc10
          refine s_iload_n j45 rfl rfl ?_
          refine s_aload j46 rfl rfl ?_
          refine s_gfI j48 rfl ho8 ?_
          refine s_ic j51 rfl rfl am_cc_lt (fun hc11 => ?_) (fun hc11 => ?_)
          · replace h := h.1 hc11
            refine s_ldc2 j65 rfl kc_ll_m9223372036854775808 ?_
            exact s_retL j68 rfl h
          · replace h := h.2 hc11
            refine s_iload_n j54 rfl rfl ?_
            refine s_aload_n j55 rfl rfl ?_
            refine s_gfR j56 rfl (am_is_ext hx3 ho1) ?_
            obtain ⟨ho12, h⟩ := h
            refine s_gfI j59 rfl ho12 ?_
            refine s_icn j62 rfl rfl am_cc_le (fun hc13 => ?_) (fun hc13 => ?_)
            · replace h := h.2 hc13
              refine s_aload_n j69 rfl rfl ?_
              refine s_gfR j70 rfl (am_is_ext hx3 ho1) ?_
              refine s_aload_n j73 rfl rfl ?_
              refine s_gfR j74 rfl (am_is_ext hx3 ho1) ?_
              refine s_aload j77 rfl rfl ?_
              refine s_iload_n j79 rfl rfl ?_
              refine s_iload_n j80 rfl rfl ?_
              refine s_virt j81 rfl rfl rfl rfl ho6 (by decide) (in_Wk_settle _ _ _ _ _) (am_r8 rfl) (am_bV h (fun σ14 h hx14 => ?_))
              replace h := h hx14
              refine s_aload_n j84 rfl rfl ?_
              refine s_gfR j85 rfl (am_is_ext hx14 (am_is_ext hx3 ho1)) ?_
              obtain ⟨ho16, h⟩ := h
              refine s_gfR j88 rfl ho16 ?_
              refine s_astoreV j91 rfl (n := 6) (L' := fun w => [some (am_ov (some this)), some (.int p0), some (.int p1), some (.int p2), some (am_ov a4), some (am_ov w)]) rfl (by decide) (fun _ => am_st1_R [_, _, _, _] _ _ _ _) (fun v17 hv18 => ?_)
              replace h := h v17 hv18
              refine s_aload_n j93 rfl rfl ?_
              refine s_gfR j94 rfl (am_is_ext hx14 (am_is_ext hx3 ho1)) ?_
              refine s_aload_n j97 rfl rfl ?_
              refine s_gfR j98 rfl (am_is_ext hx14 (am_is_ext hx3 ho1)) ?_
              refine s_pfR j101 rfl ho16 (fun σ19 e20 => ?_)
              replace h := h σ19 e20
              have ek21 : am_kd σ19 = am_kd σ14 := by rw [e20]
              refine s_aload_n j104 rfl rfl ?_
              refine s_aload j105 rfl rfl ?_
              refine s_pfR j107 rfl (am_is_kd ek21 (am_is_ext hx14 (am_is_ext hx3 ho1))) (fun σ22 e23 => ?_)
              replace h := h σ22 e23
              have ek24 : am_kd σ22 = am_kd σ19 := by rw [e23]
              refine s_aload_n j110 rfl rfl ?_
              refine s_gfR j111 rfl (am_is_kd ek24 (am_is_kd ek21 (am_is_ext hx14 (am_is_ext hx3 ho1)))) ?_
              obtain ⟨ho25, h⟩ := h
              refine s_gfI j114 rfl ho25 ?_
              refine s_if j117 rfl rfl am_cc_eq (fun hc26 => ?_) (fun hc26 => ?_)
              · replace h := h.1 hc26
                refine s_aload_n j126 rfl rfl ?_
                refine s_gfR j127 rfl (am_is_kd ek24 (am_is_kd ek21 (am_is_ext hx14 (am_is_ext hx3 ho1)))) ?_
                refine s_virt j130 rfl rfl rfl rfl ho25 (by decide) (in_Vw_total _) (am_r8 rfl) (am_bL h (fun a28 σ27 h hx27 => ?_))
                replace h := h hx27
                exact s_retL j133 rfl h
              · replace h := h.2 hc26
                refine s_ldc2 j120 rfl kc_ll_m9223372036854775808 ?_
                refine s_goto j123 rfl rfl ?_
                exact s_retL j133 rfl h
            · replace h := h.1 hc13
              refine s_ldc2 j65 rfl kc_ll_m9223372036854775808 ?_
              exact s_retL j68 rfl h
theorem P_Co_finding (nl : Bool) (Ln : Nat) (xs : Nat → Int32) : am_Jl (TT nl Ln xs) 151 [(0, .aload_n 0, 1, []), (1, .getfield 63, 4, [9, 0, 9, 2]), (4, .getfield 113, 7, [9, 3, 6, 0]), (7, .ireturn, 8, [1])] := dk_ck (by decide +kernel)
set_option maxRecDepth 4096 in
theorem w_Co_finding {nl : Bool} {Ln : Nat} {xs : Nat → Int32} {d : Nat} {this : Nat} {σ : am_S} {F : Int32 → am_S → Prop} (h : (am_is σ (some this) 0) ∧ (am_is σ (am_fR σ 9 this) 3) ∧ F (am_fI σ 3006 ((am_fR σ 9 this).getD 0)) σ) : k_Co_finding nl Ln xs (d + 1) this σ F := by
  obtain ⟨j0, j1, j4, j7, -⟩ := P_Co_finding nl Ln xs
  have elo : am_lo 1 [am_ov (some this)] = [some (am_ov (some this))] := by simp only [am_lo, am_in_ov, am_in_int, am_in_long, am_in_nil]; rfl
  unfold k_Co_finding
  rw [elo]
  refine s_aload_n j0 rfl rfl ?_
  obtain ⟨ho1, h⟩ := h
  refine s_gfR j1 rfl ho1 ?_
  obtain ⟨ho2, h⟩ := h
  refine s_gfI j4 rfl ho2 ?_
  exact s_retI j7 rfl h
theorem P_Co_row (nl : Bool) (Ln : Nat) (xs : Nat → Int32) : am_Jl (TT nl Ln xs) 152 [(0, .iload_n 2, 1, []), (1, .ifCond .eq 11, 4, []), (4, .iload_n 2, 5, []), (5, .iconst 1, 6, []), (6, .if_icmp .eq 6, 9, []), (9, .bipush (-2), 11, []), (11, .ireturn, 12, [1])] := dk_ck (by decide +kernel)
set_option maxRecDepth 4096 in
theorem w_Co_row {nl : Bool} {Ln : Nat} {xs : Nat → Int32} {d : Nat} {this : Nat} {p0 : Int32} {p1 : Int32} {σ : am_S} {F : Int32 → am_S → Prop} (h : (p1 = 0 → c_Co_row_12 nl Ln xs (d + 1) this p0 p1 σ F) ∧ (¬ (p1 = 0) → (p1 = (1 : Int32) → c_Co_row_12 nl Ln xs (d + 1) this p0 p1 σ F) ∧ (¬ (p1 = (1 : Int32)) → F (-2 : Int32) σ))) : k_Co_row nl Ln xs (d + 1) this p0 p1 σ F := by
  obtain ⟨j0, j1, j4, j5, j6, j9, j11, -⟩ := P_Co_row nl Ln xs
  have elo : am_lo 3 [am_ov (some this), .int p0, .int p1] = [some (am_ov (some this)), some (.int p0), some (.int p1)] := by simp only [am_lo, am_in_ov, am_in_int, am_in_long, am_in_nil]; rfl
  unfold k_Co_row
  rw [elo]
  refine s_iload_n j0 rfl rfl ?_
  refine s_if j1 rfl rfl am_cc_eq (fun hc1 => ?_) (fun hc1 => ?_)
  · replace h := h.1 hc1
    exact h
  · replace h := h.2 hc1
    refine s_iload_n j4 rfl rfl ?_
    refine s_iconst j5 rfl kc_ic_1 ?_
    refine s_ic j6 rfl rfl am_cc_eq (fun hc2 => ?_) (fun hc2 => ?_)
    · replace h := h.1 hc2
      exact h
    · replace h := h.2 hc2
      refine s_bipush j9 rfl kc_bi_m2 ?_
      exact s_retI j11 rfl h
theorem P_Co_row_12 (nl : Bool) (Ln : Nat) (xs : Nat → Int32) : am_Jl (TT nl Ln xs) 152 [(12, .iload_n 1, 13, []), (13, .ifCond .lt 14, 16, []), (16, .iload_n 1, 17, []), (17, .aload_n 0, 18, []), (18, .getfield 63, 21, [9, 0, 9, 2]), (21, .getfield 120, 24, [9, 3, 4, 0]), (24, .if_icmp .lt 5, 27, []), (27, .iconst (-1), 28, []), (28, .ireturn, 29, [1]), (29, .iload_n 2, 30, []), (30, .ifCond .ne 15, 33, []), (33, .aload_n 0, 34, []), (34, .getfield 63, 37, [9, 0, 9, 2]), (37, .getfield 123, 40, [9, 3, 0, 2]), (40, .iload_n 1, 41, []), (41, .iaload, 42, []), (42, .goto 12, 45, []), (45, .aload_n 0, 46, []), (46, .getfield 63, 49, [9, 0, 9, 2]), (49, .getfield 127, 52, [9, 3, 1, 2]), (52, .iload_n 1, 53, []), (53, .iaload, 54, []), (54, .ireturn, 55, [1])] := dk_ck (by decide +kernel)
set_option maxRecDepth 4096 in
theorem w_Co_row_12 {nl : Bool} {Ln : Nat} {xs : Nat → Int32} {d : Nat} {this : Nat} {x1 : Int32} {x2 : Int32} {σ : am_S} {F : Int32 → am_S → Prop} (h : (x1 < 0 → F (-1 : Int32) σ) ∧ (¬ (x1 < 0) → (am_is σ (some this) 0) ∧ (am_is σ (am_fR σ 9 this) 3) ∧ (x1 < (am_fI σ 3004 ((am_fR σ 9 this).getD 0)) → ((x2 = 0) → am_ar σ 1000 (am_fR σ 3000 ((am_fR σ 9 this).getD 0)) x1) ∧ (¬ (x2 = 0) → am_ar σ 1000 (am_fR σ 3001 ((am_fR σ 9 this).getD 0)) x1) ∧ ∀ w9 : Int32, w9 = (if x2 = 0 then (am_aI σ ((am_fR σ 3000 ((am_fR σ 9 this).getD 0)).getD 0) x1.toNatClampNeg) else (am_aI σ ((am_fR σ 3001 ((am_fR σ 9 this).getD 0)).getD 0) x1.toNatClampNeg)) → F w9 σ) ∧ (¬ (x1 < (am_fI σ 3004 ((am_fR σ 9 this).getD 0))) → F (-1 : Int32) σ))) : c_Co_row_12 nl Ln xs (d + 1) this x1 x2 σ F := by
  obtain ⟨j12, j13, j16, j17, j18, j21, j24, j27, j28, j29, j30, j33, j34, j37, j40, j41, j42, j45, j46, j49, j52, j53, j54, -⟩ := P_Co_row_12 nl Ln xs
  unfold c_Co_row_12
  refine s_iload_n j12 rfl rfl ?_
  refine s_if j13 rfl rfl am_cc_lt (fun hc1 => ?_) (fun hc1 => ?_)
  · replace h := h.1 hc1
    refine s_iconst j27 rfl kc_ic_m1 ?_
    exact s_retI j28 rfl h
  · replace h := h.2 hc1
    refine s_iload_n j16 rfl rfl ?_
    refine s_aload_n j17 rfl rfl ?_
    obtain ⟨ho2, h⟩ := h
    refine s_gfR j18 rfl ho2 ?_
    obtain ⟨ho3, h⟩ := h
    refine s_gfI j21 rfl ho3 ?_
    refine s_ic j24 rfl rfl am_cc_lt (fun hc4 => ?_) (fun hc4 => ?_)
    · replace h := h.1 hc4
      refine s_iload_n j29 rfl rfl ?_
      obtain ⟨ho6, h⟩ := h
      obtain ⟨ho7, h⟩ := h
      have K8 : ∀ (w9 : Int32), w9 = (if x2 = 0 then (am_aI σ ((am_fR σ 3000 ((am_fR σ 9 this).getD 0)).getD 0) x1.toNatClampNeg) else (am_aI σ ((am_fR σ 3001 ((am_fR σ 9 this).getD 0)).getD 0) x1.toNatClampNeg)) → am_C (TT nl Ln xs) (d + 1) 152 54 [some (am_ov (some this)), some (.int x1), some (.int x2)] [.int w9] σ (am_qI F) := by
        intro w9 hw10
        replace h := h w9 hw10
        exact s_retI j54 rfl h
      refine s_ifn j30 rfl rfl am_cc_ne (fun hc5 => ?_) (fun hc5 => ?_)
      · refine s_aload_n j45 rfl rfl ?_
        refine s_gfR j46 rfl ho2 ?_
        refine s_gfR j49 rfl ho3 ?_
        refine s_iload_n j52 rfl rfl ?_
        refine s_iaload j53 rfl (ho7 hc5) ?_
        exact K8 _ (am_t2 hc5 rfl)
      · refine s_aload_n j33 rfl rfl ?_
        refine s_gfR j34 rfl ho2 ?_
        refine s_gfR j37 rfl ho3 ?_
        refine s_iload_n j40 rfl rfl ?_
        refine s_iaload j41 rfl (ho6 hc5) ?_
        refine s_goto j42 rfl rfl ?_
        exact K8 _ (am_t1 hc5 rfl)
    · replace h := h.2 hc4
      refine s_iconst j27 rfl kc_ic_m1 ?_
      exact s_retI j28 rfl h
theorem P_Co_cents (nl : Bool) (Ln : Nat) (xs : Nat → Int32) : am_Jl (TT nl Ln xs) 153 [(0, .iload_n 1, 1, []), (1, .ifCond .lt 14, 4, []), (4, .iload_n 1, 5, []), (5, .aload_n 0, 6, []), (6, .getfield 63, 9, [9, 0, 9, 2]), (9, .getfield 120, 12, [9, 3, 4, 0]), (12, .if_icmp .lt 7, 15, []), (15, .lconst 0, 16, []), (16, .goto 12, 19, []), (19, .aload_n 0, 20, []), (20, .getfield 63, 23, [9, 0, 9, 2]), (23, .getfield 130, 26, [9, 3, 2, 2]), (26, .iload_n 1, 27, []), (27, .laload, 28, []), (28, .lreturn, 29, [2])] := dk_ck (by decide +kernel)
set_option maxRecDepth 4096 in
theorem w_Co_cents {nl : Bool} {Ln : Nat} {xs : Nat → Int32} {d : Nat} {this : Nat} {p0 : Int32} {σ : am_S} {F : Int64 → am_S → Prop} (h : (¬ (p0 < 0) → am_is σ (some this) 0) ∧ (¬ (p0 < 0) → am_is σ (am_fR σ 9 this) 3) ∧ (¬ (p0 < 0) → (p0 < (am_fI σ 3004 ((am_fR σ 9 this).getD 0))) → am_is σ (some this) 0) ∧ (¬ (p0 < 0) → (p0 < (am_fI σ 3004 ((am_fR σ 9 this).getD 0))) → am_is σ (am_fR σ 9 this) 3) ∧ (¬ (p0 < 0) → (p0 < (am_fI σ 3004 ((am_fR σ 9 this).getD 0))) → am_ar σ 1001 (am_fR σ 3002 ((am_fR σ 9 this).getD 0)) p0) ∧ ∀ w9 : Int64, w9 = (if p0 < 0 then (0 : Int64) else (if p0 < (am_fI σ 3004 ((am_fR σ 9 this).getD 0)) then (am_aL σ ((am_fR σ 3002 ((am_fR σ 9 this).getD 0)).getD 0) p0.toNatClampNeg) else (0 : Int64))) → F w9 σ) : k_Co_cents nl Ln xs (d + 1) this p0 σ F := by
  obtain ⟨j0, j1, j4, j5, j6, j9, j12, j15, j16, j19, j20, j23, j26, j27, j28, -⟩ := P_Co_cents nl Ln xs
  have elo : am_lo 2 [am_ov (some this), .int p0] = [some (am_ov (some this)), some (.int p0)] := by simp only [am_lo, am_in_ov, am_in_int, am_in_long, am_in_nil]; rfl
  unfold k_Co_cents
  rw [elo]
  refine s_iload_n j0 rfl rfl ?_
  obtain ⟨ho2, h⟩ := h
  obtain ⟨ho3, h⟩ := h
  obtain ⟨ho5, h⟩ := h
  obtain ⟨ho6, h⟩ := h
  obtain ⟨ho7, h⟩ := h
  have K8 : ∀ (w9 : Int64), w9 = (if p0 < 0 then (0 : Int64) else (if p0 < (am_fI σ 3004 ((am_fR σ 9 this).getD 0)) then (am_aL σ ((am_fR σ 3002 ((am_fR σ 9 this).getD 0)).getD 0) p0.toNatClampNeg) else (0 : Int64))) → am_C (TT nl Ln xs) (d + 1) 153 28 [some (am_ov (some this)), some (.int p0)] [.long w9] σ (am_qL F) := by
    intro w9 hw10
    replace h := h w9 hw10
    exact s_retL j28 rfl h
  refine s_if j1 rfl rfl am_cc_lt (fun hc1 => ?_) (fun hc1 => ?_)
  · refine s_lconst j15 rfl rfl ?_
    refine s_goto j16 rfl rfl ?_
    exact K8 _ (am_t1 hc1 rfl)
  · refine s_iload_n j4 rfl rfl ?_
    refine s_aload_n j5 rfl rfl ?_
    refine s_gfR j6 rfl (ho2 hc1) ?_
    refine s_gfI j9 rfl (ho3 hc1) ?_
    refine s_ic j12 rfl rfl am_cc_lt (fun hc4 => ?_) (fun hc4 => ?_)
    · refine s_aload_n j19 rfl rfl ?_
      refine s_gfR j20 rfl (ho5 hc1 hc4) ?_
      refine s_gfR j23 rfl (ho6 hc1 hc4) ?_
      refine s_iload_n j26 rfl rfl ?_
      refine s_laload j27 rfl (ho7 hc1 hc4) ?_
      exact K8 _ (am_t2 hc1 (am_t1 hc4 rfl))
    · refine s_lconst j15 rfl rfl ?_
      refine s_goto j16 rfl rfl ?_
      exact K8 _ (am_t2 hc1 (am_t2 hc4 rfl))
theorem P_Co_trace (nl : Bool) (Ln : Nat) (xs : Nat → Int32) : am_Jl (TT nl Ln xs) 154 [(0, .iload_n 1, 1, []), (1, .ifCond .lt 14, 4, []), (4, .iload_n 1, 5, []), (5, .aload_n 0, 6, []), (6, .getfield 63, 9, [9, 0, 9, 2]), (9, .getfield 133, 12, [9, 3, 5, 0]), (12, .if_icmp .lt 7, 15, []), (15, .iconst (-1), 16, []), (16, .goto 12, 19, []), (19, .aload_n 0, 20, []), (20, .getfield 63, 23, [9, 0, 9, 2]), (23, .getfield 136, 26, [9, 3, 3, 2]), (26, .iload_n 1, 27, []), (27, .iaload, 28, []), (28, .ireturn, 29, [1])] := dk_ck (by decide +kernel)
set_option maxRecDepth 4096 in
theorem w_Co_trace {nl : Bool} {Ln : Nat} {xs : Nat → Int32} {d : Nat} {this : Nat} {p0 : Int32} {σ : am_S} {F : Int32 → am_S → Prop} (h : (¬ (p0 < 0) → am_is σ (some this) 0) ∧ (¬ (p0 < 0) → am_is σ (am_fR σ 9 this) 3) ∧ (¬ (p0 < 0) → (p0 < (am_fI σ 3005 ((am_fR σ 9 this).getD 0))) → am_is σ (some this) 0) ∧ (¬ (p0 < 0) → (p0 < (am_fI σ 3005 ((am_fR σ 9 this).getD 0))) → am_is σ (am_fR σ 9 this) 3) ∧ (¬ (p0 < 0) → (p0 < (am_fI σ 3005 ((am_fR σ 9 this).getD 0))) → am_ar σ 1000 (am_fR σ 3003 ((am_fR σ 9 this).getD 0)) p0) ∧ ∀ w9 : Int32, w9 = (if p0 < 0 then (-1 : Int32) else (if p0 < (am_fI σ 3005 ((am_fR σ 9 this).getD 0)) then (am_aI σ ((am_fR σ 3003 ((am_fR σ 9 this).getD 0)).getD 0) p0.toNatClampNeg) else (-1 : Int32))) → F w9 σ) : k_Co_trace nl Ln xs (d + 1) this p0 σ F := by
  obtain ⟨j0, j1, j4, j5, j6, j9, j12, j15, j16, j19, j20, j23, j26, j27, j28, -⟩ := P_Co_trace nl Ln xs
  have elo : am_lo 2 [am_ov (some this), .int p0] = [some (am_ov (some this)), some (.int p0)] := by simp only [am_lo, am_in_ov, am_in_int, am_in_long, am_in_nil]; rfl
  unfold k_Co_trace
  rw [elo]
  refine s_iload_n j0 rfl rfl ?_
  obtain ⟨ho2, h⟩ := h
  obtain ⟨ho3, h⟩ := h
  obtain ⟨ho5, h⟩ := h
  obtain ⟨ho6, h⟩ := h
  obtain ⟨ho7, h⟩ := h
  have K8 : ∀ (w9 : Int32), w9 = (if p0 < 0 then (-1 : Int32) else (if p0 < (am_fI σ 3005 ((am_fR σ 9 this).getD 0)) then (am_aI σ ((am_fR σ 3003 ((am_fR σ 9 this).getD 0)).getD 0) p0.toNatClampNeg) else (-1 : Int32))) → am_C (TT nl Ln xs) (d + 1) 154 28 [some (am_ov (some this)), some (.int p0)] [.int w9] σ (am_qI F) := by
    intro w9 hw10
    replace h := h w9 hw10
    exact s_retI j28 rfl h
  refine s_if j1 rfl rfl am_cc_lt (fun hc1 => ?_) (fun hc1 => ?_)
  · refine s_iconst j15 rfl kc_ic_m1 ?_
    refine s_goto j16 rfl rfl ?_
    exact K8 _ (am_t1 hc1 rfl)
  · refine s_iload_n j4 rfl rfl ?_
    refine s_aload_n j5 rfl rfl ?_
    refine s_gfR j6 rfl (ho2 hc1) ?_
    refine s_gfI j9 rfl (ho3 hc1) ?_
    refine s_ic j12 rfl rfl am_cc_lt (fun hc4 => ?_) (fun hc4 => ?_)
    · refine s_aload_n j19 rfl rfl ?_
      refine s_gfR j20 rfl (ho5 hc1 hc4) ?_
      refine s_gfR j23 rfl (ho6 hc1 hc4) ?_
      refine s_iload_n j26 rfl rfl ?_
      refine s_iaload j27 rfl (ho7 hc1 hc4) ?_
      exact K8 _ (am_t2 hc1 (am_t1 hc4 rfl))
    · refine s_iconst j15 rfl kc_ic_m1 ?_
      refine s_goto j16 rfl rfl ?_
      exact K8 _ (am_t2 hc1 (am_t2 hc4 rfl))
theorem P_Co_say (nl : Bool) (Ln : Nat) (xs : Nat → Int32) : am_Jl (TT nl Ln xs) 155 [(0, .aload_n 0, 1, []), (1, .getfield 21, 4, [9, 0, 2, 2]), (4, .invokevirtual 75, 7, [10, 132, 2, 1, 1]), (7, .iconst 0, 8, []), (8, .istore_n 1, 9, [])] := dk_ck (by decide +kernel)
set_option maxRecDepth 4096 in
theorem w_Co_say {nl : Bool} {Ln : Nat} {xs : Nat → Int32} {d : Nat} {this : Nat} {σ : am_S} {F : Int32 → am_S → Prop} (h : (am_is σ (some this) 0) ∧ (am_is σ (am_fR σ 2 this) 1) ∧ k_By_clear nl Ln xs d ((am_fR σ 2 this).getD 0) σ (fun σ3 => am_ext σ σ3 → c_Co_say_9 nl Ln xs (d + 1) this (0 : Int32) σ3 F)) : k_Co_say nl Ln xs (d + 1) this σ F := by
  obtain ⟨j0, j1, j4, j7, j8, -⟩ := P_Co_say nl Ln xs
  have elo : am_lo 2 [am_ov (some this)] = [some (am_ov (some this)), none] := by simp only [am_lo, am_in_ov, am_in_int, am_in_long, am_in_nil]; rfl
  unfold k_Co_say
  rw [elo]
  refine s_aload_n j0 rfl rfl ?_
  obtain ⟨ho1, h⟩ := h
  refine s_gfR j1 rfl ho1 ?_
  obtain ⟨ho2, h⟩ := h
  refine s_virt j4 rfl rfl rfl rfl ho2 (by decide) (in_By_clear _) (am_r8 rfl) (am_bV h (fun σ3 h hx3 => ?_))
  replace h := h hx3
  refine s_iconst j7 rfl kc_ic_0 ?_
  refine s_istore_n j8 rfl (n := 2) (L' := [some (am_ov (some this)), some (.int (0 : Int32))]) rfl (by decide) (am_st1_R [] _ _ _ _) ?_
  exact h
theorem P_Co_say_9 (nl : Bool) (Ln : Nat) (xs : Nat → Int32) : am_Jl (TT nl Ln xs) 155 [(9, .iload_n 1, 10, []), (10, .aload_n 0, 11, []), (11, .getfield 63, 14, [9, 0, 9, 2]), (14, .getfield 120, 17, [9, 3, 4, 0]), (17, .if_icmp .ge 66, 20, []), (20, .aload_n 0, 21, []), (21, .getfield 21, 24, [9, 0, 2, 2]), (24, .ldc 139, 26, [5, 1]), (26, .aload_n 0, 27, []), (27, .getfield 63, 30, [9, 0, 9, 2]), (30, .getfield 123, 33, [9, 3, 0, 2]), (33, .iload_n 1, 34, []), (34, .iaload, 35, []), (35, .bipush 8, 37, []), (37, .imul, 38, []), (38, .bipush 8, 40, []), (40, .invokevirtual 141, 43, [10, 156, 2, 5, 4]), (43, .aload_n 0, 44, []), (44, .getfield 21, 47, [9, 0, 2, 2]), (47, .bipush 32, 49, []), (49, .invokevirtual 82, 52, [10, 75, 2, 2, 2]), (52, .aload_n 0, 53, []), (53, .getfield 21, 56, [9, 0, 2, 2]), (56, .aload_n 0, 57, []), (57, .getfield 63, 60, [9, 0, 9, 2]), (60, .getfield 130, 63, [9, 3, 2, 2]), (63, .iload_n 1, 64, []), (64, .laload, 65, []), (65, .invokevirtual 145, 68, [10, 159, 2, 8, 2]), (68, .aload_n 0, 69, []), (69, .getfield 21, 72, [9, 0, 2, 2]), (72, .bipush 10, 74, []), (74, .invokevirtual 82, 77, [10, 75, 2, 2, 2]), (77, .iinc 1 1, 80, []), (80, .goto (-71), 83, []), (83, .aload_n 0, 84, []), (84, .getfield 21, 87, [9, 0, 2, 2]), (87, .getfield 78, 90, [9, 1, 1, 0]), (90, .ireturn, 91, [1])] := dk_ck (by decide +kernel)
set_option maxRecDepth 4096 in
theorem w_Co_say_9 {nl : Bool} {Ln : Nat} {xs : Nat → Int32} {d : Nat} {this : Nat} {x1 : Int32} {σ : am_S} {F : Int32 → am_S → Prop} (h : (am_is σ (some this) 0) ∧ (am_is σ (am_fR σ 9 this) 3) ∧ (x1 < (am_fI σ 3004 ((am_fR σ 9 this).getD 0)) → (am_ar σ 1000 (am_fR σ 3000 ((am_fR σ 9 this).getD 0)) x1) ∧ (am_is σ (am_fR σ 2 this) 1) ∧ k_By_putWord nl Ln xs d ((am_fR σ 2 this).getD 0) (some 1) ((am_aI σ ((am_fR σ 3000 ((am_fR σ 9 this).getD 0)).getD 0) x1.toNatClampNeg) * (8 : Int32)) (8 : Int32) σ (fun σ6 => am_ext σ σ6 → (am_is σ6 (am_fR σ6 2 this) 1) ∧ k_By_put nl Ln xs d ((am_fR σ6 2 this).getD 0) (32 : Int32) σ6 (fun σ9 => am_ext σ6 σ9 → (am_is σ9 (am_fR σ9 9 this) 3) ∧ (am_ar σ9 1001 (am_fR σ9 3002 ((am_fR σ9 9 this).getD 0)) x1) ∧ (am_is σ9 (am_fR σ9 2 this) 1) ∧ k_By_putDecimal nl Ln xs d ((am_fR σ9 2 this).getD 0) (am_aL σ9 ((am_fR σ9 3002 ((am_fR σ9 9 this).getD 0)).getD 0) x1.toNatClampNeg) σ9 (fun σ14 => am_ext σ9 σ14 → (am_is σ14 (am_fR σ14 2 this) 1) ∧ k_By_put nl Ln xs d ((am_fR σ14 2 this).getD 0) (10 : Int32) σ14 (fun σ17 => am_ext σ14 σ17 → c_Co_say_9 nl Ln xs (d + 1) this (x1 + (1 : Int32)) σ17 F))))) ∧ (¬ (x1 < (am_fI σ 3004 ((am_fR σ 9 this).getD 0))) → (am_is σ (am_fR σ 2 this) 1) ∧ F (am_fI σ 1001 ((am_fR σ 2 this).getD 0)) σ)) : c_Co_say_9 nl Ln xs (d + 1) this x1 σ F := by
  obtain ⟨j9, j10, j11, j14, j17, j20, j21, j24, j26, j27, j30, j33, j34, j35, j37, j38, j40, j43, j44, j47, j49, j52, j53, j56, j57, j60, j63, j64, j65, j68, j69, j72, j74, j77, j80, j83, j84, j87, j90, -⟩ := P_Co_say_9 nl Ln xs
  unfold c_Co_say_9
  refine s_iload_n j9 rfl rfl ?_
  refine s_aload_n j10 rfl rfl ?_
  obtain ⟨ho1, h⟩ := h
  refine s_gfR j11 rfl ho1 ?_
  obtain ⟨ho2, h⟩ := h
  refine s_gfI j14 rfl ho2 ?_
  refine s_icn j17 rfl rfl am_cc_ge (fun hc3 => ?_) (fun hc3 => ?_)
  · replace h := h.2 hc3
    refine s_aload_n j83 rfl rfl ?_
    refine s_gfR j84 rfl ho1 ?_
    obtain ⟨ho19, h⟩ := h
    refine s_gfI j87 rfl ho19 ?_
    exact s_retI j90 rfl h
  · replace h := h.1 hc3
    refine s_aload_n j20 rfl rfl ?_
    refine s_gfR j21 rfl ho1 ?_
    refine s_ldcS j24 rfl ?_
    refine s_aload_n j26 rfl rfl ?_
    refine s_gfR j27 rfl ho1 ?_
    refine s_gfR j30 rfl ho2 ?_
    refine s_iload_n j33 rfl rfl ?_
    obtain ⟨ho4, h⟩ := h
    refine s_iaload j34 rfl ho4 ?_
    refine s_bipush j35 rfl kc_bi_8 ?_
    refine s_g j37 rfl rfl rfl rfl rfl rfl ?_
    refine s_bipush j38 rfl kc_bi_8 ?_
    obtain ⟨ho5, h⟩ := h
    refine s_virt j40 rfl rfl rfl rfl ho5 (by decide) (in_By_putWord _ _ _ _) (am_r8 rfl) (am_bV h (fun σ6 h hx6 => ?_))
    replace h := h hx6
    refine s_aload_n j43 rfl rfl ?_
    refine s_gfR j44 rfl (am_is_ext hx6 ho1) ?_
    refine s_bipush j47 rfl kc_bi_32 ?_
    obtain ⟨ho8, h⟩ := h
    refine s_virt j49 rfl rfl rfl rfl ho8 (by decide) (in_By_put _ _) (am_r8 rfl) (am_bV h (fun σ9 h hx9 => ?_))
    replace h := h hx9
    refine s_aload_n j52 rfl rfl ?_
    refine s_gfR j53 rfl (am_is_ext hx9 (am_is_ext hx6 ho1)) ?_
    refine s_aload_n j56 rfl rfl ?_
    refine s_gfR j57 rfl (am_is_ext hx9 (am_is_ext hx6 ho1)) ?_
    obtain ⟨ho11, h⟩ := h
    refine s_gfR j60 rfl ho11 ?_
    refine s_iload_n j63 rfl rfl ?_
    obtain ⟨ho12, h⟩ := h
    refine s_laload j64 rfl ho12 ?_
    obtain ⟨ho13, h⟩ := h
    refine s_virt j65 rfl rfl rfl rfl ho13 (by decide) (in_By_putDecimal _ _) (am_r8 rfl) (am_bV h (fun σ14 h hx14 => ?_))
    replace h := h hx14
    refine s_aload_n j68 rfl rfl ?_
    refine s_gfR j69 rfl (am_is_ext hx14 (am_is_ext hx9 (am_is_ext hx6 ho1))) ?_
    refine s_bipush j72 rfl kc_bi_10 ?_
    obtain ⟨ho16, h⟩ := h
    refine s_virt j74 rfl rfl rfl rfl ho16 (by decide) (in_By_put _ _) (am_r8 rfl) (am_bV h (fun σ17 h hx17 => ?_))
    replace h := h hx17
    refine s_iinc (L' := [some (am_ov (some this)), some (.int (x1 + (1 : Int32)))]) j77 rfl rfl kc_ic_1 (am_st1_R [] _ _ _ _) ?_
    refine s_goto j80 rfl rfl ?_
    exact h
theorem P_By_putWord (nl : Bool) (Ln : Nat) (xs : Nat → Int32) : am_Jl (TT nl Ln xs) 156 [(0, .iload_n 2, 1, []), (1, .istore 4, 3, [])] := dk_ck (by decide +kernel)
set_option maxRecDepth 4096 in
theorem w_By_putWord {nl : Bool} {Ln : Nat} {xs : Nat → Int32} {d : Nat} {this : Nat} {p0 : Option Nat} {p1 : Int32} {p2 : Int32} {σ : am_S} {F : am_S → Prop} (h : c_By_putWord_3 nl Ln xs (d + 1) this p0 p1 p2 p1 σ F) : k_By_putWord nl Ln xs (d + 1) this p0 p1 p2 σ F := by
  obtain ⟨j0, j1, -⟩ := P_By_putWord nl Ln xs
  have elo : am_lo 5 [am_ov (some this), am_ov p0, .int p1, .int p2] = [some (am_ov (some this)), some (am_ov p0), some (.int p1), some (.int p2), none] := by simp only [am_lo, am_in_ov, am_in_int, am_in_long, am_in_nil]; rfl
  unfold k_By_putWord
  rw [elo]
  refine s_iload_n j0 rfl rfl ?_
  refine s_istore j1 rfl (n := 5) (L' := [some (am_ov (some this)), some (am_ov p0), some (.int p1), some (.int p2), some (.int p1)]) rfl (by decide) rfl ?_
  exact h
theorem P_By_putWord_3 (nl : Bool) (Ln : Nat) (xs : Nat → Int32) : am_Jl (TT nl Ln xs) 156 [(3, .iload 4, 5, []), (5, .iload_n 2, 6, []), (6, .iload_n 3, 7, []), (7, .iadd, 8, []), (8, .if_icmp .ge 39, 11, []), (11, .iload 4, 13, []), (13, .aload_n 1, 14, []), (14, .invokevirtual 26, 17, [10, 157, 0, 1, 1]), (17, .if_icmp .ge 30, 20, []), (20, .aload_n 1, 21, []), (21, .iload 4, 23, []), (23, .invokevirtual 32, 26, [10, 87, 0, 2, 2]), (26, .bipush 32, 28, []), (28, .if_icmp .eq 19, 31, []), (31, .aload_n 0, 32, []), (32, .aload_n 1, 33, []), (33, .iload 4, 35, []), (35, .invokevirtual 32, 38, [10, 87, 0, 2, 2]), (38, .invokevirtual 36, 41, [10, 75, 2, 2, 2]), (41, .iinc 4 1, 44, []), (44, .goto (-41), 47, []), (47, .return_, 48, [0])] := dk_ck (by decide +kernel)
set_option maxRecDepth 4096 in
theorem w_By_putWord_3 {nl : Bool} {Ln : Nat} {xs : Nat → Int32} {d : Nat} {this : Nat} {x1 : Option Nat} {x2 : Int32} {x3 : Int32} {x4 : Int32} {σ : am_S} {F : am_S → Prop} (h : (x4 < (x2 + x3) → (∃ n, x1 = some n) ∧ ((x1.getD 0) < 200 ∧ am_rk (am_tz (TT nl Ln xs)) (x1.getD 0) = 1) ∧ k_Str_length nl Ln xs d (x1.getD 0) σ (fun a5 σ4 => am_ext σ σ4 → (x4 < a5 → (∃ n, x1 = some n) ∧ ((x1.getD 0) < 200 ∧ am_rk (am_tz (TT nl Ln xs)) (x1.getD 0) = 1) ∧ k_Str_charAt nl Ln xs d (x1.getD 0) x4 σ4 (fun a10 σ9 => am_ext σ4 σ9 → (a10 = (32 : Int32) → F σ9) ∧ (¬ (a10 = (32 : Int32)) → (∃ n, x1 = some n) ∧ ((x1.getD 0) < 200 ∧ am_rk (am_tz (TT nl Ln xs)) (x1.getD 0) = 1) ∧ k_Str_charAt nl Ln xs d (x1.getD 0) x4 σ9 (fun a15 σ14 => am_ext σ9 σ14 → (am_is σ14 (some this) 1) ∧ k_By_put nl Ln xs d this a15 σ14 (fun σ17 => am_ext σ14 σ17 → c_By_putWord_3 nl Ln xs (d + 1) this x1 x2 x3 (x4 + (1 : Int32)) σ17 F))))) ∧ (¬ (x4 < a5) → F σ4))) ∧ (¬ (x4 < (x2 + x3)) → F σ)) : c_By_putWord_3 nl Ln xs (d + 1) this x1 x2 x3 x4 σ F := by
  obtain ⟨j3, j5, j6, j7, j8, j11, j13, j14, j17, j20, j21, j23, j26, j28, j31, j32, j33, j35, j38, j41, j44, j47, -⟩ := P_By_putWord_3 nl Ln xs
  unfold c_By_putWord_3
  refine s_iload j3 rfl rfl ?_
  refine s_iload_n j5 rfl rfl ?_
  refine s_iload_n j6 rfl rfl ?_
  refine s_g j7 rfl rfl rfl rfl rfl rfl ?_
  refine s_icn j8 rfl rfl am_cc_ge (fun hc1 => ?_) (fun hc1 => ?_)
  · replace h := h.2 hc1
    exact s_retV j47 rfl h
  · replace h := h.1 hc1
    refine s_iload j11 rfl rfl ?_
    refine s_aload_n j13 rfl rfl ?_
    obtain ⟨ho3, h⟩ := h
    obtain ⟨ho2, h⟩ := h
    refine s_virtS2 j14 rfl rfl rfl rfl ho3 ho2 (by decide) (in_Str_length _) (am_r8 rfl) (am_bI h (fun a5 σ4 h hx4 => ?_))
    replace h := h hx4
    refine s_icn j17 rfl rfl am_cc_ge (fun hc6 => ?_) (fun hc6 => ?_)
    · replace h := h.2 hc6
      exact s_retV j47 rfl h
    · replace h := h.1 hc6
      refine s_aload_n j20 rfl rfl ?_
      refine s_iload j21 rfl rfl ?_
      obtain ⟨ho8, h⟩ := h
      obtain ⟨ho7, h⟩ := h
      refine s_virtS2 j23 rfl rfl rfl rfl ho8 ho7 (by decide) (in_Str_charAt _ _) (am_r8 rfl) (am_bI h (fun a10 σ9 h hx9 => ?_))
      replace h := h hx9
      refine s_bipush j26 rfl kc_bi_32 ?_
      refine s_ic j28 rfl rfl am_cc_eq (fun hc11 => ?_) (fun hc11 => ?_)
      · replace h := h.1 hc11
        exact s_retV j47 rfl h
      · replace h := h.2 hc11
        refine s_aload_n j31 rfl rfl ?_
        refine s_aload_n j32 rfl rfl ?_
        refine s_iload j33 rfl rfl ?_
        obtain ⟨ho13, h⟩ := h
        obtain ⟨ho12, h⟩ := h
        refine s_virtS2 j35 rfl rfl rfl rfl ho13 ho12 (by decide) (in_Str_charAt _ _) (am_r8 rfl) (am_bI h (fun a15 σ14 h hx14 => ?_))
        replace h := h hx14
        obtain ⟨ho16, h⟩ := h
        refine s_virt j38 rfl rfl rfl rfl ho16 (by decide) (in_By_put _ _) (am_r8 rfl) (am_bV h (fun σ17 h hx17 => ?_))
        replace h := h hx17
        refine s_iinc (L' := [some (am_ov (some this)), some (am_ov x1), some (.int x2), some (.int x3), some (.int (x4 + (1 : Int32)))]) j41 rfl rfl kc_ic_1 rfl ?_
        refine s_goto j44 rfl rfl ?_
        exact h
theorem P_By_putDecimal (nl : Bool) (Ln : Nat) (xs : Nat → Int32) : am_Jl (TT nl Ln xs) 159 [(0, .lload_n 1, 1, []), (1, .lconst 0, 2, []), (2, .lcmp, 3, []), (3, .ifCond .ge 9, 6, []), (6, .aload_n 0, 7, []), (7, .bipush 45, 9, []), (9, .invokevirtual 36, 12, [10, 75, 2, 2, 2])] := dk_ck (by decide +kernel)
set_option maxRecDepth 4096 in
theorem w_By_putDecimal {nl : Bool} {Ln : Nat} {xs : Nat → Int32} {d : Nat} {this : Nat} {p0 : Int64} {σ : am_S} {F : am_S → Prop} (h : (p0 < (0 : Int64) → (am_is σ (some this) 1) ∧ k_By_put nl Ln xs d this (45 : Int32) σ (fun σ3 => am_ext σ σ3 → c_By_putDecimal_12 nl Ln xs (d + 1) this p0 σ3 F)) ∧ (¬ (p0 < (0 : Int64)) → c_By_putDecimal_12 nl Ln xs (d + 1) this p0 σ F)) : k_By_putDecimal nl Ln xs (d + 1) this p0 σ F := by
  obtain ⟨j0, j1, j2, j3, j6, j7, j9, -⟩ := P_By_putDecimal nl Ln xs
  have elo : am_lo 8 [am_ov (some this), .long p0] = [some (am_ov (some this)), some (.long p0), none, none, none, none, none, none] := by simp only [am_lo, am_in_ov, am_in_int, am_in_long, am_in_nil]; rfl
  unfold k_By_putDecimal
  rw [elo]
  refine s_lload_n j0 rfl rfl ?_
  refine s_lconst j1 rfl rfl ?_
  refine s_g j2 rfl rfl rfl rfl rfl rfl ?_
  refine s_ifn j3 rfl rfl am_cl_ge (fun hc1 => ?_) (fun hc1 => ?_)
  · replace h := h.2 hc1
    exact h
  · replace h := h.1 hc1
    refine s_aload_n j6 rfl rfl ?_
    refine s_bipush j7 rfl kc_bi_45 ?_
    obtain ⟨ho2, h⟩ := h
    refine s_virt j9 rfl rfl rfl rfl ho2 (by decide) (in_By_put _ _) (am_r8 rfl) (am_bV h (fun σ3 h hx3 => ?_))
    replace h := h hx3
    exact h
theorem P_By_putDecimal_12 (nl : Bool) (Ln : Nat) (xs : Nat → Int32) : am_Jl (TT nl Ln xs) 159 [(12, .lload_n 1, 13, []), (13, .invokestatic 40, 16, [12, 160, 2, 1]), (16, .lstore_n 3, 17, []), (17, .lconst 1, 18, []), (18, .lstore 5, 20, []), (20, .iconst 0, 21, []), (21, .istore 7, 23, [])] := dk_ck (by decide +kernel)
set_option maxRecDepth 4096 in
theorem w_By_putDecimal_12 {nl : Bool} {Ln : Nat} {xs : Nat → Int32} {d : Nat} {this : Nat} {x1 : Int64} {σ : am_S} {F : am_S → Prop} (h : k_Math_abs nl Ln xs d x1 σ (fun a2 σ1 => am_ext σ σ1 → c_By_putDecimal_23 nl Ln xs (d + 1) this x1 a2 (1 : Int64) (0 : Int32) σ1 F)) : c_By_putDecimal_12 nl Ln xs (d + 1) this x1 σ F := by
  obtain ⟨j12, j13, j16, j17, j18, j20, j21, -⟩ := P_By_putDecimal_12 nl Ln xs
  unfold c_By_putDecimal_12
  refine s_lload_n j12 rfl rfl ?_
  refine s_stat j13 rfl rfl rfl rfl (by decide) (in_Math_abs _) (am_r8 rfl) (am_bL h (fun a2 σ1 h hx1 => ?_))
  replace h := h hx1
  refine s_lstore_n j16 rfl (n := 8) (L' := [some (am_ov (some this)), some (.long x1), none, some (.long a2), none, none, none, none]) rfl (by decide) rfl ?_
  refine s_lconst j17 rfl rfl ?_
  refine s_lstore j18 rfl (n := 8) (L' := [some (am_ov (some this)), some (.long x1), none, some (.long a2), none, some (.long (1 : Int64)), none, none]) rfl (by decide) rfl ?_
  refine s_iconst j20 rfl kc_ic_0 ?_
  refine s_istore j21 rfl (n := 8) (L' := [some (am_ov (some this)), some (.long x1), none, some (.long a2), none, some (.long (1 : Int64)), none, some (.int (0 : Int32))]) rfl (by decide) rfl ?_
  exact h
theorem P_By_putDecimal_23 (nl : Bool) (Ln : Nat) (xs : Nat → Int32) : am_Jl (TT nl Ln xs) 159 [(23, .iload 7, 25, []), (25, .bipush 18, 27, []), (27, .if_icmp .ge 28, 30, []), (30, .lload_n 3, 31, []), (31, .lload 5, 33, []), (33, .ldiv, 34, []), (34, .ldc2_w 46, 37, [6, 10]), (37, .lcmp, 38, []), (38, .ifCond .lt 17, 41, []), (41, .lload 5, 43, []), (43, .ldc2_w 46, 46, [6, 10]), (46, .lmul, 47, []), (47, .lstore 5, 49, []), (49, .iinc 7 1, 52, []), (52, .goto (-29), 55, []), (55, .iconst 0, 56, []), (56, .istore 7, 58, [])] := dk_ck (by decide +kernel)
set_option maxRecDepth 4096 in
theorem w_By_putDecimal_23 {nl : Bool} {Ln : Nat} {xs : Nat → Int32} {d : Nat} {this : Nat} {x1 : Int64} {x3 : Int64} {x5 : Int64} {x7 : Int32} {σ : am_S} {F : am_S → Prop} (h : (x7 < (18 : Int32) → (x5 ≠ 0) ∧ ((x3 / x5) < (10 : Int64) → c_By_putDecimal_58 nl Ln xs (d + 1) this x1 x3 x5 (0 : Int32) σ F) ∧ (¬ ((x3 / x5) < (10 : Int64)) → ∀ v4 : Int64, v4 = (x5 * (10 : Int64)) → c_By_putDecimal_23 nl Ln xs (d + 1) this x1 x3 v4 (x7 + (1 : Int32)) σ F)) ∧ (¬ (x7 < (18 : Int32)) → c_By_putDecimal_58 nl Ln xs (d + 1) this x1 x3 x5 (0 : Int32) σ F)) : c_By_putDecimal_23 nl Ln xs (d + 1) this x1 x3 x5 x7 σ F := by
  obtain ⟨j23, j25, j27, j30, j31, j33, j34, j37, j38, j41, j43, j46, j47, j49, j52, j55, j56, -⟩ := P_By_putDecimal_23 nl Ln xs
  unfold c_By_putDecimal_23
  refine s_iload j23 rfl rfl ?_
  refine s_bipush j25 rfl kc_bi_18 ?_
  refine s_icn j27 rfl rfl am_cc_ge (fun hc1 => ?_) (fun hc1 => ?_)
  · replace h := h.2 hc1
    refine s_iconst j55 rfl kc_ic_0 ?_
    refine s_istore j56 rfl (n := 8) (L' := [some (am_ov (some this)), some (.long x1), none, some (.long x3), none, some (.long x5), none, some (.int (0 : Int32))]) rfl (by decide) rfl ?_
    exact h
  · replace h := h.1 hc1
    refine s_lload_n j30 rfl rfl ?_
    refine s_lload j31 rfl rfl ?_
    obtain ⟨ho2, h⟩ := h
    refine s_ldiv j33 rfl ho2 ?_
    refine s_ldc2 j34 rfl kc_ll_10 ?_
    refine s_g j37 rfl rfl rfl rfl rfl rfl ?_
    refine s_if j38 rfl rfl am_cl_lt (fun hc3 => ?_) (fun hc3 => ?_)
    · replace h := h.1 hc3
      refine s_iconst j55 rfl kc_ic_0 ?_
      refine s_istore j56 rfl (n := 8) (L' := [some (am_ov (some this)), some (.long x1), none, some (.long x3), none, some (.long x5), none, some (.int (0 : Int32))]) rfl (by decide) rfl ?_
      exact h
    · replace h := h.2 hc3
      refine s_lload j41 rfl rfl ?_
      refine s_ldc2 j43 rfl kc_ll_10 ?_
      refine s_g j46 rfl rfl rfl rfl rfl rfl ?_
      refine s_lstoreV j47 rfl (n := 8) (L' := fun w => [some (am_ov (some this)), some (.long x1), none, some (.long x3), none, some (.long w), none, some (.int x7)]) rfl (by decide) (fun _ => rfl) (fun v4 hv5 => ?_)
      replace h := h v4 hv5
      refine s_iinc (L' := [some (am_ov (some this)), some (.long x1), none, some (.long x3), none, some (.long v4), none, some (.int (x7 + (1 : Int32)))]) j49 rfl rfl kc_ic_1 rfl ?_
      refine s_goto j52 rfl rfl ?_
      exact h
theorem P_By_putDecimal_58 (nl : Bool) (Ln : Nat) (xs : Nat → Int32) : am_Jl (TT nl Ln xs) 159 [(58, .iload 7, 60, []), (60, .bipush 19, 62, []), (62, .if_icmp .ge 41, 65, []), (65, .lload 5, 67, []), (67, .lconst 0, 68, []), (68, .lcmp, 69, []), (69, .ifCond .le 34, 72, []), (72, .aload_n 0, 73, []), (73, .ldc2_w 48, 76, [6, 48]), (76, .lload_n 3, 77, []), (77, .lload 5, 79, []), (79, .ldiv, 80, []), (80, .ldc2_w 46, 83, [6, 10]), (83, .lrem, 84, []), (84, .ladd, 85, []), (85, .l2i, 86, []), (86, .invokevirtual 36, 89, [10, 75, 2, 2, 2]), (89, .lload 5, 91, []), (91, .ldc2_w 46, 94, [6, 10]), (94, .ldiv, 95, []), (95, .lstore 5, 97, []), (97, .iinc 7 1, 100, []), (100, .goto (-42), 103, []), (103, .return_, 104, [0])] := dk_ck (by decide +kernel)
set_option maxRecDepth 4096 in
theorem w_By_putDecimal_58 {nl : Bool} {Ln : Nat} {xs : Nat → Int32} {d : Nat} {this : Nat} {x1 : Int64} {x3 : Int64} {x5 : Int64} {x7 : Int32} {σ : am_S} {F : am_S → Prop} (h : (x7 < (19 : Int32) → ((0 : Int64) < x5 → (x5 ≠ 0) ∧ (am_is σ (some this) 1) ∧ k_By_put nl Ln xs d this (((48 : Int64) + ((x3 / x5) - (x3 / x5) / (10 : Int64) * (10 : Int64))).toInt32) σ (fun σ5 => am_ext σ σ5 → ∀ v7 : Int64, v7 = (x5 / (10 : Int64)) → c_By_putDecimal_58 nl Ln xs (d + 1) this x1 x3 v7 (x7 + (1 : Int32)) σ5 F)) ∧ (¬ ((0 : Int64) < x5) → F σ)) ∧ (¬ (x7 < (19 : Int32)) → F σ)) : c_By_putDecimal_58 nl Ln xs (d + 1) this x1 x3 x5 x7 σ F := by
  obtain ⟨j58, j60, j62, j65, j67, j68, j69, j72, j73, j76, j77, j79, j80, j83, j84, j85, j86, j89, j91, j94, j95, j97, j100, j103, -⟩ := P_By_putDecimal_58 nl Ln xs
  unfold c_By_putDecimal_58
  refine s_iload j58 rfl rfl ?_
  refine s_bipush j60 rfl kc_bi_19 ?_
  refine s_icn j62 rfl rfl am_cc_ge (fun hc1 => ?_) (fun hc1 => ?_)
  · replace h := h.2 hc1
    exact s_retV j103 rfl h
  · replace h := h.1 hc1
    refine s_lload j65 rfl rfl ?_
    refine s_lconst j67 rfl rfl ?_
    refine s_g j68 rfl rfl rfl rfl rfl rfl ?_
    refine s_ifn j69 rfl rfl am_cl_le (fun hc2 => ?_) (fun hc2 => ?_)
    · replace h := h.2 hc2
      exact s_retV j103 rfl h
    · replace h := h.1 hc2
      refine s_aload_n j72 rfl rfl ?_
      refine s_ldc2 j73 rfl kc_ll_48 ?_
      refine s_lload_n j76 rfl rfl ?_
      refine s_lload j77 rfl rfl ?_
      obtain ⟨ho3, h⟩ := h
      refine s_ldiv j79 rfl ho3 ?_
      refine s_ldc2 j80 rfl kc_ll_10 ?_
      refine s_lrem j83 rfl (by decide) ?_
      refine s_g j84 rfl rfl rfl rfl rfl rfl ?_
      refine s_g j85 rfl rfl rfl rfl rfl rfl ?_
      obtain ⟨ho4, h⟩ := h
      refine s_virt j86 rfl rfl rfl rfl ho4 (by decide) (in_By_put _ _) (am_r8 rfl) (am_bV h (fun σ5 h hx5 => ?_))
      replace h := h hx5
      refine s_lload j89 rfl rfl ?_
      refine s_ldc2 j91 rfl kc_ll_10 ?_
      refine s_ldiv j94 rfl (by decide) ?_
      refine s_lstoreV j95 rfl (n := 8) (L' := fun w => [some (am_ov (some this)), some (.long x1), none, some (.long x3), none, some (.long w), none, some (.int x7)]) rfl (by decide) (fun _ => rfl) (fun v7 hv8 => ?_)
      replace h := h v7 hv8
      refine s_iinc (L' := [some (am_ov (some this)), some (.long x1), none, some (.long x3), none, some (.long v7), none, some (.int (x7 + (1 : Int32)))]) j97 rfl rfl kc_ic_1 rfl ?_
      refine s_goto j100 rfl rfl ?_
      exact h
theorem P_Math_abs (nl : Bool) (Ln : Nat) (xs : Nat → Int32) : am_Jl (TT nl Ln xs) 160 [(0, .lload_n 0, 1, []), (1, .lconst 0, 2, []), (2, .lcmp, 3, []), (3, .ifCond .ge 8, 6, []), (6, .lload_n 0, 7, []), (7, .lneg, 8, []), (8, .goto 4, 11, []), (11, .lload_n 0, 12, []), (12, .lreturn, 13, [2])] := dk_ck (by decide +kernel)
set_option maxRecDepth 4096 in
theorem w_Math_abs {nl : Bool} {Ln : Nat} {xs : Nat → Int32} {d : Nat} {p0 : Int64} {σ : am_S} {F : Int64 → am_S → Prop} (h : ∀ w3 : Int64, w3 = (if p0 < (0 : Int64) then (-p0) else p0) → F w3 σ) : k_Math_abs nl Ln xs (d + 1) p0 σ F := by
  obtain ⟨j0, j1, j2, j3, j6, j7, j8, j11, j12, -⟩ := P_Math_abs nl Ln xs
  have elo : am_lo 2 [.long p0] = [some (.long p0), none] := by simp only [am_lo, am_in_ov, am_in_int, am_in_long, am_in_nil]; rfl
  unfold k_Math_abs
  rw [elo]
  refine s_lload_n j0 rfl rfl ?_
  refine s_lconst j1 rfl rfl ?_
  refine s_g j2 rfl rfl rfl rfl rfl rfl ?_
  have K2 : ∀ (w3 : Int64), w3 = (if p0 < (0 : Int64) then (-p0) else p0) → am_C (TT nl Ln xs) (d + 1) 160 12 [some (.long p0), none] [.long w3] σ (am_qL F) := by
    intro w3 hw4
    replace h := h w3 hw4
    exact s_retL j12 rfl h
  refine s_ifn j3 rfl rfl am_cl_ge (fun hc1 => ?_) (fun hc1 => ?_)
  · refine s_lload_n j11 rfl rfl ?_
    exact K2 _ (am_t2 hc1 rfl)
  · refine s_lload_n j6 rfl rfl ?_
    refine s_g j7 rfl rfl rfl rfl rfl rfl ?_
    refine s_goto j8 rfl rfl ?_
    exact K2 _ (am_t1 hc1 rfl)
theorem P_Co_tell (nl : Bool) (Ln : Nat) (xs : Nat → Int32) : am_Jl (TT nl Ln xs) 161 [(0, .aload_n 0, 1, []), (1, .iload_n 1, 2, []), (2, .iload_n 2, 3, []), (3, .invokevirtual 149, 6, [10, 162, 1, 4, 3]), (6, .astore_n 3, 7, []), (7, .aload_n 3, 8, []), (8, .ifnonnull 6, 11, []), (11, .bipush (-2), 13, []), (13, .ireturn, 14, [1]), (14, .aload_n 0, 15, []), (15, .getfield 21, 18, [9, 0, 2, 2]), (18, .invokevirtual 75, 21, [10, 132, 2, 1, 1]), (21, .aload_n 3, 22, []), (22, .iload_n 2, 23, []), (23, .invokevirtual 153, 26, [10, 32, 10, 3, 2]), (26, .astore 4, 28, [])] := dk_ck (by decide +kernel)
set_option maxRecDepth 4096 in
theorem w_Co_tell {nl : Bool} {Ln : Nat} {xs : Nat → Int32} {d : Nat} {this : Nat} {p0 : Int32} {p1 : Int32} {σ : am_S} {F : Int32 → am_S → Prop} (h : (am_is σ (some this) 0) ∧ k_Co_coverAsked nl Ln xs d this p0 p1 σ (fun a3 σ2 => am_ext σ σ2 → (a3 = none → F (-2 : Int32) σ2) ∧ (¬ (a3 = none) → (am_is σ2 (am_fR σ2 2 this) 1) ∧ k_By_clear nl Ln xs d ((am_fR σ2 2 this).getD 0) σ2 (fun σ6 => am_ext σ2 σ6 → (am_is σ6 a3 9) ∧ k_Po_clausesAt nl Ln xs d (a3.getD 0) p1 σ6 (fun a10 σ9 => am_ext σ6 σ9 → c_Co_tell_28 nl Ln xs (d + 1) this p0 p1 a3 a10 σ9 F))))) : k_Co_tell nl Ln xs (d + 1) this p0 p1 σ F := by
  obtain ⟨j0, j1, j2, j3, j6, j7, j8, j11, j13, j14, j15, j18, j21, j22, j23, j26, -⟩ := P_Co_tell nl Ln xs
  have elo : am_lo 5 [am_ov (some this), .int p0, .int p1] = [some (am_ov (some this)), some (.int p0), some (.int p1), none, none] := by simp only [am_lo, am_in_ov, am_in_int, am_in_long, am_in_nil]; rfl
  unfold k_Co_tell
  rw [elo]
  refine s_aload_n j0 rfl rfl ?_
  refine s_iload_n j1 rfl rfl ?_
  refine s_iload_n j2 rfl rfl ?_
  obtain ⟨ho1, h⟩ := h
  refine s_virt j3 rfl rfl rfl rfl ho1 (by decide) (in_Co_coverAsked _ _ _) (am_r8 rfl) (am_bR h (fun a3 σ2 h hx2 => ?_))
  replace h := h hx2
  refine s_astore_n j6 rfl (n := 5) (L' := [some (am_ov (some this)), some (.int p0), some (.int p1), some (am_ov a3), none]) rfl (by decide) rfl ?_
  refine s_aload_n j7 rfl rfl ?_
  refine s_ifnonnull j8 rfl rfl (fun hc4 => ?_) (fun hc4 => ?_)
  · replace h := h.2 hc4
    refine s_aload_n j14 rfl rfl ?_
    refine s_gfR j15 rfl (am_is_ext hx2 ho1) ?_
    obtain ⟨ho5, h⟩ := h
    refine s_virt j18 rfl rfl rfl rfl ho5 (by decide) (in_By_clear _) (am_r8 rfl) (am_bV h (fun σ6 h hx6 => ?_))
    replace h := h hx6
    refine s_aload_n j21 rfl rfl ?_
    refine s_iload_n j22 rfl rfl ?_
    obtain ⟨ho8, h⟩ := h
    refine s_virt j23 rfl rfl rfl rfl ho8 (by decide) (in_Po_clausesAt _ _) (am_r8 rfl) (am_bR h (fun a10 σ9 h hx9 => ?_))
    replace h := h hx9
    refine s_astore j26 rfl (n := 5) (L' := [some (am_ov (some this)), some (.int p0), some (.int p1), some (am_ov a3), some (am_ov a10)]) rfl (by decide) (am_st1_R [_, _, _] _ _ _ _) ?_
    exact h
  · replace h := h.1 hc4
    refine s_bipush j11 rfl kc_bi_m2 ?_
    exact s_retI j13 rfl h
theorem P_Co_tell_28 (nl : Bool) (Ln : Nat) (xs : Nat → Int32) : am_Jl (TT nl Ln xs) 161 [(28, .aload 4, 30, []), (30, .ifnull 22, 33, []), (33, .aload 4, 35, []), (35, .aload_n 0, 36, []), (36, .getfield 21, 39, [9, 0, 2, 2]), (39, .invokestatic 159, 42, [12, 164, 2, 2]), (42, .aload 4, 44, []), (44, .getfield 165, 47, [9, 8, 3, 2]), (47, .astore 4, 49, []), (49, .goto (-21), 52, []), (52, .aload_n 0, 53, []), (53, .getfield 21, 56, [9, 0, 2, 2]), (56, .getfield 78, 59, [9, 1, 1, 0]), (59, .ireturn, 60, [1])] := dk_ck (by decide +kernel)
set_option maxRecDepth 4096 in
theorem w_Co_tell_28 {nl : Bool} {Ln : Nat} {xs : Nat → Int32} {d : Nat} {this : Nat} {x1 : Int32} {x2 : Int32} {x3 : Option Nat} {x4 : Option Nat} {σ : am_S} {F : Int32 → am_S → Prop} (h : (x4 = none → (am_is σ (some this) 0) ∧ (am_is σ (am_fR σ 2 this) 1) ∧ F (am_fI σ 1001 ((am_fR σ 2 this).getD 0)) σ) ∧ (¬ (x4 = none) → (am_is σ (some this) 0) ∧ k_Nd_writeClause nl Ln xs d x4 (am_fR σ 2 this) σ (fun σ5 => am_ext σ σ5 → (am_is σ5 x4 8) ∧ ∀ v8 : Option Nat, v8 = (am_fR σ5 8003 (x4.getD 0)) → c_Co_tell_28 nl Ln xs (d + 1) this x1 x2 x3 v8 σ5 F))) : c_Co_tell_28 nl Ln xs (d + 1) this x1 x2 x3 x4 σ F := by
  obtain ⟨j28, j30, j33, j35, j36, j39, j42, j44, j47, j49, j52, j53, j56, j59, -⟩ := P_Co_tell_28 nl Ln xs
  unfold c_Co_tell_28
  refine s_aload j28 rfl rfl ?_
  refine s_ifnull j30 rfl rfl (fun hc1 => ?_) (fun hc1 => ?_)
  · replace h := h.1 hc1
    refine s_aload_n j52 rfl rfl ?_
    obtain ⟨ho2, h⟩ := h
    refine s_gfR j53 rfl ho2 ?_
    obtain ⟨ho3, h⟩ := h
    refine s_gfI j56 rfl ho3 ?_
    exact s_retI j59 rfl h
  · replace h := h.2 hc1
    refine s_aload j33 rfl rfl ?_
    refine s_aload_n j35 rfl rfl ?_
    obtain ⟨ho4, h⟩ := h
    refine s_gfR j36 rfl ho4 ?_
    refine s_stat j39 rfl rfl rfl rfl (by decide) (in_Nd_writeClause _ _) (am_r8 rfl) (am_bV h (fun σ5 h hx5 => ?_))
    replace h := h hx5
    refine s_aload j42 rfl rfl ?_
    obtain ⟨ho7, h⟩ := h
    refine s_gfR j44 rfl ho7 ?_
    refine s_astoreV j47 rfl (n := 5) (L' := fun w => [some (am_ov (some this)), some (.int x1), some (.int x2), some (am_ov x3), some (am_ov w)]) rfl (by decide) (fun _ => am_st1_R [_, _, _] _ _ _ _) (fun v8 hv9 => ?_)
    replace h := h v8 hv9
    refine s_goto j49 rfl rfl ?_
    exact h
theorem P_Co_coverAsked (nl : Bool) (Ln : Nat) (xs : Nat → Int32) : am_Jl (TT nl Ln xs) 162 [(0, .aload_n 0, 1, []), (1, .getfield 56, 4, [9, 0, 7, 2]), (4, .iload_n 1, 5, []), (5, .i2l, 6, []), (6, .invokevirtual 280, 9, [10, 29, 7, 3, 2]), (9, .astore_n 3, 10, []), (10, .aload_n 3, 11, []), (11, .ifnull 20, 14, []), (14, .aload_n 3, 15, []), (15, .getfield 284, 18, [9, 9, 1, 0]), (18, .bipush 6, 20, []), (20, .if_icmp .eq 11, 23, []), (23, .aload_n 0, 24, []), (24, .iload_n 2, 25, []), (25, .invokevirtual 188, 28, [10, 163, 1, 2, 2]), (28, .ifCond .ne 7, 31, []), (31, .aconst_null, 32, []), (32, .goto 4, 35, []), (35, .aload_n 3, 36, []), (36, .areturn, 37, [3])] := dk_ck (by decide +kernel)
set_option maxRecDepth 4096 in
theorem w_Co_coverAsked {nl : Bool} {Ln : Nat} {xs : Nat → Int32} {d : Nat} {this : Nat} {p0 : Int32} {p1 : Int32} {σ : am_S} {F : Option Nat → am_S → Prop} (h : (am_is σ (some this) 0) ∧ (am_is σ (am_fR σ 7 this) 6) ∧ k_Bk_policyAt nl Ln xs d ((am_fR σ 7 this).getD 0) p0.toInt64 σ (fun a4 σ3 => am_ext σ σ3 → (a4 = none → F none σ3) ∧ (¬ (a4 = none) → (am_is σ3 a4 9) ∧ ((am_fI σ3 9001 (a4.getD 0)) = (6 : Int32) → F none σ3) ∧ (¬ ((am_fI σ3 9001 (a4.getD 0)) = (6 : Int32)) → k_Co_isMoment nl Ln xs d this p1 σ3 (fun a9 σ8 => am_ext σ3 σ8 → ∀ w12 : Option Nat, w12 = (if a9 = true then a4 else none) → F w12 σ8))))) : k_Co_coverAsked nl Ln xs (d + 1) this p0 p1 σ F := by
  obtain ⟨j0, j1, j4, j5, j6, j9, j10, j11, j14, j15, j18, j20, j23, j24, j25, j28, j31, j32, j35, j36, -⟩ := P_Co_coverAsked nl Ln xs
  have elo : am_lo 4 [am_ov (some this), .int p0, .int p1] = [some (am_ov (some this)), some (.int p0), some (.int p1), none] := by simp only [am_lo, am_in_ov, am_in_int, am_in_long, am_in_nil]; rfl
  unfold k_Co_coverAsked
  rw [elo]
  refine s_aload_n j0 rfl rfl ?_
  obtain ⟨ho1, h⟩ := h
  refine s_gfR j1 rfl ho1 ?_
  refine s_iload_n j4 rfl rfl ?_
  refine s_g j5 rfl rfl rfl rfl rfl rfl ?_
  obtain ⟨ho2, h⟩ := h
  refine s_virt j6 rfl rfl rfl rfl ho2 (by decide) (in_Bk_policyAt _ _) (am_r8 rfl) (am_bR h (fun a4 σ3 h hx3 => ?_))
  replace h := h hx3
  refine s_astore_n j9 rfl (n := 4) (L' := [some (am_ov (some this)), some (.int p0), some (.int p1), some (am_ov a4)]) rfl (by decide) rfl ?_
  refine s_aload_n j10 rfl rfl ?_
  refine s_ifnull j11 rfl rfl (fun hc5 => ?_) (fun hc5 => ?_)
  · replace h := h.1 hc5
    refine s_null j31 rfl ?_
    refine s_goto j32 rfl rfl ?_
    exact s_retR j36 rfl h
  · replace h := h.2 hc5
    refine s_aload_n j14 rfl rfl ?_
    obtain ⟨ho6, h⟩ := h
    refine s_gfI j15 rfl ho6 ?_
    refine s_bipush j18 rfl kc_bi_6 ?_
    refine s_ic j20 rfl rfl am_cc_eq (fun hc7 => ?_) (fun hc7 => ?_)
    · replace h := h.1 hc7
      refine s_null j31 rfl ?_
      refine s_goto j32 rfl rfl ?_
      exact s_retR j36 rfl h
    · replace h := h.2 hc7
      refine s_aload_n j23 rfl rfl ?_
      refine s_iload_n j24 rfl rfl ?_
      refine s_virt j25 rfl rfl rfl rfl (am_is_ext hx3 ho1) (by decide) (in_Co_isMoment _ _) (am_r8 rfl) (am_bB h (fun a9 σ8 h hx8 => ?_))
      replace h := h hx8
      have K11 : ∀ (w12 : Option Nat), w12 = (if a9 = true then a4 else none) → am_C (TT nl Ln xs) (d + 1) 162 36 [some (am_ov (some this)), some (.int p0), some (.int p1), some (am_ov a4)] [am_ov w12] σ8 (am_qR F) := by
        intro w12 hw13
        replace h := h w12 hw13
        exact s_retR j36 rfl h
      refine s_if j28 rfl rfl am_cb_ne (fun hc10 => ?_) (fun hc10 => ?_)
      · refine s_aload_n j35 rfl rfl ?_
        exact K11 _ (am_t1 hc10 rfl)
      · refine s_null j31 rfl ?_
        refine s_goto j32 rfl rfl ?_
        exact K11 _ (am_t2 hc10 rfl)
theorem P_Co_isMoment (nl : Bool) (Ln : Nat) (xs : Nat → Int32) : am_Jl (TT nl Ln xs) 163 [(0, .iload_n 1, 1, []), (1, .ifCond .lt 18, 4, []), (4, .iload_n 1, 5, []), (5, .aload_n 0, 6, []), (6, .getfield 56, 9, [9, 0, 7, 2]), (9, .getfield 101, 12, [9, 6, 15, 0]), (12, .if_icmp .gt 7, 15, []), (15, .iconst 1, 16, []), (16, .goto 4, 19, []), (19, .iconst 0, 20, []), (20, .ireturn, 21, [4])] := dk_ck (by decide +kernel)
set_option maxRecDepth 4096 in
theorem w_Co_isMoment {nl : Bool} {Ln : Nat} {xs : Nat → Int32} {d : Nat} {this : Nat} {p0 : Int32} {σ : am_S} {F : Bool → am_S → Prop} (h : (¬ (p0 < 0) → am_is σ (some this) 0) ∧ (¬ (p0 < 0) → am_is σ (am_fR σ 7 this) 6) ∧ F (decide (¬ (p0 < 0) ∧ (¬ ((am_fI σ 6015 ((am_fR σ 7 this).getD 0)) < p0)))) σ) : k_Co_isMoment nl Ln xs (d + 1) this p0 σ F := by
  obtain ⟨j0, j1, j4, j5, j6, j9, j12, j15, j16, j19, j20, -⟩ := P_Co_isMoment nl Ln xs
  have elo : am_lo 2 [am_ov (some this), .int p0] = [some (am_ov (some this)), some (.int p0)] := by simp only [am_lo, am_in_ov, am_in_int, am_in_long, am_in_nil]; rfl
  unfold k_Co_isMoment
  rw [elo]
  refine s_iload_n j0 rfl rfl ?_
  obtain ⟨ho2, h⟩ := h
  obtain ⟨ho3, h⟩ := h
  have K5 : ∀ (w6 : Int32), w6 = (if ¬ (p0 < 0) ∧ (¬ ((am_fI σ 6015 ((am_fR σ 7 this).getD 0)) < p0)) then (1 : Int32) else 0) → am_C (TT nl Ln xs) (d + 1) 163 20 [some (am_ov (some this)), some (.int p0)] [.int w6] σ (am_qB F) := by
    intro w6 hw7
    subst hw7
    exact s_retZ j20 rfl h
  refine s_if j1 rfl rfl am_cc_lt (fun hc1 => ?_) (fun hc1 => ?_)
  · refine s_iconst j19 rfl kc_ic_0 ?_
    exact K5 _ (am_e0 (Iff.trans Iff.rfl (am_p6 hc1)))
  · refine s_iload_n j4 rfl rfl ?_
    refine s_aload_n j5 rfl rfl ?_
    refine s_gfR j6 rfl (ho2 hc1) ?_
    refine s_gfI j9 rfl (ho3 hc1) ?_
    refine s_ic j12 rfl rfl am_cc_gt (fun hc4 => ?_) (fun hc4 => ?_)
    · refine s_iconst j19 rfl kc_ic_0 ?_
      exact K5 _ (am_e0 (am_p5 hc1 (Iff.trans Iff.rfl (am_p11 hc4))))
    · refine s_iconst j15 rfl kc_ic_1 ?_
      refine s_goto j16 rfl rfl ?_
      exact K5 _ (am_e1 (am_p5 hc1 (Iff.trans Iff.rfl (am_p12 hc4))))
theorem P_Nd_writeClause (nl : Bool) (Ln : Nat) (xs : Nat → Int32) : am_Jl (TT nl Ln xs) 164 [(0, .aload_n 0, 1, []), (1, .getfield 9, 4, [9, 8, 0, 0]), (4, .lookupswitch 120 #[(0, 95), (1, 95), (7, 86), (9, 95), (32, 60), (33, 73)], 64, []), (64, .iconst 5, 65, []), (65, .iconst 3, 66, []), (66, .aload_n 0, 67, []), (67, .getfield 19, 70, [9, 8, 1, 0]), (70, .aload_n 1, 71, []), (71, .invokestatic 22, 74, [12, 165, 4, 4]), (74, .goto 63, 77, []), (77, .iconst 5, 78, []), (78, .iconst 4, 79, []), (79, .aload_n 0, 80, []), (80, .getfield 19, 83, [9, 8, 1, 0]), (83, .aload_n 1, 84, []), (84, .invokestatic 22, 87, [12, 165, 4, 4]), (87, .goto 50, 90, []), (90, .bipush 7, 92, []), (92, .aload_n 1, 93, []), (93, .invokestatic 26, 96, [12, 166, 2, 2]), (96, .goto 41, 99, []), (99, .aload_n 0, 100, []), (100, .getfield 9, 103, [9, 8, 0, 0]), (103, .aload_n 1, 104, []), (104, .invokestatic 26, 107, [12, 166, 2, 2]), (107, .aload_n 1, 108, []), (108, .bipush 32, 110, []), (110, .invokevirtual 30, 113, [10, 75, 2, 2, 2]), (113, .aload_n 0, 114, []), (114, .getfield 19, 117, [9, 8, 1, 0]), (117, .aload_n 1, 118, []), (118, .invokestatic 26, 121, [12, 166, 2, 2]), (121, .goto 16, 124, []), (124, .iconst (-1), 125, []), (125, .aload_n 0, 126, []), (126, .getfield 9, 129, [9, 8, 0, 0]), (129, .aload_n 0, 130, []), (130, .getfield 19, 133, [9, 8, 1, 0]), (133, .aload_n 1, 134, []), (134, .invokestatic 22, 137, [12, 165, 4, 4])] := dk_ck (by decide +kernel)
set_option maxRecDepth 4096 in
theorem w_Nd_writeClause {nl : Bool} {Ln : Nat} {xs : Nat → Int32} {d : Nat} {p0 : Option Nat} {p1 : Option Nat} {σ : am_S} {F : am_S → Prop} (h : (am_is σ p0 8) ∧ ((am_fI σ 8000 (p0.getD 0)) = (0 : Int32) ∨ (am_fI σ 8000 (p0.getD 0)) = (1 : Int32) ∨ (am_fI σ 8000 (p0.getD 0)) = (9 : Int32) → k_Nd_writeWord nl Ln xs d (am_fI σ 8000 (p0.getD 0)) p1 σ (fun σ2 => am_ext σ σ2 → (am_is σ2 p1 1) ∧ k_By_put nl Ln xs d (p1.getD 0) (32 : Int32) σ2 (fun σ5 => am_ext σ2 σ5 → k_Nd_writeWord nl Ln xs d (am_fI σ5 8001 (p0.getD 0)) p1 σ5 (fun σ7 => am_ext σ5 σ7 → c_Nd_writeClause_137 nl Ln xs (d + 1) p0 p1 σ7 F)))) ∧ ((am_fI σ 8000 (p0.getD 0)) = (7 : Int32) → k_Nd_writeWord nl Ln xs d (7 : Int32) p1 σ (fun σ9 => am_ext σ σ9 → c_Nd_writeClause_137 nl Ln xs (d + 1) p0 p1 σ9 F)) ∧ ((am_fI σ 8000 (p0.getD 0)) = (32 : Int32) → k_Nd_writeNumbered nl Ln xs d (5 : Int32) (3 : Int32) (am_fI σ 8001 (p0.getD 0)) p1 σ (fun σ11 => am_ext σ σ11 → c_Nd_writeClause_137 nl Ln xs (d + 1) p0 p1 σ11 F)) ∧ ((am_fI σ 8000 (p0.getD 0)) = (33 : Int32) → k_Nd_writeNumbered nl Ln xs d (5 : Int32) (4 : Int32) (am_fI σ 8001 (p0.getD 0)) p1 σ (fun σ13 => am_ext σ σ13 → c_Nd_writeClause_137 nl Ln xs (d + 1) p0 p1 σ13 F)) ∧ (¬ (am_fI σ 8000 (p0.getD 0)) = (0 : Int32) ∧ ¬ (am_fI σ 8000 (p0.getD 0)) = (1 : Int32) ∧ ¬ (am_fI σ 8000 (p0.getD 0)) = (7 : Int32) ∧ ¬ (am_fI σ 8000 (p0.getD 0)) = (9 : Int32) ∧ ¬ (am_fI σ 8000 (p0.getD 0)) = (32 : Int32) ∧ ¬ (am_fI σ 8000 (p0.getD 0)) = (33 : Int32) → k_Nd_writeNumbered nl Ln xs d (-1 : Int32) (am_fI σ 8000 (p0.getD 0)) (am_fI σ 8001 (p0.getD 0)) p1 σ (fun σ15 => am_ext σ σ15 → c_Nd_writeClause_137 nl Ln xs (d + 1) p0 p1 σ15 F))) : k_Nd_writeClause nl Ln xs (d + 1) p0 p1 σ F := by
  obtain ⟨j0, j1, j4, j64, j65, j66, j67, j70, j71, j74, j77, j78, j79, j80, j83, j84, j87, j90, j92, j93, j96, j99, j100, j103, j104, j107, j108, j110, j113, j114, j117, j118, j121, j124, j125, j126, j129, j130, j133, j134, -⟩ := P_Nd_writeClause nl Ln xs
  have elo : am_lo 2 [am_ov p0, am_ov p1] = [some (am_ov p0), some (am_ov p1)] := by simp only [am_lo, am_in_ov, am_in_int, am_in_long, am_in_nil]; rfl
  unfold k_Nd_writeClause
  rw [elo]
  refine s_aload_n j0 rfl rfl ?_
  obtain ⟨ho1, h⟩ := h
  refine s_gfI j1 rfl ho1 ?_
  by_cases hs0 : (am_fI σ 8000 (p0.getD 0)) = (0 : Int32)
  · refine s_lsw j4 (t := 99) (by show am_j _ (Op.lookupswitch.offset [(0, 95), (1, 95), (7, 86), (9, 95), (32, 60), (33, 73)] _ (am_fI σ 8000 (p0.getD 0)).toInt) = _; rw [hs0]; rfl) rfl ?_
    replace h := h.1 (Or.inl hs0)
    refine s_aload_n j99 rfl rfl ?_
    refine s_gfI j100 rfl ho1 ?_
    refine s_aload_n j103 rfl rfl ?_
    refine s_stat j104 rfl rfl rfl rfl (by decide) (in_Nd_writeWord _ _) (am_r8 rfl) (am_bV h (fun σ2 h hx2 => ?_))
    replace h := h hx2
    refine s_aload_n j107 rfl rfl ?_
    refine s_bipush j108 rfl kc_bi_32 ?_
    obtain ⟨ho4, h⟩ := h
    refine s_virt j110 rfl rfl rfl rfl ho4 (by decide) (in_By_put _ _) (am_r8 rfl) (am_bV h (fun σ5 h hx5 => ?_))
    replace h := h hx5
    refine s_aload_n j113 rfl rfl ?_
    refine s_gfI j114 rfl (am_is_ext hx5 (am_is_ext hx2 ho1)) ?_
    refine s_aload_n j117 rfl rfl ?_
    refine s_stat j118 rfl rfl rfl rfl (by decide) (in_Nd_writeWord _ _) (am_r8 rfl) (am_bV h (fun σ7 h hx7 => ?_))
    replace h := h hx7
    refine s_goto j121 rfl rfl ?_
    exact h
  by_cases hs1 : (am_fI σ 8000 (p0.getD 0)) = (1 : Int32)
  · refine s_lsw j4 (t := 99) (by show am_j _ (Op.lookupswitch.offset [(0, 95), (1, 95), (7, 86), (9, 95), (32, 60), (33, 73)] _ (am_fI σ 8000 (p0.getD 0)).toInt) = _; rw [hs1]; rfl) rfl ?_
    replace h := h.1 (Or.inr (Or.inl hs1))
    refine s_aload_n j99 rfl rfl ?_
    refine s_gfI j100 rfl ho1 ?_
    refine s_aload_n j103 rfl rfl ?_
    refine s_stat j104 rfl rfl rfl rfl (by decide) (in_Nd_writeWord _ _) (am_r8 rfl) (am_bV h (fun σ2 h hx2 => ?_))
    replace h := h hx2
    refine s_aload_n j107 rfl rfl ?_
    refine s_bipush j108 rfl kc_bi_32 ?_
    obtain ⟨ho4, h⟩ := h
    refine s_virt j110 rfl rfl rfl rfl ho4 (by decide) (in_By_put _ _) (am_r8 rfl) (am_bV h (fun σ5 h hx5 => ?_))
    replace h := h hx5
    refine s_aload_n j113 rfl rfl ?_
    refine s_gfI j114 rfl (am_is_ext hx5 (am_is_ext hx2 ho1)) ?_
    refine s_aload_n j117 rfl rfl ?_
    refine s_stat j118 rfl rfl rfl rfl (by decide) (in_Nd_writeWord _ _) (am_r8 rfl) (am_bV h (fun σ7 h hx7 => ?_))
    replace h := h hx7
    refine s_goto j121 rfl rfl ?_
    exact h
  by_cases hs2 : (am_fI σ 8000 (p0.getD 0)) = (7 : Int32)
  · refine s_lsw j4 (t := 90) (by show am_j _ (Op.lookupswitch.offset [(0, 95), (1, 95), (7, 86), (9, 95), (32, 60), (33, 73)] _ (am_fI σ 8000 (p0.getD 0)).toInt) = _; rw [hs2]; rfl) rfl ?_
    replace h := h.2.1 hs2
    refine s_bipush j90 rfl kc_bi_7 ?_
    refine s_aload_n j92 rfl rfl ?_
    refine s_stat j93 rfl rfl rfl rfl (by decide) (in_Nd_writeWord _ _) (am_r8 rfl) (am_bV h (fun σ9 h hx9 => ?_))
    replace h := h hx9
    refine s_goto j96 rfl rfl ?_
    exact h
  by_cases hs3 : (am_fI σ 8000 (p0.getD 0)) = (9 : Int32)
  · refine s_lsw j4 (t := 99) (by show am_j _ (Op.lookupswitch.offset [(0, 95), (1, 95), (7, 86), (9, 95), (32, 60), (33, 73)] _ (am_fI σ 8000 (p0.getD 0)).toInt) = _; rw [hs3]; rfl) rfl ?_
    replace h := h.1 (Or.inr (Or.inr hs3))
    refine s_aload_n j99 rfl rfl ?_
    refine s_gfI j100 rfl ho1 ?_
    refine s_aload_n j103 rfl rfl ?_
    refine s_stat j104 rfl rfl rfl rfl (by decide) (in_Nd_writeWord _ _) (am_r8 rfl) (am_bV h (fun σ2 h hx2 => ?_))
    replace h := h hx2
    refine s_aload_n j107 rfl rfl ?_
    refine s_bipush j108 rfl kc_bi_32 ?_
    obtain ⟨ho4, h⟩ := h
    refine s_virt j110 rfl rfl rfl rfl ho4 (by decide) (in_By_put _ _) (am_r8 rfl) (am_bV h (fun σ5 h hx5 => ?_))
    replace h := h hx5
    refine s_aload_n j113 rfl rfl ?_
    refine s_gfI j114 rfl (am_is_ext hx5 (am_is_ext hx2 ho1)) ?_
    refine s_aload_n j117 rfl rfl ?_
    refine s_stat j118 rfl rfl rfl rfl (by decide) (in_Nd_writeWord _ _) (am_r8 rfl) (am_bV h (fun σ7 h hx7 => ?_))
    replace h := h hx7
    refine s_goto j121 rfl rfl ?_
    exact h
  by_cases hs4 : (am_fI σ 8000 (p0.getD 0)) = (32 : Int32)
  · refine s_lsw j4 (t := 64) (by show am_j _ (Op.lookupswitch.offset [(0, 95), (1, 95), (7, 86), (9, 95), (32, 60), (33, 73)] _ (am_fI σ 8000 (p0.getD 0)).toInt) = _; rw [hs4]; rfl) rfl ?_
    replace h := h.2.2.1 hs4
    refine s_iconst j64 rfl kc_ic_5 ?_
    refine s_iconst j65 rfl kc_ic_3 ?_
    refine s_aload_n j66 rfl rfl ?_
    refine s_gfI j67 rfl ho1 ?_
    refine s_aload_n j70 rfl rfl ?_
    refine s_stat j71 rfl rfl rfl rfl (by decide) (in_Nd_writeNumbered _ _ _ _) (am_r8 rfl) (am_bV h (fun σ11 h hx11 => ?_))
    replace h := h hx11
    refine s_goto j74 rfl rfl ?_
    exact h
  by_cases hs5 : (am_fI σ 8000 (p0.getD 0)) = (33 : Int32)
  · refine s_lsw j4 (t := 77) (by show am_j _ (Op.lookupswitch.offset [(0, 95), (1, 95), (7, 86), (9, 95), (32, 60), (33, 73)] _ (am_fI σ 8000 (p0.getD 0)).toInt) = _; rw [hs5]; rfl) rfl ?_
    replace h := h.2.2.2.1 hs5
    refine s_iconst j77 rfl kc_ic_5 ?_
    refine s_iconst j78 rfl kc_ic_4 ?_
    refine s_aload_n j79 rfl rfl ?_
    refine s_gfI j80 rfl ho1 ?_
    refine s_aload_n j83 rfl rfl ?_
    refine s_stat j84 rfl rfl rfl rfl (by decide) (in_Nd_writeNumbered _ _ _ _) (am_r8 rfl) (am_bV h (fun σ13 h hx13 => ?_))
    replace h := h hx13
    refine s_goto j87 rfl rfl ?_
    exact h
  refine s_lsw j4 (t := 124) (by show am_j _ (Op.lookupswitch.offset [(0, 95), (1, 95), (7, 86), (9, 95), (32, 60), (33, 73)] _ (am_fI σ 8000 (p0.getD 0)).toInt) = _; rw [Op.lookupswitch.offset_cons, if_neg (am_ni (b := (0 : Int32)) (by decide) hs0), Op.lookupswitch.offset_cons, if_neg (am_ni (b := (1 : Int32)) (by decide) hs1), Op.lookupswitch.offset_cons, if_neg (am_ni (b := (7 : Int32)) (by decide) hs2), Op.lookupswitch.offset_cons, if_neg (am_ni (b := (9 : Int32)) (by decide) hs3), Op.lookupswitch.offset_cons, if_neg (am_ni (b := (32 : Int32)) (by decide) hs4), Op.lookupswitch.offset_cons, if_neg (am_ni (b := (33 : Int32)) (by decide) hs5), Op.lookupswitch.offset_nil]; rfl) rfl ?_
  replace h := h.2.2.2.2 ⟨hs0, hs1, hs2, hs3, hs4, hs5⟩
  refine s_iconst j124 rfl kc_ic_m1 ?_
  refine s_aload_n j125 rfl rfl ?_
  refine s_gfI j126 rfl ho1 ?_
  refine s_aload_n j129 rfl rfl ?_
  refine s_gfI j130 rfl ho1 ?_
  refine s_aload_n j133 rfl rfl ?_
  refine s_stat j134 rfl rfl rfl rfl (by decide) (in_Nd_writeNumbered _ _ _ _) (am_r8 rfl) (am_bV h (fun σ15 h hx15 => ?_))
  replace h := h hx15
  exact h
theorem P_Nd_writeClause_137 (nl : Bool) (Ln : Nat) (xs : Nat → Int32) : am_Jl (TT nl Ln xs) 164 [(137, .aload_n 0, 138, []), (138, .getfield 36, 141, [9, 8, 2, 2]), (141, .ifnull 30, 144, []), (144, .aload_n 1, 145, []), (145, .bipush 32, 147, []), (147, .invokevirtual 30, 150, [10, 75, 2, 2, 2]), (150, .bipush 11, 152, []), (152, .aload_n 1, 153, []), (153, .invokestatic 26, 156, [12, 166, 2, 2]), (156, .aload_n 1, 157, []), (157, .bipush 32, 159, []), (159, .invokevirtual 30, 162, [10, 75, 2, 2, 2]), (162, .aload_n 0, 163, []), (163, .getfield 36, 166, [9, 8, 2, 2]), (166, .aload_n 1, 167, []), (167, .iconst 0, 168, []), (168, .invokestatic 39, 171, [12, 167, 5, 3])] := dk_ck (by decide +kernel)
set_option maxRecDepth 4096 in
theorem w_Nd_writeClause_137 {nl : Bool} {Ln : Nat} {xs : Nat → Int32} {d : Nat} {x0 : Option Nat} {x1 : Option Nat} {σ : am_S} {F : am_S → Prop} (h : (am_is σ x0 8) ∧ ((am_fR σ 8002 (x0.getD 0)) = none → c_Nd_writeClause_171 nl Ln xs (d + 1) x0 x1 σ F) ∧ (¬ ((am_fR σ 8002 (x0.getD 0)) = none) → (am_is σ x1 1) ∧ k_By_put nl Ln xs d (x1.getD 0) (32 : Int32) σ (fun σ4 => am_ext σ σ4 → k_Nd_writeWord nl Ln xs d (11 : Int32) x1 σ4 (fun σ6 => am_ext σ4 σ6 → k_By_put nl Ln xs d (x1.getD 0) (32 : Int32) σ6 (fun σ8 => am_ext σ6 σ8 → k_Nd_writeCondition nl Ln xs d (am_fR σ8 8002 (x0.getD 0)) x1 (0 : Int32) σ8 (fun σ10 => am_ext σ8 σ10 → c_Nd_writeClause_171 nl Ln xs (d + 1) x0 x1 σ10 F)))))) : c_Nd_writeClause_137 nl Ln xs (d + 1) x0 x1 σ F := by
  obtain ⟨j137, j138, j141, j144, j145, j147, j150, j152, j153, j156, j157, j159, j162, j163, j166, j167, j168, -⟩ := P_Nd_writeClause_137 nl Ln xs
  unfold c_Nd_writeClause_137
  refine s_aload_n j137 rfl rfl ?_
  obtain ⟨ho1, h⟩ := h
  refine s_gfR j138 rfl ho1 ?_
  refine s_ifnull j141 rfl rfl (fun hc2 => ?_) (fun hc2 => ?_)
  · replace h := h.1 hc2
    exact h
  · replace h := h.2 hc2
    refine s_aload_n j144 rfl rfl ?_
    refine s_bipush j145 rfl kc_bi_32 ?_
    obtain ⟨ho3, h⟩ := h
    refine s_virt j147 rfl rfl rfl rfl ho3 (by decide) (in_By_put _ _) (am_r8 rfl) (am_bV h (fun σ4 h hx4 => ?_))
    replace h := h hx4
    refine s_bipush j150 rfl kc_bi_11 ?_
    refine s_aload_n j152 rfl rfl ?_
    refine s_stat j153 rfl rfl rfl rfl (by decide) (in_Nd_writeWord _ _) (am_r8 rfl) (am_bV h (fun σ6 h hx6 => ?_))
    replace h := h hx6
    refine s_aload_n j156 rfl rfl ?_
    refine s_bipush j157 rfl kc_bi_32 ?_
    refine s_virt j159 rfl rfl rfl rfl (am_is_ext hx6 (am_is_ext hx4 ho3)) (by decide) (in_By_put _ _) (am_r8 rfl) (am_bV h (fun σ8 h hx8 => ?_))
    replace h := h hx8
    refine s_aload_n j162 rfl rfl ?_
    refine s_gfR j163 rfl (am_is_ext hx8 (am_is_ext hx6 (am_is_ext hx4 ho1))) ?_
    refine s_aload_n j166 rfl rfl ?_
    refine s_iconst j167 rfl kc_ic_0 ?_
    refine s_stat j168 rfl rfl rfl rfl (by decide) (in_Nd_writeCondition _ _ _) (am_r8 rfl) (am_bV h (fun σ10 h hx10 => ?_))
    replace h := h hx10
    exact h
theorem P_Nd_writeClause_171 (nl : Bool) (Ln : Nat) (xs : Nat → Int32) : am_Jl (TT nl Ln xs) 164 [(171, .aload_n 1, 172, []), (172, .bipush 59, 174, []), (174, .invokevirtual 30, 177, [10, 75, 2, 2, 2]), (177, .aload_n 1, 178, []), (178, .bipush 10, 180, []), (180, .invokevirtual 30, 183, [10, 75, 2, 2, 2]), (183, .return_, 184, [0])] := dk_ck (by decide +kernel)
set_option maxRecDepth 4096 in
theorem w_Nd_writeClause_171 {nl : Bool} {Ln : Nat} {xs : Nat → Int32} {d : Nat} {x0 : Option Nat} {x1 : Option Nat} {σ : am_S} {F : am_S → Prop} (h : (am_is σ x1 1) ∧ k_By_put nl Ln xs d (x1.getD 0) (59 : Int32) σ (fun σ2 => am_ext σ σ2 → k_By_put nl Ln xs d (x1.getD 0) (10 : Int32) σ2 (fun σ4 => am_ext σ2 σ4 → F σ4))) : c_Nd_writeClause_171 nl Ln xs (d + 1) x0 x1 σ F := by
  obtain ⟨j171, j172, j174, j177, j178, j180, j183, -⟩ := P_Nd_writeClause_171 nl Ln xs
  unfold c_Nd_writeClause_171
  refine s_aload_n j171 rfl rfl ?_
  refine s_bipush j172 rfl kc_bi_59 ?_
  obtain ⟨ho1, h⟩ := h
  refine s_virt j174 rfl rfl rfl rfl ho1 (by decide) (in_By_put _ _) (am_r8 rfl) (am_bV h (fun σ2 h hx2 => ?_))
  replace h := h hx2
  refine s_aload_n j177 rfl rfl ?_
  refine s_bipush j178 rfl kc_bi_10 ?_
  refine s_virt j180 rfl rfl rfl rfl (am_is_ext hx2 ho1) (by decide) (in_By_put _ _) (am_r8 rfl) (am_bV h (fun σ4 h hx4 => ?_))
  replace h := h hx4
  exact s_retV j183 rfl h
theorem P_Nd_writeNumbered (nl : Bool) (Ln : Nat) (xs : Nat → Int32) : am_Jl (TT nl Ln xs) 165 [(0, .iload_n 0, 1, []), (1, .iconst (-1), 2, []), (2, .if_icmp .eq 14, 5, []), (5, .iload_n 0, 6, []), (6, .aload_n 3, 7, []), (7, .invokestatic 26, 10, [12, 166, 2, 2]), (10, .aload_n 3, 11, []), (11, .bipush 32, 13, []), (13, .invokevirtual 30, 16, [10, 75, 2, 2, 2])] := dk_ck (by decide +kernel)
set_option maxRecDepth 4096 in
theorem w_Nd_writeNumbered {nl : Bool} {Ln : Nat} {xs : Nat → Int32} {d : Nat} {p0 : Int32} {p1 : Int32} {p2 : Int32} {p3 : Option Nat} {σ : am_S} {F : am_S → Prop} (h : (p0 = (-1 : Int32) → c_Nd_writeNumbered_16 nl Ln xs (d + 1) p0 p1 p2 p3 σ F) ∧ (¬ (p0 = (-1 : Int32)) → k_Nd_writeWord nl Ln xs d p0 p3 σ (fun σ2 => am_ext σ σ2 → (am_is σ2 p3 1) ∧ k_By_put nl Ln xs d (p3.getD 0) (32 : Int32) σ2 (fun σ5 => am_ext σ2 σ5 → c_Nd_writeNumbered_16 nl Ln xs (d + 1) p0 p1 p2 p3 σ5 F)))) : k_Nd_writeNumbered nl Ln xs (d + 1) p0 p1 p2 p3 σ F := by
  obtain ⟨j0, j1, j2, j5, j6, j7, j10, j11, j13, -⟩ := P_Nd_writeNumbered nl Ln xs
  have elo : am_lo 4 [.int p0, .int p1, .int p2, am_ov p3] = [some (.int p0), some (.int p1), some (.int p2), some (am_ov p3)] := by simp only [am_lo, am_in_ov, am_in_int, am_in_long, am_in_nil]; rfl
  unfold k_Nd_writeNumbered
  rw [elo]
  refine s_iload_n j0 rfl rfl ?_
  refine s_iconst j1 rfl kc_ic_m1 ?_
  refine s_ic j2 rfl rfl am_cc_eq (fun hc1 => ?_) (fun hc1 => ?_)
  · replace h := h.1 hc1
    exact h
  · replace h := h.2 hc1
    refine s_iload_n j5 rfl rfl ?_
    refine s_aload_n j6 rfl rfl ?_
    refine s_stat j7 rfl rfl rfl rfl (by decide) (in_Nd_writeWord _ _) (am_r8 rfl) (am_bV h (fun σ2 h hx2 => ?_))
    replace h := h hx2
    refine s_aload_n j10 rfl rfl ?_
    refine s_bipush j11 rfl kc_bi_32 ?_
    obtain ⟨ho4, h⟩ := h
    refine s_virt j13 rfl rfl rfl rfl ho4 (by decide) (in_By_put _ _) (am_r8 rfl) (am_bV h (fun σ5 h hx5 => ?_))
    replace h := h hx5
    exact h
theorem P_Nd_writeNumbered_16 (nl : Bool) (Ln : Nat) (xs : Nat → Int32) : am_Jl (TT nl Ln xs) 165 [(16, .iload_n 1, 17, []), (17, .aload_n 3, 18, []), (18, .invokestatic 26, 21, [12, 166, 2, 2]), (21, .aload_n 3, 22, []), (22, .bipush 32, 24, []), (24, .invokevirtual 30, 27, [10, 75, 2, 2, 2]), (27, .aload_n 3, 28, []), (28, .iload_n 2, 29, []), (29, .i2l, 30, []), (30, .invokevirtual 49, 33, [10, 159, 2, 8, 2]), (33, .return_, 34, [0])] := dk_ck (by decide +kernel)
set_option maxRecDepth 4096 in
theorem w_Nd_writeNumbered_16 {nl : Bool} {Ln : Nat} {xs : Nat → Int32} {d : Nat} {x0 : Int32} {x1 : Int32} {x2 : Int32} {x3 : Option Nat} {σ : am_S} {F : am_S → Prop} (h : k_Nd_writeWord nl Ln xs d x1 x3 σ (fun σ1 => am_ext σ σ1 → (am_is σ1 x3 1) ∧ k_By_put nl Ln xs d (x3.getD 0) (32 : Int32) σ1 (fun σ4 => am_ext σ1 σ4 → k_By_putDecimal nl Ln xs d (x3.getD 0) x2.toInt64 σ4 (fun σ6 => am_ext σ4 σ6 → F σ6)))) : c_Nd_writeNumbered_16 nl Ln xs (d + 1) x0 x1 x2 x3 σ F := by
  obtain ⟨j16, j17, j18, j21, j22, j24, j27, j28, j29, j30, j33, -⟩ := P_Nd_writeNumbered_16 nl Ln xs
  unfold c_Nd_writeNumbered_16
  refine s_iload_n j16 rfl rfl ?_
  refine s_aload_n j17 rfl rfl ?_
  refine s_stat j18 rfl rfl rfl rfl (by decide) (in_Nd_writeWord _ _) (am_r8 rfl) (am_bV h (fun σ1 h hx1 => ?_))
  replace h := h hx1
  refine s_aload_n j21 rfl rfl ?_
  refine s_bipush j22 rfl kc_bi_32 ?_
  obtain ⟨ho3, h⟩ := h
  refine s_virt j24 rfl rfl rfl rfl ho3 (by decide) (in_By_put _ _) (am_r8 rfl) (am_bV h (fun σ4 h hx4 => ?_))
  replace h := h hx4
  refine s_aload_n j27 rfl rfl ?_
  refine s_iload_n j28 rfl rfl ?_
  refine s_g j29 rfl rfl rfl rfl rfl rfl ?_
  refine s_virt j30 rfl rfl rfl rfl (am_is_ext hx4 ho3) (by decide) (in_By_putDecimal _ _) (am_r8 rfl) (am_bV h (fun σ6 h hx6 => ?_))
  replace h := h hx6
  exact s_retV j33 rfl h
theorem P_Nd_writeWord (nl : Bool) (Ln : Nat) (xs : Nat → Int32) : am_Jl (TT nl Ln xs) 166 [(0, .aload_n 1, 1, []), (1, .ldc 43, 3, [5, 0]), (3, .iload_n 0, 4, []), (4, .bipush 8, 6, []), (6, .imul, 7, []), (7, .bipush 8, 9, []), (9, .invokevirtual 45, 12, [10, 156, 2, 5, 4]), (12, .return_, 13, [0])] := dk_ck (by decide +kernel)
set_option maxRecDepth 4096 in
theorem w_Nd_writeWord {nl : Bool} {Ln : Nat} {xs : Nat → Int32} {d : Nat} {p0 : Int32} {p1 : Option Nat} {σ : am_S} {F : am_S → Prop} (h : (am_is σ p1 1) ∧ k_By_putWord nl Ln xs d (p1.getD 0) (some 0) (p0 * (8 : Int32)) (8 : Int32) σ (fun σ2 => am_ext σ σ2 → F σ2)) : k_Nd_writeWord nl Ln xs (d + 1) p0 p1 σ F := by
  obtain ⟨j0, j1, j3, j4, j6, j7, j9, j12, -⟩ := P_Nd_writeWord nl Ln xs
  have elo : am_lo 2 [.int p0, am_ov p1] = [some (.int p0), some (am_ov p1)] := by simp only [am_lo, am_in_ov, am_in_int, am_in_long, am_in_nil]; rfl
  unfold k_Nd_writeWord
  rw [elo]
  refine s_aload_n j0 rfl rfl ?_
  refine s_ldcS j1 rfl ?_
  refine s_iload_n j3 rfl rfl ?_
  refine s_bipush j4 rfl kc_bi_8 ?_
  refine s_g j6 rfl rfl rfl rfl rfl rfl ?_
  refine s_bipush j7 rfl kc_bi_8 ?_
  obtain ⟨ho1, h⟩ := h
  refine s_virt j9 rfl rfl rfl rfl ho1 (by decide) (in_By_putWord _ _ _ _) (am_r8 rfl) (am_bV h (fun σ2 h hx2 => ?_))
  replace h := h hx2
  exact s_retV j12 rfl h
theorem P_Nd_writeCondition (nl : Bool) (Ln : Nat) (xs : Nat → Int32) : am_Jl (TT nl Ln xs) 167 [(0, .iload_n 2, 1, []), (1, .bipush 64, 3, []), (3, .if_icmp .le 4, 6, []), (6, .return_, 7, [0]), (7, .aload_n 0, 8, []), (8, .getfield 36, 11, [9, 8, 2, 2]), (11, .ifnonnull 9, 14, []), (14, .aload_n 0, 15, []), (15, .aload_n 1, 16, []), (16, .invokestatic 53, 19, [12, 168, 2, 2]), (19, .return_, 20, [0]), (20, .aload_n 0, 21, []), (21, .getfield 36, 24, [9, 8, 2, 2]), (24, .astore_n 3, 25, [])] := dk_ck (by decide +kernel)
set_option maxRecDepth 4096 in
theorem w_Nd_writeCondition {nl : Bool} {Ln : Nat} {xs : Nat → Int32} {d : Nat} {p0 : Option Nat} {p1 : Option Nat} {p2 : Int32} {σ : am_S} {F : am_S → Prop} (h : ((64 : Int32) < p2 → F σ) ∧ (¬ ((64 : Int32) < p2) → (am_is σ p0 8) ∧ ((am_fR σ 8002 (p0.getD 0)) = none → k_Nd_writeTest nl Ln xs d p0 p1 σ (fun σ4 => am_ext σ σ4 → F σ4)) ∧ (¬ ((am_fR σ 8002 (p0.getD 0)) = none) → ∀ v6 : Option Nat, v6 = (am_fR σ 8002 (p0.getD 0)) → c_Nd_writeCondition_25 nl Ln xs (d + 1) p0 p1 p2 v6 none σ F))) : k_Nd_writeCondition nl Ln xs (d + 1) p0 p1 p2 σ F := by
  obtain ⟨j0, j1, j3, j6, j7, j8, j11, j14, j15, j16, j19, j20, j21, j24, -⟩ := P_Nd_writeCondition nl Ln xs
  have elo : am_lo 5 [am_ov p0, am_ov p1, .int p2] = [some (am_ov p0), some (am_ov p1), some (.int p2), none, none] := by simp only [am_lo, am_in_ov, am_in_int, am_in_long, am_in_nil]; rfl
  unfold k_Nd_writeCondition
  rw [elo]
  refine s_iload_n j0 rfl rfl ?_
  refine s_bipush j1 rfl kc_bi_64 ?_
  refine s_icn j3 rfl rfl am_cc_le (fun hc1 => ?_) (fun hc1 => ?_)
  · replace h := h.2 hc1
    refine s_aload_n j7 rfl rfl ?_
    obtain ⟨ho2, h⟩ := h
    refine s_gfR j8 rfl ho2 ?_
    refine s_ifnonnull j11 rfl rfl (fun hc3 => ?_) (fun hc3 => ?_)
    · replace h := h.2 hc3
      refine s_aload_n j20 rfl rfl ?_
      refine s_gfR j21 rfl ho2 ?_
      refine s_astore_nV j24 rfl (n := 5) (L' := fun w => [some (am_ov p0), some (am_ov p1), some (.int p2), some (am_ov w), none]) rfl (by decide) (fun _ => rfl) (fun v6 hv7 => ?_)
      replace h := h v6 hv7
      exact h
    · replace h := h.1 hc3
      refine s_aload_n j14 rfl rfl ?_
      refine s_aload_n j15 rfl rfl ?_
      refine s_stat j16 rfl rfl rfl rfl (by decide) (in_Nd_writeTest _ _) (am_r8 rfl) (am_bV h (fun σ4 h hx4 => ?_))
      replace h := h hx4
      exact s_retV j19 rfl h
  · replace h := h.1 hc1
    exact s_retV j6 rfl h
theorem P_Nd_writeCondition_25 (nl : Bool) (Ln : Nat) (xs : Nat → Int32) : am_Jl (TT nl Ln xs) 167 [(25, .aload_n 3, 26, []), (26, .ifnull 128, 29, []), (29, .aload_n 0, 30, []), (30, .getfield 9, 33, [9, 8, 0, 0]), (33, .bipush 14, 35, []), (35, .if_icmp .eq 11, 38, []), (38, .aload_n 3, 39, []), (39, .aload_n 0, 40, []), (40, .getfield 36, 43, [9, 8, 2, 2]), (43, .if_acmp .eq 17, 46, []), (154, .return_, 155, [0])] := dk_ck (by decide +kernel)
set_option maxRecDepth 4096 in
theorem w_Nd_writeCondition_25 {nl : Bool} {Ln : Nat} {xs : Nat → Int32} {d : Nat} {x0 : Option Nat} {x1 : Option Nat} {x2 : Int32} {x3 : Option Nat} {x4 : Option Value} {σ : am_S} {F : am_S → Prop} (h : (x3 = none → F σ) ∧ (¬ (x3 = none) → (am_is σ x0 8) ∧ ((am_fI σ 8000 (x0.getD 0)) = (14 : Int32) → c_Nd_writeCondition_46 nl Ln xs (d + 1) x0 x1 x2 x3 x4 σ F) ∧ (¬ ((am_fI σ 8000 (x0.getD 0)) = (14 : Int32)) → (am_hi x3) ∧ (am_hi (am_fR σ 8002 (x0.getD 0))) ∧ (x3 = (am_fR σ 8002 (x0.getD 0)) → c_Nd_writeCondition_60 nl Ln xs (d + 1) x0 x1 x2 x3 x4 σ F) ∧ (¬ (x3 = (am_fR σ 8002 (x0.getD 0))) → c_Nd_writeCondition_46 nl Ln xs (d + 1) x0 x1 x2 x3 x4 σ F)))) : c_Nd_writeCondition_25 nl Ln xs (d + 1) x0 x1 x2 x3 x4 σ F := by
  obtain ⟨j25, j26, j29, j30, j33, j35, j38, j39, j40, j43, j154, -⟩ := P_Nd_writeCondition_25 nl Ln xs
  unfold c_Nd_writeCondition_25
  refine s_aload_n j25 rfl rfl ?_
  refine s_ifnull j26 rfl rfl (fun hc1 => ?_) (fun hc1 => ?_)
  · replace h := h.1 hc1
    exact s_retV j154 rfl h
  · replace h := h.2 hc1
    refine s_aload_n j29 rfl rfl ?_
    obtain ⟨ho2, h⟩ := h
    refine s_gfI j30 rfl ho2 ?_
    refine s_bipush j33 rfl kc_bi_14 ?_
    refine s_ic j35 rfl rfl am_cc_eq (fun hc3 => ?_) (fun hc3 => ?_)
    · replace h := h.1 hc3
      exact h
    · replace h := h.2 hc3
      refine s_aload_n j38 rfl rfl ?_
      refine s_aload_n j39 rfl rfl ?_
      refine s_gfR j40 rfl ho2 ?_
      obtain ⟨ho4, h⟩ := h
      obtain ⟨ho5, h⟩ := h
      refine s_acmp_eq j43 rfl rfl ho4 ho5 (fun hc6 => ?_) (fun hc6 => ?_)
      · replace h := h.1 hc6
        exact h
      · replace h := h.2 hc6
        exact h
theorem P_Nd_writeCondition_46 (nl : Bool) (Ln : Nat) (xs : Nat → Int32) : am_Jl (TT nl Ln xs) 167 [(46, .aload_n 0, 47, []), (47, .getfield 9, 50, [9, 8, 0, 0]), (50, .aload_n 1, 51, []), (51, .invokestatic 26, 54, [12, 166, 2, 2]), (54, .aload_n 1, 55, []), (55, .bipush 32, 57, []), (57, .invokevirtual 30, 60, [10, 75, 2, 2, 2])] := dk_ck (by decide +kernel)
set_option maxRecDepth 4096 in
theorem w_Nd_writeCondition_46 {nl : Bool} {Ln : Nat} {xs : Nat → Int32} {d : Nat} {x0 : Option Nat} {x1 : Option Nat} {x2 : Int32} {x3 : Option Nat} {x4 : Option Value} {σ : am_S} {F : am_S → Prop} (h : (am_is σ x0 8) ∧ k_Nd_writeWord nl Ln xs d (am_fI σ 8000 (x0.getD 0)) x1 σ (fun σ2 => am_ext σ σ2 → (am_is σ2 x1 1) ∧ k_By_put nl Ln xs d (x1.getD 0) (32 : Int32) σ2 (fun σ5 => am_ext σ2 σ5 → c_Nd_writeCondition_60 nl Ln xs (d + 1) x0 x1 x2 x3 x4 σ5 F))) : c_Nd_writeCondition_46 nl Ln xs (d + 1) x0 x1 x2 x3 x4 σ F := by
  obtain ⟨j46, j47, j50, j51, j54, j55, j57, -⟩ := P_Nd_writeCondition_46 nl Ln xs
  unfold c_Nd_writeCondition_46
  refine s_aload_n j46 rfl rfl ?_
  obtain ⟨ho1, h⟩ := h
  refine s_gfI j47 rfl ho1 ?_
  refine s_aload_n j50 rfl rfl ?_
  refine s_stat j51 rfl rfl rfl rfl (by decide) (in_Nd_writeWord _ _) (am_r8 rfl) (am_bV h (fun σ2 h hx2 => ?_))
  replace h := h hx2
  refine s_aload_n j54 rfl rfl ?_
  refine s_bipush j55 rfl kc_bi_32 ?_
  obtain ⟨ho4, h⟩ := h
  refine s_virt j57 rfl rfl rfl rfl ho4 (by decide) (in_By_put _ _) (am_r8 rfl) (am_bV h (fun σ5 h hx5 => ?_))
  replace h := h hx5
  exact h
theorem P_Nd_writeCondition_60 (nl : Bool) (Ln : Nat) (xs : Nat → Int32) : am_Jl (TT nl Ln xs) 167 [(60, .aload_n 3, 61, []), (61, .getfield 9, 64, [9, 8, 0, 0]), (64, .bipush 12, 66, []), (66, .if_icmp .ne 12, 69, []), (69, .aload_n 0, 70, []), (70, .getfield 9, 73, [9, 8, 0, 0]), (73, .bipush 12, 75, []), (75, .if_icmp .ne 21, 78, []), (78, .aload_n 3, 79, []), (79, .getfield 9, 82, [9, 8, 0, 0]), (82, .bipush 13, 84, []), (84, .if_icmp .ne 16, 87, []), (87, .aload_n 0, 88, []), (88, .getfield 9, 91, [9, 8, 0, 0]), (91, .bipush 14, 93, []), (93, .if_icmp .ne 7, 96, []), (96, .iconst 1, 97, []), (97, .goto 4, 100, []), (100, .iconst 0, 101, [])] := dk_ck (by decide +kernel)
set_option maxRecDepth 4096 in
theorem w_Nd_writeCondition_60 {nl : Bool} {Ln : Nat} {xs : Nat → Int32} {d : Nat} {x0 : Option Nat} {x1 : Option Nat} {x2 : Int32} {x3 : Option Nat} {x4 : Option Value} {σ : am_S} {F : am_S → Prop} (h : (am_is σ x3 8) ∧ (((am_fI σ 8000 (x3.getD 0)) = (12 : Int32)) → am_is σ x0 8) ∧ (((am_fI σ 8000 (x3.getD 0)) = (12 : Int32)) → ((am_fI σ 8000 (x0.getD 0)) = (12 : Int32)) → ((am_fI σ 8000 (x3.getD 0)) = (13 : Int32)) → am_is σ x0 8) ∧ (¬ ((am_fI σ 8000 (x3.getD 0)) = (12 : Int32)) → ((am_fI σ 8000 (x3.getD 0)) = (13 : Int32)) → am_is σ x0 8) ∧ c_Nd_writeCondition_101 nl Ln xs (d + 1) x0 x1 x2 x3 x4 (if (((am_fI σ 8000 (x3.getD 0)) = (12 : Int32)) ∧ (¬ ((am_fI σ 8000 (x0.getD 0)) = (12 : Int32)) ∨ (((am_fI σ 8000 (x3.getD 0)) = (13 : Int32)) ∧ ((am_fI σ 8000 (x0.getD 0)) = (14 : Int32))))) ∨ (¬ ((am_fI σ 8000 (x3.getD 0)) = (12 : Int32)) ∧ (((am_fI σ 8000 (x3.getD 0)) = (13 : Int32)) ∧ ((am_fI σ 8000 (x0.getD 0)) = (14 : Int32)))) then (1 : Int32) else 0) σ F) : c_Nd_writeCondition_60 nl Ln xs (d + 1) x0 x1 x2 x3 x4 σ F := by
  obtain ⟨j60, j61, j64, j66, j69, j70, j73, j75, j78, j79, j82, j84, j87, j88, j91, j93, j96, j97, j100, -⟩ := P_Nd_writeCondition_60 nl Ln xs
  unfold c_Nd_writeCondition_60
  refine s_aload_n j60 rfl rfl ?_
  obtain ⟨ho1, h⟩ := h
  refine s_gfI j61 rfl ho1 ?_
  refine s_bipush j64 rfl kc_bi_12 ?_
  obtain ⟨ho3, h⟩ := h
  obtain ⟨ho6, h⟩ := h
  obtain ⟨ho9, h⟩ := h
  have K11 : ∀ (w12 : Int32), w12 = (if (((am_fI σ 8000 (x3.getD 0)) = (12 : Int32)) ∧ (¬ ((am_fI σ 8000 (x0.getD 0)) = (12 : Int32)) ∨ (((am_fI σ 8000 (x3.getD 0)) = (13 : Int32)) ∧ ((am_fI σ 8000 (x0.getD 0)) = (14 : Int32))))) ∨ (¬ ((am_fI σ 8000 (x3.getD 0)) = (12 : Int32)) ∧ (((am_fI σ 8000 (x3.getD 0)) = (13 : Int32)) ∧ ((am_fI σ 8000 (x0.getD 0)) = (14 : Int32)))) then (1 : Int32) else 0) → am_C (TT nl Ln xs) (d + 1) 167 101 [some (am_ov x0), some (am_ov x1), some (.int x2), some (am_ov x3), x4] [.int w12] σ (am_qV F) := by
    intro w12 hw13
    subst hw13
    exact h
  refine s_icn j66 rfl rfl am_cc_ne (fun hc2 => ?_) (fun hc2 => ?_)
  · refine s_aload_n j78 rfl rfl ?_
    refine s_gfI j79 rfl ho1 ?_
    refine s_bipush j82 rfl kc_bi_13 ?_
    refine s_icn j84 rfl rfl am_cc_ne (fun hc8 => ?_) (fun hc8 => ?_)
    · refine s_iconst j100 rfl kc_ic_0 ?_
      exact K11 _ (am_e0 (am_p14 hc2 (Iff.trans Iff.rfl (am_p2 hc8))))
    · refine s_aload_n j87 rfl rfl ?_
      refine s_gfI j88 rfl (ho9 hc2 hc8) ?_
      refine s_bipush j91 rfl kc_bi_14 ?_
      refine s_icn j93 rfl rfl am_cc_ne (fun hc10 => ?_) (fun hc10 => ?_)
      · refine s_iconst j100 rfl kc_ic_0 ?_
        exact K11 _ (am_e0 (am_p14 hc2 (am_p1 hc8 (Iff.trans Iff.rfl (am_p10 hc10)))))
      · refine s_iconst j96 rfl kc_ic_1 ?_
        refine s_goto j97 rfl rfl ?_
        exact K11 _ (am_e1 (am_p14 hc2 (am_p1 hc8 (Iff.trans Iff.rfl (am_p9 hc10)))))
  · refine s_aload_n j69 rfl rfl ?_
    refine s_gfI j70 rfl (ho3 hc2) ?_
    refine s_bipush j73 rfl kc_bi_12 ?_
    refine s_icn j75 rfl rfl am_cc_ne (fun hc4 => ?_) (fun hc4 => ?_)
    · refine s_iconst j96 rfl kc_ic_1 ?_
      refine s_goto j97 rfl rfl ?_
      exact K11 _ (am_e1 (am_p13 hc2 (Iff.trans Iff.rfl (am_p7 hc4))))
    · refine s_aload_n j78 rfl rfl ?_
      refine s_gfI j79 rfl ho1 ?_
      refine s_bipush j82 rfl kc_bi_13 ?_
      refine s_icn j84 rfl rfl am_cc_ne (fun hc5 => ?_) (fun hc5 => ?_)
      · refine s_iconst j100 rfl kc_ic_0 ?_
        exact K11 _ (am_e0 (am_p13 hc2 (am_p8 hc4 (Iff.trans Iff.rfl (am_p2 hc5)))))
      · refine s_aload_n j87 rfl rfl ?_
        refine s_gfI j88 rfl (ho6 hc2 hc4 hc5) ?_
        refine s_bipush j91 rfl kc_bi_14 ?_
        refine s_icn j93 rfl rfl am_cc_ne (fun hc7 => ?_) (fun hc7 => ?_)
        · refine s_iconst j100 rfl kc_ic_0 ?_
          exact K11 _ (am_e0 (am_p13 hc2 (am_p8 hc4 (am_p1 hc5 (Iff.trans Iff.rfl (am_p10 hc7))))))
        · refine s_iconst j96 rfl kc_ic_1 ?_
          refine s_goto j97 rfl rfl ?_
          exact K11 _ (am_e1 (am_p13 hc2 (am_p8 hc4 (am_p1 hc5 (Iff.trans Iff.rfl (am_p9 hc7))))))
theorem P_Nd_writeCondition_101 (nl : Bool) (Ln : Nat) (xs : Nat → Int32) : am_Jl (TT nl Ln xs) 167 [(101, .istore 4, 103, []), (103, .iload 4, 105, []), (105, .ifCond .eq 9, 108, []), (108, .aload_n 1, 109, []), (109, .bipush 40, 111, []), (111, .invokevirtual 30, 114, [10, 75, 2, 2, 2])] := dk_ck (by decide +kernel)
set_option maxRecDepth 4096 in
theorem w_Nd_writeCondition_101 {nl : Bool} {Ln : Nat} {xs : Nat → Int32} {d : Nat} {x0 : Option Nat} {x1 : Option Nat} {x2 : Int32} {x3 : Option Nat} {x4 : Option Value} {y0 : Int32} {σ : am_S} {F : am_S → Prop} (h : (y0 = 0 → c_Nd_writeCondition_114 nl Ln xs (d + 1) x0 x1 x2 x3 y0 σ F) ∧ (¬ (y0 = 0) → (am_is σ x1 1) ∧ k_By_put nl Ln xs d (x1.getD 0) (40 : Int32) σ (fun σ3 => am_ext σ σ3 → c_Nd_writeCondition_114 nl Ln xs (d + 1) x0 x1 x2 x3 y0 σ3 F))) : c_Nd_writeCondition_101 nl Ln xs (d + 1) x0 x1 x2 x3 x4 y0 σ F := by
  obtain ⟨j101, j103, j105, j108, j109, j111, -⟩ := P_Nd_writeCondition_101 nl Ln xs
  unfold c_Nd_writeCondition_101
  refine s_istore j101 rfl (n := 5) (L' := [some (am_ov x0), some (am_ov x1), some (.int x2), some (am_ov x3), some (.int y0)]) rfl (by decide) (am_st1_R [_, _, _] _ _ _ _) ?_
  refine s_iload j103 rfl rfl ?_
  refine s_if j105 rfl rfl am_cc_eq (fun hc1 => ?_) (fun hc1 => ?_)
  · replace h := h.1 hc1
    exact h
  · replace h := h.2 hc1
    refine s_aload_n j108 rfl rfl ?_
    refine s_bipush j109 rfl kc_bi_40 ?_
    obtain ⟨ho2, h⟩ := h
    refine s_virt j111 rfl rfl rfl rfl ho2 (by decide) (in_By_put _ _) (am_r8 rfl) (am_bV h (fun σ3 h hx3 => ?_))
    replace h := h hx3
    exact h
theorem P_Nd_writeCondition_114 (nl : Bool) (Ln : Nat) (xs : Nat → Int32) : am_Jl (TT nl Ln xs) 167 [(114, .aload_n 3, 115, []), (115, .aload_n 1, 116, []), (116, .iload_n 2, 117, []), (117, .iconst 1, 118, []), (118, .iadd, 119, []), (119, .invokestatic 39, 122, [12, 167, 5, 3]), (122, .iload 4, 124, []), (124, .ifCond .eq 9, 127, []), (127, .aload_n 1, 128, []), (128, .bipush 41, 130, []), (130, .invokevirtual 30, 133, [10, 75, 2, 2, 2])] := dk_ck (by decide +kernel)
set_option maxRecDepth 4096 in
theorem w_Nd_writeCondition_114 {nl : Bool} {Ln : Nat} {xs : Nat → Int32} {d : Nat} {x0 : Option Nat} {x1 : Option Nat} {x2 : Int32} {x3 : Option Nat} {x4 : Int32} {σ : am_S} {F : am_S → Prop} (h : k_Nd_writeCondition nl Ln xs d x3 x1 (x2 + (1 : Int32)) σ (fun σ1 => am_ext σ σ1 → (x4 = 0 → c_Nd_writeCondition_133 nl Ln xs (d + 1) x0 x1 x2 x3 x4 σ1 F) ∧ (¬ (x4 = 0) → (am_is σ1 x1 1) ∧ k_By_put nl Ln xs d (x1.getD 0) (41 : Int32) σ1 (fun σ5 => am_ext σ1 σ5 → c_Nd_writeCondition_133 nl Ln xs (d + 1) x0 x1 x2 x3 x4 σ5 F)))) : c_Nd_writeCondition_114 nl Ln xs (d + 1) x0 x1 x2 x3 x4 σ F := by
  obtain ⟨j114, j115, j116, j117, j118, j119, j122, j124, j127, j128, j130, -⟩ := P_Nd_writeCondition_114 nl Ln xs
  unfold c_Nd_writeCondition_114
  refine s_aload_n j114 rfl rfl ?_
  refine s_aload_n j115 rfl rfl ?_
  refine s_iload_n j116 rfl rfl ?_
  refine s_iconst j117 rfl kc_ic_1 ?_
  refine s_g j118 rfl rfl rfl rfl rfl rfl ?_
  refine s_stat j119 rfl rfl rfl rfl (by decide) (in_Nd_writeCondition _ _ _) (am_r8 rfl) (am_bV h (fun σ1 h hx1 => ?_))
  replace h := h hx1
  refine s_iload j122 rfl rfl ?_
  refine s_if j124 rfl rfl am_cc_eq (fun hc3 => ?_) (fun hc3 => ?_)
  · replace h := h.1 hc3
    exact h
  · replace h := h.2 hc3
    refine s_aload_n j127 rfl rfl ?_
    refine s_bipush j128 rfl kc_bi_41 ?_
    obtain ⟨ho4, h⟩ := h
    refine s_virt j130 rfl rfl rfl rfl ho4 (by decide) (in_By_put _ _) (am_r8 rfl) (am_bV h (fun σ5 h hx5 => ?_))
    replace h := h hx5
    exact h
theorem P_Nd_writeCondition_133 (nl : Bool) (Ln : Nat) (xs : Nat → Int32) : am_Jl (TT nl Ln xs) 167 [(133, .aload_n 3, 134, []), (134, .getfield 15, 137, [9, 8, 3, 2]), (137, .ifnull 9, 140, []), (140, .aload_n 1, 141, []), (141, .bipush 32, 143, []), (143, .invokevirtual 30, 146, [10, 75, 2, 2, 2]), (146, .aload_n 3, 147, []), (147, .getfield 15, 150, [9, 8, 3, 2]), (150, .astore_n 3, 151, []), (151, .goto (-126), 154, [])] := dk_ck (by decide +kernel)
set_option maxRecDepth 4096 in
theorem w_Nd_writeCondition_133 {nl : Bool} {Ln : Nat} {xs : Nat → Int32} {d : Nat} {x0 : Option Nat} {x1 : Option Nat} {x2 : Int32} {x3 : Option Nat} {x4 : Int32} {σ : am_S} {F : am_S → Prop} (h : (am_is σ x3 8) ∧ ((am_fR σ 8003 (x3.getD 0)) = none → ∀ v3 : Option Nat, v3 = (am_fR σ 8003 (x3.getD 0)) → c_Nd_writeCondition_25 nl Ln xs (d + 1) x0 x1 x2 v3 (some (.int x4)) σ F) ∧ (¬ ((am_fR σ 8003 (x3.getD 0)) = none) → (am_is σ x1 1) ∧ k_By_put nl Ln xs d (x1.getD 0) (32 : Int32) σ (fun σ6 => am_ext σ σ6 → ∀ v8 : Option Nat, v8 = (am_fR σ6 8003 (x3.getD 0)) → c_Nd_writeCondition_25 nl Ln xs (d + 1) x0 x1 x2 v8 (some (.int x4)) σ6 F))) : c_Nd_writeCondition_133 nl Ln xs (d + 1) x0 x1 x2 x3 x4 σ F := by
  obtain ⟨j133, j134, j137, j140, j141, j143, j146, j147, j150, j151, -⟩ := P_Nd_writeCondition_133 nl Ln xs
  unfold c_Nd_writeCondition_133
  refine s_aload_n j133 rfl rfl ?_
  obtain ⟨ho1, h⟩ := h
  refine s_gfR j134 rfl ho1 ?_
  refine s_ifnull j137 rfl rfl (fun hc2 => ?_) (fun hc2 => ?_)
  · replace h := h.1 hc2
    refine s_aload_n j146 rfl rfl ?_
    refine s_gfR j147 rfl ho1 ?_
    refine s_astore_nV j150 rfl (n := 5) (L' := fun w => [some (am_ov x0), some (am_ov x1), some (.int x2), some (am_ov w), some (.int x4)]) rfl (by decide) (fun _ => rfl) (fun v3 hv4 => ?_)
    replace h := h v3 hv4
    refine s_goto j151 rfl rfl ?_
    exact h
  · replace h := h.2 hc2
    refine s_aload_n j140 rfl rfl ?_
    refine s_bipush j141 rfl kc_bi_32 ?_
    obtain ⟨ho5, h⟩ := h
    refine s_virt j143 rfl rfl rfl rfl ho5 (by decide) (in_By_put _ _) (am_r8 rfl) (am_bV h (fun σ6 h hx6 => ?_))
    replace h := h hx6
    refine s_aload_n j146 rfl rfl ?_
    refine s_gfR j147 rfl (am_is_ext hx6 ho1) ?_
    refine s_astore_nV j150 rfl (n := 5) (L' := fun w => [some (am_ov x0), some (am_ov x1), some (.int x2), some (am_ov w), some (.int x4)]) rfl (by decide) (fun _ => rfl) (fun v8 hv9 => ?_)
    replace h := h v8 hv9
    refine s_goto j151 rfl rfl ?_
    exact h
theorem P_Nd_writeTest (nl : Bool) (Ln : Nat) (xs : Nat → Int32) : am_Jl (TT nl Ln xs) 168 [(0, .aload_n 0, 1, []), (1, .getfield 9, 4, [9, 8, 0, 0]), (4, .bipush 19, 6, []), (6, .if_icmp .eq 17, 9, []), (9, .iconst (-1), 10, []), (10, .aload_n 0, 11, []), (11, .getfield 9, 14, [9, 8, 0, 0]), (14, .aload_n 0, 15, []), (15, .getfield 19, 18, [9, 8, 1, 0]), (18, .aload_n 1, 19, []), (19, .invokestatic 22, 22, [12, 165, 4, 4]), (22, .return_, 23, [0]), (23, .bipush 19, 25, []), (25, .aload_n 1, 26, []), (26, .invokestatic 26, 29, [12, 166, 2, 2]), (29, .aload_n 1, 30, []), (30, .bipush 32, 32, []), (32, .invokevirtual 30, 35, [10, 75, 2, 2, 2]), (35, .aload_n 0, 36, []), (36, .getfield 19, 39, [9, 8, 1, 0]), (39, .aload_n 1, 40, []), (40, .invokestatic 26, 43, [12, 166, 2, 2]), (43, .return_, 44, [0])] := dk_ck (by decide +kernel)
set_option maxRecDepth 4096 in
theorem w_Nd_writeTest {nl : Bool} {Ln : Nat} {xs : Nat → Int32} {d : Nat} {p0 : Option Nat} {p1 : Option Nat} {σ : am_S} {F : am_S → Prop} (h : (am_is σ p0 8) ∧ ((am_fI σ 8000 (p0.getD 0)) = (19 : Int32) → k_Nd_writeWord nl Ln xs d (19 : Int32) p1 σ (fun σ3 => am_ext σ σ3 → (am_is σ3 p1 1) ∧ k_By_put nl Ln xs d (p1.getD 0) (32 : Int32) σ3 (fun σ6 => am_ext σ3 σ6 → k_Nd_writeWord nl Ln xs d (am_fI σ6 8001 (p0.getD 0)) p1 σ6 (fun σ8 => am_ext σ6 σ8 → F σ8)))) ∧ (¬ ((am_fI σ 8000 (p0.getD 0)) = (19 : Int32)) → k_Nd_writeNumbered nl Ln xs d (-1 : Int32) (am_fI σ 8000 (p0.getD 0)) (am_fI σ 8001 (p0.getD 0)) p1 σ (fun σ10 => am_ext σ σ10 → F σ10))) : k_Nd_writeTest nl Ln xs (d + 1) p0 p1 σ F := by
  obtain ⟨j0, j1, j4, j6, j9, j10, j11, j14, j15, j18, j19, j22, j23, j25, j26, j29, j30, j32, j35, j36, j39, j40, j43, -⟩ := P_Nd_writeTest nl Ln xs
  have elo : am_lo 2 [am_ov p0, am_ov p1] = [some (am_ov p0), some (am_ov p1)] := by simp only [am_lo, am_in_ov, am_in_int, am_in_long, am_in_nil]; rfl
  unfold k_Nd_writeTest
  rw [elo]
  refine s_aload_n j0 rfl rfl ?_
  obtain ⟨ho1, h⟩ := h
  refine s_gfI j1 rfl ho1 ?_
  refine s_bipush j4 rfl kc_bi_19 ?_
  refine s_ic j6 rfl rfl am_cc_eq (fun hc2 => ?_) (fun hc2 => ?_)
  · replace h := h.1 hc2
    refine s_bipush j23 rfl kc_bi_19 ?_
    refine s_aload_n j25 rfl rfl ?_
    refine s_stat j26 rfl rfl rfl rfl (by decide) (in_Nd_writeWord _ _) (am_r8 rfl) (am_bV h (fun σ3 h hx3 => ?_))
    replace h := h hx3
    refine s_aload_n j29 rfl rfl ?_
    refine s_bipush j30 rfl kc_bi_32 ?_
    obtain ⟨ho5, h⟩ := h
    refine s_virt j32 rfl rfl rfl rfl ho5 (by decide) (in_By_put _ _) (am_r8 rfl) (am_bV h (fun σ6 h hx6 => ?_))
    replace h := h hx6
    refine s_aload_n j35 rfl rfl ?_
    refine s_gfI j36 rfl (am_is_ext hx6 (am_is_ext hx3 ho1)) ?_
    refine s_aload_n j39 rfl rfl ?_
    refine s_stat j40 rfl rfl rfl rfl (by decide) (in_Nd_writeWord _ _) (am_r8 rfl) (am_bV h (fun σ8 h hx8 => ?_))
    replace h := h hx8
    exact s_retV j43 rfl h
  · replace h := h.2 hc2
    refine s_iconst j9 rfl kc_ic_m1 ?_
    refine s_aload_n j10 rfl rfl ?_
    refine s_gfI j11 rfl ho1 ?_
    refine s_aload_n j14 rfl rfl ?_
    refine s_gfI j15 rfl ho1 ?_
    refine s_aload_n j18 rfl rfl ?_
    refine s_stat j19 rfl rfl rfl rfl (by decide) (in_Nd_writeNumbered _ _ _ _) (am_r8 rfl) (am_bV h (fun σ10 h hx10 => ?_))
    replace h := h hx10
    exact s_retV j22 rfl h
theorem P_Co_letter (nl : Bool) (Ln : Nat) (xs : Nat → Int32) : am_Jl (TT nl Ln xs) 169 [(0, .aload_n 0, 1, []), (1, .getfield 21, 4, [9, 0, 2, 2]), (4, .iload_n 1, 5, []), (5, .invokevirtual 169, 8, [10, 77, 2, 2, 2]), (8, .ireturn, 9, [1])] := dk_ck (by decide +kernel)
set_option maxRecDepth 4096 in
theorem w_Co_letter {nl : Bool} {Ln : Nat} {xs : Nat → Int32} {d : Nat} {this : Nat} {p0 : Int32} {σ : am_S} {F : Int32 → am_S → Prop} (h : (am_is σ (some this) 0) ∧ (am_is σ (am_fR σ 2 this) 1) ∧ k_By_byteAt nl Ln xs d ((am_fR σ 2 this).getD 0) p0 σ (fun a4 σ3 => am_ext σ σ3 → F a4 σ3)) : k_Co_letter nl Ln xs (d + 1) this p0 σ F := by
  obtain ⟨j0, j1, j4, j5, j8, -⟩ := P_Co_letter nl Ln xs
  have elo : am_lo 2 [am_ov (some this), .int p0] = [some (am_ov (some this)), some (.int p0)] := by simp only [am_lo, am_in_ov, am_in_int, am_in_long, am_in_nil]; rfl
  unfold k_Co_letter
  rw [elo]
  refine s_aload_n j0 rfl rfl ?_
  obtain ⟨ho1, h⟩ := h
  refine s_gfR j1 rfl ho1 ?_
  refine s_iload_n j4 rfl rfl ?_
  obtain ⟨ho2, h⟩ := h
  refine s_virt j5 rfl rfl rfl rfl ho2 (by decide) (in_By_byteAt _ _) (am_r8 rfl) (am_bI h (fun a4 σ3 h hx3 => ?_))
  replace h := h hx3
  exact s_retI j8 rfl h
theorem P_Co_used (nl : Bool) (Ln : Nat) (xs : Nat → Int32) : am_Jl (TT nl Ln xs) 170 [(0, .aload_n 0, 1, []), (1, .iload_n 1, 2, []), (2, .iload_n 3, 3, []), (3, .invokevirtual 149, 6, [10, 162, 1, 4, 3]), (6, .astore 4, 8, []), (8, .aload 4, 10, []), (10, .ifnull 10, 13, []), (13, .iload_n 2, 14, []), (14, .invokestatic 173, 17, [12, 171, 1, 1]), (17, .ifCond .ne 7, 20, []), (20, .ldc2_w 104, 23, [6, 9223372036854775808]), (23, .lreturn, 24, [2]), (24, .aload_n 0, 25, []), (25, .getfield 56, 28, [9, 0, 7, 2]), (28, .aload 4, 30, []), (30, .iload_n 2, 31, []), (31, .iload_n 3, 32, []), (32, .invokevirtual 177, 35, [10, 70, 7, 7, 4]), (35, .lreturn, 36, [2])] := dk_ck (by decide +kernel)
set_option maxRecDepth 4096 in
theorem w_Co_used {nl : Bool} {Ln : Nat} {xs : Nat → Int32} {d : Nat} {this : Nat} {p0 : Int32} {p1 : Int32} {p2 : Int32} {σ : am_S} {F : Int64 → am_S → Prop} (h : (am_is σ (some this) 0) ∧ k_Co_coverAsked nl Ln xs d this p0 p2 σ (fun a3 σ2 => am_ext σ σ2 → (a3 = none → F (-9223372036854775808 : Int64) σ2) ∧ (¬ (a3 = none) → k_Co_isYear nl Ln xs d p1 σ2 (fun a6 σ5 => am_ext σ2 σ5 → (a6 = true → (am_is σ5 (am_fR σ5 7 this) 6) ∧ k_Bk_usedOf nl Ln xs d ((am_fR σ5 7 this).getD 0) a3 p1 p2 σ5 (fun a10 σ9 => am_ext σ5 σ9 → F a10 σ9)) ∧ (¬ (a6 = true) → F (-9223372036854775808 : Int64) σ5))))) : k_Co_used nl Ln xs (d + 1) this p0 p1 p2 σ F := by
  obtain ⟨j0, j1, j2, j3, j6, j8, j10, j13, j14, j17, j20, j23, j24, j25, j28, j30, j31, j32, j35, -⟩ := P_Co_used nl Ln xs
  have elo : am_lo 5 [am_ov (some this), .int p0, .int p1, .int p2] = [some (am_ov (some this)), some (.int p0), some (.int p1), some (.int p2), none] := by simp only [am_lo, am_in_ov, am_in_int, am_in_long, am_in_nil]; rfl
  unfold k_Co_used
  rw [elo]
  refine s_aload_n j0 rfl rfl ?_
  refine s_iload_n j1 rfl rfl ?_
  refine s_iload_n j2 rfl rfl ?_
  obtain ⟨ho1, h⟩ := h
  refine s_virt j3 rfl rfl rfl rfl ho1 (by decide) (in_Co_coverAsked _ _ _) (am_r8 rfl) (am_bR h (fun a3 σ2 h hx2 => ?_))
  replace h := h hx2
  refine s_astore j6 rfl (n := 5) (L' := [some (am_ov (some this)), some (.int p0), some (.int p1), some (.int p2), some (am_ov a3)]) rfl (by decide) rfl ?_
  refine s_aload j8 rfl rfl ?_
  refine s_ifnull j10 rfl rfl (fun hc4 => ?_) (fun hc4 => ?_)
  · replace h := h.1 hc4
    refine s_ldc2 j20 rfl kc_ll_m9223372036854775808 ?_
    exact s_retL j23 rfl h
  · replace h := h.2 hc4
    refine s_iload_n j13 rfl rfl ?_
    refine s_stat j14 rfl rfl rfl rfl (by decide) (in_Co_isYear _) (am_r8 rfl) (am_bB h (fun a6 σ5 h hx5 => ?_))
    replace h := h hx5
    refine s_if j17 rfl rfl am_cb_ne (fun hc7 => ?_) (fun hc7 => ?_)
    · replace h := h.1 hc7
      refine s_aload_n j24 rfl rfl ?_
      refine s_gfR j25 rfl (am_is_ext hx5 (am_is_ext hx2 ho1)) ?_
      refine s_aload j28 rfl rfl ?_
      refine s_iload_n j30 rfl rfl ?_
      refine s_iload_n j31 rfl rfl ?_
      obtain ⟨ho8, h⟩ := h
      refine s_virt j32 rfl rfl rfl rfl ho8 (by decide) (in_Bk_usedOf _ _ _ _) (am_r8 rfl) (am_bL h (fun a10 σ9 h hx9 => ?_))
      replace h := h hx9
      exact s_retL j35 rfl h
    · replace h := h.2 hc7
      refine s_ldc2 j20 rfl kc_ll_m9223372036854775808 ?_
      exact s_retL j23 rfl h
theorem P_Co_isYear (nl : Bool) (Ln : Nat) (xs : Nat → Int32) : am_Jl (TT nl Ln xs) 171 [(0, .iload_n 0, 1, []), (1, .ifCond .lt 13, 4, []), (4, .iload_n 0, 5, []), (5, .bipush 30, 7, []), (7, .if_icmp .ge 7, 10, []), (10, .iconst 1, 11, []), (11, .goto 4, 14, []), (14, .iconst 0, 15, []), (15, .ireturn, 16, [4])] := dk_ck (by decide +kernel)
set_option maxRecDepth 4096 in
theorem w_Co_isYear {nl : Bool} {Ln : Nat} {xs : Nat → Int32} {d : Nat} {p0 : Int32} {σ : am_S} {F : Bool → am_S → Prop} (h : F (decide (¬ (p0 < 0) ∧ (p0 < (30 : Int32)))) σ) : k_Co_isYear nl Ln xs (d + 1) p0 σ F := by
  obtain ⟨j0, j1, j4, j5, j7, j10, j11, j14, j15, -⟩ := P_Co_isYear nl Ln xs
  have elo : am_lo 1 [.int p0] = [some (.int p0)] := by simp only [am_lo, am_in_ov, am_in_int, am_in_long, am_in_nil]; rfl
  unfold k_Co_isYear
  rw [elo]
  refine s_iload_n j0 rfl rfl ?_
  have K3 : ∀ (w4 : Int32), w4 = (if ¬ (p0 < 0) ∧ (p0 < (30 : Int32)) then (1 : Int32) else 0) → am_C (TT nl Ln xs) (d + 1) 171 15 [some (.int p0)] [.int w4] σ (am_qB F) := by
    intro w4 hw5
    subst hw5
    exact s_retZ j15 rfl h
  refine s_if j1 rfl rfl am_cc_lt (fun hc1 => ?_) (fun hc1 => ?_)
  · refine s_iconst j14 rfl kc_ic_0 ?_
    exact K3 _ (am_e0 (Iff.trans Iff.rfl (am_p6 hc1)))
  · refine s_iload_n j4 rfl rfl ?_
    refine s_bipush j5 rfl kc_bi_30 ?_
    refine s_icn j7 rfl rfl am_cc_ge (fun hc2 => ?_) (fun hc2 => ?_)
    · refine s_iconst j14 rfl kc_ic_0 ?_
      exact K3 _ (am_e0 (am_p5 hc1 (Iff.trans Iff.rfl (am_p10 hc2))))
    · refine s_iconst j10 rfl kc_ic_1 ?_
      refine s_goto j11 rfl rfl ?_
      exact K3 _ (am_e1 (am_p5 hc1 (Iff.trans Iff.rfl (am_p9 hc2))))
theorem P_Co_left (nl : Bool) (Ln : Nat) (xs : Nat → Int32) : am_Jl (TT nl Ln xs) 172 [(0, .aload_n 0, 1, []), (1, .iload_n 1, 2, []), (2, .iload_n 3, 3, []), (3, .invokevirtual 149, 6, [10, 162, 1, 4, 3]), (6, .astore 4, 8, []), (8, .aload 4, 10, []), (10, .ifnull 10, 13, []), (13, .iload_n 2, 14, []), (14, .invokestatic 173, 17, [12, 171, 1, 1]), (17, .ifCond .ne 7, 20, []), (20, .ldc2_w 104, 23, [6, 9223372036854775808]), (23, .lreturn, 24, [2]), (24, .aload 4, 26, []), (26, .iload_n 3, 27, []), (27, .invokevirtual 153, 30, [10, 32, 10, 3, 2]), (30, .iconst 4, 31, []), (31, .invokestatic 181, 34, [12, 35, 4, 2]), (34, .astore 5, 36, []), (36, .aload 5, 38, []), (38, .ifnonnull 9, 41, []), (41, .ldc2_w 104, 44, [6, 9223372036854775808]), (44, .goto 21, 47, []), (47, .aload 5, 49, []), (49, .getfield 185, 52, [9, 8, 1, 0]), (52, .i2l, 53, []), (53, .aload_n 0, 54, []), (54, .getfield 56, 57, [9, 0, 7, 2]), (57, .aload 4, 59, []), (59, .iload_n 2, 60, []), (60, .iload_n 3, 61, []), (61, .invokevirtual 177, 64, [10, 70, 7, 7, 4]), (64, .lsub, 65, []), (65, .lreturn, 66, [2])] := dk_ck (by decide +kernel)
set_option maxRecDepth 4096 in
theorem w_Co_left {nl : Bool} {Ln : Nat} {xs : Nat → Int32} {d : Nat} {this : Nat} {p0 : Int32} {p1 : Int32} {p2 : Int32} {σ : am_S} {F : Int64 → am_S → Prop} (h : (am_is σ (some this) 0) ∧ k_Co_coverAsked nl Ln xs d this p0 p2 σ (fun a3 σ2 => am_ext σ σ2 → (a3 = none → F (-9223372036854775808 : Int64) σ2) ∧ (¬ (a3 = none) → k_Co_isYear nl Ln xs d p1 σ2 (fun a6 σ5 => am_ext σ2 σ5 → (a6 = true → (am_is σ5 a3 9) ∧ k_Po_clausesAt nl Ln xs d (a3.getD 0) p2 σ5 (fun a10 σ9 => am_ext σ5 σ9 → k_Nd_lastOf nl Ln xs d a10 (4 : Int32) σ9 (fun a12 σ11 => am_ext σ9 σ11 → (a12 = none → F (-9223372036854775808 : Int64) σ11) ∧ (¬ (a12 = none) → (am_is σ11 a12 8) ∧ (am_is σ11 (am_fR σ11 7 this) 6) ∧ k_Bk_usedOf nl Ln xs d ((am_fR σ11 7 this).getD 0) a3 p1 p2 σ11 (fun a17 σ16 => am_ext σ11 σ16 → F ((am_fI σ11 8001 (a12.getD 0)).toInt64 - a17) σ16))))) ∧ (¬ (a6 = true) → F (-9223372036854775808 : Int64) σ5))))) : k_Co_left nl Ln xs (d + 1) this p0 p1 p2 σ F := by
  obtain ⟨j0, j1, j2, j3, j6, j8, j10, j13, j14, j17, j20, j23, j24, j26, j27, j30, j31, j34, j36, j38, j41, j44, j47, j49, j52, j53, j54, j57, j59, j60, j61, j64, j65, -⟩ := P_Co_left nl Ln xs
  have elo : am_lo 6 [am_ov (some this), .int p0, .int p1, .int p2] = [some (am_ov (some this)), some (.int p0), some (.int p1), some (.int p2), none, none] := by simp only [am_lo, am_in_ov, am_in_int, am_in_long, am_in_nil]; rfl
  unfold k_Co_left
  rw [elo]
  refine s_aload_n j0 rfl rfl ?_
  refine s_iload_n j1 rfl rfl ?_
  refine s_iload_n j2 rfl rfl ?_
  obtain ⟨ho1, h⟩ := h
  refine s_virt j3 rfl rfl rfl rfl ho1 (by decide) (in_Co_coverAsked _ _ _) (am_r8 rfl) (am_bR h (fun a3 σ2 h hx2 => ?_))
  replace h := h hx2
  refine s_astore j6 rfl (n := 6) (L' := [some (am_ov (some this)), some (.int p0), some (.int p1), some (.int p2), some (am_ov a3), none]) rfl (by decide) rfl ?_
  refine s_aload j8 rfl rfl ?_
  refine s_ifnull j10 rfl rfl (fun hc4 => ?_) (fun hc4 => ?_)
  · replace h := h.1 hc4
    refine s_ldc2 j20 rfl kc_ll_m9223372036854775808 ?_
    exact s_retL j23 rfl h
  · replace h := h.2 hc4
    refine s_iload_n j13 rfl rfl ?_
    refine s_stat j14 rfl rfl rfl rfl (by decide) (in_Co_isYear _) (am_r8 rfl) (am_bB h (fun a6 σ5 h hx5 => ?_))
    replace h := h hx5
    refine s_if j17 rfl rfl am_cb_ne (fun hc7 => ?_) (fun hc7 => ?_)
    · replace h := h.1 hc7
      refine s_aload j24 rfl rfl ?_
      refine s_iload_n j26 rfl rfl ?_
      obtain ⟨ho8, h⟩ := h
      refine s_virt j27 rfl rfl rfl rfl ho8 (by decide) (in_Po_clausesAt _ _) (am_r8 rfl) (am_bR h (fun a10 σ9 h hx9 => ?_))
      replace h := h hx9
      refine s_iconst j30 rfl kc_ic_4 ?_
      refine s_stat j31 rfl rfl rfl rfl (by decide) (in_Nd_lastOf _ _) (am_r8 rfl) (am_bR h (fun a12 σ11 h hx11 => ?_))
      replace h := h hx11
      refine s_astore j34 rfl (n := 6) (L' := [some (am_ov (some this)), some (.int p0), some (.int p1), some (.int p2), some (am_ov a3), some (am_ov a12)]) rfl (by decide) (am_st1_R [_, _, _, _] _ _ _ _) ?_
      refine s_aload j36 rfl rfl ?_
      refine s_ifnonnull j38 rfl rfl (fun hc13 => ?_) (fun hc13 => ?_)
      · replace h := h.2 hc13
        refine s_aload j47 rfl rfl ?_
        obtain ⟨ho14, h⟩ := h
        refine s_gfI j49 rfl ho14 ?_
        refine s_g j52 rfl rfl rfl rfl rfl rfl ?_
        refine s_aload_n j53 rfl rfl ?_
        refine s_gfR j54 rfl (am_is_ext hx11 (am_is_ext hx9 (am_is_ext hx5 (am_is_ext hx2 ho1)))) ?_
        refine s_aload j57 rfl rfl ?_
        refine s_iload_n j59 rfl rfl ?_
        refine s_iload_n j60 rfl rfl ?_
        obtain ⟨ho15, h⟩ := h
        refine s_virt j61 rfl rfl rfl rfl ho15 (by decide) (in_Bk_usedOf _ _ _ _) (am_r8 rfl) (am_bL h (fun a17 σ16 h hx16 => ?_))
        replace h := h hx16
        refine s_g j64 rfl rfl rfl rfl rfl rfl ?_
        exact s_retL j65 rfl h
      · replace h := h.1 hc13
        refine s_ldc2 j41 rfl kc_ll_m9223372036854775808 ?_
        refine s_goto j44 rfl rfl ?_
        exact s_retL j65 rfl h
    · replace h := h.2 hc7
      refine s_ldc2 j20 rfl kc_ll_m9223372036854775808 ?_
      exact s_retL j23 rfl h
theorem P_Co_reserved (nl : Bool) (Ln : Nat) (xs : Nat → Int32) : am_Jl (TT nl Ln xs) 173 [(0, .iload_n 1, 1, []), (1, .ifCond .lt 23, 4, []), (4, .iload_n 1, 5, []), (5, .iconst 2, 6, []), (6, .if_icmp .gt 18, 9, []), (9, .iload_n 2, 10, []), (10, .invokestatic 173, 13, [12, 171, 1, 1]), (13, .ifCond .eq 11, 16, []), (16, .aload_n 0, 17, []), (17, .iload_n 3, 18, []), (18, .invokevirtual 188, 21, [10, 163, 1, 2, 2]), (21, .ifCond .ne 7, 24, []), (24, .ldc2_w 104, 27, [6, 9223372036854775808]), (27, .lreturn, 28, [2]), (28, .aload_n 0, 29, []), (29, .getfield 56, 32, [9, 0, 7, 2]), (32, .iload_n 1, 33, []), (33, .iload_n 2, 34, []), (34, .iload_n 3, 35, []), (35, .invokevirtual 191, 38, [10, 174, 7, 10, 4]), (38, .lreturn, 39, [2])] := dk_ck (by decide +kernel)
set_option maxRecDepth 4096 in
theorem w_Co_reserved {nl : Bool} {Ln : Nat} {xs : Nat → Int32} {d : Nat} {this : Nat} {p0 : Int32} {p1 : Int32} {p2 : Int32} {σ : am_S} {F : Int64 → am_S → Prop} (h : (p0 < 0 → F (-9223372036854775808 : Int64) σ) ∧ (¬ (p0 < 0) → ((2 : Int32) < p0 → F (-9223372036854775808 : Int64) σ) ∧ (¬ ((2 : Int32) < p0) → k_Co_isYear nl Ln xs d p1 σ (fun a4 σ3 => am_ext σ σ3 → (a4 = true → (am_is σ3 (some this) 0) ∧ k_Co_isMoment nl Ln xs d this p2 σ3 (fun a8 σ7 => am_ext σ3 σ7 → (a8 = true → (am_is σ7 (am_fR σ7 7 this) 6) ∧ k_Bk_reservedOf nl Ln xs d ((am_fR σ7 7 this).getD 0) p0 p1 p2 σ7 (fun a12 σ11 => am_ext σ7 σ11 → F a12 σ11)) ∧ (¬ (a8 = true) → F (-9223372036854775808 : Int64) σ7))) ∧ (¬ (a4 = true) → F (-9223372036854775808 : Int64) σ3))))) : k_Co_reserved nl Ln xs (d + 1) this p0 p1 p2 σ F := by
  obtain ⟨j0, j1, j4, j5, j6, j9, j10, j13, j16, j17, j18, j21, j24, j27, j28, j29, j32, j33, j34, j35, j38, -⟩ := P_Co_reserved nl Ln xs
  have elo : am_lo 4 [am_ov (some this), .int p0, .int p1, .int p2] = [some (am_ov (some this)), some (.int p0), some (.int p1), some (.int p2)] := by simp only [am_lo, am_in_ov, am_in_int, am_in_long, am_in_nil]; rfl
  unfold k_Co_reserved
  rw [elo]
  refine s_iload_n j0 rfl rfl ?_
  refine s_if j1 rfl rfl am_cc_lt (fun hc1 => ?_) (fun hc1 => ?_)
  · replace h := h.1 hc1
    refine s_ldc2 j24 rfl kc_ll_m9223372036854775808 ?_
    exact s_retL j27 rfl h
  · replace h := h.2 hc1
    refine s_iload_n j4 rfl rfl ?_
    refine s_iconst j5 rfl kc_ic_2 ?_
    refine s_ic j6 rfl rfl am_cc_gt (fun hc2 => ?_) (fun hc2 => ?_)
    · replace h := h.1 hc2
      refine s_ldc2 j24 rfl kc_ll_m9223372036854775808 ?_
      exact s_retL j27 rfl h
    · replace h := h.2 hc2
      refine s_iload_n j9 rfl rfl ?_
      refine s_stat j10 rfl rfl rfl rfl (by decide) (in_Co_isYear _) (am_r8 rfl) (am_bB h (fun a4 σ3 h hx3 => ?_))
      replace h := h hx3
      refine s_ifn j13 rfl rfl am_cb_eq (fun hc5 => ?_) (fun hc5 => ?_)
      · replace h := h.2 hc5
        refine s_ldc2 j24 rfl kc_ll_m9223372036854775808 ?_
        exact s_retL j27 rfl h
      · replace h := h.1 hc5
        refine s_aload_n j16 rfl rfl ?_
        refine s_iload_n j17 rfl rfl ?_
        obtain ⟨ho6, h⟩ := h
        refine s_virt j18 rfl rfl rfl rfl ho6 (by decide) (in_Co_isMoment _ _) (am_r8 rfl) (am_bB h (fun a8 σ7 h hx7 => ?_))
        replace h := h hx7
        refine s_if j21 rfl rfl am_cb_ne (fun hc9 => ?_) (fun hc9 => ?_)
        · replace h := h.1 hc9
          refine s_aload_n j28 rfl rfl ?_
          refine s_gfR j29 rfl (am_is_ext hx7 ho6) ?_
          refine s_iload_n j32 rfl rfl ?_
          refine s_iload_n j33 rfl rfl ?_
          refine s_iload_n j34 rfl rfl ?_
          obtain ⟨ho10, h⟩ := h
          refine s_virt j35 rfl rfl rfl rfl ho10 (by decide) (in_Bk_reservedOf _ _ _ _) (am_r8 rfl) (am_bL h (fun a12 σ11 h hx11 => ?_))
          replace h := h hx11
          exact s_retL j38 rfl h
        · replace h := h.2 hc9
          refine s_ldc2 j24 rfl kc_ll_m9223372036854775808 ?_
          exact s_retL j27 rfl h
theorem P_Bk_reservedOf (nl : Bool) (Ln : Nat) (xs : Nat → Int32) : am_Jl (TT nl Ln xs) 174 [(0, .lconst 0, 1, []), (1, .lstore 4, 3, []), (3, .iconst 0, 4, []), (4, .istore 6, 6, [])] := dk_ck (by decide +kernel)
set_option maxRecDepth 4096 in
theorem w_Bk_reservedOf {nl : Bool} {Ln : Nat} {xs : Nat → Int32} {d : Nat} {this : Nat} {p0 : Int32} {p1 : Int32} {p2 : Int32} {σ : am_S} {F : Int64 → am_S → Prop} (h : c_Bk_reservedOf_6 nl Ln xs (d + 1) this p0 p1 p2 (0 : Int64) (0 : Int32) none none none σ F) : k_Bk_reservedOf nl Ln xs (d + 1) this p0 p1 p2 σ F := by
  obtain ⟨j0, j1, j3, j4, -⟩ := P_Bk_reservedOf nl Ln xs
  have elo : am_lo 10 [am_ov (some this), .int p0, .int p1, .int p2] = [some (am_ov (some this)), some (.int p0), some (.int p1), some (.int p2), none, none, none, none, none, none] := by simp only [am_lo, am_in_ov, am_in_int, am_in_long, am_in_nil]; rfl
  unfold k_Bk_reservedOf
  rw [elo]
  refine s_lconst j0 rfl rfl ?_
  refine s_lstore j1 rfl (n := 10) (L' := [some (am_ov (some this)), some (.int p0), some (.int p1), some (.int p2), some (.long (0 : Int64)), none, none, none, none, none]) rfl (by decide) rfl ?_
  refine s_iconst j3 rfl kc_ic_0 ?_
  refine s_istore j4 rfl (n := 10) (L' := [some (am_ov (some this)), some (.int p0), some (.int p1), some (.int p2), some (.long (0 : Int64)), none, some (.int (0 : Int32)), none, none, none]) rfl (by decide) rfl ?_
  exact h
theorem P_Bk_reservedOf_6 (nl : Bool) (Ln : Nat) (xs : Nat → Int32) : am_Jl (TT nl Ln xs) 174 [(6, .iload 6, 8, []), (8, .aload_n 0, 9, []), (9, .getfield 79, 12, [9, 6, 14, 0]), (12, .if_icmp .ge 96, 15, []), (15, .aload_n 0, 16, []), (16, .getfield 32, 19, [9, 6, 6, 2]), (19, .iload 6, 21, []), (21, .aaload, 22, []), (22, .astore 7, 24, []), (24, .aload 7, 26, []), (26, .getfield 462, 29, [9, 11, 4, 0]), (29, .iload_n 3, 30, []), (30, .if_icmp .gt 23, 33, []), (33, .aload 7, 35, []), (35, .getfield 404, 38, [9, 11, 2, 2]), (38, .getfield 312, 41, [9, 10, 2, 0]), (41, .sipush 365, 44, []), (44, .idiv, 45, []), (45, .iload_n 2, 46, []), (46, .if_icmp .ne 7, 49, []), (49, .iconst 1, 50, []), (50, .goto 4, 53, []), (53, .iconst 0, 54, []), (108, .lload 4, 110, []), (110, .lreturn, 111, [2])] := dk_ck (by decide +kernel)
set_option maxRecDepth 4096 in
theorem w_Bk_reservedOf_6 {nl : Bool} {Ln : Nat} {xs : Nat → Int32} {d : Nat} {this : Nat} {x1 : Int32} {x2 : Int32} {x3 : Int32} {x4 : Int64} {x6 : Int32} {x7 : Option Value} {x8 : Option Value} {x9 : Option Value} {σ : am_S} {F : Int64 → am_S → Prop} (h : (am_is σ (some this) 6) ∧ (x6 < (am_fI σ 6014 this) → (am_ar σ 2011 (am_fR σ 6006 this) x6) ∧ ∀ v4 : Option Nat, v4 = (am_aR σ ((am_fR σ 6006 this).getD 0) x6.toNatClampNeg) → (am_is σ v4 11) ∧ (¬ (x3 < (am_fI σ 11004 (v4.getD 0))) → am_is σ (am_fR σ 11002 (v4.getD 0)) 10) ∧ c_Bk_reservedOf_54 nl Ln xs (d + 1) this x1 x2 x3 x4 x6 v4 x8 x9 (if ¬ (x3 < (am_fI σ 11004 (v4.getD 0))) ∧ (((am_fI σ 10002 ((am_fR σ 11002 (v4.getD 0)).getD 0)) / (365 : Int32)) = x2) then (1 : Int32) else 0) σ F) ∧ (¬ (x6 < (am_fI σ 6014 this)) → F x4 σ)) : c_Bk_reservedOf_6 nl Ln xs (d + 1) this x1 x2 x3 x4 x6 x7 x8 x9 σ F := by
  obtain ⟨j6, j8, j9, j12, j15, j16, j19, j21, j22, j24, j26, j29, j30, j33, j35, j38, j41, j44, j45, j46, j49, j50, j53, j108, j110, -⟩ := P_Bk_reservedOf_6 nl Ln xs
  unfold c_Bk_reservedOf_6
  refine s_iload j6 rfl rfl ?_
  refine s_aload_n j8 rfl rfl ?_
  obtain ⟨ho1, h⟩ := h
  refine s_gfI j9 rfl ho1 ?_
  refine s_icn j12 rfl rfl am_cc_ge (fun hc2 => ?_) (fun hc2 => ?_)
  · replace h := h.2 hc2
    refine s_lload j108 rfl rfl ?_
    exact s_retL j110 rfl h
  · replace h := h.1 hc2
    refine s_aload_n j15 rfl rfl ?_
    refine s_gfR j16 rfl ho1 ?_
    refine s_iload j19 rfl rfl ?_
    obtain ⟨ho3, h⟩ := h
    refine s_aaload (k := 2011) (by decide) kq_2011 j21 rfl ho3 ?_
    refine s_astoreV j22 rfl (n := 10) (L' := fun w => [some (am_ov (some this)), some (.int x1), some (.int x2), some (.int x3), some (.long x4), none, some (.int x6), some (am_ov w), x8, x9]) rfl (by decide) (fun _ => rfl) (fun v4 hv5 => ?_)
    replace h := h v4 hv5
    refine s_aload j24 rfl rfl ?_
    obtain ⟨ho6, h⟩ := h
    refine s_gfI j26 rfl ho6 ?_
    refine s_iload_n j29 rfl rfl ?_
    obtain ⟨ho8, h⟩ := h
    have K10 : ∀ (w11 : Int32), w11 = (if ¬ (x3 < (am_fI σ 11004 (v4.getD 0))) ∧ (((am_fI σ 10002 ((am_fR σ 11002 (v4.getD 0)).getD 0)) / (365 : Int32)) = x2) then (1 : Int32) else 0) → am_C (TT nl Ln xs) (d + 1) 174 54 [some (am_ov (some this)), some (.int x1), some (.int x2), some (.int x3), some (.long x4), none, some (.int x6), some (am_ov v4), x8, x9] [.int w11] σ (am_qL F) := by
      intro w11 hw12
      subst hw12
      exact h
    refine s_ic j30 rfl rfl am_cc_gt (fun hc7 => ?_) (fun hc7 => ?_)
    · refine s_iconst j53 rfl kc_ic_0 ?_
      exact K10 _ (am_e0 (Iff.trans Iff.rfl (am_p6 hc7)))
    · refine s_aload j33 rfl rfl ?_
      refine s_gfR j35 rfl ho6 ?_
      refine s_gfI j38 rfl (ho8 hc7) ?_
      refine s_sipush j41 rfl kc_si_365 ?_
      refine s_idiv j44 rfl (by decide) ?_
      refine s_iload_n j45 rfl rfl ?_
      refine s_icn j46 rfl rfl am_cc_ne (fun hc9 => ?_) (fun hc9 => ?_)
      · refine s_iconst j53 rfl kc_ic_0 ?_
        exact K10 _ (am_e0 (am_p5 hc7 (Iff.trans Iff.rfl (am_p10 hc9))))
      · refine s_iconst j49 rfl kc_ic_1 ?_
        refine s_goto j50 rfl rfl ?_
        exact K10 _ (am_e1 (am_p5 hc7 (Iff.trans Iff.rfl (am_p9 hc9))))
theorem P_Bk_reservedOf_54 (nl : Bool) (Ln : Nat) (xs : Nat → Int32) : am_Jl (TT nl Ln xs) 174 [(54, .istore 8, 56, []), (56, .aload 7, 58, []), (58, .getfield 223, 61, [9, 11, 5, 2]), (61, .bipush 12, 63, []), (63, .iload_n 1, 64, []), (64, .iload_n 3, 65, []), (65, .invokestatic 274, 68, [12, 28, 5, 4]), (68, .astore 9, 70, []), (70, .iload 8, 72, []), (72, .ifCond .eq 30, 75, []), (75, .aload 9, 77, []), (77, .ifnull 25, 80, []), (80, .aload 7, 82, []), (82, .iload_n 3, 83, []), (83, .sipush 10949, 86, []), (86, .invokevirtual 351, 89, [10, 18, 12, 5, 3]), (89, .ifCond .eq 13, 92, []), (92, .lload 4, 94, []), (94, .aload 9, 96, []), (96, .getfield 278, 99, [9, 7, 3, 1]), (99, .ladd, 100, []), (100, .lstore 4, 102, []), (102, .iinc 6 1, 105, []), (105, .goto (-99), 108, [])] := dk_ck (by decide +kernel)
set_option maxRecDepth 4096 in
theorem w_Bk_reservedOf_54 {nl : Bool} {Ln : Nat} {xs : Nat → Int32} {d : Nat} {this : Nat} {x1 : Int32} {x2 : Int32} {x3 : Int32} {x4 : Int64} {x6 : Int32} {x7 : Option Nat} {x8 : Option Value} {x9 : Option Value} {y0 : Int32} {σ : am_S} {F : Int64 → am_S → Prop} (h : (am_is σ x7 11) ∧ k_En_known nl Ln xs d (am_fR σ 11005 (x7.getD 0)) (12 : Int32) x1 x3 σ (fun a3 σ2 => am_ext σ σ2 → (y0 = 0 → c_Bk_reservedOf_6 nl Ln xs (d + 1) this x1 x2 x3 x4 (x6 + (1 : Int32)) (some (am_ov x7)) (some (.int y0)) (some (am_ov a3)) σ2 F) ∧ (¬ (y0 = 0) → (a3 = none → c_Bk_reservedOf_6 nl Ln xs (d + 1) this x1 x2 x3 x4 (x6 + (1 : Int32)) (some (am_ov x7)) (some (.int y0)) (some (am_ov a3)) σ2 F) ∧ (¬ (a3 = none) → k_Cs_isOpen nl Ln xs d (x7.getD 0) x3 (10949 : Int32) σ2 (fun a7 σ6 => am_ext σ2 σ6 → ((a7 = true) → am_is σ6 a3 7) ∧ ∀ w11 : Int64, w11 = (if a7 = true then (x4 + (am_fL σ6 7003 (a3.getD 0))) else x4) → c_Bk_reservedOf_6 nl Ln xs (d + 1) this x1 x2 x3 w11 (x6 + (1 : Int32)) (some (am_ov x7)) (some (.int y0)) (some (am_ov a3)) σ6 F))))) : c_Bk_reservedOf_54 nl Ln xs (d + 1) this x1 x2 x3 x4 x6 x7 x8 x9 y0 σ F := by
  obtain ⟨j54, j56, j58, j61, j63, j64, j65, j68, j70, j72, j75, j77, j80, j82, j83, j86, j89, j92, j94, j96, j99, j100, j102, j105, -⟩ := P_Bk_reservedOf_54 nl Ln xs
  unfold c_Bk_reservedOf_54
  refine s_istore j54 rfl (n := 10) (L' := [some (am_ov (some this)), some (.int x1), some (.int x2), some (.int x3), some (.long x4), none, some (.int x6), some (am_ov x7), some (.int y0), x9]) rfl (by decide) (am_st1_R [_, _, _, _, _, _, _] _ _ _ _) ?_
  refine s_aload j56 rfl rfl ?_
  obtain ⟨ho1, h⟩ := h
  refine s_gfR j58 rfl ho1 ?_
  refine s_bipush j61 rfl kc_bi_12 ?_
  refine s_iload_n j63 rfl rfl ?_
  refine s_iload_n j64 rfl rfl ?_
  refine s_stat j65 rfl rfl rfl rfl (by decide) (in_En_known _ _ _ _) (am_r8 rfl) (am_bR h (fun a3 σ2 h hx2 => ?_))
  replace h := h hx2
  refine s_astore j68 rfl (n := 10) (L' := [some (am_ov (some this)), some (.int x1), some (.int x2), some (.int x3), some (.long x4), none, some (.int x6), some (am_ov x7), some (.int y0), some (am_ov a3)]) rfl (by decide) rfl ?_
  refine s_iload j70 rfl rfl ?_
  refine s_if j72 rfl rfl am_cc_eq (fun hc4 => ?_) (fun hc4 => ?_)
  · replace h := h.1 hc4
    refine s_iinc (L' := [some (am_ov (some this)), some (.int x1), some (.int x2), some (.int x3), some (.long x4), none, some (.int (x6 + (1 : Int32))), some (am_ov x7), some (.int y0), some (am_ov a3)]) j102 rfl rfl kc_ic_1 rfl ?_
    refine s_goto j105 rfl rfl ?_
    exact h
  · replace h := h.2 hc4
    refine s_aload j75 rfl rfl ?_
    refine s_ifnull j77 rfl rfl (fun hc5 => ?_) (fun hc5 => ?_)
    · replace h := h.1 hc5
      refine s_iinc (L' := [some (am_ov (some this)), some (.int x1), some (.int x2), some (.int x3), some (.long x4), none, some (.int (x6 + (1 : Int32))), some (am_ov x7), some (.int y0), some (am_ov a3)]) j102 rfl rfl kc_ic_1 rfl ?_
      refine s_goto j105 rfl rfl ?_
      exact h
    · replace h := h.2 hc5
      refine s_aload j80 rfl rfl ?_
      refine s_iload_n j82 rfl rfl ?_
      refine s_sipush j83 rfl kc_si_10949 ?_
      refine s_virt j86 rfl rfl rfl rfl (am_is_ext hx2 ho1) (by decide) (in_Cs_isOpen _ _ _) (am_r8 rfl) (am_bB h (fun a7 σ6 h hx6 => ?_))
      replace h := h hx6
      obtain ⟨ho9, h⟩ := h
      have K10 : ∀ (w11 : Int64), w11 = (if a7 = true then (x4 + (am_fL σ6 7003 (a3.getD 0))) else x4) → am_C (TT nl Ln xs) (d + 1) 174 102 [some (am_ov (some this)), some (.int x1), some (.int x2), some (.int x3), some (.long w11), none, some (.int x6), some (am_ov x7), some (.int y0), some (am_ov a3)] [] σ6 (am_qL F) := by
        intro w11 hw12
        replace h := h w11 hw12
        refine s_iinc (L' := [some (am_ov (some this)), some (.int x1), some (.int x2), some (.int x3), some (.long w11), none, some (.int (x6 + (1 : Int32))), some (am_ov x7), some (.int y0), some (am_ov a3)]) j102 rfl rfl kc_ic_1 rfl ?_
        refine s_goto j105 rfl rfl ?_
        exact h
      refine s_ifn j89 rfl rfl am_cb_eq (fun hc8 => ?_) (fun hc8 => ?_)
      · exact K10 _ (am_t2 hc8 rfl)
      · refine s_lload j92 rfl rfl ?_
        refine s_aload j94 rfl rfl ?_
        refine s_gfL j96 rfl (ho9 hc8) ?_
        refine s_g j99 rfl rfl rfl rfl rfl rfl ?_
        refine s_lstore j100 rfl (n := 10) (L' := [some (am_ov (some this)), some (.int x1), some (.int x2), some (.int x3), some (.long (x4 + (am_fL σ6 7003 (a3.getD 0)))), none, some (.int x6), some (am_ov x7), some (.int y0), some (am_ov a3)]) rfl (by decide) rfl ?_
        exact K10 _ (am_t1 hc8 rfl)
theorem P_Co_run (nl : Bool) (Ln : Nat) (xs : Nat → Int32) : am_Jl (TT nl Ln xs) 175 [(0, .iload_n 1, 1, []), (1, .ifCond .lt 31, 4, []), (4, .iload_n 1, 5, []), (5, .iconst 1, 6, []), (6, .if_icmp .gt 26, 9, []), (9, .iload_n 2, 10, []), (10, .invokestatic 173, 13, [12, 171, 1, 1]), (13, .ifCond .eq 19, 16, []), (16, .iload_n 3, 17, []), (17, .invokestatic 173, 20, [12, 171, 1, 1]), (20, .ifCond .eq 12, 23, []), (23, .aload_n 0, 24, []), (24, .iload 4, 26, []), (26, .invokevirtual 188, 29, [10, 163, 1, 2, 2]), (29, .ifCond .ne 7, 32, []), (32, .ldc2_w 104, 35, [6, 9223372036854775808]), (35, .lreturn, 36, [2]), (36, .aload_n 0, 37, []), (37, .getfield 56, 40, [9, 0, 7, 2]), (40, .iload_n 1, 41, []), (41, .iload_n 2, 42, []), (42, .iload_n 2, 43, []), (43, .iload_n 3, 44, []), (44, .iload 4, 46, []), (46, .invokevirtual 195, 49, [10, 176, 7, 13, 6]), (49, .aload_n 0, 50, []), (50, .getfield 56, 53, [9, 0, 7, 2]), (53, .iload_n 1, 54, []), (54, .iload_n 2, 55, []), (55, .iload_n 2, 56, []), (56, .iload_n 3, 57, []), (57, .iconst 1, 58, []), (58, .isub, 59, []), (59, .iload 4, 61, []), (61, .invokevirtual 195, 64, [10, 176, 7, 13, 6]), (64, .lsub, 65, []), (65, .lreturn, 66, [2])] := dk_ck (by decide +kernel)
set_option maxRecDepth 4096 in
theorem w_Co_run {nl : Bool} {Ln : Nat} {xs : Nat → Int32} {d : Nat} {this : Nat} {p0 : Int32} {p1 : Int32} {p2 : Int32} {p3 : Int32} {σ : am_S} {F : Int64 → am_S → Prop} (h : (p0 < 0 → F (-9223372036854775808 : Int64) σ) ∧ (¬ (p0 < 0) → ((1 : Int32) < p0 → F (-9223372036854775808 : Int64) σ) ∧ (¬ ((1 : Int32) < p0) → k_Co_isYear nl Ln xs d p1 σ (fun a4 σ3 => am_ext σ σ3 → (a4 = true → k_Co_isYear nl Ln xs d p2 σ3 (fun a7 σ6 => am_ext σ3 σ6 → (a7 = true → (am_is σ6 (some this) 0) ∧ k_Co_isMoment nl Ln xs d this p3 σ6 (fun a11 σ10 => am_ext σ6 σ10 → (a11 = true → (am_is σ10 (am_fR σ10 7 this) 6) ∧ k_Bk_paidWithin nl Ln xs d ((am_fR σ10 7 this).getD 0) p0 p1 p1 p2 p3 σ10 (fun a15 σ14 => am_ext σ10 σ14 → (am_is σ14 (am_fR σ14 7 this) 6) ∧ k_Bk_paidWithin nl Ln xs d ((am_fR σ14 7 this).getD 0) p0 p1 p1 (p2 - (1 : Int32)) p3 σ14 (fun a18 σ17 => am_ext σ14 σ17 → F (a15 - a18) σ17))) ∧ (¬ (a11 = true) → F (-9223372036854775808 : Int64) σ10))) ∧ (¬ (a7 = true) → F (-9223372036854775808 : Int64) σ6))) ∧ (¬ (a4 = true) → F (-9223372036854775808 : Int64) σ3))))) : k_Co_run nl Ln xs (d + 1) this p0 p1 p2 p3 σ F := by
  obtain ⟨j0, j1, j4, j5, j6, j9, j10, j13, j16, j17, j20, j23, j24, j26, j29, j32, j35, j36, j37, j40, j41, j42, j43, j44, j46, j49, j50, j53, j54, j55, j56, j57, j58, j59, j61, j64, j65, -⟩ := P_Co_run nl Ln xs
  have elo : am_lo 5 [am_ov (some this), .int p0, .int p1, .int p2, .int p3] = [some (am_ov (some this)), some (.int p0), some (.int p1), some (.int p2), some (.int p3)] := by simp only [am_lo, am_in_ov, am_in_int, am_in_long, am_in_nil]; rfl
  unfold k_Co_run
  rw [elo]
  refine s_iload_n j0 rfl rfl ?_
  refine s_if j1 rfl rfl am_cc_lt (fun hc1 => ?_) (fun hc1 => ?_)
  · replace h := h.1 hc1
    refine s_ldc2 j32 rfl kc_ll_m9223372036854775808 ?_
    exact s_retL j35 rfl h
  · replace h := h.2 hc1
    refine s_iload_n j4 rfl rfl ?_
    refine s_iconst j5 rfl kc_ic_1 ?_
    refine s_ic j6 rfl rfl am_cc_gt (fun hc2 => ?_) (fun hc2 => ?_)
    · replace h := h.1 hc2
      refine s_ldc2 j32 rfl kc_ll_m9223372036854775808 ?_
      exact s_retL j35 rfl h
    · replace h := h.2 hc2
      refine s_iload_n j9 rfl rfl ?_
      refine s_stat j10 rfl rfl rfl rfl (by decide) (in_Co_isYear _) (am_r8 rfl) (am_bB h (fun a4 σ3 h hx3 => ?_))
      replace h := h hx3
      refine s_ifn j13 rfl rfl am_cb_eq (fun hc5 => ?_) (fun hc5 => ?_)
      · replace h := h.2 hc5
        refine s_ldc2 j32 rfl kc_ll_m9223372036854775808 ?_
        exact s_retL j35 rfl h
      · replace h := h.1 hc5
        refine s_iload_n j16 rfl rfl ?_
        refine s_stat j17 rfl rfl rfl rfl (by decide) (in_Co_isYear _) (am_r8 rfl) (am_bB h (fun a7 σ6 h hx6 => ?_))
        replace h := h hx6
        refine s_ifn j20 rfl rfl am_cb_eq (fun hc8 => ?_) (fun hc8 => ?_)
        · replace h := h.2 hc8
          refine s_ldc2 j32 rfl kc_ll_m9223372036854775808 ?_
          exact s_retL j35 rfl h
        · replace h := h.1 hc8
          refine s_aload_n j23 rfl rfl ?_
          refine s_iload j24 rfl rfl ?_
          obtain ⟨ho9, h⟩ := h
          refine s_virt j26 rfl rfl rfl rfl ho9 (by decide) (in_Co_isMoment _ _) (am_r8 rfl) (am_bB h (fun a11 σ10 h hx10 => ?_))
          replace h := h hx10
          refine s_if j29 rfl rfl am_cb_ne (fun hc12 => ?_) (fun hc12 => ?_)
          · replace h := h.1 hc12
            refine s_aload_n j36 rfl rfl ?_
            refine s_gfR j37 rfl (am_is_ext hx10 ho9) ?_
            refine s_iload_n j40 rfl rfl ?_
            refine s_iload_n j41 rfl rfl ?_
            refine s_iload_n j42 rfl rfl ?_
            refine s_iload_n j43 rfl rfl ?_
            refine s_iload j44 rfl rfl ?_
            obtain ⟨ho13, h⟩ := h
            refine s_virt j46 rfl rfl rfl rfl ho13 (by decide) (in_Bk_paidWithin _ _ _ _ _ _) (am_r8 rfl) (am_bL h (fun a15 σ14 h hx14 => ?_))
            replace h := h hx14
            refine s_aload_n j49 rfl rfl ?_
            refine s_gfR j50 rfl (am_is_ext hx14 (am_is_ext hx10 ho9)) ?_
            refine s_iload_n j53 rfl rfl ?_
            refine s_iload_n j54 rfl rfl ?_
            refine s_iload_n j55 rfl rfl ?_
            refine s_iload_n j56 rfl rfl ?_
            refine s_iconst j57 rfl kc_ic_1 ?_
            refine s_g j58 rfl rfl rfl rfl rfl rfl ?_
            refine s_iload j59 rfl rfl ?_
            obtain ⟨ho16, h⟩ := h
            refine s_virt j61 rfl rfl rfl rfl ho16 (by decide) (in_Bk_paidWithin _ _ _ _ _ _) (am_r8 rfl) (am_bL h (fun a18 σ17 h hx17 => ?_))
            replace h := h hx17
            refine s_g j64 rfl rfl rfl rfl rfl rfl ?_
            exact s_retL j65 rfl h
          · replace h := h.2 hc12
            refine s_ldc2 j32 rfl kc_ll_m9223372036854775808 ?_
            exact s_retL j35 rfl h
theorem P_Bk_paidWithin (nl : Bool) (Ln : Nat) (xs : Nat → Int32) : am_Jl (TT nl Ln xs) 176 [(0, .lconst 0, 1, []), (1, .lstore 6, 3, []), (3, .iconst 0, 4, []), (4, .istore 8, 6, [])] := dk_ck (by decide +kernel)
set_option maxRecDepth 4096 in
theorem w_Bk_paidWithin {nl : Bool} {Ln : Nat} {xs : Nat → Int32} {d : Nat} {this : Nat} {p0 : Int32} {p1 : Int32} {p2 : Int32} {p3 : Int32} {p4 : Int32} {σ : am_S} {F : Int64 → am_S → Prop} (h : c_Bk_paidWithin_6 nl Ln xs (d + 1) this p0 p1 p2 p3 p4 (0 : Int64) (0 : Int32) none none none none σ F) : k_Bk_paidWithin nl Ln xs (d + 1) this p0 p1 p2 p3 p4 σ F := by
  obtain ⟨j0, j1, j3, j4, -⟩ := P_Bk_paidWithin nl Ln xs
  have elo : am_lo 13 [am_ov (some this), .int p0, .int p1, .int p2, .int p3, .int p4] = [some (am_ov (some this)), some (.int p0), some (.int p1), some (.int p2), some (.int p3), some (.int p4), none, none, none, none, none, none, none] := by simp only [am_lo, am_in_ov, am_in_int, am_in_long, am_in_nil]; rfl
  unfold k_Bk_paidWithin
  rw [elo]
  refine s_lconst j0 rfl rfl ?_
  refine s_lstore j1 rfl (n := 13) (L' := [some (am_ov (some this)), some (.int p0), some (.int p1), some (.int p2), some (.int p3), some (.int p4), some (.long (0 : Int64)), none, none, none, none, none, none]) rfl (by decide) rfl ?_
  refine s_iconst j3 rfl kc_ic_0 ?_
  refine s_istore j4 rfl (n := 13) (L' := [some (am_ov (some this)), some (.int p0), some (.int p1), some (.int p2), some (.int p3), some (.int p4), some (.long (0 : Int64)), none, some (.int (0 : Int32)), none, none, none, none]) rfl (by decide) rfl ?_
  exact h
theorem P_Bk_paidWithin_6 (nl : Bool) (Ln : Nat) (xs : Nat → Int32) : am_Jl (TT nl Ln xs) 176 [(6, .iload 8, 8, []), (8, .aload_n 0, 9, []), (9, .getfield 79, 12, [9, 6, 14, 0]), (12, .if_icmp .ge 103, 15, []), (15, .aload_n 0, 16, []), (16, .getfield 32, 19, [9, 6, 6, 2]), (19, .iload 8, 21, []), (21, .aaload, 22, []), (22, .astore 9, 24, []), (24, .iload_n 1, 25, []), (25, .ifCond .ne 14, 28, []), (28, .aload 9, 30, []), (30, .getfield 404, 33, [9, 11, 2, 2]), (33, .getfield 312, 36, [9, 10, 2, 0]), (36, .goto 8, 39, []), (39, .aload 9, 41, []), (41, .getfield 332, 44, [9, 11, 3, 0]), (115, .lload 6, 117, []), (117, .lreturn, 118, [2])] := dk_ck (by decide +kernel)
set_option maxRecDepth 4096 in
theorem w_Bk_paidWithin_6 {nl : Bool} {Ln : Nat} {xs : Nat → Int32} {d : Nat} {this : Nat} {x1 : Int32} {x2 : Int32} {x3 : Int32} {x4 : Int32} {x5 : Int32} {x6 : Int64} {x8 : Int32} {x9 : Option Value} {x10 : Option Value} {x11 : Option Value} {x12 : Option Value} {σ : am_S} {F : Int64 → am_S → Prop} (h : (am_is σ (some this) 6) ∧ (x8 < (am_fI σ 6014 this) → (am_ar σ 2011 (am_fR σ 6006 this) x8) ∧ ∀ v4 : Option Nat, v4 = (am_aR σ ((am_fR σ 6006 this).getD 0) x8.toNatClampNeg) → ((x1 = 0) → am_is σ v4 11) ∧ ((x1 = 0) → am_is σ (am_fR σ 11002 (v4.getD 0)) 10) ∧ (¬ (x1 = 0) → am_is σ v4 11) ∧ ∀ w11 : Int32, w11 = (if x1 = 0 then (am_fI σ 10002 ((am_fR σ 11002 (v4.getD 0)).getD 0)) else (am_fI σ 11003 (v4.getD 0))) → c_Bk_paidWithin_44 nl Ln xs (d + 1) this x1 x2 x3 x4 x5 x6 x8 v4 x10 x11 x12 w11 σ F) ∧ (¬ (x8 < (am_fI σ 6014 this)) → F x6 σ)) : c_Bk_paidWithin_6 nl Ln xs (d + 1) this x1 x2 x3 x4 x5 x6 x8 x9 x10 x11 x12 σ F := by
  obtain ⟨j6, j8, j9, j12, j15, j16, j19, j21, j22, j24, j25, j28, j30, j33, j36, j39, j41, j115, j117, -⟩ := P_Bk_paidWithin_6 nl Ln xs
  unfold c_Bk_paidWithin_6
  refine s_iload j6 rfl rfl ?_
  refine s_aload_n j8 rfl rfl ?_
  obtain ⟨ho1, h⟩ := h
  refine s_gfI j9 rfl ho1 ?_
  refine s_icn j12 rfl rfl am_cc_ge (fun hc2 => ?_) (fun hc2 => ?_)
  · replace h := h.2 hc2
    refine s_lload j115 rfl rfl ?_
    exact s_retL j117 rfl h
  · replace h := h.1 hc2
    refine s_aload_n j15 rfl rfl ?_
    refine s_gfR j16 rfl ho1 ?_
    refine s_iload j19 rfl rfl ?_
    obtain ⟨ho3, h⟩ := h
    refine s_aaload (k := 2011) (by decide) kq_2011 j21 rfl ho3 ?_
    refine s_astoreV j22 rfl (n := 13) (L' := fun w => [some (am_ov (some this)), some (.int x1), some (.int x2), some (.int x3), some (.int x4), some (.int x5), some (.long x6), none, some (.int x8), some (am_ov w), x10, x11, x12]) rfl (by decide) (fun _ => rfl) (fun v4 hv5 => ?_)
    replace h := h v4 hv5
    refine s_iload_n j24 rfl rfl ?_
    obtain ⟨ho7, h⟩ := h
    obtain ⟨ho8, h⟩ := h
    obtain ⟨ho9, h⟩ := h
    have K10 : ∀ (w11 : Int32), w11 = (if x1 = 0 then (am_fI σ 10002 ((am_fR σ 11002 (v4.getD 0)).getD 0)) else (am_fI σ 11003 (v4.getD 0))) → am_C (TT nl Ln xs) (d + 1) 176 44 [some (am_ov (some this)), some (.int x1), some (.int x2), some (.int x3), some (.int x4), some (.int x5), some (.long x6), none, some (.int x8), some (am_ov v4), x10, x11, x12] [.int w11] σ (am_qL F) := by
      intro w11 hw12
      replace h := h w11 hw12
      exact h
    refine s_ifn j25 rfl rfl am_cc_ne (fun hc6 => ?_) (fun hc6 => ?_)
    · refine s_aload j39 rfl rfl ?_
      refine s_gfI j41 rfl (ho9 hc6) ?_
      exact K10 _ (am_t2 hc6 rfl)
    · refine s_aload j28 rfl rfl ?_
      refine s_gfR j30 rfl (ho7 hc6) ?_
      refine s_gfI j33 rfl (ho8 hc6) ?_
      refine s_goto j36 rfl rfl ?_
      exact K10 _ (am_t1 hc6 rfl)
theorem P_Bk_paidWithin_44 (nl : Bool) (Ln : Nat) (xs : Nat → Int32) : am_Jl (TT nl Ln xs) 176 [(44, .sipush 365, 47, []), (47, .idiv, 48, []), (48, .istore 10, 50, []), (50, .iload 10, 52, []), (52, .iload_n 2, 53, []), (53, .if_icmp .lt 56, 56, []), (56, .iload 10, 58, []), (58, .iload_n 3, 59, []), (59, .if_icmp .gt 50, 62, []), (62, .iload 4, 64, []), (64, .ifCond .ge 6, 67, []), (67, .goto 42, 70, []), (70, .iload 10, 72, []), (72, .iload 4, 74, []), (74, .iadd, 75, []), (75, .iconst 1, 76, []), (76, .iadd, 77, []), (77, .i2l, 78, []), (78, .ldc2_w 471, 81, [6, 365]), (81, .lmul, 82, []), (82, .lconst 1, 83, []), (83, .lsub, 84, []), (84, .lstore 11, 86, []), (86, .lload 6, 88, []), (88, .aload 9, 90, []), (90, .bipush 13, 92, []), (92, .iload 5, 94, []), (94, .lload 11, 96, []), (96, .ldc2_w 473, 99, [6, 10949]), (99, .invokestatic 430, 102, [12, 49, 4, 2]), (102, .l2i, 103, []), (103, .invokevirtual 383, 106, [10, 60, 12, 7, 4]), (106, .ladd, 107, []), (107, .lstore 6, 109, []), (109, .iinc 8 1, 112, []), (112, .goto (-106), 115, [])] := dk_ck (by decide +kernel)
set_option maxRecDepth 4096 in
theorem w_Bk_paidWithin_44 {nl : Bool} {Ln : Nat} {xs : Nat → Int32} {d : Nat} {this : Nat} {x1 : Int32} {x2 : Int32} {x3 : Int32} {x4 : Int32} {x5 : Int32} {x6 : Int64} {x8 : Int32} {x9 : Option Nat} {x10 : Option Value} {x11 : Option Value} {x12 : Option Value} {y0 : Int32} {σ : am_S} {F : Int64 → am_S → Prop} (h : ∀ v1 : Int32, v1 = (y0 / (365 : Int32)) → (v1 < x2 → c_Bk_paidWithin_6 nl Ln xs (d + 1) this x1 x2 x3 x4 x5 x6 (x8 + (1 : Int32)) (some (am_ov x9)) (some (.int v1)) x11 x12 σ F) ∧ (¬ (v1 < x2) → (x3 < v1 → c_Bk_paidWithin_6 nl Ln xs (d + 1) this x1 x2 x3 x4 x5 x6 (x8 + (1 : Int32)) (some (am_ov x9)) (some (.int v1)) x11 x12 σ F) ∧ (¬ (x3 < v1) → (x4 < 0 → c_Bk_paidWithin_6 nl Ln xs (d + 1) this x1 x2 x3 x4 x5 x6 (x8 + (1 : Int32)) (some (am_ov x9)) (some (.int v1)) x11 x12 σ F) ∧ (¬ (x4 < 0) → ∀ v6 : Int64, v6 = ((((v1 + x4) + (1 : Int32)).toInt64 * (365 : Int64)) - (1 : Int64)) → k_Math_min nl Ln xs d v6 (10949 : Int64) σ (fun a9 σ8 => am_ext σ σ8 → (am_is σ8 x9 11) ∧ k_Cs_sumOf nl Ln xs d (x9.getD 0) (13 : Int32) x5 a9.toInt32 σ8 (fun a12 σ11 => am_ext σ8 σ11 → ∀ v13 : Int64, v13 = (x6 + a12) → c_Bk_paidWithin_6 nl Ln xs (d + 1) this x1 x2 x3 x4 x5 v13 (x8 + (1 : Int32)) (some (am_ov x9)) (some (.int v1)) (some (.long v6)) none σ11 F)))))) : c_Bk_paidWithin_44 nl Ln xs (d + 1) this x1 x2 x3 x4 x5 x6 x8 x9 x10 x11 x12 y0 σ F := by
  obtain ⟨j44, j47, j48, j50, j52, j53, j56, j58, j59, j62, j64, j67, j70, j72, j74, j75, j76, j77, j78, j81, j82, j83, j84, j86, j88, j90, j92, j94, j96, j99, j102, j103, j106, j107, j109, j112, -⟩ := P_Bk_paidWithin_44 nl Ln xs
  unfold c_Bk_paidWithin_44
  refine s_sipush j44 rfl kc_si_365 ?_
  refine s_idiv j47 rfl (by decide) ?_
  refine s_istoreV j48 rfl (n := 13) (L' := fun w => [some (am_ov (some this)), some (.int x1), some (.int x2), some (.int x3), some (.int x4), some (.int x5), some (.long x6), none, some (.int x8), some (am_ov x9), some (.int w), x11, x12]) rfl (by decide) (fun _ => am_st1_R [_, _, _, _, _, _, _, _, _] _ _ _ _) (fun v1 hv2 => ?_)
  replace h := h v1 hv2
  refine s_iload j50 rfl rfl ?_
  refine s_iload_n j52 rfl rfl ?_
  refine s_ic j53 rfl rfl am_cc_lt (fun hc3 => ?_) (fun hc3 => ?_)
  · replace h := h.1 hc3
    refine s_iinc (L' := [some (am_ov (some this)), some (.int x1), some (.int x2), some (.int x3), some (.int x4), some (.int x5), some (.long x6), none, some (.int (x8 + (1 : Int32))), some (am_ov x9), some (.int v1), x11, x12]) j109 rfl rfl kc_ic_1 rfl ?_
    refine s_goto j112 rfl rfl ?_
    exact h
  · replace h := h.2 hc3
    refine s_iload j56 rfl rfl ?_
    refine s_iload_n j58 rfl rfl ?_
    refine s_ic j59 rfl rfl am_cc_gt (fun hc4 => ?_) (fun hc4 => ?_)
    · replace h := h.1 hc4
      refine s_iinc (L' := [some (am_ov (some this)), some (.int x1), some (.int x2), some (.int x3), some (.int x4), some (.int x5), some (.long x6), none, some (.int (x8 + (1 : Int32))), some (am_ov x9), some (.int v1), x11, x12]) j109 rfl rfl kc_ic_1 rfl ?_
      refine s_goto j112 rfl rfl ?_
      exact h
    · replace h := h.2 hc4
      refine s_iload j62 rfl rfl ?_
      refine s_ifn j64 rfl rfl am_cc_ge (fun hc5 => ?_) (fun hc5 => ?_)
      · replace h := h.2 hc5
        refine s_iload j70 rfl rfl ?_
        refine s_iload j72 rfl rfl ?_
        refine s_g j74 rfl rfl rfl rfl rfl rfl ?_
        refine s_iconst j75 rfl kc_ic_1 ?_
        refine s_g j76 rfl rfl rfl rfl rfl rfl ?_
        refine s_g j77 rfl rfl rfl rfl rfl rfl ?_
        refine s_ldc2 j78 rfl kc_ll_365 ?_
        refine s_g j81 rfl rfl rfl rfl rfl rfl ?_
        refine s_lconst j82 rfl rfl ?_
        refine s_g j83 rfl rfl rfl rfl rfl rfl ?_
        refine s_lstoreV j84 rfl (n := 13) (L' := fun w => [some (am_ov (some this)), some (.int x1), some (.int x2), some (.int x3), some (.int x4), some (.int x5), some (.long x6), none, some (.int x8), some (am_ov x9), some (.int v1), some (.long w), none]) rfl (by decide) (fun _ => rfl) (fun v6 hv7 => ?_)
        replace h := h v6 hv7
        refine s_lload j86 rfl rfl ?_
        refine s_aload j88 rfl rfl ?_
        refine s_bipush j90 rfl kc_bi_13 ?_
        refine s_iload j92 rfl rfl ?_
        refine s_lload j94 rfl rfl ?_
        refine s_ldc2 j96 rfl kc_ll_10949 ?_
        refine s_stat j99 rfl rfl rfl rfl (by decide) (in_Math_min _ _) (am_r8 rfl) (am_bL h (fun a9 σ8 h hx8 => ?_))
        replace h := h hx8
        refine s_g j102 rfl rfl rfl rfl rfl rfl ?_
        obtain ⟨ho10, h⟩ := h
        refine s_virt j103 rfl rfl rfl rfl ho10 (by decide) (in_Cs_sumOf _ _ _ _) (am_r8 rfl) (am_bL h (fun a12 σ11 h hx11 => ?_))
        replace h := h hx11
        refine s_g j106 rfl rfl rfl rfl rfl rfl ?_
        refine s_lstoreV j107 rfl (n := 13) (L' := fun w => [some (am_ov (some this)), some (.int x1), some (.int x2), some (.int x3), some (.int x4), some (.int x5), some (.long w), none, some (.int x8), some (am_ov x9), some (.int v1), some (.long v6), none]) rfl (by decide) (fun _ => rfl) (fun v13 hv14 => ?_)
        replace h := h v13 hv14
        refine s_iinc (L' := [some (am_ov (some this)), some (.int x1), some (.int x2), some (.int x3), some (.int x4), some (.int x5), some (.long v13), none, some (.int (x8 + (1 : Int32))), some (am_ov x9), some (.int v1), some (.long v6), none]) j109 rfl rfl kc_ic_1 rfl ?_
        refine s_goto j112 rfl rfl ?_
        exact h
      · replace h := h.1 hc5
        refine s_goto j67 rfl rfl ?_
        refine s_iinc (L' := [some (am_ov (some this)), some (.int x1), some (.int x2), some (.int x3), some (.int x4), some (.int x5), some (.long x6), none, some (.int (x8 + (1 : Int32))), some (am_ov x9), some (.int v1), x11, x12]) j109 rfl rfl kc_ic_1 rfl ?_
        refine s_goto j112 rfl rfl ?_
        exact h
