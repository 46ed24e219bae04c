/-! statements of methods, 8 (by wip/whole/gensteps.py) -/
theorem P_Co_factor (nl : Bool) (Ln : Nat) (xs : Nat → Int32) : am_Jl (TT nl Ln xs) 177 [(0, .iload_n 1, 1, []), (1, .ifCond .lt 42, 4, []), (4, .iload_n 1, 5, []), (5, .iconst 1, 6, []), (6, .if_icmp .gt 37, 9, []), (9, .iload_n 2, 10, []), (10, .invokestatic 173, 13, [12, 171, 1, 1]), (13, .ifCond .eq 30, 16, []), (16, .iload_n 3, 17, []), (17, .invokestatic 173, 20, [12, 171, 1, 1]), (20, .ifCond .eq 23, 23, []), (23, .iload 4, 25, []), (25, .ifCond .lt 18, 28, []), (28, .iload 4, 30, []), (30, .iconst 1, 31, []), (31, .if_icmp .gt 12, 34, []), (34, .aload_n 0, 35, []), (35, .iload 5, 37, []), (37, .invokevirtual 188, 40, [10, 163, 1, 2, 2]), (40, .ifCond .ne 7, 43, []), (43, .ldc2_w 104, 46, [6, 9223372036854775808]), (46, .lreturn, 47, [2]), (47, .aload_n 0, 48, []), (48, .getfield 56, 51, [9, 0, 7, 2]), (51, .iload_n 1, 52, []), (52, .iconst 0, 53, []), (53, .iload_n 3, 54, []), (54, .iload_n 2, 55, []), (55, .isub, 56, []), (56, .iconst 1, 57, []), (57, .isub, 58, []), (58, .iload_n 2, 59, []), (59, .iconst 1, 60, []), (60, .iadd, 61, []), (61, .iload 5, 63, []), (63, .invokevirtual 195, 66, [10, 176, 7, 13, 6]), (66, .lstore 6, 68, []), (68, .aload_n 0, 69, []), (69, .getfield 56, 72, [9, 0, 7, 2]), (72, .iload_n 1, 73, []), (73, .iconst 0, 74, []), (74, .iload_n 3, 75, []), (75, .iload_n 2, 76, []), (76, .isub, 77, []), (77, .iconst 1, 78, []), (78, .isub, 79, []), (79, .iload_n 2, 80, []), (80, .iload 5, 82, []), (82, .invokevirtual 195, 85, [10, 176, 7, 13, 6]), (85, .lstore 8, 87, []), (87, .lload 8, 89, []), (89, .lconst 0, 90, []), (90, .lcmp, 91, []), (91, .ifCond .ne 7, 94, []), (94, .ldc2_w 104, 97, [6, 9223372036854775808]), (97, .lreturn, 98, [2]), (98, .lload 6, 100, []), (100, .lload 8, 102, []), (102, .invokestatic 199, 105, [12, 178, 11, 2]), (105, .lstore 10, 107, []), (107, .iload 4, 109, []), (109, .ifCond .ne 8, 112, []), (112, .lload 6, 114, []), (114, .goto 5, 117, []), (117, .lload 8, 119, []), (119, .lload 10, 121, []), (121, .ldiv, 122, []), (122, .lreturn, 123, [2])] := dk_ck (by decide +kernel)
set_option maxRecDepth 4096 in
theorem w_Co_factor {nl : Bool} {Ln : Nat} {xs : Nat → Int32} {d : Nat} {this : Nat} {p0 : Int32} {p1 : Int32} {p2 : Int32} {p3 : Int32} {p4 : Int32} {σ : am_S} {F : Int64 → am_S → Prop} (h : (p0 < 0 → F (-9223372036854775808 : Int64) σ) ∧ (¬ (p0 < 0) → ((1 : Int32) < p0 → F (-9223372036854775808 : Int64) σ) ∧ (¬ ((1 : Int32) < p0) → k_Co_isYear nl Ln xs d p1 σ (fun a4 σ3 => am_ext σ σ3 → (a4 = true → k_Co_isYear nl Ln xs d p2 σ3 (fun a7 σ6 => am_ext σ3 σ6 → (a7 = true → (p3 < 0 → F (-9223372036854775808 : Int64) σ6) ∧ (¬ (p3 < 0) → ((1 : Int32) < p3 → F (-9223372036854775808 : Int64) σ6) ∧ (¬ ((1 : Int32) < p3) → (am_is σ6 (some this) 0) ∧ k_Co_isMoment nl Ln xs d this p4 σ6 (fun a13 σ12 => am_ext σ6 σ12 → (a13 = true → (am_is σ12 (am_fR σ12 7 this) 6) ∧ k_Bk_paidWithin nl Ln xs d ((am_fR σ12 7 this).getD 0) p0 (0 : Int32) ((p2 - p1) - (1 : Int32)) (p1 + (1 : Int32)) p4 σ12 (fun a17 σ16 => am_ext σ12 σ16 → (am_is σ16 (am_fR σ16 7 this) 6) ∧ k_Bk_paidWithin nl Ln xs d ((am_fR σ16 7 this).getD 0) p0 (0 : Int32) ((p2 - p1) - (1 : Int32)) p1 p4 σ16 (fun a20 σ19 => am_ext σ16 σ19 → (a20 = (0 : Int64) → F (-9223372036854775808 : Int64) σ19) ∧ (¬ (a20 = (0 : Int64)) → k_Co_greatestDivisor nl Ln xs d a17 a20 σ19 (fun a23 σ22 => am_ext σ19 σ22 → ∀ w26 : Int64, w26 = (if p3 = 0 then a17 else a20) → (a23 ≠ 0) ∧ F (w26 / a23) σ22))))) ∧ (¬ (a13 = true) → F (-9223372036854775808 : Int64) σ12))))) ∧ (¬ (a7 = true) → F (-9223372036854775808 : Int64) σ6))) ∧ (¬ (a4 = true) → F (-9223372036854775808 : Int64) σ3))))) : k_Co_factor nl Ln xs (d + 1) this p0 p1 p2 p3 p4 σ F := by
  obtain ⟨j0, j1, j4, j5, j6, j9, j10, j13, j16, j17, j20, j23, j25, j28, j30, j31, j34, j35, j37, j40, j43, j46, j47, j48, j51, j52, j53, j54, j55, j56, j57, j58, j59, j60, j61, j63, j66, j68, j69, j72, j73, j74, j75, j76, j77, j78, j79, j80, j82, j85, j87, j89, j90, j91, j94, j97, j98, j100, j102, j105, j107, j109, j112, j114, j117, j119, j121, j122, -⟩ := P_Co_factor nl Ln xs
  have elo : am_lo 12 [am_ov (some this), .int p0, .int p1, .int p2, .int p3, .int p4] = [some (am_ov (some this)), some (.int p0), some (.int p1), some (.int p2), some (.int p3), some (.int p4), none, none, none, none, none, none] := by simp only [am_lo, am_in_ov, am_in_int, am_in_long, am_in_nil]; rfl
  unfold k_Co_factor
  rw [elo]
  refine s_iload_n j0 rfl rfl ?_
  refine s_if j1 rfl rfl am_cc_lt (fun hc1 => ?_) (fun hc1 => ?_)
  · replace h := h.1 hc1
    refine s_ldc2 j43 rfl kc_ll_m9223372036854775808 ?_
    exact s_retL j46 rfl h
  · replace h := h.2 hc1
    refine s_iload_n j4 rfl rfl ?_
    refine s_iconst j5 rfl kc_ic_1 ?_
    refine s_ic j6 rfl rfl am_cc_gt (fun hc2 => ?_) (fun hc2 => ?_)
    · replace h := h.1 hc2
      refine s_ldc2 j43 rfl kc_ll_m9223372036854775808 ?_
      exact s_retL j46 rfl h
    · replace h := h.2 hc2
      refine s_iload_n j9 rfl rfl ?_
      refine s_stat j10 rfl rfl rfl rfl (by decide) (in_Co_isYear _) (am_r8 rfl) (am_bB h (fun a4 σ3 h hx3 => ?_))
      replace h := h hx3
      refine s_ifn j13 rfl rfl am_cb_eq (fun hc5 => ?_) (fun hc5 => ?_)
      · replace h := h.2 hc5
        refine s_ldc2 j43 rfl kc_ll_m9223372036854775808 ?_
        exact s_retL j46 rfl h
      · replace h := h.1 hc5
        refine s_iload_n j16 rfl rfl ?_
        refine s_stat j17 rfl rfl rfl rfl (by decide) (in_Co_isYear _) (am_r8 rfl) (am_bB h (fun a7 σ6 h hx6 => ?_))
        replace h := h hx6
        refine s_ifn j20 rfl rfl am_cb_eq (fun hc8 => ?_) (fun hc8 => ?_)
        · replace h := h.2 hc8
          refine s_ldc2 j43 rfl kc_ll_m9223372036854775808 ?_
          exact s_retL j46 rfl h
        · replace h := h.1 hc8
          refine s_iload j23 rfl rfl ?_
          refine s_if j25 rfl rfl am_cc_lt (fun hc9 => ?_) (fun hc9 => ?_)
          · replace h := h.1 hc9
            refine s_ldc2 j43 rfl kc_ll_m9223372036854775808 ?_
            exact s_retL j46 rfl h
          · replace h := h.2 hc9
            refine s_iload j28 rfl rfl ?_
            refine s_iconst j30 rfl kc_ic_1 ?_
            refine s_ic j31 rfl rfl am_cc_gt (fun hc10 => ?_) (fun hc10 => ?_)
            · replace h := h.1 hc10
              refine s_ldc2 j43 rfl kc_ll_m9223372036854775808 ?_
              exact s_retL j46 rfl h
            · replace h := h.2 hc10
              refine s_aload_n j34 rfl rfl ?_
              refine s_iload j35 rfl rfl ?_
              obtain ⟨ho11, h⟩ := h
              refine s_virt j37 rfl rfl rfl rfl ho11 (by decide) (in_Co_isMoment _ _) (am_r8 rfl) (am_bB h (fun a13 σ12 h hx12 => ?_))
              replace h := h hx12
              refine s_if j40 rfl rfl am_cb_ne (fun hc14 => ?_) (fun hc14 => ?_)
              · replace h := h.1 hc14
                refine s_aload_n j47 rfl rfl ?_
                refine s_gfR j48 rfl (am_is_ext hx12 ho11) ?_
                refine s_iload_n j51 rfl rfl ?_
                refine s_iconst j52 rfl kc_ic_0 ?_
                refine s_iload_n j53 rfl rfl ?_
                refine s_iload_n j54 rfl rfl ?_
                refine s_g j55 rfl rfl rfl rfl rfl rfl ?_
                refine s_iconst j56 rfl kc_ic_1 ?_
                refine s_g j57 rfl rfl rfl rfl rfl rfl ?_
                refine s_iload_n j58 rfl rfl ?_
                refine s_iconst j59 rfl kc_ic_1 ?_
                refine s_g j60 rfl rfl rfl rfl rfl rfl ?_
                refine s_iload j61 rfl rfl ?_
                obtain ⟨ho15, h⟩ := h
                refine s_virt j63 rfl rfl rfl rfl ho15 (by decide) (in_Bk_paidWithin _ _ _ _ _ _) (am_r8 rfl) (am_bL h (fun a17 σ16 h hx16 => ?_))
                replace h := h hx16
                refine s_lstore j66 rfl (n := 12) (L' := [some (am_ov (some this)), some (.int p0), some (.int p1), some (.int p2), some (.int p3), some (.int p4), some (.long a17), none, none, none, none, none]) rfl (by decide) rfl ?_
                refine s_aload_n j68 rfl rfl ?_
                refine s_gfR j69 rfl (am_is_ext hx16 (am_is_ext hx12 ho11)) ?_
                refine s_iload_n j72 rfl rfl ?_
                refine s_iconst j73 rfl kc_ic_0 ?_
                refine s_iload_n j74 rfl rfl ?_
                refine s_iload_n j75 rfl rfl ?_
                refine s_g j76 rfl rfl rfl rfl rfl rfl ?_
                refine s_iconst j77 rfl kc_ic_1 ?_
                refine s_g j78 rfl rfl rfl rfl rfl rfl ?_
                refine s_iload_n j79 rfl rfl ?_
                refine s_iload j80 rfl rfl ?_
                obtain ⟨ho18, h⟩ := h
                refine s_virt j82 rfl rfl rfl rfl ho18 (by decide) (in_Bk_paidWithin _ _ _ _ _ _) (am_r8 rfl) (am_bL h (fun a20 σ19 h hx19 => ?_))
                replace h := h hx19
                refine s_lstore j85 rfl (n := 12) (L' := [some (am_ov (some this)), some (.int p0), some (.int p1), some (.int p2), some (.int p3), some (.int p4), some (.long a17), none, some (.long a20), none, none, none]) rfl (by decide) rfl ?_
                refine s_lload j87 rfl rfl ?_
                refine s_lconst j89 rfl rfl ?_
                refine s_g j90 rfl rfl rfl rfl rfl rfl ?_
                refine s_ifn j91 rfl rfl am_cl_ne (fun hc21 => ?_) (fun hc21 => ?_)
                · replace h := h.2 hc21
                  refine s_lload j98 rfl rfl ?_
                  refine s_lload j100 rfl rfl ?_
                  refine s_stat j102 rfl rfl rfl rfl (by decide) (in_Co_greatestDivisor _ _) (am_r8 rfl) (am_bL h (fun a23 σ22 h hx22 => ?_))
                  replace h := h hx22
                  refine s_lstore j105 rfl (n := 12) (L' := [some (am_ov (some this)), some (.int p0), some (.int p1), some (.int p2), some (.int p3), some (.int p4), some (.long a17), none, some (.long a20), none, some (.long a23), none]) rfl (by decide) rfl ?_
                  refine s_iload j107 rfl rfl ?_
                  have K25 : ∀ (w26 : Int64), w26 = (if p3 = 0 then a17 else a20) → am_C (TT nl Ln xs) (d + 1) 177 119 [some (am_ov (some this)), some (.int p0), some (.int p1), some (.int p2), some (.int p3), some (.int p4), some (.long a17), none, some (.long a20), none, some (.long a23), none] [.long w26] σ22 (am_qL F) := by
                    intro w26 hw27
                    replace h := h w26 hw27
                    refine s_lload j119 rfl rfl ?_
                    obtain ⟨ho28, h⟩ := h
                    refine s_ldiv j121 rfl ho28 ?_
                    exact s_retL j122 rfl h
                  refine s_ifn j109 rfl rfl am_cc_ne (fun hc24 => ?_) (fun hc24 => ?_)
                  · refine s_lload j117 rfl rfl ?_
                    exact K25 _ (am_t2 hc24 rfl)
                  · refine s_lload j112 rfl rfl ?_
                    refine s_goto j114 rfl rfl ?_
                    exact K25 _ (am_t1 hc24 rfl)
                · replace h := h.1 hc21
                  refine s_ldc2 j94 rfl kc_ll_m9223372036854775808 ?_
                  exact s_retL j97 rfl h
              · replace h := h.2 hc14
                refine s_ldc2 j43 rfl kc_ll_m9223372036854775808 ?_
                exact s_retL j46 rfl h
theorem P_Co_greatestDivisor (nl : Bool) (Ln : Nat) (xs : Nat → Int32) : am_Jl (TT nl Ln xs) 178 [(0, .lload_n 0, 1, []), (1, .lstore 4, 3, []), (3, .lload_n 2, 4, []), (4, .lstore 6, 6, []), (6, .iconst 0, 7, []), (7, .istore 8, 9, [])] := dk_ck (by decide +kernel)
set_option maxRecDepth 4096 in
theorem w_Co_greatestDivisor {nl : Bool} {Ln : Nat} {xs : Nat → Int32} {d : Nat} {p0 : Int64} {p1 : Int64} {σ : am_S} {F : Int64 → am_S → Prop} (h : c_Co_greatestDivisor_9 nl Ln xs (d + 1) p0 p1 p0 p1 (0 : Int32) none none σ F) : k_Co_greatestDivisor nl Ln xs (d + 1) p0 p1 σ F := by
  obtain ⟨j0, j1, j3, j4, j6, j7, -⟩ := P_Co_greatestDivisor nl Ln xs
  have elo : am_lo 11 [.long p0, .long p1] = [some (.long p0), none, some (.long p1), none, none, none, none, none, none, none, none] := by simp only [am_lo, am_in_ov, am_in_int, am_in_long, am_in_nil]; rfl
  unfold k_Co_greatestDivisor
  rw [elo]
  refine s_lload_n j0 rfl rfl ?_
  refine s_lstore j1 rfl (n := 11) (L' := [some (.long p0), none, some (.long p1), none, some (.long p0), none, none, none, none, none, none]) rfl (by decide) rfl ?_
  refine s_lload_n j3 rfl rfl ?_
  refine s_lstore j4 rfl (n := 11) (L' := [some (.long p0), none, some (.long p1), none, some (.long p0), none, some (.long p1), none, none, none, none]) rfl (by decide) rfl ?_
  refine s_iconst j6 rfl kc_ic_0 ?_
  refine s_istore j7 rfl (n := 11) (L' := [some (.long p0), none, some (.long p1), none, some (.long p0), none, some (.long p1), none, some (.int (0 : Int32)), none, none]) rfl (by decide) rfl ?_
  exact h
theorem P_Co_greatestDivisor_9 (nl : Bool) (Ln : Nat) (xs : Nat → Int32) : am_Jl (TT nl Ln xs) 178 [(9, .iload 8, 11, []), (11, .sipush 200, 14, []), (14, .if_icmp .ge 31, 17, []), (17, .lload 6, 19, []), (19, .lconst 0, 20, []), (20, .lcmp, 21, []), (21, .ifCond .eq 24, 24, []), (24, .lload 4, 26, []), (26, .lload 6, 28, []), (28, .lrem, 29, []), (29, .lstore 9, 31, []), (31, .lload 6, 33, []), (33, .lstore 4, 35, []), (35, .lload 9, 37, []), (37, .lstore 6, 39, []), (39, .iinc 8 1, 42, []), (42, .goto (-33), 45, []), (45, .lload 4, 47, []), (47, .lconst 0, 48, []), (48, .lcmp, 49, []), (49, .ifCond .ne 7, 52, []), (52, .lconst 1, 53, []), (53, .goto 5, 56, []), (56, .lload 4, 58, []), (58, .lreturn, 59, [2])] := dk_ck (by decide +kernel)
set_option maxRecDepth 4096 in
theorem w_Co_greatestDivisor_9 {nl : Bool} {Ln : Nat} {xs : Nat → Int32} {d : Nat} {x0 : Int64} {x2 : Int64} {x4 : Int64} {x6 : Int64} {x8 : Int32} {x9 : Option Value} {x10 : Option Value} {σ : am_S} {F : Int64 → am_S → Prop} (h : (x8 < (200 : Int32) → (x6 = (0 : Int64) → ∀ w5 : Int64, w5 = (if x4 = (0 : Int64) then (1 : Int64) else x4) → F w5 σ) ∧ (¬ (x6 = (0 : Int64)) → (x6 ≠ 0) ∧ ∀ v8 : Int64, v8 = (x4 - x4 / x6 * x6) → c_Co_greatestDivisor_9 nl Ln xs (d + 1) x0 x2 x6 v8 (x8 + (1 : Int32)) (some (.long v8)) none σ F)) ∧ (¬ (x8 < (200 : Int32)) → ∀ w12 : Int64, w12 = (if x4 = (0 : Int64) then (1 : Int64) else x4) → F w12 σ)) : c_Co_greatestDivisor_9 nl Ln xs (d + 1) x0 x2 x4 x6 x8 x9 x10 σ F := by
  obtain ⟨j9, j11, j14, j17, j19, j20, j21, j24, j26, j28, j29, j31, j33, j35, j37, j39, j42, j45, j47, j48, j49, j52, j53, j56, j58, -⟩ := P_Co_greatestDivisor_9 nl Ln xs
  unfold c_Co_greatestDivisor_9
  refine s_iload j9 rfl rfl ?_
  refine s_sipush j11 rfl kc_si_200 ?_
  refine s_icn j14 rfl rfl am_cc_ge (fun hc1 => ?_) (fun hc1 => ?_)
  · replace h := h.2 hc1
    refine s_lload j45 rfl rfl ?_
    refine s_lconst j47 rfl rfl ?_
    refine s_g j48 rfl rfl rfl rfl rfl rfl ?_
    have K11 : ∀ (w12 : Int64), w12 = (if x4 = (0 : Int64) then (1 : Int64) else x4) → am_C (TT nl Ln xs) (d + 1) 178 58 [some (.long x0), none, some (.long x2), none, some (.long x4), none, some (.long x6), none, some (.int x8), x9, x10] [.long w12] σ (am_qL F) := by
      intro w12 hw13
      replace h := h w12 hw13
      exact s_retL j58 rfl h
    refine s_ifn j49 rfl rfl am_cl_ne (fun hc10 => ?_) (fun hc10 => ?_)
    · refine s_lload j56 rfl rfl ?_
      exact K11 _ (am_t2 hc10 rfl)
    · refine s_lconst j52 rfl rfl ?_
      refine s_goto j53 rfl rfl ?_
      exact K11 _ (am_t1 hc10 rfl)
  · replace h := h.1 hc1
    refine s_lload j17 rfl rfl ?_
    refine s_lconst j19 rfl rfl ?_
    refine s_g j20 rfl rfl rfl rfl rfl rfl ?_
    refine s_if j21 rfl rfl am_cl_eq (fun hc2 => ?_) (fun hc2 => ?_)
    · replace h := h.1 hc2
      refine s_lload j45 rfl rfl ?_
      refine s_lconst j47 rfl rfl ?_
      refine s_g j48 rfl rfl rfl rfl rfl rfl ?_
      have K4 : ∀ (w5 : Int64), w5 = (if x4 = (0 : Int64) then (1 : Int64) else x4) → am_C (TT nl Ln xs) (d + 1) 178 58 [some (.long x0), none, some (.long x2), none, some (.long x4), none, some (.long x6), none, some (.int x8), x9, x10] [.long w5] σ (am_qL F) := by
        intro w5 hw6
        replace h := h w5 hw6
        exact s_retL j58 rfl h
      refine s_ifn j49 rfl rfl am_cl_ne (fun hc3 => ?_) (fun hc3 => ?_)
      · refine s_lload j56 rfl rfl ?_
        exact K4 _ (am_t2 hc3 rfl)
      · refine s_lconst j52 rfl rfl ?_
        refine s_goto j53 rfl rfl ?_
        exact K4 _ (am_t1 hc3 rfl)
    · replace h := h.2 hc2
      refine s_lload j24 rfl rfl ?_
      refine s_lload j26 rfl rfl ?_
      obtain ⟨ho7, h⟩ := h
      refine s_lrem j28 rfl ho7 ?_
      refine s_lstoreV j29 rfl (n := 11) (L' := fun w => [some (.long x0), none, some (.long x2), none, some (.long x4), none, some (.long x6), none, some (.int x8), some (.long w), none]) rfl (by decide) (fun _ => rfl) (fun v8 hv9 => ?_)
      replace h := h v8 hv9
      refine s_lload j31 rfl rfl ?_
      refine s_lstore j33 rfl (n := 11) (L' := [some (.long x0), none, some (.long x2), none, some (.long x6), none, some (.long x6), none, some (.int x8), some (.long v8), none]) rfl (by decide) rfl ?_
      refine s_lload j35 rfl rfl ?_
      refine s_lstore j37 rfl (n := 11) (L' := [some (.long x0), none, some (.long x2), none, some (.long x6), none, some (.long v8), none, some (.int x8), some (.long v8), none]) rfl (by decide) rfl ?_
      refine s_iinc (L' := [some (.long x0), none, some (.long x2), none, some (.long x6), none, some (.long v8), none, some (.int (x8 + (1 : Int32))), some (.long v8), none]) j39 rfl rfl kc_ic_1 rfl ?_
      refine s_goto j42 rfl rfl ?_
      exact h
theorem P_Co_write (nl : Bool) (Ln : Nat) (xs : Nat → Int32) : am_Jl (TT nl Ln xs) 179 [(0, .aload_n 0, 1, []), (1, .getfield 56, 4, [9, 0, 7, 2]), (4, .getfield 203, 7, [9, 6, 19, 3]), (7, .ifCond .eq 6, 10, []), (10, .bipush (-3), 12, []), (12, .ireturn, 13, [1]), (13, .aload_n 0, 14, []), (14, .getfield 21, 17, [9, 0, 2, 2]), (17, .invokevirtual 75, 20, [10, 132, 2, 1, 1]), (20, .iconst 0, 21, []), (21, .istore_n 1, 22, [])] := dk_ck (by decide +kernel)
set_option maxRecDepth 4096 in
theorem w_Co_write {nl : Bool} {Ln : Nat} {xs : Nat → Int32} {d : Nat} {this : Nat} {σ : am_S} {F : Int32 → am_S → Prop} (h : (am_is σ (some this) 0) ∧ (am_is σ (am_fR σ 7 this) 6) ∧ ((am_fI σ 6019 ((am_fR σ 7 this).getD 0)) = 0 → (am_is σ (am_fR σ 2 this) 1) ∧ k_By_clear nl Ln xs d ((am_fR σ 2 this).getD 0) σ (fun σ5 => am_ext σ σ5 → c_Co_write_22 nl Ln xs (d + 1) this (0 : Int32) σ5 F)) ∧ (¬ ((am_fI σ 6019 ((am_fR σ 7 this).getD 0)) = 0) → F (-3 : Int32) σ)) : k_Co_write nl Ln xs (d + 1) this σ F := by
  obtain ⟨j0, j1, j4, j7, j10, j12, j13, j14, j17, j20, j21, -⟩ := P_Co_write nl Ln xs
  have elo : am_lo 3 [am_ov (some this)] = [some (am_ov (some this)), none, none] := by simp only [am_lo, am_in_ov, am_in_int, am_in_long, am_in_nil]; rfl
  unfold k_Co_write
  rw [elo]
  refine s_aload_n j0 rfl rfl ?_
  obtain ⟨ho1, h⟩ := h
  refine s_gfR j1 rfl ho1 ?_
  obtain ⟨ho2, h⟩ := h
  refine s_gfZ j4 rfl ho2 ?_
  refine s_if j7 rfl rfl am_cc_eq (fun hc3 => ?_) (fun hc3 => ?_)
  · replace h := h.1 hc3
    refine s_aload_n j13 rfl rfl ?_
    refine s_gfR j14 rfl ho1 ?_
    obtain ⟨ho4, h⟩ := h
    refine s_virt j17 rfl rfl rfl rfl ho4 (by decide) (in_By_clear _) (am_r8 rfl) (am_bV h (fun σ5 h hx5 => ?_))
    replace h := h hx5
    refine s_iconst j20 rfl kc_ic_0 ?_
    refine s_istore_n j21 rfl (n := 3) (L' := [some (am_ov (some this)), some (.int (0 : Int32)), none]) rfl (by decide) (am_st1_R [] _ _ _ _) ?_
    exact h
  · replace h := h.2 hc3
    refine s_bipush j10 rfl kc_bi_m3 ?_
    exact s_retI j12 rfl h
theorem P_Co_write_22 (nl : Bool) (Ln : Nat) (xs : Nat → Int32) : am_Jl (TT nl Ln xs) 179 [(22, .iload_n 1, 23, []), (23, .aload_n 0, 24, []), (24, .getfield 56, 27, [9, 0, 7, 2]), (27, .getfield 207, 30, [9, 6, 3, 2]), (30, .getfield 78, 33, [9, 1, 1, 0]), (33, .if_icmp .ge 27, 36, []), (36, .aload_n 0, 37, []), (37, .getfield 21, 40, [9, 0, 2, 2]), (40, .aload_n 0, 41, []), (41, .getfield 56, 44, [9, 0, 7, 2]), (44, .getfield 207, 47, [9, 6, 3, 2]), (47, .iload_n 1, 48, []), (48, .invokevirtual 169, 51, [10, 77, 2, 2, 2]), (51, .invokevirtual 82, 54, [10, 75, 2, 2, 2]), (54, .iinc 1 1, 57, []), (57, .goto (-35), 60, []), (60, .aload_n 0, 61, []), (61, .getfield 56, 64, [9, 0, 7, 2]), (64, .getfield 207, 67, [9, 6, 3, 2]), (67, .aload_n 0, 68, []), (68, .getfield 56, 71, [9, 0, 7, 2]), (71, .getfield 207, 74, [9, 6, 3, 2]), (74, .getfield 78, 77, [9, 1, 1, 0]), (77, .invokevirtual 210, 80, [10, 180, 2, 4, 2]), (80, .istore_n 1, 81, []), (81, .bipush 24, 83, []), (83, .istore_n 2, 84, [])] := dk_ck (by decide +kernel)
set_option maxRecDepth 4096 in
theorem w_Co_write_22 {nl : Bool} {Ln : Nat} {xs : Nat → Int32} {d : Nat} {this : Nat} {x1 : Int32} {σ : am_S} {F : Int32 → am_S → Prop} (h : (am_is σ (some this) 0) ∧ (am_is σ (am_fR σ 7 this) 6) ∧ (am_is σ (am_fR σ 6003 ((am_fR σ 7 this).getD 0)) 1) ∧ (x1 < (am_fI σ 1001 ((am_fR σ 6003 ((am_fR σ 7 this).getD 0)).getD 0)) → k_By_byteAt nl Ln xs d ((am_fR σ 6003 ((am_fR σ 7 this).getD 0)).getD 0) x1 σ (fun a6 σ5 => am_ext σ σ5 → (am_is σ5 (am_fR σ 2 this) 1) ∧ k_By_put nl Ln xs d ((am_fR σ 2 this).getD 0) a6 σ5 (fun σ8 => am_ext σ5 σ8 → c_Co_write_22 nl Ln xs (d + 1) this (x1 + (1 : Int32)) σ8 F))) ∧ (¬ (x1 < (am_fI σ 1001 ((am_fR σ 6003 ((am_fR σ 7 this).getD 0)).getD 0))) → k_By_checkOf nl Ln xs d ((am_fR σ 6003 ((am_fR σ 7 this).getD 0)).getD 0) (am_fI σ 1001 ((am_fR σ 6003 ((am_fR σ 7 this).getD 0)).getD 0)) σ (fun a11 σ10 => am_ext σ σ10 → c_Co_write_84 nl Ln xs (d + 1) this a11 (24 : Int32) σ10 F))) : c_Co_write_22 nl Ln xs (d + 1) this x1 σ F := by
  obtain ⟨j22, j23, j24, j27, j30, j33, j36, j37, j40, j41, j44, j47, j48, j51, j54, j57, j60, j61, j64, j67, j68, j71, j74, j77, j80, j81, j83, -⟩ := P_Co_write_22 nl Ln xs
  unfold c_Co_write_22
  refine s_iload_n j22 rfl rfl ?_
  refine s_aload_n j23 rfl rfl ?_
  obtain ⟨ho1, h⟩ := h
  refine s_gfR j24 rfl ho1 ?_
  obtain ⟨ho2, h⟩ := h
  refine s_gfR j27 rfl ho2 ?_
  obtain ⟨ho3, h⟩ := h
  refine s_gfI j30 rfl ho3 ?_
  refine s_icn j33 rfl rfl am_cc_ge (fun hc4 => ?_) (fun hc4 => ?_)
  · replace h := h.2 hc4
    refine s_aload_n j60 rfl rfl ?_
    refine s_gfR j61 rfl ho1 ?_
    refine s_gfR j64 rfl ho2 ?_
    refine s_aload_n j67 rfl rfl ?_
    refine s_gfR j68 rfl ho1 ?_
    refine s_gfR j71 rfl ho2 ?_
    refine s_gfI j74 rfl ho3 ?_
    refine s_virt j77 rfl rfl rfl rfl ho3 (by decide) (in_By_checkOf _ _) (am_r8 rfl) (am_bI h (fun a11 σ10 h hx10 => ?_))
    replace h := h hx10
    refine s_istore_n j80 rfl (n := 3) (L' := [some (am_ov (some this)), some (.int a11), none]) rfl (by decide) (am_st1_R [] _ _ _ _) ?_
    refine s_bipush j81 rfl kc_bi_24 ?_
    refine s_istore_n j83 rfl (n := 3) (L' := [some (am_ov (some this)), some (.int a11), some (.int (24 : Int32))]) rfl (by decide) rfl ?_
    exact h
  · replace h := h.1 hc4
    refine s_aload_n j36 rfl rfl ?_
    refine s_gfR j37 rfl ho1 ?_
    refine s_aload_n j40 rfl rfl ?_
    refine s_gfR j41 rfl ho1 ?_
    refine s_gfR j44 rfl ho2 ?_
    refine s_iload_n j47 rfl rfl ?_
    refine s_virt j48 rfl rfl rfl rfl ho3 (by decide) (in_By_byteAt _ _) (am_r8 rfl) (am_bI h (fun a6 σ5 h hx5 => ?_))
    replace h := h hx5
    obtain ⟨ho7, h⟩ := h
    refine s_virt j51 rfl rfl rfl rfl ho7 (by decide) (in_By_put _ _) (am_r8 rfl) (am_bV h (fun σ8 h hx8 => ?_))
    replace h := h hx8
    refine s_iinc (L' := [some (am_ov (some this)), some (.int (x1 + (1 : Int32))), none]) j54 rfl rfl kc_ic_1 (am_st1_R [] _ _ _ _) ?_
    refine s_goto j57 rfl rfl ?_
    exact h
theorem P_Co_write_84 (nl : Bool) (Ln : Nat) (xs : Nat → Int32) : am_Jl (TT nl Ln xs) 179 [(84, .iload_n 2, 85, []), (85, .ifCond .lt 23, 88, []), (88, .aload_n 0, 89, []), (89, .getfield 21, 92, [9, 0, 2, 2]), (92, .iload_n 1, 93, []), (93, .iload_n 2, 94, []), (94, .iushr, 95, []), (95, .sipush 255, 98, []), (98, .iand, 99, []), (99, .invokevirtual 82, 102, [10, 75, 2, 2, 2]), (102, .iinc 2 (-8), 105, []), (105, .goto (-21), 108, []), (108, .aload_n 0, 109, []), (109, .getfield 21, 112, [9, 0, 2, 2]), (112, .getfield 78, 115, [9, 1, 1, 0]), (115, .ireturn, 116, [1])] := dk_ck (by decide +kernel)
set_option maxRecDepth 4096 in
theorem w_Co_write_84 {nl : Bool} {Ln : Nat} {xs : Nat → Int32} {d : Nat} {this : Nat} {x1 : Int32} {x2 : Int32} {σ : am_S} {F : Int32 → am_S → Prop} (h : (x2 < 0 → (am_is σ (some this) 0) ∧ (am_is σ (am_fR σ 2 this) 1) ∧ F (am_fI σ 1001 ((am_fR σ 2 this).getD 0)) σ) ∧ (¬ (x2 < 0) → (am_is σ (some this) 0) ∧ (am_is σ (am_fR σ 2 this) 1) ∧ k_By_put nl Ln xs d ((am_fR σ 2 this).getD 0) (((x1.toUInt32 >>> (x2.toUInt32 &&& Int32.toUInt32 31)).toInt32) &&& (255 : Int32)) σ (fun σ6 => am_ext σ σ6 → c_Co_write_84 nl Ln xs (d + 1) this x1 (x2 + (-8 : Int32)) σ6 F))) : c_Co_write_84 nl Ln xs (d + 1) this x1 x2 σ F := by
  obtain ⟨j84, j85, j88, j89, j92, j93, j94, j95, j98, j99, j102, j105, j108, j109, j112, j115, -⟩ := P_Co_write_84 nl Ln xs
  unfold c_Co_write_84
  refine s_iload_n j84 rfl rfl ?_
  refine s_if j85 rfl rfl am_cc_lt (fun hc1 => ?_) (fun hc1 => ?_)
  · replace h := h.1 hc1
    refine s_aload_n j108 rfl rfl ?_
    obtain ⟨ho2, h⟩ := h
    refine s_gfR j109 rfl ho2 ?_
    obtain ⟨ho3, h⟩ := h
    refine s_gfI j112 rfl ho3 ?_
    exact s_retI j115 rfl h
  · replace h := h.2 hc1
    refine s_aload_n j88 rfl rfl ?_
    obtain ⟨ho4, h⟩ := h
    refine s_gfR j89 rfl ho4 ?_
    refine s_iload_n j92 rfl rfl ?_
    refine s_iload_n j93 rfl rfl ?_
    refine s_g j94 rfl rfl rfl rfl rfl rfl ?_
    refine s_sipush j95 rfl kc_si_255 ?_
    refine s_g j98 rfl rfl rfl rfl rfl rfl ?_
    obtain ⟨ho5, h⟩ := h
    refine s_virt j99 rfl rfl rfl rfl ho5 (by decide) (in_By_put _ _) (am_r8 rfl) (am_bV h (fun σ6 h hx6 => ?_))
    replace h := h hx6
    refine s_iinc (L' := [some (am_ov (some this)), some (.int x1), some (.int (x2 + (-8 : Int32)))]) j102 rfl rfl kc_ic_m8 rfl ?_
    refine s_goto j105 rfl rfl ?_
    exact h
theorem P_By_checkOf (nl : Bool) (Ln : Nat) (xs : Nat → Int32) : am_Jl (TT nl Ln xs) 180 [(0, .iconst 0, 1, []), (1, .istore_n 2, 2, []), (2, .iconst 0, 3, []), (3, .istore_n 3, 4, [])] := dk_ck (by decide +kernel)
set_option maxRecDepth 4096 in
theorem w_By_checkOf {nl : Bool} {Ln : Nat} {xs : Nat → Int32} {d : Nat} {this : Nat} {p0 : Int32} {σ : am_S} {F : Int32 → am_S → Prop} (h : c_By_checkOf_4 nl Ln xs (d + 1) this p0 (0 : Int32) (0 : Int32) σ F) : k_By_checkOf nl Ln xs (d + 1) this p0 σ F := by
  obtain ⟨j0, j1, j2, j3, -⟩ := P_By_checkOf nl Ln xs
  have elo : am_lo 4 [am_ov (some this), .int p0] = [some (am_ov (some this)), some (.int p0), none, none] := by simp only [am_lo, am_in_ov, am_in_int, am_in_long, am_in_nil]; rfl
  unfold k_By_checkOf
  rw [elo]
  refine s_iconst j0 rfl kc_ic_0 ?_
  refine s_istore_n j1 rfl (n := 4) (L' := [some (am_ov (some this)), some (.int p0), some (.int (0 : Int32)), none]) rfl (by decide) rfl ?_
  refine s_iconst j2 rfl kc_ic_0 ?_
  refine s_istore_n j3 rfl (n := 4) (L' := [some (am_ov (some this)), some (.int p0), some (.int (0 : Int32)), some (.int (0 : Int32))]) rfl (by decide) rfl ?_
  exact h
theorem P_By_checkOf_4 (nl : Bool) (Ln : Nat) (xs : Nat → Int32) : am_Jl (TT nl Ln xs) 180 [(4, .iload_n 3, 5, []), (5, .iload_n 1, 6, []), (6, .if_icmp .ge 33, 9, []), (9, .iload_n 3, 10, []), (10, .aload_n 0, 11, []), (11, .getfield 15, 14, [9, 1, 1, 0]), (14, .if_icmp .ge 25, 17, []), (17, .bipush 31, 19, []), (19, .iload_n 2, 20, []), (20, .imul, 21, []), (21, .aload_n 0, 22, []), (22, .getfield 9, 25, [9, 1, 0, 2]), (25, .iload_n 3, 26, []), (26, .baload, 27, []), (27, .sipush 255, 30, []), (30, .iand, 31, []), (31, .iadd, 32, []), (32, .istore_n 2, 33, []), (33, .iinc 3 1, 36, []), (36, .goto (-32), 39, []), (39, .iload_n 2, 40, []), (40, .ireturn, 41, [1])] := dk_ck (by decide +kernel)
set_option maxRecDepth 4096 in
theorem w_By_checkOf_4 {nl : Bool} {Ln : Nat} {xs : Nat → Int32} {d : Nat} {this : Nat} {x1 : Int32} {x2 : Int32} {x3 : Int32} {σ : am_S} {F : Int32 → am_S → Prop} (h : (x3 < x1 → (am_is σ (some this) 1) ∧ (x3 < (am_fI σ 1001 this) → (am_ar σ 1002 (am_fR σ 1000 this) x3) ∧ ∀ v5 : Int32, v5 = (((31 : Int32) * x2) + ((am_aI σ ((am_fR σ 1000 this).getD 0) x3.toNatClampNeg) &&& (255 : Int32))) → c_By_checkOf_4 nl Ln xs (d + 1) this x1 v5 (x3 + (1 : Int32)) σ F) ∧ (¬ (x3 < (am_fI σ 1001 this)) → F x2 σ)) ∧ (¬ (x3 < x1) → F x2 σ)) : c_By_checkOf_4 nl Ln xs (d + 1) this x1 x2 x3 σ F := by
  obtain ⟨j4, j5, j6, j9, j10, j11, j14, j17, j19, j20, j21, j22, j25, j26, j27, j30, j31, j32, j33, j36, j39, j40, -⟩ := P_By_checkOf_4 nl Ln xs
  unfold c_By_checkOf_4
  refine s_iload_n j4 rfl rfl ?_
  refine s_iload_n j5 rfl rfl ?_
  refine s_icn j6 rfl rfl am_cc_ge (fun hc1 => ?_) (fun hc1 => ?_)
  · replace h := h.2 hc1
    refine s_iload_n j39 rfl rfl ?_
    exact s_retI j40 rfl h
  · replace h := h.1 hc1
    refine s_iload_n j9 rfl rfl ?_
    refine s_aload_n j10 rfl rfl ?_
    obtain ⟨ho2, h⟩ := h
    refine s_gfI j11 rfl ho2 ?_
    refine s_icn j14 rfl rfl am_cc_ge (fun hc3 => ?_) (fun hc3 => ?_)
    · replace h := h.2 hc3
      refine s_iload_n j39 rfl rfl ?_
      exact s_retI j40 rfl h
    · replace h := h.1 hc3
      refine s_bipush j17 rfl kc_bi_31 ?_
      refine s_iload_n j19 rfl rfl ?_
      refine s_g j20 rfl rfl rfl rfl rfl rfl ?_
      refine s_aload_n j21 rfl rfl ?_
      refine s_gfR j22 rfl ho2 ?_
      refine s_iload_n j25 rfl rfl ?_
      obtain ⟨ho4, h⟩ := h
      refine s_baload (k := 1002) (by decide) j26 rfl ho4 ?_
      refine s_sipush j27 rfl kc_si_255 ?_
      refine s_g j30 rfl rfl rfl rfl rfl rfl ?_
      refine s_g j31 rfl rfl rfl rfl rfl rfl ?_
      refine s_istore_nV j32 rfl (n := 4) (L' := fun w => [some (am_ov (some this)), some (.int x1), some (.int w), some (.int x3)]) rfl (by decide) (fun _ => rfl) (fun v5 hv6 => ?_)
      replace h := h v5 hv6
      refine s_iinc (L' := [some (am_ov (some this)), some (.int x1), some (.int v5), some (.int (x3 + (1 : Int32)))]) j33 rfl rfl kc_ic_1 rfl ?_
      refine s_goto j36 rfl rfl ?_
      exact h
theorem P_Co_takeIn (nl : Bool) (Ln : Nat) (xs : Nat → Int32) : am_Jl (TT nl Ln xs) 181 [(0, .aload_n 0, 1, []), (1, .getfield 56, 4, [9, 0, 7, 2]), (4, .getfield 203, 7, [9, 6, 19, 3]), (7, .ifCond .eq 6, 10, []), (10, .bipush (-3), 12, []), (12, .ireturn, 13, [1]), (13, .aload_n 0, 14, []), (14, .getfield 213, 17, [9, 0, 10, 0]), (17, .bipush 40, 19, []), (19, .if_icmp .lt 6, 22, []), (22, .bipush (-7), 24, []), (24, .ireturn, 25, [1]), (25, .aload_n 0, 26, []), (26, .dup, 27, []), (27, .getfield 213, 30, [9, 0, 10, 0]), (30, .iconst 1, 31, []), (31, .iadd, 32, []), (32, .putfield 213, 35, [9, 0, 10, 0]), (35, .aload_n 0, 36, []), (36, .getfield 12, 39, [9, 0, 0, 2]), (39, .getfield 78, 42, [9, 1, 1, 0]), (42, .iconst 4, 43, []), (43, .isub, 44, []), (44, .istore_n 1, 45, []), (45, .aload_n 0, 46, []), (46, .getfield 216, 49, [9, 0, 8, 2]), (49, .ifnonnull 25, 52, []), (52, .new 51, 55, [2, 6, 20]), (55, .dup, 56, []), (56, .aload_n 0, 57, []), (57, .getfield 33, 60, [9, 0, 4, 2]), (60, .aload_n 0, 61, []), (61, .getfield 40, 64, [9, 0, 5, 2]), (64, .aload_n 0, 65, []), (65, .getfield 47, 68, [9, 0, 6, 2]), (68, .invokespecial 53, 71, [11, 6, 7, 4, 4]), (71, .goto 7, 74, []), (74, .aload_n 0, 75, []), (75, .getfield 216, 78, [9, 0, 8, 2])] := dk_ck (by decide +kernel)
set_option maxRecDepth 4096 in
theorem w_Co_takeIn {nl : Bool} {Ln : Nat} {xs : Nat → Int32} {d : Nat} {this : Nat} {σ : am_S} {F : Int32 → am_S → Prop} (h : (am_is σ (some this) 0) ∧ (am_is σ (am_fR σ 7 this) 6) ∧ ((am_fI σ 6019 ((am_fR σ 7 this).getD 0)) = 0 → ((am_fI σ 10 this) < (40 : Int32) → ∀ σ5, σ5 = am_sfI σ 10 this ((am_fI σ 10 this) + (1 : Int32)) → (am_is σ5 (am_fR σ5 0 this) 1) ∧ ∀ v9 : Int32, v9 = ((am_fI σ5 1001 ((am_fR σ5 0 this).getD 0)) - (4 : Int32)) → ((am_fR σ5 8 this) = none → ∀ σ12, σ12 = am_new σ5 7 0 20 → am_ext σ5 σ12 → am_fz σ12 (am_nx σ5) → k_Bk_init nl Ln xs d (am_nx σ5) (am_fR σ12 4 this) (am_fR σ12 5 this) (am_fR σ12 6 this) σ12 (fun σ14 => am_ext σ12 σ14 → c_Co_takeIn_78 nl Ln xs (d + 1) this v9 (some (am_nx σ5)) σ14 F)) ∧ (¬ ((am_fR σ5 8 this) = none) → c_Co_takeIn_78 nl Ln xs (d + 1) this v9 (am_fR σ5 8 this) σ5 F)) ∧ (¬ ((am_fI σ 10 this) < (40 : Int32)) → F (-7 : Int32) σ)) ∧ (¬ ((am_fI σ 6019 ((am_fR σ 7 this).getD 0)) = 0) → F (-3 : Int32) σ)) : k_Co_takeIn nl Ln xs (d + 1) this σ F := by
  obtain ⟨j0, j1, j4, j7, j10, j12, j13, j14, j17, j19, j22, j24, j25, j26, j27, j30, j31, j32, j35, j36, j39, j42, j43, j44, j45, j46, j49, j52, j55, j56, j57, j60, j61, j64, j65, j68, j71, j74, j75, -⟩ := P_Co_takeIn nl Ln xs
  have elo : am_lo 7 [am_ov (some this)] = [some (am_ov (some this)), none, none, none, none, none, none] := by simp only [am_lo, am_in_ov, am_in_int, am_in_long, am_in_nil]; rfl
  unfold k_Co_takeIn
  rw [elo]
  refine s_aload_n j0 rfl rfl ?_
  obtain ⟨ho1, h⟩ := h
  refine s_gfR j1 rfl ho1 ?_
  obtain ⟨ho2, h⟩ := h
  refine s_gfZ j4 rfl ho2 ?_
  refine s_if j7 rfl rfl am_cc_eq (fun hc3 => ?_) (fun hc3 => ?_)
  · replace h := h.1 hc3
    refine s_aload_n j13 rfl rfl ?_
    refine s_gfI j14 rfl ho1 ?_
    refine s_bipush j17 rfl kc_bi_40 ?_
    refine s_ic j19 rfl rfl am_cc_lt (fun hc4 => ?_) (fun hc4 => ?_)
    · replace h := h.1 hc4
      refine s_aload_n j25 rfl rfl ?_
      refine s_dup j26 rfl (am_cov _) ?_
      refine s_gfI j27 rfl ho1 ?_
      refine s_iconst j30 rfl kc_ic_1 ?_
      refine s_g j31 rfl rfl rfl rfl rfl rfl ?_
      refine s_pfI j32 rfl ho1 (fun σ5 e6 => ?_)
      replace h := h σ5 e6
      have ek7 : am_kd σ5 = am_kd σ := by rw [e6]
      refine s_aload_n j35 rfl rfl ?_
      refine s_gfR j36 rfl (am_is_kd ek7 ho1) ?_
      obtain ⟨ho8, h⟩ := h
      refine s_gfI j39 rfl ho8 ?_
      refine s_iconst j42 rfl kc_ic_4 ?_
      refine s_g j43 rfl rfl rfl rfl rfl rfl ?_
      refine s_istore_nV j44 rfl (n := 7) (L' := fun w => [some (am_ov (some this)), some (.int w), none, none, none, none, none]) rfl (by decide) (fun _ => am_st1_R [] _ _ _ _) (fun v9 hv10 => ?_)
      replace h := h v9 hv10
      refine s_aload_n j45 rfl rfl ?_
      refine s_gfR j46 rfl (am_is_kd ek7 ho1) ?_
      refine s_ifnonnull j49 rfl rfl (fun hc11 => ?_) (fun hc11 => ?_)
      · replace h := h.2 hc11
        refine s_aload_n j74 rfl rfl ?_
        refine s_gfR j75 rfl (am_is_kd ek7 ho1) ?_
        exact h
      · replace h := h.1 hc11
        refine s_new j52 rfl (fun σ12 e13 e13x e13z => ?_)
        replace h := h σ12 e13 e13x e13z
        refine s_dup j55 rfl (am_cov _) ?_
        refine s_aload_n j56 rfl rfl ?_
        refine s_gfR j57 rfl (am_is_ext e13x (am_is_kd ek7 ho1)) ?_
        refine s_aload_n j60 rfl rfl ?_
        refine s_gfR j61 rfl (am_is_ext e13x (am_is_kd ek7 ho1)) ?_
        refine s_aload_n j64 rfl rfl ?_
        refine s_gfR j65 rfl (am_is_ext e13x (am_is_kd ek7 ho1)) ?_
        refine s_spec j68 rfl rfl rfl rfl (by decide) (in_Bk_init _ _ _ _) (am_r8 rfl) (am_bV h (fun σ14 h hx14 => ?_))
        replace h := h hx14
        refine s_goto j71 rfl rfl ?_
        exact h
    · replace h := h.2 hc4
      refine s_bipush j22 rfl kc_bi_m7 ?_
      exact s_retI j24 rfl h
  · replace h := h.2 hc3
    refine s_bipush j10 rfl kc_bi_m3 ?_
    exact s_retI j12 rfl h
theorem P_Co_takeIn_78 (nl : Bool) (Ln : Nat) (xs : Nat → Int32) : am_Jl (TT nl Ln xs) 181 [(78, .astore_n 2, 79, []), (79, .iload_n 1, 80, []), (80, .ifCond .ge 7, 83, []), (83, .iconst 0, 84, []), (84, .goto 4, 87, []), (87, .iconst (-1), 88, [])] := dk_ck (by decide +kernel)
set_option maxRecDepth 4096 in
theorem w_Co_takeIn_78 {nl : Bool} {Ln : Nat} {xs : Nat → Int32} {d : Nat} {this : Nat} {x1 : Int32} {y0 : Option Nat} {σ : am_S} {F : Int32 → am_S → Prop} (h : ∀ w3 : Int32, w3 = (if x1 < 0 then (0 : Int32) else (-1 : Int32)) → c_Co_takeIn_88 nl Ln xs (d + 1) this x1 y0 w3 σ F) : c_Co_takeIn_78 nl Ln xs (d + 1) this x1 y0 σ F := by
  obtain ⟨j78, j79, j80, j83, j84, j87, -⟩ := P_Co_takeIn_78 nl Ln xs
  unfold c_Co_takeIn_78
  refine s_astore_n j78 rfl (n := 7) (L' := [some (am_ov (some this)), some (.int x1), some (am_ov y0), none, none, none, none]) rfl (by decide) rfl ?_
  refine s_iload_n j79 rfl rfl ?_
  have K2 : ∀ (w3 : Int32), w3 = (if x1 < 0 then (0 : Int32) else (-1 : Int32)) → am_C (TT nl Ln xs) (d + 1) 181 88 [some (am_ov (some this)), some (.int x1), some (am_ov y0), none, none, none, none] [.int w3] σ (am_qI F) := by
    intro w3 hw4
    replace h := h w3 hw4
    exact h
  refine s_ifn j80 rfl rfl am_cc_ge (fun hc1 => ?_) (fun hc1 => ?_)
  · refine s_iconst j87 rfl kc_ic_m1 ?_
    exact K2 _ (am_t2 hc1 rfl)
  · refine s_iconst j83 rfl kc_ic_0 ?_
    refine s_goto j84 rfl rfl ?_
    exact K2 _ (am_t1 hc1 rfl)
theorem P_Co_takeIn_88 (nl : Bool) (Ln : Nat) (xs : Nat → Int32) : am_Jl (TT nl Ln xs) 181 [(88, .istore_n 3, 89, []), (89, .iconst 0, 90, []), (90, .istore 4, 92, []), (92, .aload_n 0, 93, []), (93, .getfield 12, 96, [9, 0, 0, 2]), (96, .invokevirtual 219, 99, [10, 182, 2, 1, 1]), (99, .iconst 0, 100, []), (100, .istore 5, 102, [])] := dk_ck (by decide +kernel)
set_option maxRecDepth 4096 in
theorem w_Co_takeIn_88 {nl : Bool} {Ln : Nat} {xs : Nat → Int32} {d : Nat} {this : Nat} {x1 : Int32} {x2 : Option Nat} {y0 : Int32} {σ : am_S} {F : Int32 → am_S → Prop} (h : (am_is σ (some this) 0) ∧ (am_is σ (am_fR σ 0 this) 1) ∧ k_By_startReading nl Ln xs d ((am_fR σ 0 this).getD 0) σ (fun σ3 => am_ext σ σ3 → c_Co_takeIn_102 nl Ln xs (d + 1) this x1 x2 y0 (0 : Int32) (0 : Int32) none σ3 F)) : c_Co_takeIn_88 nl Ln xs (d + 1) this x1 x2 y0 σ F := by
  obtain ⟨j88, j89, j90, j92, j93, j96, j99, j100, -⟩ := P_Co_takeIn_88 nl Ln xs
  unfold c_Co_takeIn_88
  refine s_istore_n j88 rfl (n := 7) (L' := [some (am_ov (some this)), some (.int x1), some (am_ov x2), some (.int y0), none, none, none]) rfl (by decide) (am_st1_R [_, _] _ _ _ _) ?_
  refine s_iconst j89 rfl kc_ic_0 ?_
  refine s_istore j90 rfl (n := 7) (L' := [some (am_ov (some this)), some (.int x1), some (am_ov x2), some (.int y0), some (.int (0 : Int32)), none, none]) rfl (by decide) rfl ?_
  refine s_aload_n j92 rfl rfl ?_
  obtain ⟨ho1, h⟩ := h
  refine s_gfR j93 rfl ho1 ?_
  obtain ⟨ho2, h⟩ := h
  refine s_virt j96 rfl rfl rfl rfl ho2 (by decide) (in_By_startReading _) (am_r8 rfl) (am_bV h (fun σ3 h hx3 => ?_))
  replace h := h hx3
  refine s_iconst j99 rfl kc_ic_0 ?_
  refine s_istore j100 rfl (n := 7) (L' := [some (am_ov (some this)), some (.int x1), some (am_ov x2), some (.int y0), some (.int (0 : Int32)), some (.int (0 : Int32)), none]) rfl (by decide) rfl ?_
  exact h
theorem P_Co_takeIn_102 (nl : Bool) (Ln : Nat) (xs : Nat → Int32) : am_Jl (TT nl Ln xs) 181 [(102, .iload 5, 104, []), (104, .sipush 6000, 107, []), (107, .if_icmp .ge 70, 110, []), (110, .iload_n 3, 111, []), (111, .iconst (-1), 112, []), (112, .if_icmp .ne 65, 115, []), (115, .aload_n 0, 116, []), (116, .getfield 12, 119, [9, 0, 0, 2]), (119, .getfield 222, 122, [9, 1, 2, 0]), (122, .iload_n 1, 123, []), (123, .if_icmp .ge 54, 126, []), (126, .aload_n 0, 127, []), (127, .getfield 12, 130, [9, 0, 0, 2]), (130, .getfield 222, 133, [9, 1, 2, 0]), (133, .istore 6, 135, []), (135, .aload_n 0, 136, []), (136, .iload_n 1, 137, []), (137, .invokevirtual 225, 140, [10, 183, 1, 8, 2]), (140, .ifCond .eq 28, 143, []), (143, .aload_n 0, 144, []), (144, .aload_n 2, 145, []), (145, .aload_n 0, 146, []), (146, .getfield 24, 149, [9, 0, 3, 2]), (149, .aload_n 0, 150, []), (150, .getfield 18, 153, [9, 0, 1, 2]), (153, .invokevirtual 71, 156, [10, 9, 7, 7, 3]), (156, .invokevirtual 228, 159, [10, 186, 1, 3, 2]), (159, .ifCond .ne 9, 162, []), (162, .iinc 4 1, 165, []), (165, .goto 6, 168, []), (168, .iload 6, 170, []), (170, .istore_n 3, 171, []), (171, .iinc 5 1, 174, []), (174, .goto (-72), 177, [])] := dk_ck (by decide +kernel)
set_option maxRecDepth 4096 in
theorem w_Co_takeIn_102 {nl : Bool} {Ln : Nat} {xs : Nat → Int32} {d : Nat} {this : Nat} {x1 : Int32} {x2 : Option Nat} {x3 : Int32} {x4 : Int32} {x5 : Int32} {x6 : Option Value} {σ : am_S} {F : Int32 → am_S → Prop} (h : (x5 < (6000 : Int32) → (x3 = (-1 : Int32) → (am_is σ (some this) 0) ∧ (am_is σ (am_fR σ 0 this) 1) ∧ ((am_fI σ 1002 ((am_fR σ 0 this).getD 0)) < x1 → ∀ v6 : Int32, v6 = (am_fI σ 1002 ((am_fR σ 0 this).getD 0)) → k_Co_readDeed nl Ln xs d this x1 σ (fun a9 σ8 => am_ext σ σ8 → (a9 = true → (am_is σ8 x2 6) ∧ k_Bk_perform nl Ln xs d (x2.getD 0) (am_fR σ8 3 this) (am_fR σ8 1 this) σ8 (fun a13 σ12 => am_ext σ8 σ12 → k_Co_isRefused nl Ln xs d this a13 σ12 (fun a15 σ14 => am_ext σ12 σ14 → ∀ w18 : Int32, w18 = (if a15 = true then v6 else x3) → ∀ w19 : Int32, w19 = (if a15 = true then x4 else (x4 + (1 : Int32))) → c_Co_takeIn_102 nl Ln xs (d + 1) this x1 x2 w18 w19 (x5 + (1 : Int32)) (some (.int v6)) σ14 F))) ∧ (¬ (a9 = true) → c_Co_takeIn_102 nl Ln xs (d + 1) this x1 x2 v6 x4 (x5 + (1 : Int32)) (some (.int v6)) σ8 F))) ∧ (¬ ((am_fI σ 1002 ((am_fR σ 0 this).getD 0)) < x1) → c_Co_takeIn_177 nl Ln xs (d + 1) this x1 x2 x3 x4 x5 x6 σ F)) ∧ (¬ (x3 = (-1 : Int32)) → c_Co_takeIn_177 nl Ln xs (d + 1) this x1 x2 x3 x4 x5 x6 σ F)) ∧ (¬ (x5 < (6000 : Int32)) → c_Co_takeIn_177 nl Ln xs (d + 1) this x1 x2 x3 x4 x5 x6 σ F)) : c_Co_takeIn_102 nl Ln xs (d + 1) this x1 x2 x3 x4 x5 x6 σ F := by
  obtain ⟨j102, j104, j107, j110, j111, j112, j115, j116, j119, j122, j123, j126, j127, j130, j133, j135, j136, j137, j140, j143, j144, j145, j146, j149, j150, j153, j156, j159, j162, j165, j168, j170, j171, j174, -⟩ := P_Co_takeIn_102 nl Ln xs
  unfold c_Co_takeIn_102
  refine s_iload j102 rfl rfl ?_
  refine s_sipush j104 rfl kc_si_6000 ?_
  refine s_icn j107 rfl rfl am_cc_ge (fun hc1 => ?_) (fun hc1 => ?_)
  · replace h := h.2 hc1
    exact h
  · replace h := h.1 hc1
    refine s_iload_n j110 rfl rfl ?_
    refine s_iconst j111 rfl kc_ic_m1 ?_
    refine s_icn j112 rfl rfl am_cc_ne (fun hc2 => ?_) (fun hc2 => ?_)
    · replace h := h.2 hc2
      exact h
    · replace h := h.1 hc2
      refine s_aload_n j115 rfl rfl ?_
      obtain ⟨ho3, h⟩ := h
      refine s_gfR j116 rfl ho3 ?_
      obtain ⟨ho4, h⟩ := h
      refine s_gfI j119 rfl ho4 ?_
      refine s_iload_n j122 rfl rfl ?_
      refine s_icn j123 rfl rfl am_cc_ge (fun hc5 => ?_) (fun hc5 => ?_)
      · replace h := h.2 hc5
        exact h
      · replace h := h.1 hc5
        refine s_aload_n j126 rfl rfl ?_
        refine s_gfR j127 rfl ho3 ?_
        refine s_gfI j130 rfl ho4 ?_
        refine s_istoreV j133 rfl (n := 7) (L' := fun w => [some (am_ov (some this)), some (.int x1), some (am_ov x2), some (.int x3), some (.int x4), some (.int x5), some (.int w)]) rfl (by decide) (fun _ => rfl) (fun v6 hv7 => ?_)
        replace h := h v6 hv7
        refine s_aload_n j135 rfl rfl ?_
        refine s_iload_n j136 rfl rfl ?_
        refine s_virt j137 rfl rfl rfl rfl ho3 (by decide) (in_Co_readDeed _ _) (am_r8 rfl) (am_bB h (fun a9 σ8 h hx8 => ?_))
        replace h := h hx8
        refine s_ifn j140 rfl rfl am_cb_eq (fun hc10 => ?_) (fun hc10 => ?_)
        · replace h := h.2 hc10
          refine s_iload j168 rfl rfl ?_
          refine s_istore_n j170 rfl (n := 7) (L' := [some (am_ov (some this)), some (.int x1), some (am_ov x2), some (.int v6), some (.int x4), some (.int x5), some (.int v6)]) rfl (by decide) (am_st1_R [_, _] _ _ _ _) ?_
          refine s_iinc (L' := [some (am_ov (some this)), some (.int x1), some (am_ov x2), some (.int v6), some (.int x4), some (.int (x5 + (1 : Int32))), some (.int v6)]) j171 rfl rfl kc_ic_1 rfl ?_
          refine s_goto j174 rfl rfl ?_
          exact h
        · replace h := h.1 hc10
          refine s_aload_n j143 rfl rfl ?_
          refine s_aload_n j144 rfl rfl ?_
          refine s_aload_n j145 rfl rfl ?_
          refine s_gfR j146 rfl (am_is_ext hx8 ho3) ?_
          refine s_aload_n j149 rfl rfl ?_
          refine s_gfR j150 rfl (am_is_ext hx8 ho3) ?_
          obtain ⟨ho11, h⟩ := h
          refine s_virt j153 rfl rfl rfl rfl ho11 (by decide) (in_Bk_perform _ _ _) (am_r8 rfl) (am_bI h (fun a13 σ12 h hx12 => ?_))
          replace h := h hx12
          refine s_virt j156 rfl rfl rfl rfl (am_is_ext hx12 (am_is_ext hx8 ho3)) (by decide) (in_Co_isRefused _ _) (am_r8 rfl) (am_bB h (fun a15 σ14 h hx14 => ?_))
          replace h := h hx14
          have K17 : ∀ (w18 : Int32) (w19 : Int32), w18 = (if a15 = true then v6 else x3) → w19 = (if a15 = true then x4 else (x4 + (1 : Int32))) → am_C (TT nl Ln xs) (d + 1) 181 171 [some (am_ov (some this)), some (.int x1), some (am_ov x2), some (.int w18), some (.int w19), some (.int x5), some (.int v6)] [] σ14 (am_qI F) := by
            intro w18 w19 hw20 hw21
            replace h := h w18 hw20
            replace h := h w19 hw21
            refine s_iinc (L' := [some (am_ov (some this)), some (.int x1), some (am_ov x2), some (.int w18), some (.int w19), some (.int (x5 + (1 : Int32))), some (.int v6)]) j171 rfl rfl kc_ic_1 rfl ?_
            refine s_goto j174 rfl rfl ?_
            exact h
          refine s_if j159 rfl rfl am_cb_ne (fun hc16 => ?_) (fun hc16 => ?_)
          · refine s_iload j168 rfl rfl ?_
            refine s_istore_n j170 rfl (n := 7) (L' := [some (am_ov (some this)), some (.int x1), some (am_ov x2), some (.int v6), some (.int x4), some (.int x5), some (.int v6)]) rfl (by decide) (am_st1_R [_, _] _ _ _ _) ?_
            exact K17 _ _ (am_t1 hc16 rfl) (am_t1 hc16 rfl)
          · refine s_iinc (L' := [some (am_ov (some this)), some (.int x1), some (am_ov x2), some (.int x3), some (.int (x4 + (1 : Int32))), some (.int x5), some (.int v6)]) j162 rfl rfl kc_ic_1 rfl ?_
            refine s_goto j165 rfl rfl ?_
            exact K17 _ _ (am_t2 hc16 rfl) (am_t2 hc16 rfl)
theorem P_Co_takeIn_177 (nl : Bool) (Ln : Nat) (xs : Nat → Int32) : am_Jl (TT nl Ln xs) 181 [(177, .iload_n 3, 178, []), (178, .iconst (-1), 179, []), (179, .if_icmp .ne 13, 182, []), (182, .aload_n 0, 183, []), (183, .iload_n 1, 184, []), (184, .invokevirtual 231, 187, [10, 187, 1, 4, 2]), (187, .ifCond .ne 5, 190, []), (190, .iload_n 1, 191, []), (191, .istore_n 3, 192, [])] := dk_ck (by decide +kernel)
set_option maxRecDepth 4096 in
theorem w_Co_takeIn_177 {nl : Bool} {Ln : Nat} {xs : Nat → Int32} {d : Nat} {this : Nat} {x1 : Int32} {x2 : Option Nat} {x3 : Int32} {x4 : Int32} {x5 : Int32} {x6 : Option Value} {σ : am_S} {F : Int32 → am_S → Prop} (h : (x3 = (-1 : Int32) → (am_is σ (some this) 0) ∧ k_Co_checkStandsAt nl Ln xs d this x1 σ (fun a4 σ3 => am_ext σ σ3 → ∀ w7 : Int32, w7 = (if a4 = true then x3 else x1) → c_Co_takeIn_192 nl Ln xs (d + 1) this x1 x2 w7 x4 x5 x6 σ3 F)) ∧ (¬ (x3 = (-1 : Int32)) → c_Co_takeIn_192 nl Ln xs (d + 1) this x1 x2 x3 x4 x5 x6 σ F)) : c_Co_takeIn_177 nl Ln xs (d + 1) this x1 x2 x3 x4 x5 x6 σ F := by
  obtain ⟨j177, j178, j179, j182, j183, j184, j187, j190, j191, -⟩ := P_Co_takeIn_177 nl Ln xs
  unfold c_Co_takeIn_177
  refine s_iload_n j177 rfl rfl ?_
  refine s_iconst j178 rfl kc_ic_m1 ?_
  refine s_icn j179 rfl rfl am_cc_ne (fun hc1 => ?_) (fun hc1 => ?_)
  · replace h := h.2 hc1
    exact h
  · replace h := h.1 hc1
    refine s_aload_n j182 rfl rfl ?_
    refine s_iload_n j183 rfl rfl ?_
    obtain ⟨ho2, h⟩ := h
    refine s_virt j184 rfl rfl rfl rfl ho2 (by decide) (in_Co_checkStandsAt _ _) (am_r8 rfl) (am_bB h (fun a4 σ3 h hx3 => ?_))
    replace h := h hx3
    have K6 : ∀ (w7 : Int32), w7 = (if a4 = true then x3 else x1) → am_C (TT nl Ln xs) (d + 1) 181 192 [some (am_ov (some this)), some (.int x1), some (am_ov x2), some (.int w7), some (.int x4), some (.int x5), x6] [] σ3 (am_qI F) := by
      intro w7 hw8
      replace h := h w7 hw8
      exact h
    refine s_if j187 rfl rfl am_cb_ne (fun hc5 => ?_) (fun hc5 => ?_)
    · exact K6 _ (am_t1 hc5 rfl)
    · refine s_iload_n j190 rfl rfl ?_
      refine s_istore_n j191 rfl (n := 7) (L' := [some (am_ov (some this)), some (.int x1), some (am_ov x2), some (.int x1), some (.int x4), some (.int x5), x6]) rfl (by decide) (am_st1_R [_, _] _ _ _ _) ?_
      exact K6 _ (am_t2 hc5 rfl)
theorem P_Co_takeIn_192 (nl : Bool) (Ln : Nat) (xs : Nat → Int32) : am_Jl (TT nl Ln xs) 181 [(192, .aload_n 0, 193, []), (193, .iload_n 3, 194, []), (194, .iconst (-1), 195, []), (195, .if_icmp .ne 10, 198, []), (198, .aload_n 0, 199, []), (199, .getfield 56, 202, [9, 0, 7, 2]), (202, .goto 4, 205, []), (205, .aload_n 2, 206, [])] := dk_ck (by decide +kernel)
set_option maxRecDepth 4096 in
theorem w_Co_takeIn_192 {nl : Bool} {Ln : Nat} {xs : Nat → Int32} {d : Nat} {this : Nat} {x1 : Int32} {x2 : Option Nat} {x3 : Int32} {x4 : Int32} {x5 : Int32} {x6 : Option Value} {σ : am_S} {F : Int32 → am_S → Prop} (h : ((x3 = (-1 : Int32)) → am_is σ (some this) 0) ∧ ∀ w4 : Option Nat, w4 = (if x3 = (-1 : Int32) then (am_fR σ 7 this) else x2) → c_Co_takeIn_206 nl Ln xs (d + 1) this x1 x2 x3 x4 x5 x6 (some this) w4 σ F) : c_Co_takeIn_192 nl Ln xs (d + 1) this x1 x2 x3 x4 x5 x6 σ F := by
  obtain ⟨j192, j193, j194, j195, j198, j199, j202, j205, -⟩ := P_Co_takeIn_192 nl Ln xs
  unfold c_Co_takeIn_192
  refine s_aload_n j192 rfl rfl ?_
  refine s_iload_n j193 rfl rfl ?_
  refine s_iconst j194 rfl kc_ic_m1 ?_
  obtain ⟨ho2, h⟩ := h
  have K3 : ∀ (w4 : Option Nat), w4 = (if x3 = (-1 : Int32) then (am_fR σ 7 this) else x2) → am_C (TT nl Ln xs) (d + 1) 181 206 [some (am_ov (some this)), some (.int x1), some (am_ov x2), some (.int x3), some (.int x4), some (.int x5), x6] [am_ov w4, am_ov (some this)] σ (am_qI F) := by
    intro w4 hw5
    replace h := h w4 hw5
    exact h
  refine s_icn j195 rfl rfl am_cc_ne (fun hc1 => ?_) (fun hc1 => ?_)
  · refine s_aload_n j205 rfl rfl ?_
    exact K3 _ (am_t2 hc1 rfl)
  · refine s_aload_n j198 rfl rfl ?_
    refine s_gfR j199 rfl (ho2 hc1) ?_
    refine s_goto j202 rfl rfl ?_
    exact K3 _ (am_t1 hc1 rfl)
theorem P_Co_takeIn_206 (nl : Bool) (Ln : Nat) (xs : Nat → Int32) : am_Jl (TT nl Ln xs) 181 [(206, .putfield 216, 209, [9, 0, 8, 2]), (209, .aload_n 0, 210, []), (210, .getfield 216, 213, [9, 0, 8, 2]), (213, .invokevirtual 234, 216, [10, 188, 7, 1, 1]), (216, .iload_n 3, 217, []), (217, .iconst (-1), 218, []), (218, .if_icmp .eq 8, 221, []), (221, .bipush (-10), 223, []), (223, .iload_n 3, 224, []), (224, .isub, 225, []), (225, .ireturn, 226, [1]), (226, .aload_n 0, 227, []), (227, .aload_n 2, 228, []), (228, .putfield 56, 231, [9, 0, 7, 2]), (231, .aload_n 0, 232, []), (232, .getfield 12, 235, [9, 0, 0, 2]), (235, .invokevirtual 75, 238, [10, 132, 2, 1, 1]), (238, .iload 4, 240, []), (240, .ireturn, 241, [1])] := dk_ck (by decide +kernel)
set_option maxRecDepth 4096 in
theorem w_Co_takeIn_206 {nl : Bool} {Ln : Nat} {xs : Nat → Int32} {d : Nat} {this : Nat} {x1 : Int32} {x2 : Option Nat} {x3 : Int32} {x4 : Int32} {x5 : Int32} {x6 : Option Value} {y0 : Option Nat} {y1 : Option Nat} {σ : am_S} {F : Int32 → am_S → Prop} (h : (am_is σ y0 0) ∧ ∀ σ2, σ2 = am_sfR σ 8 (y0.getD 0) y1 → (am_is σ2 (some this) 0) ∧ (am_is σ2 (am_fR σ2 8 this) 6) ∧ k_Bk_clear nl Ln xs d ((am_fR σ2 8 this).getD 0) σ2 (fun σ7 => am_ext σ2 σ7 → (x3 = (-1 : Int32) → ∀ σ10, σ10 = am_sfR σ7 7 this x2 → (am_is σ10 (am_fR σ10 0 this) 1) ∧ k_By_clear nl Ln xs d ((am_fR σ10 0 this).getD 0) σ10 (fun σ14 => am_ext σ10 σ14 → F x4 σ14)) ∧ (¬ (x3 = (-1 : Int32)) → F ((-10 : Int32) - x3) σ7))) : c_Co_takeIn_206 nl Ln xs (d + 1) this x1 x2 x3 x4 x5 x6 y0 y1 σ F := by
  obtain ⟨j206, j209, j210, j213, j216, j217, j218, j221, j223, j224, j225, j226, j227, j228, j231, j232, j235, j238, j240, -⟩ := P_Co_takeIn_206 nl Ln xs
  unfold c_Co_takeIn_206
  obtain ⟨ho1, h⟩ := h
  refine s_pfR j206 rfl ho1 (fun σ2 e3 => ?_)
  replace h := h σ2 e3
  have ek4 : am_kd σ2 = am_kd σ := by rw [e3]
  refine s_aload_n j209 rfl rfl ?_
  obtain ⟨ho5, h⟩ := h
  refine s_gfR j210 rfl ho5 ?_
  obtain ⟨ho6, h⟩ := h
  refine s_virt j213 rfl rfl rfl rfl ho6 (by decide) (in_Bk_clear _) (am_r8 rfl) (am_bV h (fun σ7 h hx7 => ?_))
  replace h := h hx7
  refine s_iload_n j216 rfl rfl ?_
  refine s_iconst j217 rfl kc_ic_m1 ?_
  refine s_ic j218 rfl rfl am_cc_eq (fun hc9 => ?_) (fun hc9 => ?_)
  · replace h := h.1 hc9
    refine s_aload_n j226 rfl rfl ?_
    refine s_aload_n j227 rfl rfl ?_
    refine s_pfR j228 rfl (am_is_ext hx7 ho5) (fun σ10 e11 => ?_)
    replace h := h σ10 e11
    have ek12 : am_kd σ10 = am_kd σ7 := by rw [e11]
    refine s_aload_n j231 rfl rfl ?_
    refine s_gfR j232 rfl (am_is_kd ek12 (am_is_ext hx7 ho5)) ?_
    obtain ⟨ho13, h⟩ := h
    refine s_virt j235 rfl rfl rfl rfl ho13 (by decide) (in_By_clear _) (am_r8 rfl) (am_bV h (fun σ14 h hx14 => ?_))
    replace h := h hx14
    refine s_iload j238 rfl rfl ?_
    exact s_retI j240 rfl h
  · replace h := h.2 hc9
    refine s_bipush j221 rfl kc_bi_m10 ?_
    refine s_iload_n j223 rfl rfl ?_
    refine s_g j224 rfl rfl rfl rfl rfl rfl ?_
    exact s_retI j225 rfl h
theorem P_By_startReading (nl : Bool) (Ln : Nat) (xs : Nat → Int32) : am_Jl (TT nl Ln xs) 182 [(0, .aload_n 0, 1, []), (1, .iconst 0, 2, []), (2, .putfield 52, 5, [9, 1, 2, 0]), (5, .aload_n 0, 6, []), (6, .iconst 0, 7, []), (7, .putfield 55, 10, [9, 1, 3, 3]), (10, .return_, 11, [0])] := dk_ck (by decide +kernel)
set_option maxRecDepth 4096 in
theorem w_By_startReading {nl : Bool} {Ln : Nat} {xs : Nat → Int32} {d : Nat} {this : Nat} {σ : am_S} {F : am_S → Prop} (h : (am_is σ (some this) 1) ∧ ∀ σ2, σ2 = am_sfI σ 1002 this (0 : Int32) → ∀ σ5, σ5 = am_sfI σ2 1003 this (0 : Int32) → F σ5) : k_By_startReading nl Ln xs (d + 1) this σ F := by
  obtain ⟨j0, j1, j2, j5, j6, j7, j10, -⟩ := P_By_startReading nl Ln xs
  have elo : am_lo 1 [am_ov (some this)] = [some (am_ov (some this))] := by simp only [am_lo, am_in_ov, am_in_int, am_in_long, am_in_nil]; rfl
  unfold k_By_startReading
  rw [elo]
  refine s_aload_n j0 rfl rfl ?_
  refine s_iconst j1 rfl kc_ic_0 ?_
  obtain ⟨ho1, h⟩ := h
  refine s_pfI j2 rfl ho1 (fun σ2 e3 => ?_)
  replace h := h σ2 e3
  have ek4 : am_kd σ2 = am_kd σ := by rw [e3]
  refine s_aload_n j5 rfl rfl ?_
  refine s_iconst j6 rfl kc_ic_0 ?_
  refine s_pfZ j7 rfl (am_is_kd ek4 ho1) (Or.inl rfl) (fun σ5 e6 => ?_)
  replace h := h σ5 e6
  have ek7 : am_kd σ5 = am_kd σ2 := by rw [e6]
  exact s_retV j10 rfl h
theorem P_Co_readDeed (nl : Bool) (Ln : Nat) (xs : Nat → Int32) : am_Jl (TT nl Ln xs) 183 [(0, .aload_n 0, 1, []), (1, .getfield 12, 4, [9, 0, 0, 2]), (4, .iload_n 1, 5, []), (5, .invokevirtual 287, 8, [10, 184, 2, 6, 2]), (8, .lstore_n 2, 9, []), (9, .aload_n 0, 10, []), (10, .getfield 12, 13, [9, 0, 0, 2]), (13, .getfield 291, 16, [9, 1, 3, 3]), (16, .ifCond .ne 17, 19, []), (19, .lload_n 2, 20, []), (20, .lconst 1, 21, []), (21, .lcmp, 22, []), (22, .ifCond .lt 11, 25, []), (25, .lload_n 2, 26, []), (26, .ldc2_w 294, 29, [6, 22]), (29, .lcmp, 30, []), (30, .ifCond .le 5, 33, []), (33, .iconst 0, 34, []), (34, .ireturn, 35, [4]), (35, .aload_n 0, 36, []), (36, .lload_n 2, 37, []), (37, .l2i, 38, []), (38, .lconst 0, 39, []), (39, .lconst 0, 40, []), (40, .lconst 0, 41, []), (41, .lconst 0, 42, []), (42, .invokevirtual 67, 45, [10, 8, 1, 10, 6]), (45, .iconst 0, 46, []), (46, .istore 4, 48, [])] := dk_ck (by decide +kernel)
set_option maxRecDepth 4096 in
theorem w_Co_readDeed {nl : Bool} {Ln : Nat} {xs : Nat → Int32} {d : Nat} {this : Nat} {p0 : Int32} {σ : am_S} {F : Bool → am_S → Prop} (h : (am_is σ (some this) 0) ∧ (am_is σ (am_fR σ 0 this) 1) ∧ k_By_readNumber nl Ln xs d ((am_fR σ 0 this).getD 0) p0 σ (fun a4 σ3 => am_ext σ σ3 → (am_is σ3 (am_fR σ3 0 this) 1) ∧ ((am_fI σ3 1003 ((am_fR σ3 0 this).getD 0)) = 0 → (a4 < (1 : Int64) → F false σ3) ∧ (¬ (a4 < (1 : Int64)) → ((22 : Int64) < a4 → F false σ3) ∧ (¬ ((22 : Int64) < a4) → k_Co_fill nl Ln xs d this a4.toInt32 (0 : Int64) (0 : Int64) (0 : Int64) (0 : Int64) σ3 (fun σ9 => am_ext σ3 σ9 → c_Co_readDeed_48 nl Ln xs (d + 1) this p0 a4 (0 : Int32) none none none σ9 F)))) ∧ (¬ ((am_fI σ3 1003 ((am_fR σ3 0 this).getD 0)) = 0) → F false σ3))) : k_Co_readDeed nl Ln xs (d + 1) this p0 σ F := by
  obtain ⟨j0, j1, j4, j5, j8, j9, j10, j13, j16, j19, j20, j21, j22, j25, j26, j29, j30, j33, j34, j35, j36, j37, j38, j39, j40, j41, j42, j45, j46, -⟩ := P_Co_readDeed nl Ln xs
  have elo : am_lo 8 [am_ov (some this), .int p0] = [some (am_ov (some this)), some (.int p0), none, none, none, none, none, none] := by simp only [am_lo, am_in_ov, am_in_int, am_in_long, am_in_nil]; rfl
  unfold k_Co_readDeed
  rw [elo]
  refine s_aload_n j0 rfl rfl ?_
  obtain ⟨ho1, h⟩ := h
  refine s_gfR j1 rfl ho1 ?_
  refine s_iload_n j4 rfl rfl ?_
  obtain ⟨ho2, h⟩ := h
  refine s_virt j5 rfl rfl rfl rfl ho2 (by decide) (in_By_readNumber _ _) (am_r8 rfl) (am_bL h (fun a4 σ3 h hx3 => ?_))
  replace h := h hx3
  refine s_lstore_n j8 rfl (n := 8) (L' := [some (am_ov (some this)), some (.int p0), some (.long a4), none, none, none, none, none]) rfl (by decide) rfl ?_
  refine s_aload_n j9 rfl rfl ?_
  refine s_gfR j10 rfl (am_is_ext hx3 ho1) ?_
  obtain ⟨ho5, h⟩ := h
  refine s_gfZ j13 rfl ho5 ?_
  refine s_ifn j16 rfl rfl am_cc_ne (fun hc6 => ?_) (fun hc6 => ?_)
  · replace h := h.2 hc6
    refine s_iconst j33 rfl kc_ic_0 ?_
    exact s_retZ0 j34 rfl h
  · replace h := h.1 hc6
    refine s_lload_n j19 rfl rfl ?_
    refine s_lconst j20 rfl rfl ?_
    refine s_g j21 rfl rfl rfl rfl rfl rfl ?_
    refine s_if j22 rfl rfl am_cl_lt (fun hc7 => ?_) (fun hc7 => ?_)
    · replace h := h.1 hc7
      refine s_iconst j33 rfl kc_ic_0 ?_
      exact s_retZ0 j34 rfl h
    · replace h := h.2 hc7
      refine s_lload_n j25 rfl rfl ?_
      refine s_ldc2 j26 rfl kc_ll_22 ?_
      refine s_g j29 rfl rfl rfl rfl rfl rfl ?_
      refine s_ifn j30 rfl rfl am_cl_le (fun hc8 => ?_) (fun hc8 => ?_)
      · replace h := h.2 hc8
        refine s_aload_n j35 rfl rfl ?_
        refine s_lload_n j36 rfl rfl ?_
        refine s_g j37 rfl rfl rfl rfl rfl rfl ?_
        refine s_lconst j38 rfl rfl ?_
        refine s_lconst j39 rfl rfl ?_
        refine s_lconst j40 rfl rfl ?_
        refine s_lconst j41 rfl rfl ?_
        refine s_virt j42 rfl rfl rfl rfl (am_is_ext hx3 ho1) (by decide) (in_Co_fill _ _ _ _ _ _) (am_r8 rfl) (am_bV h (fun σ9 h hx9 => ?_))
        replace h := h hx9
        refine s_iconst j45 rfl kc_ic_0 ?_
        refine s_istore j46 rfl (n := 8) (L' := [some (am_ov (some this)), some (.int p0), some (.long a4), none, some (.int (0 : Int32)), none, none, none]) rfl (by decide) rfl ?_
        exact h
      · replace h := h.1 hc8
        refine s_iconst j33 rfl kc_ic_0 ?_
        exact s_retZ0 j34 rfl h
theorem P_Co_readDeed_48 (nl : Bool) (Ln : Nat) (xs : Nat → Int32) : am_Jl (TT nl Ln xs) 183 [(48, .iload 4, 50, []), (50, .getstatic 296, 53, [7, 506, 0]), (53, .lload_n 2, 54, []), (54, .l2i, 55, []), (55, .iaload, 56, []), (56, .if_icmp .ge 79, 59, []), (59, .aload_n 0, 60, []), (60, .getfield 12, 63, [9, 0, 0, 2]), (63, .iload_n 1, 64, []), (64, .invokevirtual 287, 67, [10, 184, 2, 6, 2]), (67, .lstore 5, 69, []), (69, .lload 5, 71, []), (71, .lload 5, 73, []), (73, .l2i, 74, []), (74, .i2l, 75, []), (75, .lcmp, 76, []), (76, .ifCond .eq 18, 79, []), (79, .getstatic 299, 82, [7, 507, 0]), (82, .lload_n 2, 83, []), (83, .l2i, 84, []), (84, .iaload, 85, []), (85, .iload 4, 87, []), (87, .ishr, 88, []), (88, .iconst 1, 89, []), (89, .iand, 90, []), (90, .iconst 1, 91, []), (91, .if_icmp .ne 7, 94, []), (94, .iconst 1, 95, []), (95, .goto 4, 98, []), (98, .iconst 0, 99, []), (135, .lload_n 2, 136, []), (136, .ldc2_w 302, 139, [6, 6]), (139, .lcmp, 140, []), (140, .ifCond .ne 11, 143, []), (143, .aload_n 0, 144, []), (144, .iload_n 1, 145, []), (145, .invokevirtual 304, 148, [10, 185, 1, 7, 2]), (148, .ifCond .eq 7, 151, []), (151, .iconst 1, 152, []), (152, .goto 4, 155, []), (155, .iconst 0, 156, []), (156, .ireturn, 157, [4])] := dk_ck (by decide +kernel)
set_option maxRecDepth 4096 in
theorem w_Co_readDeed_48 {nl : Bool} {Ln : Nat} {xs : Nat → Int32} {d : Nat} {this : Nat} {x1 : Int32} {x2 : Int64} {x4 : Int32} {x5 : Option Value} {x6 : Option Value} {x7 : Option Value} {σ : am_S} {F : Bool → am_S → Prop} (h : ((am_kd σ 506).1 = 0) ∧ (0 ≤ x2.toInt32.toInt) ∧ (x2.toInt32.toInt < am_rl (am_tz (TT nl Ln xs)) 506) ∧ (x4 < (am_rv (am_tz (TT nl Ln xs)) 506 x2.toInt32.toNatClampNeg) → (am_is σ (some this) 0) ∧ (am_is σ (am_fR σ 0 this) 1) ∧ k_By_readNumber nl Ln xs d ((am_fR σ 0 this).getD 0) x1 σ (fun a8 σ7 => am_ext σ σ7 → (¬ (a8 = a8.toInt32.toInt64) → (am_kd σ7 507).1 = 0) ∧ (¬ (a8 = a8.toInt32.toInt64) → 0 ≤ x2.toInt32.toInt) ∧ (¬ (a8 = a8.toInt32.toInt64) → x2.toInt32.toInt < am_rl (am_tz (TT nl Ln xs)) 507) ∧ c_Co_readDeed_99 nl Ln xs (d + 1) this x1 x2 x4 a8 x7 (if (a8 = a8.toInt32.toInt64) ∨ ((((am_rv (am_tz (TT nl Ln xs)) 507 x2.toInt32.toNatClampNeg) >>> (x4 &&& 31)) &&& (1 : Int32)) = (1 : Int32)) then (1 : Int32) else 0) σ7 F)) ∧ (¬ (x4 < (am_rv (am_tz (TT nl Ln xs)) 506 x2.toInt32.toNatClampNeg)) → (x2 = (6 : Int64) → (am_is σ (some this) 0) ∧ k_Co_readText nl Ln xs d this x1 σ (fun a20 σ19 => am_ext σ σ19 → F (decide (a20 = true)) σ19)) ∧ (¬ (x2 = (6 : Int64)) → F true σ))) : c_Co_readDeed_48 nl Ln xs (d + 1) this x1 x2 x4 x5 x6 x7 σ F := by
  obtain ⟨j48, j50, j53, j54, j55, j56, j59, j60, j63, j64, j67, j69, j71, j73, j74, j75, j76, j79, j82, j83, j84, j85, j87, j88, j89, j90, j91, j94, j95, j98, j135, j136, j139, j140, j143, j144, j145, j148, j151, j152, j155, j156, -⟩ := P_Co_readDeed_48 nl Ln xs
  unfold c_Co_readDeed_48
  refine s_iload j48 rfl rfl ?_
  refine s_static j50 rfl ?_
  refine s_lload_n j53 rfl rfl ?_
  refine s_g j54 rfl rfl rfl rfl rfl rfl ?_
  obtain ⟨ho1, h⟩ := h
  obtain ⟨ho2, h⟩ := h
  obtain ⟨ho3, h⟩ := h
  refine s_ialoadR j55 rfl (by decide) ho1 rfl ho2 ho3 ?_
  refine s_icn j56 rfl rfl am_cc_ge (fun hc4 => ?_) (fun hc4 => ?_)
  · replace h := h.2 hc4
    refine s_lload_n j135 rfl rfl ?_
    refine s_ldc2 j136 rfl kc_ll_6 ?_
    refine s_g j139 rfl rfl rfl rfl rfl rfl ?_
    refine s_ifn j140 rfl rfl am_cl_ne (fun hc17 => ?_) (fun hc17 => ?_)
    · replace h := h.2 hc17
      refine s_iconst j151 rfl kc_ic_1 ?_
      refine s_goto j152 rfl rfl ?_
      exact s_retZ1 j156 rfl h
    · replace h := h.1 hc17
      refine s_aload_n j143 rfl rfl ?_
      refine s_iload_n j144 rfl rfl ?_
      obtain ⟨ho18, h⟩ := h
      refine s_virt j145 rfl rfl rfl rfl ho18 (by decide) (in_Co_readText _ _) (am_r8 rfl) (am_bB h (fun a20 σ19 h hx19 => ?_))
      replace h := h hx19
      have K22 : ∀ (w23 : Int32), w23 = (if a20 = true then (1 : Int32) else 0) → am_C (TT nl Ln xs) (d + 1) 183 156 [some (am_ov (some this)), some (.int x1), some (.long x2), none, some (.int x4), x5, x6, x7] [.int w23] σ19 (am_qB F) := by
        intro w23 hw24
        subst hw24
        exact s_retZ j156 rfl h
      refine s_ifn j148 rfl rfl am_cb_eq (fun hc21 => ?_) (fun hc21 => ?_)
      · refine s_iconst j155 rfl kc_ic_0 ?_
        exact K22 _ (am_e0 (Iff.trans Iff.rfl (am_p10 hc21)))
      · refine s_iconst j151 rfl kc_ic_1 ?_
        refine s_goto j152 rfl rfl ?_
        exact K22 _ (am_e1 (Iff.trans Iff.rfl (am_p9 hc21)))
  · replace h := h.1 hc4
    refine s_aload_n j59 rfl rfl ?_
    obtain ⟨ho5, h⟩ := h
    refine s_gfR j60 rfl ho5 ?_
    refine s_iload_n j63 rfl rfl ?_
    obtain ⟨ho6, h⟩ := h
    refine s_virt j64 rfl rfl rfl rfl ho6 (by decide) (in_By_readNumber _ _) (am_r8 rfl) (am_bL h (fun a8 σ7 h hx7 => ?_))
    replace h := h hx7
    refine s_lstore j67 rfl (n := 8) (L' := [some (am_ov (some this)), some (.int x1), some (.long x2), none, some (.int x4), some (.long a8), none, x7]) rfl (by decide) rfl ?_
    refine s_lload j69 rfl rfl ?_
    refine s_lload j71 rfl rfl ?_
    refine s_g j73 rfl rfl rfl rfl rfl rfl ?_
    refine s_g j74 rfl rfl rfl rfl rfl rfl ?_
    refine s_g j75 rfl rfl rfl rfl rfl rfl ?_
    obtain ⟨ho10, h⟩ := h
    obtain ⟨ho11, h⟩ := h
    obtain ⟨ho12, h⟩ := h
    have K14 : ∀ (w15 : Int32), w15 = (if (a8 = a8.toInt32.toInt64) ∨ ((((am_rv (am_tz (TT nl Ln xs)) 507 x2.toInt32.toNatClampNeg) >>> (x4 &&& 31)) &&& (1 : Int32)) = (1 : Int32)) then (1 : Int32) else 0) → am_C (TT nl Ln xs) (d + 1) 183 99 [some (am_ov (some this)), some (.int x1), some (.long x2), none, some (.int x4), some (.long a8), none, x7] [.int w15] σ7 (am_qB F) := by
      intro w15 hw16
      subst hw16
      exact h
    refine s_if j76 rfl rfl am_cl_eq (fun hc9 => ?_) (fun hc9 => ?_)
    · refine s_iconst j94 rfl kc_ic_1 ?_
      refine s_goto j95 rfl rfl ?_
      exact K14 _ (am_e1 (Iff.trans Iff.rfl (am_p3 hc9)))
    · refine s_static j79 rfl ?_
      refine s_lload_n j82 rfl rfl ?_
      refine s_g j83 rfl rfl rfl rfl rfl rfl ?_
      refine s_ialoadR j84 rfl (by decide) (ho10 hc9) rfl (ho11 hc9) (ho12 hc9) ?_
      refine s_iload j85 rfl rfl ?_
      refine s_g j87 rfl rfl rfl rfl rfl rfl ?_
      refine s_iconst j88 rfl kc_ic_1 ?_
      refine s_g j89 rfl rfl rfl rfl rfl rfl ?_
      refine s_iconst j90 rfl kc_ic_1 ?_
      refine s_icn j91 rfl rfl am_cc_ne (fun hc13 => ?_) (fun hc13 => ?_)
      · refine s_iconst j98 rfl kc_ic_0 ?_
        exact K14 _ (am_e0 (am_p4 hc9 (Iff.trans Iff.rfl (am_p10 hc13))))
      · refine s_iconst j94 rfl kc_ic_1 ?_
        refine s_goto j95 rfl rfl ?_
        exact K14 _ (am_e1 (am_p4 hc9 (Iff.trans Iff.rfl (am_p9 hc13))))
theorem P_Co_readDeed_99 (nl : Bool) (Ln : Nat) (xs : Nat → Int32) : am_Jl (TT nl Ln xs) 183 [(99, .istore 7, 101, []), (101, .aload_n 0, 102, []), (102, .getfield 12, 105, [9, 0, 0, 2]), (105, .getfield 291, 108, [9, 1, 3, 3]), (108, .ifCond .ne 8, 111, []), (111, .iload 7, 113, []), (113, .ifCond .ne 5, 116, []), (116, .iconst 0, 117, []), (117, .ireturn, 118, [4]), (118, .aload_n 0, 119, []), (119, .getfield 24, 122, [9, 0, 3, 2]), (122, .iload 4, 124, []), (124, .iconst 1, 125, []), (125, .iadd, 126, []), (126, .lload 5, 128, []), (128, .lastore, 129, []), (129, .iinc 4 1, 132, []), (132, .goto (-84), 135, [])] := dk_ck (by decide +kernel)
set_option maxRecDepth 4096 in
theorem w_Co_readDeed_99 {nl : Bool} {Ln : Nat} {xs : Nat → Int32} {d : Nat} {this : Nat} {x1 : Int32} {x2 : Int64} {x4 : Int32} {x5 : Int64} {x7 : Option Value} {y0 : Int32} {σ : am_S} {F : Bool → am_S → Prop} (h : (am_is σ (some this) 0) ∧ (am_is σ (am_fR σ 0 this) 1) ∧ ((am_fI σ 1003 ((am_fR σ 0 this).getD 0)) = 0 → (y0 = 0 → F false σ) ∧ (¬ (y0 = 0) → (am_ar σ 1001 (am_fR σ 3 this) (x4 + (1 : Int32))) ∧ ∀ σ6, σ6 = am_saL σ ((am_fR σ 3 this).getD 0) (x4 + (1 : Int32)).toNatClampNeg x5 → c_Co_readDeed_48 nl Ln xs (d + 1) this x1 x2 (x4 + (1 : Int32)) (some (.long x5)) none (some (.int y0)) σ6 F)) ∧ (¬ ((am_fI σ 1003 ((am_fR σ 0 this).getD 0)) = 0) → F false σ)) : c_Co_readDeed_99 nl Ln xs (d + 1) this x1 x2 x4 x5 x7 y0 σ F := by
  obtain ⟨j99, j101, j102, j105, j108, j111, j113, j116, j117, j118, j119, j122, j124, j125, j126, j128, j129, j132, -⟩ := P_Co_readDeed_99 nl Ln xs
  unfold c_Co_readDeed_99
  refine s_istore j99 rfl (n := 8) (L' := [some (am_ov (some this)), some (.int x1), some (.long x2), none, some (.int x4), some (.long x5), none, some (.int y0)]) rfl (by decide) rfl ?_
  refine s_aload_n j101 rfl rfl ?_
  obtain ⟨ho1, h⟩ := h
  refine s_gfR j102 rfl ho1 ?_
  obtain ⟨ho2, h⟩ := h
  refine s_gfZ j105 rfl ho2 ?_
  refine s_ifn j108 rfl rfl am_cc_ne (fun hc3 => ?_) (fun hc3 => ?_)
  · replace h := h.2 hc3
    refine s_iconst j116 rfl kc_ic_0 ?_
    exact s_retZ0 j117 rfl h
  · replace h := h.1 hc3
    refine s_iload j111 rfl rfl ?_
    refine s_ifn j113 rfl rfl am_cc_ne (fun hc4 => ?_) (fun hc4 => ?_)
    · replace h := h.2 hc4
      refine s_aload_n j118 rfl rfl ?_
      refine s_gfR j119 rfl ho1 ?_
      refine s_iload j122 rfl rfl ?_
      refine s_iconst j124 rfl kc_ic_1 ?_
      refine s_g j125 rfl rfl rfl rfl rfl rfl ?_
      refine s_lload j126 rfl rfl ?_
      obtain ⟨ho5, h⟩ := h
      refine s_lastore j128 rfl ho5 (fun σ6 e7 => ?_)
      replace h := h σ6 e7
      have ek8 : am_kd σ6 = am_kd σ := by rw [e7]
      refine s_iinc (L' := [some (am_ov (some this)), some (.int x1), some (.long x2), none, some (.int (x4 + (1 : Int32))), some (.long x5), none, some (.int y0)]) j129 rfl rfl kc_ic_1 rfl ?_
      refine s_goto j132 rfl rfl ?_
      exact h
    · replace h := h.1 hc4
      refine s_iconst j116 rfl kc_ic_0 ?_
      exact s_retZ0 j117 rfl h
theorem P_By_readNumber (nl : Bool) (Ln : Nat) (xs : Nat → Int32) : am_Jl (TT nl Ln xs) 184 [(0, .lconst 0, 1, []), (1, .lstore_n 2, 2, []), (2, .iconst 0, 3, []), (3, .istore 4, 5, [])] := dk_ck (by decide +kernel)
set_option maxRecDepth 4096 in
theorem w_By_readNumber {nl : Bool} {Ln : Nat} {xs : Nat → Int32} {d : Nat} {this : Nat} {p0 : Int32} {σ : am_S} {F : Int64 → am_S → Prop} (h : c_By_readNumber_5 nl Ln xs (d + 1) this p0 (0 : Int64) (0 : Int32) none σ F) : k_By_readNumber nl Ln xs (d + 1) this p0 σ F := by
  obtain ⟨j0, j1, j2, j3, -⟩ := P_By_readNumber nl Ln xs
  have elo : am_lo 6 [am_ov (some this), .int p0] = [some (am_ov (some this)), some (.int p0), none, none, none, none] := by simp only [am_lo, am_in_ov, am_in_int, am_in_long, am_in_nil]; rfl
  unfold k_By_readNumber
  rw [elo]
  refine s_lconst j0 rfl rfl ?_
  refine s_lstore_n j1 rfl (n := 6) (L' := [some (am_ov (some this)), some (.int p0), some (.long (0 : Int64)), none, none, none]) rfl (by decide) rfl ?_
  refine s_iconst j2 rfl kc_ic_0 ?_
  refine s_istore j3 rfl (n := 6) (L' := [some (am_ov (some this)), some (.int p0), some (.long (0 : Int64)), none, some (.int (0 : Int32)), none]) rfl (by decide) rfl ?_
  exact h
theorem P_By_readNumber_5 (nl : Bool) (Ln : Nat) (xs : Nat → Int32) : am_Jl (TT nl Ln xs) 184 [(5, .iload 4, 7, []), (7, .bipush 10, 9, []), (9, .if_icmp .ge 127, 12, []), (12, .aload_n 0, 13, []), (13, .getfield 52, 16, [9, 1, 2, 0]), (16, .iload_n 1, 17, []), (17, .if_icmp .ge 119, 20, []), (20, .aload_n 0, 21, []), (21, .getfield 52, 24, [9, 1, 2, 0]), (24, .aload_n 0, 25, []), (25, .getfield 15, 28, [9, 1, 1, 0]), (28, .if_icmp .ge 108, 31, []), (31, .aload_n 0, 32, []), (32, .getfield 9, 35, [9, 1, 0, 2]), (35, .aload_n 0, 36, []), (36, .getfield 52, 39, [9, 1, 2, 0]), (39, .baload, 40, []), (40, .sipush 255, 43, []), (43, .iand, 44, []), (44, .istore 5, 46, []), (46, .aload_n 0, 47, []), (47, .dup, 48, []), (48, .getfield 52, 51, [9, 1, 2, 0]), (51, .iconst 1, 52, []), (52, .iadd, 53, []), (53, .putfield 52, 56, [9, 1, 2, 0]), (56, .iload 4, 58, []), (58, .bipush 9, 60, []), (60, .if_icmp .ne 12, 63, []), (63, .iload 5, 65, []), (65, .iconst 1, 66, []), (66, .if_icmp .le 6, 69, []), (69, .goto 67, 72, []), (136, .aload_n 0, 137, []), (137, .iconst 1, 138, []), (138, .putfield 55, 141, [9, 1, 3, 3]), (141, .lconst 0, 142, []), (142, .lreturn, 143, [2])] := dk_ck (by decide +kernel)
set_option maxRecDepth 4096 in
theorem w_By_readNumber_5 {nl : Bool} {Ln : Nat} {xs : Nat → Int32} {d : Nat} {this : Nat} {x1 : Int32} {x2 : Int64} {x4 : Int32} {x5 : Option Value} {σ : am_S} {F : Int64 → am_S → Prop} (h : (x4 < (10 : Int32) → (am_is σ (some this) 1) ∧ ((am_fI σ 1002 this) < x1 → ((am_fI σ 1002 this) < (am_fI σ 1001 this) → (am_ar σ 1002 (am_fR σ 1000 this) (am_fI σ 1002 this)) ∧ ∀ v6 : Int32, v6 = ((am_aI σ ((am_fR σ 1000 this).getD 0) (am_fI σ 1002 this).toNatClampNeg) &&& (255 : Int32)) → ∀ σ8, σ8 = am_sfI σ 1002 this ((am_fI σ 1002 this) + (1 : Int32)) → (x4 = (9 : Int32) → ((1 : Int32) < v6 → ∀ σ13, σ13 = am_sfI σ8 1003 this (1 : Int32) → F (0 : Int64) σ13) ∧ (¬ ((1 : Int32) < v6) → c_By_readNumber_72 nl Ln xs (d + 1) this x1 x2 x4 v6 σ8 F)) ∧ (¬ (x4 = (9 : Int32)) → c_By_readNumber_72 nl Ln xs (d + 1) this x1 x2 x4 v6 σ8 F)) ∧ (¬ ((am_fI σ 1002 this) < (am_fI σ 1001 this)) → ∀ σ16, σ16 = am_sfI σ 1003 this (1 : Int32) → F (0 : Int64) σ16)) ∧ (¬ ((am_fI σ 1002 this) < x1) → ∀ σ19, σ19 = am_sfI σ 1003 this (1 : Int32) → F (0 : Int64) σ19)) ∧ (¬ (x4 < (10 : Int32)) → (am_is σ (some this) 1) ∧ ∀ σ23, σ23 = am_sfI σ 1003 this (1 : Int32) → F (0 : Int64) σ23)) : c_By_readNumber_5 nl Ln xs (d + 1) this x1 x2 x4 x5 σ F := by
  obtain ⟨j5, j7, j9, j12, j13, j16, j17, j20, j21, j24, j25, j28, j31, j32, j35, j36, j39, j40, j43, j44, j46, j47, j48, j51, j52, j53, j56, j58, j60, j63, j65, j66, j69, j136, j137, j138, j141, j142, -⟩ := P_By_readNumber_5 nl Ln xs
  unfold c_By_readNumber_5
  refine s_iload j5 rfl rfl ?_
  refine s_bipush j7 rfl kc_bi_10 ?_
  refine s_icn j9 rfl rfl am_cc_ge (fun hc1 => ?_) (fun hc1 => ?_)
  · replace h := h.2 hc1
    refine s_aload_n j136 rfl rfl ?_
    refine s_iconst j137 rfl kc_ic_1 ?_
    obtain ⟨ho22, h⟩ := h
    refine s_pfZ j138 rfl ho22 (Or.inr rfl) (fun σ23 e24 => ?_)
    replace h := h σ23 e24
    have ek25 : am_kd σ23 = am_kd σ := by rw [e24]
    refine s_lconst j141 rfl rfl ?_
    exact s_retL j142 rfl h
  · replace h := h.1 hc1
    refine s_aload_n j12 rfl rfl ?_
    obtain ⟨ho2, h⟩ := h
    refine s_gfI j13 rfl ho2 ?_
    refine s_iload_n j16 rfl rfl ?_
    refine s_icn j17 rfl rfl am_cc_ge (fun hc3 => ?_) (fun hc3 => ?_)
    · replace h := h.2 hc3
      refine s_aload_n j136 rfl rfl ?_
      refine s_iconst j137 rfl kc_ic_1 ?_
      refine s_pfZ j138 rfl ho2 (Or.inr rfl) (fun σ19 e20 => ?_)
      replace h := h σ19 e20
      have ek21 : am_kd σ19 = am_kd σ := by rw [e20]
      refine s_lconst j141 rfl rfl ?_
      exact s_retL j142 rfl h
    · replace h := h.1 hc3
      refine s_aload_n j20 rfl rfl ?_
      refine s_gfI j21 rfl ho2 ?_
      refine s_aload_n j24 rfl rfl ?_
      refine s_gfI j25 rfl ho2 ?_
      refine s_icn j28 rfl rfl am_cc_ge (fun hc4 => ?_) (fun hc4 => ?_)
      · replace h := h.2 hc4
        refine s_aload_n j136 rfl rfl ?_
        refine s_iconst j137 rfl kc_ic_1 ?_
        refine s_pfZ j138 rfl ho2 (Or.inr rfl) (fun σ16 e17 => ?_)
        replace h := h σ16 e17
        have ek18 : am_kd σ16 = am_kd σ := by rw [e17]
        refine s_lconst j141 rfl rfl ?_
        exact s_retL j142 rfl h
      · replace h := h.1 hc4
        refine s_aload_n j31 rfl rfl ?_
        refine s_gfR j32 rfl ho2 ?_
        refine s_aload_n j35 rfl rfl ?_
        refine s_gfI j36 rfl ho2 ?_
        obtain ⟨ho5, h⟩ := h
        refine s_baload (k := 1002) (by decide) j39 rfl ho5 ?_
        refine s_sipush j40 rfl kc_si_255 ?_
        refine s_g j43 rfl rfl rfl rfl rfl rfl ?_
        refine s_istoreV j44 rfl (n := 6) (L' := fun w => [some (am_ov (some this)), some (.int x1), some (.long x2), none, some (.int x4), some (.int w)]) rfl (by decide) (fun _ => rfl) (fun v6 hv7 => ?_)
        replace h := h v6 hv7
        refine s_aload_n j46 rfl rfl ?_
        refine s_dup j47 rfl (am_cov _) ?_
        refine s_gfI j48 rfl ho2 ?_
        refine s_iconst j51 rfl kc_ic_1 ?_
        refine s_g j52 rfl rfl rfl rfl rfl rfl ?_
        refine s_pfI j53 rfl ho2 (fun σ8 e9 => ?_)
        replace h := h σ8 e9
        have ek10 : am_kd σ8 = am_kd σ := by rw [e9]
        refine s_iload j56 rfl rfl ?_
        refine s_bipush j58 rfl kc_bi_9 ?_
        refine s_icn j60 rfl rfl am_cc_ne (fun hc11 => ?_) (fun hc11 => ?_)
        · replace h := h.2 hc11
          exact h
        · replace h := h.1 hc11
          refine s_iload j63 rfl rfl ?_
          refine s_iconst j65 rfl kc_ic_1 ?_
          refine s_icn j66 rfl rfl am_cc_le (fun hc12 => ?_) (fun hc12 => ?_)
          · replace h := h.2 hc12
            exact h
          · replace h := h.1 hc12
            refine s_goto j69 rfl rfl ?_
            refine s_aload_n j136 rfl rfl ?_
            refine s_iconst j137 rfl kc_ic_1 ?_
            refine s_pfZ j138 rfl (am_is_kd ek10 ho2) (Or.inr rfl) (fun σ13 e14 => ?_)
            replace h := h σ13 e14
            have ek15 : am_kd σ13 = am_kd σ8 := by rw [e14]
            refine s_lconst j141 rfl rfl ?_
            exact s_retL j142 rfl h
theorem P_By_readNumber_72 (nl : Bool) (Ln : Nat) (xs : Nat → Int32) : am_Jl (TT nl Ln xs) 184 [(72, .lload_n 2, 73, []), (73, .iload 5, 75, []), (75, .bipush 127, 77, []), (77, .iand, 78, []), (78, .i2l, 79, []), (79, .bipush 7, 81, []), (81, .iload 4, 83, []), (83, .imul, 84, []), (84, .lshl, 85, []), (85, .lor, 86, []), (86, .lstore_n 2, 87, []), (87, .iload 5, 89, []), (89, .sipush 128, 92, []), (92, .if_icmp .ge 38, 95, []), (95, .aload_n 0, 96, []), (96, .aload_n 0, 97, []), (97, .getfield 55, 100, [9, 1, 3, 3]), (100, .ifCond .ne 13, 103, []), (103, .iload 5, 105, []), (105, .ifCond .ne 12, 108, []), (108, .iload 4, 110, []), (110, .ifCond .le 7, 113, []), (113, .iconst 1, 114, []), (114, .goto 4, 117, []), (117, .iconst 0, 118, []), (118, .putfield 55, 121, [9, 1, 3, 3]), (121, .lload_n 2, 122, []), (122, .iconst 1, 123, []), (123, .lushr, 124, []), (124, .lload_n 2, 125, []), (125, .lconst 1, 126, []), (126, .land, 127, []), (127, .lneg, 128, []), (128, .lxor, 129, []), (129, .lreturn, 130, [2]), (130, .iinc 4 1, 133, []), (133, .goto (-128), 136, [])] := dk_ck (by decide +kernel)
set_option maxRecDepth 4096 in
theorem w_By_readNumber_72 {nl : Bool} {Ln : Nat} {xs : Nat → Int32} {d : Nat} {this : Nat} {x1 : Int32} {x2 : Int64} {x4 : Int32} {x5 : Int32} {σ : am_S} {F : Int64 → am_S → Prop} (h : ∀ v1 : Int64, v1 = (x2 ||| ((x5 &&& (127 : Int32)).toInt64 <<< (((7 : Int32) * x4).toInt64 &&& 63))) → (x5 < (128 : Int32) → (am_is σ (some this) 1) ∧ ∀ σ11, σ11 = am_sfI σ 1003 this (if ¬ ((am_fI σ 1003 this) = 0) ∨ ((x5 = 0) ∧ (0 < x4)) then (1 : Int32) else 0) → F (((v1.toUInt64 >>> ((1 : Int32).toInt64.toUInt64 &&& Int64.toUInt64 63)).toInt64) ^^^ (-(v1 &&& (1 : Int64)))) σ11) ∧ (¬ (x5 < (128 : Int32)) → c_By_readNumber_5 nl Ln xs (d + 1) this x1 v1 (x4 + (1 : Int32)) (some (.int x5)) σ F)) : c_By_readNumber_72 nl Ln xs (d + 1) this x1 x2 x4 x5 σ F := by
  obtain ⟨j72, j73, j75, j77, j78, j79, j81, j83, j84, j85, j86, j87, j89, j92, j95, j96, j97, j100, j103, j105, j108, j110, j113, j114, j117, j118, j121, j122, j123, j124, j125, j126, j127, j128, j129, j130, j133, -⟩ := P_By_readNumber_72 nl Ln xs
  unfold c_By_readNumber_72
  refine s_lload_n j72 rfl rfl ?_
  refine s_iload j73 rfl rfl ?_
  refine s_bipush j75 rfl kc_bi_127 ?_
  refine s_g j77 rfl rfl rfl rfl rfl rfl ?_
  refine s_g j78 rfl rfl rfl rfl rfl rfl ?_
  refine s_bipush j79 rfl kc_bi_7 ?_
  refine s_iload j81 rfl rfl ?_
  refine s_g j83 rfl rfl rfl rfl rfl rfl ?_
  refine s_g j84 rfl rfl rfl rfl rfl rfl ?_
  refine s_g j85 rfl rfl rfl rfl rfl rfl ?_
  refine s_lstore_nV j86 rfl (n := 6) (L' := fun w => [some (am_ov (some this)), some (.int x1), some (.long w), none, some (.int x4), some (.int x5)]) rfl (by decide) (fun _ => rfl) (fun v1 hv2 => ?_)
  replace h := h v1 hv2
  refine s_iload j87 rfl rfl ?_
  refine s_sipush j89 rfl kc_si_128 ?_
  refine s_icn j92 rfl rfl am_cc_ge (fun hc3 => ?_) (fun hc3 => ?_)
  · replace h := h.2 hc3
    refine s_iinc (L' := [some (am_ov (some this)), some (.int x1), some (.long v1), none, some (.int (x4 + (1 : Int32))), some (.int x5)]) j130 rfl rfl kc_ic_1 rfl ?_
    refine s_goto j133 rfl rfl ?_
    exact h
  · replace h := h.1 hc3
    refine s_aload_n j95 rfl rfl ?_
    refine s_aload_n j96 rfl rfl ?_
    obtain ⟨ho4, h⟩ := h
    refine s_gfZ j97 rfl ho4 ?_
    have K8 : ∀ (w9 : Int32), w9 = (if ¬ ((am_fI σ 1003 this) = 0) ∨ ((x5 = 0) ∧ (0 < x4)) then (1 : Int32) else 0) → am_C (TT nl Ln xs) (d + 1) 184 118 [some (am_ov (some this)), some (.int x1), some (.long v1), none, some (.int x4), some (.int x5)] [.int w9, am_ov (some this)] σ (am_qL F) := by
      intro w9 hw10
      subst hw10
      refine s_pfZ j118 rfl ho4 am_b01 (fun σ11 e12 => ?_)
      replace h := h σ11 e12
      have ek13 : am_kd σ11 = am_kd σ := by rw [e12]
      refine s_lload_n j121 rfl rfl ?_
      refine s_iconst j122 rfl kc_ic_1 ?_
      refine s_g j123 rfl rfl rfl rfl rfl rfl ?_
      refine s_lload_n j124 rfl rfl ?_
      refine s_lconst j125 rfl rfl ?_
      refine s_g j126 rfl rfl rfl rfl rfl rfl ?_
      refine s_g j127 rfl rfl rfl rfl rfl rfl ?_
      refine s_g j128 rfl rfl rfl rfl rfl rfl ?_
      exact s_retL j129 rfl h
    refine s_ifn j100 rfl rfl am_cc_ne (fun hc5 => ?_) (fun hc5 => ?_)
    · refine s_iconst j113 rfl kc_ic_1 ?_
      refine s_goto j114 rfl rfl ?_
      exact K8 _ (am_e1 (Iff.trans Iff.rfl (am_p7 hc5)))
    · refine s_iload j103 rfl rfl ?_
      refine s_ifn j105 rfl rfl am_cc_ne (fun hc6 => ?_) (fun hc6 => ?_)
      · refine s_iconst j117 rfl kc_ic_0 ?_
        exact K8 _ (am_e0 (am_p8 hc5 (Iff.trans Iff.rfl (am_p2 hc6))))
      · refine s_iload j108 rfl rfl ?_
        refine s_ifn j110 rfl rfl am_cc_le (fun hc7 => ?_) (fun hc7 => ?_)
        · refine s_iconst j117 rfl kc_ic_0 ?_
          exact K8 _ (am_e0 (am_p8 hc5 (am_p1 hc6 (Iff.trans Iff.rfl (am_p10 hc7)))))
        · refine s_iconst j113 rfl kc_ic_1 ?_
          refine s_goto j114 rfl rfl ?_
          exact K8 _ (am_e1 (am_p8 hc5 (am_p1 hc6 (Iff.trans Iff.rfl (am_p9 hc7)))))
theorem P_Co_readText (nl : Bool) (Ln : Nat) (xs : Nat → Int32) : am_Jl (TT nl Ln xs) 185 [(0, .aload_n 0, 1, []), (1, .getfield 18, 4, [9, 0, 1, 2]), (4, .invokevirtual 75, 7, [10, 132, 2, 1, 1]), (7, .aload_n 0, 8, []), (8, .getfield 12, 11, [9, 0, 0, 2]), (11, .iload_n 1, 12, []), (12, .invokevirtual 287, 15, [10, 184, 2, 6, 2]), (15, .lstore_n 2, 16, []), (16, .aload_n 0, 17, []), (17, .getfield 12, 20, [9, 0, 0, 2]), (20, .getfield 291, 23, [9, 1, 3, 3]), (23, .ifCond .ne 17, 26, []), (26, .lload_n 2, 27, []), (27, .lconst 0, 28, []), (28, .lcmp, 29, []), (29, .ifCond .lt 11, 32, []), (32, .lload_n 2, 33, []), (33, .ldc2_w 307, 36, [6, 400]), (36, .lcmp, 37, []), (37, .ifCond .le 5, 40, []), (40, .iconst 0, 41, []), (41, .ireturn, 42, [4]), (42, .iconst 0, 43, []), (43, .istore 4, 45, [])] := dk_ck (by decide +kernel)
set_option maxRecDepth 4096 in
theorem w_Co_readText {nl : Bool} {Ln : Nat} {xs : Nat → Int32} {d : Nat} {this : Nat} {p0 : Int32} {σ : am_S} {F : Bool → am_S → Prop} (h : (am_is σ (some this) 0) ∧ (am_is σ (am_fR σ 1 this) 1) ∧ k_By_clear nl Ln xs d ((am_fR σ 1 this).getD 0) σ (fun σ3 => am_ext σ σ3 → (am_is σ3 (am_fR σ3 0 this) 1) ∧ k_By_readNumber nl Ln xs d ((am_fR σ3 0 this).getD 0) p0 σ3 (fun a7 σ6 => am_ext σ3 σ6 → (am_is σ6 (am_fR σ6 0 this) 1) ∧ ((am_fI σ6 1003 ((am_fR σ6 0 this).getD 0)) = 0 → (a7 < (0 : Int64) → F false σ6) ∧ (¬ (a7 < (0 : Int64)) → ((400 : Int64) < a7 → F false σ6) ∧ (¬ ((400 : Int64) < a7) → c_Co_readText_45 nl Ln xs (d + 1) this p0 a7 (0 : Int32) none none σ6 F))) ∧ (¬ ((am_fI σ6 1003 ((am_fR σ6 0 this).getD 0)) = 0) → F false σ6)))) : k_Co_readText nl Ln xs (d + 1) this p0 σ F := by
  obtain ⟨j0, j1, j4, j7, j8, j11, j12, j15, j16, j17, j20, j23, j26, j27, j28, j29, j32, j33, j36, j37, j40, j41, j42, j43, -⟩ := P_Co_readText nl Ln xs
  have elo : am_lo 7 [am_ov (some this), .int p0] = [some (am_ov (some this)), some (.int p0), none, none, none, none, none] := by simp only [am_lo, am_in_ov, am_in_int, am_in_long, am_in_nil]; rfl
  unfold k_Co_readText
  rw [elo]
  refine s_aload_n j0 rfl rfl ?_
  obtain ⟨ho1, h⟩ := h
  refine s_gfR j1 rfl ho1 ?_
  obtain ⟨ho2, h⟩ := h
  refine s_virt j4 rfl rfl rfl rfl ho2 (by decide) (in_By_clear _) (am_r8 rfl) (am_bV h (fun σ3 h hx3 => ?_))
  replace h := h hx3
  refine s_aload_n j7 rfl rfl ?_
  refine s_gfR j8 rfl (am_is_ext hx3 ho1) ?_
  refine s_iload_n j11 rfl rfl ?_
  obtain ⟨ho5, h⟩ := h
  refine s_virt j12 rfl rfl rfl rfl ho5 (by decide) (in_By_readNumber _ _) (am_r8 rfl) (am_bL h (fun a7 σ6 h hx6 => ?_))
  replace h := h hx6
  refine s_lstore_n j15 rfl (n := 7) (L' := [some (am_ov (some this)), some (.int p0), some (.long a7), none, none, none, none]) rfl (by decide) rfl ?_
  refine s_aload_n j16 rfl rfl ?_
  refine s_gfR j17 rfl (am_is_ext hx6 (am_is_ext hx3 ho1)) ?_
  obtain ⟨ho8, h⟩ := h
  refine s_gfZ j20 rfl ho8 ?_
  refine s_ifn j23 rfl rfl am_cc_ne (fun hc9 => ?_) (fun hc9 => ?_)
  · replace h := h.2 hc9
    refine s_iconst j40 rfl kc_ic_0 ?_
    exact s_retZ0 j41 rfl h
  · replace h := h.1 hc9
    refine s_lload_n j26 rfl rfl ?_
    refine s_lconst j27 rfl rfl ?_
    refine s_g j28 rfl rfl rfl rfl rfl rfl ?_
    refine s_if j29 rfl rfl am_cl_lt (fun hc10 => ?_) (fun hc10 => ?_)
    · replace h := h.1 hc10
      refine s_iconst j40 rfl kc_ic_0 ?_
      exact s_retZ0 j41 rfl h
    · replace h := h.2 hc10
      refine s_lload_n j32 rfl rfl ?_
      refine s_ldc2 j33 rfl kc_ll_400 ?_
      refine s_g j36 rfl rfl rfl rfl rfl rfl ?_
      refine s_ifn j37 rfl rfl am_cl_le (fun hc11 => ?_) (fun hc11 => ?_)
      · replace h := h.2 hc11
        refine s_iconst j42 rfl kc_ic_0 ?_
        refine s_istore j43 rfl (n := 7) (L' := [some (am_ov (some this)), some (.int p0), some (.long a7), none, some (.int (0 : Int32)), none, none]) rfl (by decide) rfl ?_
        exact h
      · replace h := h.1 hc11
        refine s_iconst j40 rfl kc_ic_0 ?_
        exact s_retZ0 j41 rfl h
theorem P_Co_readText_45 (nl : Bool) (Ln : Nat) (xs : Nat → Int32) : am_Jl (TT nl Ln xs) 185 [(45, .iload 4, 47, []), (47, .i2l, 48, []), (48, .lload_n 2, 49, []), (49, .lcmp, 50, []), (50, .ifCond .ge 57, 53, []), (53, .aload_n 0, 54, []), (54, .getfield 12, 57, [9, 0, 0, 2]), (57, .iload_n 1, 58, []), (58, .invokevirtual 287, 61, [10, 184, 2, 6, 2]), (61, .lstore 5, 63, []), (63, .aload_n 0, 64, []), (64, .getfield 12, 67, [9, 0, 0, 2]), (67, .getfield 291, 70, [9, 1, 3, 3]), (70, .ifCond .ne 19, 73, []), (73, .lload 5, 75, []), (75, .lconst 0, 76, []), (76, .lcmp, 77, []), (77, .ifCond .lt 12, 80, []), (80, .lload 5, 82, []), (82, .ldc2_w 309, 85, [6, 255]), (85, .lcmp, 86, []), (86, .ifCond .le 5, 89, []), (89, .iconst 0, 90, []), (90, .ireturn, 91, [4]), (91, .aload_n 0, 92, []), (92, .getfield 18, 95, [9, 0, 1, 2]), (95, .lload 5, 97, []), (97, .l2i, 98, []), (98, .invokevirtual 82, 101, [10, 75, 2, 2, 2]), (101, .iinc 4 1, 104, []), (104, .goto (-59), 107, []), (107, .iconst 1, 108, []), (108, .ireturn, 109, [4])] := dk_ck (by decide +kernel)
set_option maxRecDepth 4096 in
theorem w_Co_readText_45 {nl : Bool} {Ln : Nat} {xs : Nat → Int32} {d : Nat} {this : Nat} {x1 : Int32} {x2 : Int64} {x4 : Int32} {x5 : Option Value} {x6 : Option Value} {σ : am_S} {F : Bool → am_S → Prop} (h : (x4.toInt64 < x2 → (am_is σ (some this) 0) ∧ (am_is σ (am_fR σ 0 this) 1) ∧ k_By_readNumber nl Ln xs d ((am_fR σ 0 this).getD 0) x1 σ (fun a5 σ4 => am_ext σ σ4 → (am_is σ4 (am_fR σ4 0 this) 1) ∧ ((am_fI σ4 1003 ((am_fR σ4 0 this).getD 0)) = 0 → (a5 < (0 : Int64) → F false σ4) ∧ (¬ (a5 < (0 : Int64)) → ((255 : Int64) < a5 → F false σ4) ∧ (¬ ((255 : Int64) < a5) → (am_is σ4 (am_fR σ4 1 this) 1) ∧ k_By_put nl Ln xs d ((am_fR σ4 1 this).getD 0) a5.toInt32 σ4 (fun σ11 => am_ext σ4 σ11 → c_Co_readText_45 nl Ln xs (d + 1) this x1 x2 (x4 + (1 : Int32)) (some (.long a5)) none σ11 F)))) ∧ (¬ ((am_fI σ4 1003 ((am_fR σ4 0 this).getD 0)) = 0) → F false σ4))) ∧ (¬ (x4.toInt64 < x2) → F true σ)) : c_Co_readText_45 nl Ln xs (d + 1) this x1 x2 x4 x5 x6 σ F := by
  obtain ⟨j45, j47, j48, j49, j50, j53, j54, j57, j58, j61, j63, j64, j67, j70, j73, j75, j76, j77, j80, j82, j85, j86, j89, j90, j91, j92, j95, j97, j98, j101, j104, j107, j108, -⟩ := P_Co_readText_45 nl Ln xs
  unfold c_Co_readText_45
  refine s_iload j45 rfl rfl ?_
  refine s_g j47 rfl rfl rfl rfl rfl rfl ?_
  refine s_lload_n j48 rfl rfl ?_
  refine s_g j49 rfl rfl rfl rfl rfl rfl ?_
  refine s_ifn j50 rfl rfl am_cl_ge (fun hc1 => ?_) (fun hc1 => ?_)
  · replace h := h.2 hc1
    refine s_iconst j107 rfl kc_ic_1 ?_
    exact s_retZ1 j108 rfl h
  · replace h := h.1 hc1
    refine s_aload_n j53 rfl rfl ?_
    obtain ⟨ho2, h⟩ := h
    refine s_gfR j54 rfl ho2 ?_
    refine s_iload_n j57 rfl rfl ?_
    obtain ⟨ho3, h⟩ := h
    refine s_virt j58 rfl rfl rfl rfl ho3 (by decide) (in_By_readNumber _ _) (am_r8 rfl) (am_bL h (fun a5 σ4 h hx4 => ?_))
    replace h := h hx4
    refine s_lstore j61 rfl (n := 7) (L' := [some (am_ov (some this)), some (.int x1), some (.long x2), none, some (.int x4), some (.long a5), none]) rfl (by decide) rfl ?_
    refine s_aload_n j63 rfl rfl ?_
    refine s_gfR j64 rfl (am_is_ext hx4 ho2) ?_
    obtain ⟨ho6, h⟩ := h
    refine s_gfZ j67 rfl ho6 ?_
    refine s_ifn j70 rfl rfl am_cc_ne (fun hc7 => ?_) (fun hc7 => ?_)
    · replace h := h.2 hc7
      refine s_iconst j89 rfl kc_ic_0 ?_
      exact s_retZ0 j90 rfl h
    · replace h := h.1 hc7
      refine s_lload j73 rfl rfl ?_
      refine s_lconst j75 rfl rfl ?_
      refine s_g j76 rfl rfl rfl rfl rfl rfl ?_
      refine s_if j77 rfl rfl am_cl_lt (fun hc8 => ?_) (fun hc8 => ?_)
      · replace h := h.1 hc8
        refine s_iconst j89 rfl kc_ic_0 ?_
        exact s_retZ0 j90 rfl h
      · replace h := h.2 hc8
        refine s_lload j80 rfl rfl ?_
        refine s_ldc2 j82 rfl kc_ll_255 ?_
        refine s_g j85 rfl rfl rfl rfl rfl rfl ?_
        refine s_ifn j86 rfl rfl am_cl_le (fun hc9 => ?_) (fun hc9 => ?_)
        · replace h := h.2 hc9
          refine s_aload_n j91 rfl rfl ?_
          refine s_gfR j92 rfl (am_is_ext hx4 ho2) ?_
          refine s_lload j95 rfl rfl ?_
          refine s_g j97 rfl rfl rfl rfl rfl rfl ?_
          obtain ⟨ho10, h⟩ := h
          refine s_virt j98 rfl rfl rfl rfl ho10 (by decide) (in_By_put _ _) (am_r8 rfl) (am_bV h (fun σ11 h hx11 => ?_))
          replace h := h hx11
          refine s_iinc (L' := [some (am_ov (some this)), some (.int x1), some (.long x2), none, some (.int (x4 + (1 : Int32))), some (.long a5), none]) j101 rfl rfl kc_ic_1 rfl ?_
          refine s_goto j104 rfl rfl ?_
          exact h
        · replace h := h.1 hc9
          refine s_iconst j89 rfl kc_ic_0 ?_
          exact s_retZ0 j90 rfl h
theorem P_Co_isRefused (nl : Bool) (Ln : Nat) (xs : Nat → Int32) : am_Jl (TT nl Ln xs) 186 [(0, .aload_n 0, 1, []), (1, .getfield 24, 4, [9, 0, 3, 2]), (4, .iconst 0, 5, []), (5, .laload, 6, []), (6, .ldc2_w 311, 9, [6, 21]), (9, .lcmp, 10, []), (10, .ifCond .ne 13, 13, []), (13, .iload_n 1, 14, []), (14, .bipush (-20), 16, []), (16, .if_icmp .gt 7, 19, []), (19, .iconst 1, 20, []), (20, .goto 4, 23, []), (23, .iconst 0, 24, [])] := dk_ck (by decide +kernel)
set_option maxRecDepth 4096 in
theorem w_Co_isRefused {nl : Bool} {Ln : Nat} {xs : Nat → Int32} {d : Nat} {this : Nat} {p0 : Int32} {σ : am_S} {F : Bool → am_S → Prop} (h : (am_is σ (some this) 0) ∧ (am_ar σ 1001 (am_fR σ 3 this) (0 : Int32)) ∧ c_Co_isRefused_24 nl Ln xs (d + 1) this p0 (if ((am_aL σ ((am_fR σ 3 this).getD 0) (0 : Int32).toNatClampNeg) = (21 : Int64)) ∧ (¬ ((-20 : Int32) < p0)) then (1 : Int32) else 0) σ F) : k_Co_isRefused nl Ln xs (d + 1) this p0 σ F := by
  obtain ⟨j0, j1, j4, j5, j6, j9, j10, j13, j14, j16, j19, j20, j23, -⟩ := P_Co_isRefused nl Ln xs
  have elo : am_lo 3 [am_ov (some this), .int p0] = [some (am_ov (some this)), some (.int p0), none] := by simp only [am_lo, am_in_ov, am_in_int, am_in_long, am_in_nil]; rfl
  unfold k_Co_isRefused
  rw [elo]
  refine s_aload_n j0 rfl rfl ?_
  obtain ⟨ho1, h⟩ := h
  refine s_gfR j1 rfl ho1 ?_
  refine s_iconst j4 rfl kc_ic_0 ?_
  obtain ⟨ho2, h⟩ := h
  refine s_laload j5 rfl ho2 ?_
  refine s_ldc2 j6 rfl kc_ll_21 ?_
  refine s_g j9 rfl rfl rfl rfl rfl rfl ?_
  have K5 : ∀ (w6 : Int32), w6 = (if ((am_aL σ ((am_fR σ 3 this).getD 0) (0 : Int32).toNatClampNeg) = (21 : Int64)) ∧ (¬ ((-20 : Int32) < p0)) then (1 : Int32) else 0) → am_C (TT nl Ln xs) (d + 1) 186 24 [some (am_ov (some this)), some (.int p0), none] [.int w6] σ (am_qB F) := by
    intro w6 hw7
    subst hw7
    exact h
  refine s_ifn j10 rfl rfl am_cl_ne (fun hc3 => ?_) (fun hc3 => ?_)
  · refine s_iconst j23 rfl kc_ic_0 ?_
    exact K5 _ (am_e0 (Iff.trans Iff.rfl (am_p2 hc3)))
  · refine s_iload_n j13 rfl rfl ?_
    refine s_bipush j14 rfl kc_bi_m20 ?_
    refine s_ic j16 rfl rfl am_cc_gt (fun hc4 => ?_) (fun hc4 => ?_)
    · refine s_iconst j23 rfl kc_ic_0 ?_
      exact K5 _ (am_e0 (am_p1 hc3 (Iff.trans Iff.rfl (am_p11 hc4))))
    · refine s_iconst j19 rfl kc_ic_1 ?_
      refine s_goto j20 rfl rfl ?_
      exact K5 _ (am_e1 (am_p1 hc3 (Iff.trans Iff.rfl (am_p12 hc4))))
theorem P_Co_isRefused_24 (nl : Bool) (Ln : Nat) (xs : Nat → Int32) : am_Jl (TT nl Ln xs) 186 [(24, .istore_n 2, 25, []), (25, .iload_n 1, 26, []), (26, .ifCond .ge 17, 29, []), (29, .iload_n 1, 30, []), (30, .bipush (-8), 32, []), (32, .if_icmp .eq 11, 35, []), (35, .iload_n 2, 36, []), (36, .ifCond .ne 7, 39, []), (39, .iconst 1, 40, []), (40, .goto 4, 43, []), (43, .iconst 0, 44, []), (44, .ireturn, 45, [4])] := dk_ck (by decide +kernel)
set_option maxRecDepth 4096 in
theorem w_Co_isRefused_24 {nl : Bool} {Ln : Nat} {xs : Nat → Int32} {d : Nat} {this : Nat} {x1 : Int32} {y0 : Int32} {σ : am_S} {F : Bool → am_S → Prop} (h : F (decide ((x1 < 0) ∧ (¬ (x1 = (-8 : Int32)) ∧ (y0 = 0)))) σ) : c_Co_isRefused_24 nl Ln xs (d + 1) this x1 y0 σ F := by
  obtain ⟨j24, j25, j26, j29, j30, j32, j35, j36, j39, j40, j43, j44, -⟩ := P_Co_isRefused_24 nl Ln xs
  unfold c_Co_isRefused_24
  refine s_istore_n j24 rfl (n := 3) (L' := [some (am_ov (some this)), some (.int x1), some (.int y0)]) rfl (by decide) rfl ?_
  refine s_iload_n j25 rfl rfl ?_
  have K4 : ∀ (w5 : Int32), w5 = (if (x1 < 0) ∧ (¬ (x1 = (-8 : Int32)) ∧ (y0 = 0)) then (1 : Int32) else 0) → am_C (TT nl Ln xs) (d + 1) 186 44 [some (am_ov (some this)), some (.int x1), some (.int y0)] [.int w5] σ (am_qB F) := by
    intro w5 hw6
    subst hw6
    exact s_retZ j44 rfl h
  refine s_ifn j26 rfl rfl am_cc_ge (fun hc1 => ?_) (fun hc1 => ?_)
  · refine s_iconst j43 rfl kc_ic_0 ?_
    exact K4 _ (am_e0 (Iff.trans Iff.rfl (am_p2 hc1)))
  · refine s_iload_n j29 rfl rfl ?_
    refine s_bipush j30 rfl kc_bi_m8 ?_
    refine s_ic j32 rfl rfl am_cc_eq (fun hc2 => ?_) (fun hc2 => ?_)
    · refine s_iconst j43 rfl kc_ic_0 ?_
      exact K4 _ (am_e0 (am_p1 hc1 (Iff.trans Iff.rfl (am_p6 hc2))))
    · refine s_iload_n j35 rfl rfl ?_
      refine s_ifn j36 rfl rfl am_cc_ne (fun hc3 => ?_) (fun hc3 => ?_)
      · refine s_iconst j43 rfl kc_ic_0 ?_
        exact K4 _ (am_e0 (am_p1 hc1 (am_p5 hc2 (Iff.trans Iff.rfl (am_p10 hc3)))))
      · refine s_iconst j39 rfl kc_ic_1 ?_
        refine s_goto j40 rfl rfl ?_
        exact K4 _ (am_e1 (am_p1 hc1 (am_p5 hc2 (Iff.trans Iff.rfl (am_p9 hc3)))))
theorem P_Co_checkStandsAt (nl : Bool) (Ln : Nat) (xs : Nat → Int32) : am_Jl (TT nl Ln xs) 187 [(0, .aload_n 0, 1, []), (1, .getfield 12, 4, [9, 0, 0, 2]), (4, .iload_n 1, 5, []), (5, .invokevirtual 210, 8, [10, 180, 2, 4, 2]), (8, .istore_n 2, 9, []), (9, .iconst 0, 10, []), (10, .istore_n 3, 11, [])] := dk_ck (by decide +kernel)
set_option maxRecDepth 4096 in
theorem w_Co_checkStandsAt {nl : Bool} {Ln : Nat} {xs : Nat → Int32} {d : Nat} {this : Nat} {p0 : Int32} {σ : am_S} {F : Bool → am_S → Prop} (h : (am_is σ (some this) 0) ∧ (am_is σ (am_fR σ 0 this) 1) ∧ k_By_checkOf nl Ln xs d ((am_fR σ 0 this).getD 0) p0 σ (fun a4 σ3 => am_ext σ σ3 → c_Co_checkStandsAt_11 nl Ln xs (d + 1) this p0 a4 (0 : Int32) σ3 F)) : k_Co_checkStandsAt nl Ln xs (d + 1) this p0 σ F := by
  obtain ⟨j0, j1, j4, j5, j8, j9, j10, -⟩ := P_Co_checkStandsAt nl Ln xs
  have elo : am_lo 4 [am_ov (some this), .int p0] = [some (am_ov (some this)), some (.int p0), none, none] := by simp only [am_lo, am_in_ov, am_in_int, am_in_long, am_in_nil]; rfl
  unfold k_Co_checkStandsAt
  rw [elo]
  refine s_aload_n j0 rfl rfl ?_
  obtain ⟨ho1, h⟩ := h
  refine s_gfR j1 rfl ho1 ?_
  refine s_iload_n j4 rfl rfl ?_
  obtain ⟨ho2, h⟩ := h
  refine s_virt j5 rfl rfl rfl rfl ho2 (by decide) (in_By_checkOf _ _) (am_r8 rfl) (am_bI h (fun a4 σ3 h hx3 => ?_))
  replace h := h hx3
  refine s_istore_n j8 rfl (n := 4) (L' := [some (am_ov (some this)), some (.int p0), some (.int a4), none]) rfl (by decide) rfl ?_
  refine s_iconst j9 rfl kc_ic_0 ?_
  refine s_istore_n j10 rfl (n := 4) (L' := [some (am_ov (some this)), some (.int p0), some (.int a4), some (.int (0 : Int32))]) rfl (by decide) rfl ?_
  exact h
theorem P_Co_checkStandsAt_11 (nl : Bool) (Ln : Nat) (xs : Nat → Int32) : am_Jl (TT nl Ln xs) 187 [(11, .iload_n 3, 12, []), (12, .iconst 4, 13, []), (13, .if_icmp .ge 37, 16, []), (16, .aload_n 0, 17, []), (17, .getfield 12, 20, [9, 0, 0, 2]), (20, .iload_n 1, 21, []), (21, .iload_n 3, 22, []), (22, .iadd, 23, []), (23, .invokevirtual 169, 26, [10, 77, 2, 2, 2]), (26, .iload_n 2, 27, []), (27, .bipush 24, 29, []), (29, .bipush 8, 31, []), (31, .iload_n 3, 32, []), (32, .imul, 33, []), (33, .isub, 34, []), (34, .iushr, 35, []), (35, .sipush 255, 38, []), (38, .iand, 39, []), (39, .if_icmp .eq 5, 42, []), (42, .iconst 0, 43, []), (43, .ireturn, 44, [4]), (44, .iinc 3 1, 47, []), (47, .goto (-36), 50, []), (50, .iconst 1, 51, []), (51, .ireturn, 52, [4])] := dk_ck (by decide +kernel)
set_option maxRecDepth 4096 in
theorem w_Co_checkStandsAt_11 {nl : Bool} {Ln : Nat} {xs : Nat → Int32} {d : Nat} {this : Nat} {x1 : Int32} {x2 : Int32} {x3 : Int32} {σ : am_S} {F : Bool → am_S → Prop} (h : (x3 < (4 : Int32) → (am_is σ (some this) 0) ∧ (am_is σ (am_fR σ 0 this) 1) ∧ k_By_byteAt nl Ln xs d ((am_fR σ 0 this).getD 0) (x1 + x3) σ (fun a5 σ4 => am_ext σ σ4 → (a5 = (((x2.toUInt32 >>> (((24 : Int32) - ((8 : Int32) * x3)).toUInt32 &&& Int32.toUInt32 31)).toInt32) &&& (255 : Int32)) → c_Co_checkStandsAt_11 nl Ln xs (d + 1) this x1 x2 (x3 + (1 : Int32)) σ4 F) ∧ (¬ (a5 = (((x2.toUInt32 >>> (((24 : Int32) - ((8 : Int32) * x3)).toUInt32 &&& Int32.toUInt32 31)).toInt32) &&& (255 : Int32))) → F false σ4))) ∧ (¬ (x3 < (4 : Int32)) → F true σ)) : c_Co_checkStandsAt_11 nl Ln xs (d + 1) this x1 x2 x3 σ F := by
  obtain ⟨j11, j12, j13, j16, j17, j20, j21, j22, j23, j26, j27, j29, j31, j32, j33, j34, j35, j38, j39, j42, j43, j44, j47, j50, j51, -⟩ := P_Co_checkStandsAt_11 nl Ln xs
  unfold c_Co_checkStandsAt_11
  refine s_iload_n j11 rfl rfl ?_
  refine s_iconst j12 rfl kc_ic_4 ?_
  refine s_icn j13 rfl rfl am_cc_ge (fun hc1 => ?_) (fun hc1 => ?_)
  · replace h := h.2 hc1
    refine s_iconst j50 rfl kc_ic_1 ?_
    exact s_retZ1 j51 rfl h
  · replace h := h.1 hc1
    refine s_aload_n j16 rfl rfl ?_
    obtain ⟨ho2, h⟩ := h
    refine s_gfR j17 rfl ho2 ?_
    refine s_iload_n j20 rfl rfl ?_
    refine s_iload_n j21 rfl rfl ?_
    refine s_g j22 rfl rfl rfl rfl rfl rfl ?_
    obtain ⟨ho3, h⟩ := h
    refine s_virt j23 rfl rfl rfl rfl ho3 (by decide) (in_By_byteAt _ _) (am_r8 rfl) (am_bI h (fun a5 σ4 h hx4 => ?_))
    replace h := h hx4
    refine s_iload_n j26 rfl rfl ?_
    refine s_bipush j27 rfl kc_bi_24 ?_
    refine s_bipush j29 rfl kc_bi_8 ?_
    refine s_iload_n j31 rfl rfl ?_
    refine s_g j32 rfl rfl rfl rfl rfl rfl ?_
    refine s_g j33 rfl rfl rfl rfl rfl rfl ?_
    refine s_g j34 rfl rfl rfl rfl rfl rfl ?_
    refine s_sipush j35 rfl kc_si_255 ?_
    refine s_g j38 rfl rfl rfl rfl rfl rfl ?_
    refine s_ic j39 rfl rfl am_cc_eq (fun hc6 => ?_) (fun hc6 => ?_)
    · replace h := h.1 hc6
      refine s_iinc (L' := [some (am_ov (some this)), some (.int x1), some (.int x2), some (.int (x3 + (1 : Int32)))]) j44 rfl rfl kc_ic_1 rfl ?_
      refine s_goto j47 rfl rfl ?_
      exact h
    · replace h := h.2 hc6
      refine s_iconst j42 rfl kc_ic_0 ?_
      exact s_retZ0 j43 rfl h
theorem P_Bk_clear (nl : Bool) (Ln : Nat) (xs : Nat → Int32) : am_Jl (TT nl Ln xs) 188 [(0, .aload_n 0, 1, []), (1, .invokevirtual 62, 4, [10, 189, 7, 3, 1]), (4, .aload_n 0, 5, []), (5, .aconst_null, 6, []), (6, .putfield 65, 9, [9, 6, 10, 2]), (9, .aload_n 0, 10, []), (10, .iconst 0, 11, []), (11, .putfield 69, 14, [9, 6, 11, 0]), (14, .aload_n 0, 15, []), (15, .iconst 0, 16, []), (16, .putfield 73, 19, [9, 6, 12, 0]), (19, .aload_n 0, 20, []), (20, .iconst 0, 21, []), (21, .putfield 76, 24, [9, 6, 13, 0]), (24, .aload_n 0, 25, []), (25, .iconst 0, 26, []), (26, .putfield 79, 29, [9, 6, 14, 0]), (29, .aload_n 0, 30, []), (30, .iconst 0, 31, []), (31, .putfield 82, 34, [9, 6, 15, 0]), (34, .aload_n 0, 35, []), (35, .iconst 0, 36, []), (36, .putfield 85, 39, [9, 6, 16, 0]), (39, .aload_n 0, 40, []), (40, .iconst 0, 41, []), (41, .putfield 88, 44, [9, 6, 17, 0]), (44, .aload_n 0, 45, []), (45, .iconst 0, 46, []), (46, .putfield 91, 49, [9, 6, 18, 0]), (49, .aload_n 0, 50, []), (50, .iconst 0, 51, []), (51, .putfield 94, 54, [9, 6, 19, 3]), (54, .aload_n 0, 55, []), (55, .getfield 12, 58, [9, 6, 3, 2]), (58, .invokevirtual 98, 61, [10, 132, 2, 1, 1]), (61, .aload_n 0, 62, []), (62, .getfield 40, 65, [9, 6, 7, 2]), (65, .iconst 0, 66, []), (66, .invokestatic 101, 69, [12, 194, 4, 2]), (69, .return_, 70, [0])] := dk_ck (by decide +kernel)
set_option maxRecDepth 4096 in
theorem w_Bk_clear {nl : Bool} {Ln : Nat} {xs : Nat → Int32} {d : Nat} {this : Nat} {σ : am_S} {F : am_S → Prop} (h : (am_is σ (some this) 6) ∧ k_Bk_giveBack nl Ln xs d this σ (fun σ2 => am_ext σ σ2 → ∀ σ4, σ4 = am_sfR σ2 6010 this none → ∀ σ7, σ7 = am_sfI σ4 6011 this (0 : Int32) → ∀ σ10, σ10 = am_sfI σ7 6012 this (0 : Int32) → ∀ σ13, σ13 = am_sfI σ10 6013 this (0 : Int32) → ∀ σ16, σ16 = am_sfI σ13 6014 this (0 : Int32) → ∀ σ19, σ19 = am_sfI σ16 6015 this (0 : Int32) → ∀ σ22, σ22 = am_sfI σ19 6016 this (0 : Int32) → ∀ σ25, σ25 = am_sfI σ22 6017 this (0 : Int32) → ∀ σ28, σ28 = am_sfI σ25 6018 this (0 : Int32) → ∀ σ31, σ31 = am_sfI σ28 6019 this (0 : Int32) → (am_is σ31 (am_fR σ31 6003 this) 1) ∧ k_By_clear nl Ln xs d ((am_fR σ31 6003 this).getD 0) σ31 (fun σ35 => am_ext σ31 σ35 → k_Arr_fill2 nl Ln xs d (am_fR σ35 6007 this) (0 : Int32) σ35 (fun σ37 => am_ext σ35 σ37 → F σ37)))) : k_Bk_clear nl Ln xs (d + 1) this σ F := by
  obtain ⟨j0, j1, j4, j5, j6, j9, j10, j11, j14, j15, j16, j19, j20, j21, j24, j25, j26, j29, j30, j31, j34, j35, j36, j39, j40, j41, j44, j45, j46, j49, j50, j51, j54, j55, j58, j61, j62, j65, j66, j69, -⟩ := P_Bk_clear nl Ln xs
  have elo : am_lo 1 [am_ov (some this)] = [some (am_ov (some this))] := by simp only [am_lo, am_in_ov, am_in_int, am_in_long, am_in_nil]; rfl
  unfold k_Bk_clear
  rw [elo]
  refine s_aload_n j0 rfl rfl ?_
  obtain ⟨ho1, h⟩ := h
  refine s_virt j1 rfl rfl rfl rfl ho1 (by decide) (in_Bk_giveBack _) (am_r8 rfl) (am_bV h (fun σ2 h hx2 => ?_))
  replace h := h hx2
  refine s_aload_n j4 rfl rfl ?_
  refine s_null j5 rfl ?_
  refine s_pfR j6 rfl (am_is_ext hx2 ho1) (fun σ4 e5 => ?_)
  replace h := h σ4 e5
  have ek6 : am_kd σ4 = am_kd σ2 := by rw [e5]
  refine s_aload_n j9 rfl rfl ?_
  refine s_iconst j10 rfl kc_ic_0 ?_
  refine s_pfI j11 rfl (am_is_kd ek6 (am_is_ext hx2 ho1)) (fun σ7 e8 => ?_)
  replace h := h σ7 e8
  have ek9 : am_kd σ7 = am_kd σ4 := by rw [e8]
  refine s_aload_n j14 rfl rfl ?_
  refine s_iconst j15 rfl kc_ic_0 ?_
  refine s_pfI j16 rfl (am_is_kd ek9 (am_is_kd ek6 (am_is_ext hx2 ho1))) (fun σ10 e11 => ?_)
  replace h := h σ10 e11
  have ek12 : am_kd σ10 = am_kd σ7 := by rw [e11]
  refine s_aload_n j19 rfl rfl ?_
  refine s_iconst j20 rfl kc_ic_0 ?_
  refine s_pfI j21 rfl (am_is_kd ek12 (am_is_kd ek9 (am_is_kd ek6 (am_is_ext hx2 ho1)))) (fun σ13 e14 => ?_)
  replace h := h σ13 e14
  have ek15 : am_kd σ13 = am_kd σ10 := by rw [e14]
  refine s_aload_n j24 rfl rfl ?_
  refine s_iconst j25 rfl kc_ic_0 ?_
  refine s_pfI j26 rfl (am_is_kd ek15 (am_is_kd ek12 (am_is_kd ek9 (am_is_kd ek6 (am_is_ext hx2 ho1))))) (fun σ16 e17 => ?_)
  replace h := h σ16 e17
  have ek18 : am_kd σ16 = am_kd σ13 := by rw [e17]
  refine s_aload_n j29 rfl rfl ?_
  refine s_iconst j30 rfl kc_ic_0 ?_
  refine s_pfI j31 rfl (am_is_kd ek18 (am_is_kd ek15 (am_is_kd ek12 (am_is_kd ek9 (am_is_kd ek6 (am_is_ext hx2 ho1)))))) (fun σ19 e20 => ?_)
  replace h := h σ19 e20
  have ek21 : am_kd σ19 = am_kd σ16 := by rw [e20]
  refine s_aload_n j34 rfl rfl ?_
  refine s_iconst j35 rfl kc_ic_0 ?_
  refine s_pfI j36 rfl (am_is_kd ek21 (am_is_kd ek18 (am_is_kd ek15 (am_is_kd ek12 (am_is_kd ek9 (am_is_kd ek6 (am_is_ext hx2 ho1))))))) (fun σ22 e23 => ?_)
  replace h := h σ22 e23
  have ek24 : am_kd σ22 = am_kd σ19 := by rw [e23]
  refine s_aload_n j39 rfl rfl ?_
  refine s_iconst j40 rfl kc_ic_0 ?_
  refine s_pfI j41 rfl (am_is_kd ek24 (am_is_kd ek21 (am_is_kd ek18 (am_is_kd ek15 (am_is_kd ek12 (am_is_kd ek9 (am_is_kd ek6 (am_is_ext hx2 ho1)))))))) (fun σ25 e26 => ?_)
  replace h := h σ25 e26
  have ek27 : am_kd σ25 = am_kd σ22 := by rw [e26]
  refine s_aload_n j44 rfl rfl ?_
  refine s_iconst j45 rfl kc_ic_0 ?_
  refine s_pfI j46 rfl (am_is_kd ek27 (am_is_kd ek24 (am_is_kd ek21 (am_is_kd ek18 (am_is_kd ek15 (am_is_kd ek12 (am_is_kd ek9 (am_is_kd ek6 (am_is_ext hx2 ho1))))))))) (fun σ28 e29 => ?_)
  replace h := h σ28 e29
  have ek30 : am_kd σ28 = am_kd σ25 := by rw [e29]
  refine s_aload_n j49 rfl rfl ?_
  refine s_iconst j50 rfl kc_ic_0 ?_
  refine s_pfZ j51 rfl (am_is_kd ek30 (am_is_kd ek27 (am_is_kd ek24 (am_is_kd ek21 (am_is_kd ek18 (am_is_kd ek15 (am_is_kd ek12 (am_is_kd ek9 (am_is_kd ek6 (am_is_ext hx2 ho1)))))))))) (Or.inl rfl) (fun σ31 e32 => ?_)
  replace h := h σ31 e32
  have ek33 : am_kd σ31 = am_kd σ28 := by rw [e32]
  refine s_aload_n j54 rfl rfl ?_
  refine s_gfR j55 rfl (am_is_kd ek33 (am_is_kd ek30 (am_is_kd ek27 (am_is_kd ek24 (am_is_kd ek21 (am_is_kd ek18 (am_is_kd ek15 (am_is_kd ek12 (am_is_kd ek9 (am_is_kd ek6 (am_is_ext hx2 ho1))))))))))) ?_
  obtain ⟨ho34, h⟩ := h
  refine s_virt j58 rfl rfl rfl rfl ho34 (by decide) (in_By_clear _) (am_r8 rfl) (am_bV h (fun σ35 h hx35 => ?_))
  replace h := h hx35
  refine s_aload_n j61 rfl rfl ?_
  refine s_gfR j62 rfl (am_is_ext hx35 (am_is_kd ek33 (am_is_kd ek30 (am_is_kd ek27 (am_is_kd ek24 (am_is_kd ek21 (am_is_kd ek18 (am_is_kd ek15 (am_is_kd ek12 (am_is_kd ek9 (am_is_kd ek6 (am_is_ext hx2 ho1)))))))))))) ?_
  refine s_iconst j65 rfl kc_ic_0 ?_
  refine s_stat j66 rfl rfl rfl rfl (by decide) (in_Arr_fill2 _ _) (am_r8 rfl) (am_bV h (fun σ37 h hx37 => ?_))
  replace h := h hx37
  exact s_retV j69 rfl h
theorem P_Bk_giveBack (nl : Bool) (Ln : Nat) (xs : Nat → Int32) : am_Jl (TT nl Ln xs) 189 [(0, .aload_n 0, 1, []), (1, .getfield 58, 4, [9, 6, 2, 2]), (4, .aload_n 0, 5, []), (5, .getfield 65, 8, [9, 6, 10, 2]), (8, .invokevirtual 107, 11, [10, 190, 6, 4, 2]), (11, .iconst 0, 12, []), (12, .istore_n 1, 13, [])] := dk_ck (by decide +kernel)
set_option maxRecDepth 4096 in
theorem w_Bk_giveBack {nl : Bool} {Ln : Nat} {xs : Nat → Int32} {d : Nat} {this : Nat} {σ : am_S} {F : am_S → Prop} (h : (am_is σ (some this) 6) ∧ (am_is σ (am_fR σ 6002 this) 5) ∧ k_Sk_putBackAll nl Ln xs d ((am_fR σ 6002 this).getD 0) (am_fR σ 6010 this) σ (fun σ3 => am_ext σ σ3 → c_Bk_giveBack_13 nl Ln xs (d + 1) this (0 : Int32) σ3 F)) : k_Bk_giveBack nl Ln xs (d + 1) this σ F := by
  obtain ⟨j0, j1, j4, j5, j8, j11, j12, -⟩ := P_Bk_giveBack nl Ln xs
  have elo : am_lo 3 [am_ov (some this)] = [some (am_ov (some this)), none, none] := by simp only [am_lo, am_in_ov, am_in_int, am_in_long, am_in_nil]; rfl
  unfold k_Bk_giveBack
  rw [elo]
  refine s_aload_n j0 rfl rfl ?_
  obtain ⟨ho1, h⟩ := h
  refine s_gfR j1 rfl ho1 ?_
  refine s_aload_n j4 rfl rfl ?_
  refine s_gfR j5 rfl ho1 ?_
  obtain ⟨ho2, h⟩ := h
  refine s_virt j8 rfl rfl rfl rfl ho2 (by decide) (in_Sk_putBackAll _ _) (am_r8 rfl) (am_bV h (fun σ3 h hx3 => ?_))
  replace h := h hx3
  refine s_iconst j11 rfl kc_ic_0 ?_
  refine s_istore_n j12 rfl (n := 3) (L' := [some (am_ov (some this)), some (.int (0 : Int32)), none]) rfl (by decide) (am_st1_R [] _ _ _ _) ?_
  exact h
theorem P_Bk_giveBack_13 (nl : Bool) (Ln : Nat) (xs : Nat → Int32) : am_Jl (TT nl Ln xs) 189 [(13, .iload_n 1, 14, []), (14, .aload_n 0, 15, []), (15, .getfield 79, 18, [9, 6, 14, 0]), (18, .if_icmp .ge 22, 21, []), (21, .aload_n 0, 22, []), (22, .getfield 58, 25, [9, 6, 2, 2]), (25, .aload_n 0, 26, []), (26, .getfield 32, 29, [9, 6, 6, 2]), (29, .iload_n 1, 30, []), (30, .aaload, 31, []), (31, .invokevirtual 113, 34, [10, 191, 6, 2, 2]), (34, .iinc 1 1, 37, []), (37, .goto (-24), 40, []), (40, .iconst 0, 41, []), (41, .istore_n 1, 42, [])] := dk_ck (by decide +kernel)
set_option maxRecDepth 4096 in
theorem w_Bk_giveBack_13 {nl : Bool} {Ln : Nat} {xs : Nat → Int32} {d : Nat} {this : Nat} {x1 : Int32} {σ : am_S} {F : am_S → Prop} (h : (am_is σ (some this) 6) ∧ (x1 < (am_fI σ 6014 this) → (am_ar σ 2011 (am_fR σ 6006 this) x1) ∧ (am_is σ (am_fR σ 6002 this) 5) ∧ k_Sk_putBackCase nl Ln xs d ((am_fR σ 6002 this).getD 0) (am_aR σ ((am_fR σ 6006 this).getD 0) x1.toNatClampNeg) σ (fun σ5 => am_ext σ σ5 → c_Bk_giveBack_13 nl Ln xs (d + 1) this (x1 + (1 : Int32)) σ5 F)) ∧ (¬ (x1 < (am_fI σ 6014 this)) → c_Bk_giveBack_42 nl Ln xs (d + 1) this (0 : Int32) σ F)) : c_Bk_giveBack_13 nl Ln xs (d + 1) this x1 σ F := by
  obtain ⟨j13, j14, j15, j18, j21, j22, j25, j26, j29, j30, j31, j34, j37, j40, j41, -⟩ := P_Bk_giveBack_13 nl Ln xs
  unfold c_Bk_giveBack_13
  refine s_iload_n j13 rfl rfl ?_
  refine s_aload_n j14 rfl rfl ?_
  obtain ⟨ho1, h⟩ := h
  refine s_gfI j15 rfl ho1 ?_
  refine s_icn j18 rfl rfl am_cc_ge (fun hc2 => ?_) (fun hc2 => ?_)
  · replace h := h.2 hc2
    refine s_iconst j40 rfl kc_ic_0 ?_
    refine s_istore_n j41 rfl (n := 3) (L' := [some (am_ov (some this)), some (.int (0 : Int32)), none]) rfl (by decide) (am_st1_R [] _ _ _ _) ?_
    exact h
  · replace h := h.1 hc2
    refine s_aload_n j21 rfl rfl ?_
    refine s_gfR j22 rfl ho1 ?_
    refine s_aload_n j25 rfl rfl ?_
    refine s_gfR j26 rfl ho1 ?_
    refine s_iload_n j29 rfl rfl ?_
    obtain ⟨ho3, h⟩ := h
    refine s_aaload (k := 2011) (by decide) kq_2011 j30 rfl ho3 ?_
    obtain ⟨ho4, h⟩ := h
    refine s_virt j31 rfl rfl rfl rfl ho4 (by decide) (in_Sk_putBackCase _ _) (am_r8 rfl) (am_bV h (fun σ5 h hx5 => ?_))
    replace h := h hx5
    refine s_iinc (L' := [some (am_ov (some this)), some (.int (x1 + (1 : Int32))), none]) j34 rfl rfl kc_ic_1 (am_st1_R [] _ _ _ _) ?_
    refine s_goto j37 rfl rfl ?_
    exact h
theorem P_Bk_giveBack_42 (nl : Bool) (Ln : Nat) (xs : Nat → Int32) : am_Jl (TT nl Ln xs) 189 [(42, .iload_n 1, 43, []), (43, .aload_n 0, 44, []), (44, .getfield 76, 47, [9, 6, 13, 0]), (47, .if_icmp .ge 22, 50, []), (50, .aload_n 0, 51, []), (51, .getfield 58, 54, [9, 6, 2, 2]), (54, .aload_n 0, 55, []), (55, .getfield 26, 58, [9, 6, 5, 2]), (58, .iload_n 1, 59, []), (59, .aaload, 60, []), (60, .invokevirtual 117, 63, [10, 192, 6, 2, 2]), (63, .iinc 1 1, 66, []), (66, .goto (-24), 69, []), (69, .iconst 0, 70, []), (70, .istore_n 1, 71, [])] := dk_ck (by decide +kernel)
set_option maxRecDepth 4096 in
theorem w_Bk_giveBack_42 {nl : Bool} {Ln : Nat} {xs : Nat → Int32} {d : Nat} {this : Nat} {x1 : Int32} {σ : am_S} {F : am_S → Prop} (h : (am_is σ (some this) 6) ∧ (x1 < (am_fI σ 6013 this) → (am_ar σ 2010 (am_fR σ 6005 this) x1) ∧ (am_is σ (am_fR σ 6002 this) 5) ∧ k_Sk_putBackLoss nl Ln xs d ((am_fR σ 6002 this).getD 0) (am_aR σ ((am_fR σ 6005 this).getD 0) x1.toNatClampNeg) σ (fun σ5 => am_ext σ σ5 → c_Bk_giveBack_42 nl Ln xs (d + 1) this (x1 + (1 : Int32)) σ5 F)) ∧ (¬ (x1 < (am_fI σ 6013 this)) → c_Bk_giveBack_71 nl Ln xs (d + 1) this (0 : Int32) none σ F)) : c_Bk_giveBack_42 nl Ln xs (d + 1) this x1 σ F := by
  obtain ⟨j42, j43, j44, j47, j50, j51, j54, j55, j58, j59, j60, j63, j66, j69, j70, -⟩ := P_Bk_giveBack_42 nl Ln xs
  unfold c_Bk_giveBack_42
  refine s_iload_n j42 rfl rfl ?_
  refine s_aload_n j43 rfl rfl ?_
  obtain ⟨ho1, h⟩ := h
  refine s_gfI j44 rfl ho1 ?_
  refine s_icn j47 rfl rfl am_cc_ge (fun hc2 => ?_) (fun hc2 => ?_)
  · replace h := h.2 hc2
    refine s_iconst j69 rfl kc_ic_0 ?_
    refine s_istore_n j70 rfl (n := 3) (L' := [some (am_ov (some this)), some (.int (0 : Int32)), none]) rfl (by decide) (am_st1_R [] _ _ _ _) ?_
    exact h
  · replace h := h.1 hc2
    refine s_aload_n j50 rfl rfl ?_
    refine s_gfR j51 rfl ho1 ?_
    refine s_aload_n j54 rfl rfl ?_
    refine s_gfR j55 rfl ho1 ?_
    refine s_iload_n j58 rfl rfl ?_
    obtain ⟨ho3, h⟩ := h
    refine s_aaload (k := 2010) (by decide) kq_2010 j59 rfl ho3 ?_
    obtain ⟨ho4, h⟩ := h
    refine s_virt j60 rfl rfl rfl rfl ho4 (by decide) (in_Sk_putBackLoss _ _) (am_r8 rfl) (am_bV h (fun σ5 h hx5 => ?_))
    replace h := h hx5
    refine s_iinc (L' := [some (am_ov (some this)), some (.int (x1 + (1 : Int32))), none]) j63 rfl rfl kc_ic_1 (am_st1_R [] _ _ _ _) ?_
    refine s_goto j66 rfl rfl ?_
    exact h
theorem P_Bk_giveBack_71 (nl : Bool) (Ln : Nat) (xs : Nat → Int32) : am_Jl (TT nl Ln xs) 189 [(71, .iload_n 1, 72, []), (72, .aload_n 0, 73, []), (73, .getfield 73, 76, [9, 6, 12, 0]), (76, .if_icmp .ge 55, 79, []), (79, .aload_n 0, 80, []), (80, .getfield 20, 83, [9, 6, 4, 2]), (83, .iload_n 1, 84, []), (84, .aaload, 85, []), (85, .getfield 121, 88, [9, 9, 4, 2]), (88, .astore_n 2, 89, []), (131, .return_, 132, [0])] := dk_ck (by decide +kernel)
set_option maxRecDepth 4096 in
theorem w_Bk_giveBack_71 {nl : Bool} {Ln : Nat} {xs : Nat → Int32} {d : Nat} {this : Nat} {x1 : Int32} {x2 : Option Value} {σ : am_S} {F : am_S → Prop} (h : (am_is σ (some this) 6) ∧ (x1 < (am_fI σ 6012 this) → (am_ar σ 2009 (am_fR σ 6004 this) x1) ∧ (am_is σ (am_aR σ ((am_fR σ 6004 this).getD 0) x1.toNatClampNeg) 9) ∧ ∀ v5 : Option Nat, v5 = (am_fR σ 9004 ((am_aR σ ((am_fR σ 6004 this).getD 0) x1.toNatClampNeg).getD 0)) → c_Bk_giveBack_89 nl Ln xs (d + 1) this x1 v5 σ F) ∧ (¬ (x1 < (am_fI σ 6012 this)) → F σ)) : c_Bk_giveBack_71 nl Ln xs (d + 1) this x1 x2 σ F := by
  obtain ⟨j71, j72, j73, j76, j79, j80, j83, j84, j85, j88, j131, -⟩ := P_Bk_giveBack_71 nl Ln xs
  unfold c_Bk_giveBack_71
  refine s_iload_n j71 rfl rfl ?_
  refine s_aload_n j72 rfl rfl ?_
  obtain ⟨ho1, h⟩ := h
  refine s_gfI j73 rfl ho1 ?_
  refine s_icn j76 rfl rfl am_cc_ge (fun hc2 => ?_) (fun hc2 => ?_)
  · replace h := h.2 hc2
    exact s_retV j131 rfl h
  · replace h := h.1 hc2
    refine s_aload_n j79 rfl rfl ?_
    refine s_gfR j80 rfl ho1 ?_
    refine s_iload_n j83 rfl rfl ?_
    obtain ⟨ho3, h⟩ := h
    refine s_aaload (k := 2009) (by decide) kq_2009 j84 rfl ho3 ?_
    obtain ⟨ho4, h⟩ := h
    refine s_gfR j85 rfl ho4 ?_
    refine s_astore_nV j88 rfl (n := 3) (L' := fun w => [some (am_ov (some this)), some (.int x1), some (am_ov w)]) rfl (by decide) (fun _ => rfl) (fun v5 hv6 => ?_)
    replace h := h v5 hv6
    exact h
theorem P_Bk_giveBack_89 (nl : Bool) (Ln : Nat) (xs : Nat → Int32) : am_Jl (TT nl Ln xs) 189 [(89, .aload_n 2, 90, []), (90, .ifnull 22, 93, []), (93, .aload_n 0, 94, []), (94, .getfield 54, 97, [9, 6, 1, 2]), (97, .aload_n 2, 98, []), (98, .getfield 124, 101, [9, 7, 4, 2]), (101, .invokevirtual 130, 104, [10, 104, 5, 4, 2]), (104, .aload_n 2, 105, []), (105, .getfield 136, 108, [9, 7, 5, 2]), (108, .astore_n 2, 109, []), (109, .goto (-20), 112, []), (112, .aload_n 0, 113, []), (113, .getfield 58, 116, [9, 6, 2, 2]), (116, .aload_n 0, 117, []), (117, .getfield 20, 120, [9, 6, 4, 2]), (120, .iload_n 1, 121, []), (121, .aaload, 122, []), (122, .invokevirtual 139, 125, [10, 193, 6, 2, 2]), (125, .iinc 1 1, 128, []), (128, .goto (-57), 131, [])] := dk_ck (by decide +kernel)
set_option maxRecDepth 4096 in
theorem w_Bk_giveBack_89 {nl : Bool} {Ln : Nat} {xs : Nat → Int32} {d : Nat} {this : Nat} {x1 : Int32} {x2 : Option Nat} {σ : am_S} {F : am_S → Prop} (h : (x2 = none → (am_is σ (some this) 6) ∧ (am_ar σ 2009 (am_fR σ 6004 this) x1) ∧ (am_is σ (am_fR σ 6002 this) 5) ∧ k_Sk_putBackPolicy nl Ln xs d ((am_fR σ 6002 this).getD 0) (am_aR σ ((am_fR σ 6004 this).getD 0) x1.toNatClampNeg) σ (fun σ5 => am_ext σ σ5 → c_Bk_giveBack_71 nl Ln xs (d + 1) this (x1 + (1 : Int32)) (some (am_ov x2)) σ5 F)) ∧ (¬ (x2 = none) → (am_is σ (some this) 6) ∧ (am_is σ x2 7) ∧ (am_is σ (am_fR σ 6001 this) 4) ∧ k_Rd_putBack nl Ln xs d ((am_fR σ 6001 this).getD 0) (am_fR σ 7004 (x2.getD 0)) σ (fun σ10 => am_ext σ σ10 → ∀ v12 : Option Nat, v12 = (am_fR σ10 7005 (x2.getD 0)) → c_Bk_giveBack_89 nl Ln xs (d + 1) this x1 v12 σ10 F))) : c_Bk_giveBack_89 nl Ln xs (d + 1) this x1 x2 σ F := by
  obtain ⟨j89, j90, j93, j94, j97, j98, j101, j104, j105, j108, j109, j112, j113, j116, j117, j120, j121, j122, j125, j128, -⟩ := P_Bk_giveBack_89 nl Ln xs
  unfold c_Bk_giveBack_89
  refine s_aload_n j89 rfl rfl ?_
  refine s_ifnull j90 rfl rfl (fun hc1 => ?_) (fun hc1 => ?_)
  · replace h := h.1 hc1
    refine s_aload_n j112 rfl rfl ?_
    obtain ⟨ho2, h⟩ := h
    refine s_gfR j113 rfl ho2 ?_
    refine s_aload_n j116 rfl rfl ?_
    refine s_gfR j117 rfl ho2 ?_
    refine s_iload_n j120 rfl rfl ?_
    obtain ⟨ho3, h⟩ := h
    refine s_aaload (k := 2009) (by decide) kq_2009 j121 rfl ho3 ?_
    obtain ⟨ho4, h⟩ := h
    refine s_virt j122 rfl rfl rfl rfl ho4 (by decide) (in_Sk_putBackPolicy _ _) (am_r8 rfl) (am_bV h (fun σ5 h hx5 => ?_))
    replace h := h hx5
    refine s_iinc (L' := [some (am_ov (some this)), some (.int (x1 + (1 : Int32))), some (am_ov x2)]) j125 rfl rfl kc_ic_1 (am_st1_R [] _ _ _ _) ?_
    refine s_goto j128 rfl rfl ?_
    exact h
  · replace h := h.2 hc1
    refine s_aload_n j93 rfl rfl ?_
    obtain ⟨ho7, h⟩ := h
    refine s_gfR j94 rfl ho7 ?_
    refine s_aload_n j97 rfl rfl ?_
    obtain ⟨ho8, h⟩ := h
    refine s_gfR j98 rfl ho8 ?_
    obtain ⟨ho9, h⟩ := h
    refine s_virt j101 rfl rfl rfl rfl ho9 (by decide) (in_Rd_putBack _ _) (am_r8 rfl) (am_bV h (fun σ10 h hx10 => ?_))
    replace h := h hx10
    refine s_aload_n j104 rfl rfl ?_
    refine s_gfR j105 rfl (am_is_ext hx10 ho8) ?_
    refine s_astore_nV j108 rfl (n := 3) (L' := fun w => [some (am_ov (some this)), some (.int x1), some (am_ov w)]) rfl (by decide) (fun _ => rfl) (fun v12 hv13 => ?_)
    replace h := h v12 hv13
    refine s_goto j109 rfl rfl ?_
    exact h
theorem P_Sk_putBackAll (nl : Bool) (Ln : Nat) (xs : Nat → Int32) : am_Jl (TT nl Ln xs) 190 [(0, .aload_n 1, 1, []), (1, .astore_n 3, 2, [])] := dk_ck (by decide +kernel)
set_option maxRecDepth 4096 in
theorem w_Sk_putBackAll {nl : Bool} {Ln : Nat} {xs : Nat → Int32} {d : Nat} {this : Nat} {p0 : Option Nat} {σ : am_S} {F : am_S → Prop} (h : c_Sk_putBackAll_2 nl Ln xs (d + 1) this p0 none p0 σ F) : k_Sk_putBackAll nl Ln xs (d + 1) this p0 σ F := by
  obtain ⟨j0, j1, -⟩ := P_Sk_putBackAll nl Ln xs
  have elo : am_lo 4 [am_ov (some this), am_ov p0] = [some (am_ov (some this)), some (am_ov p0), none, none] := by simp only [am_lo, am_in_ov, am_in_int, am_in_long, am_in_nil]; rfl
  unfold k_Sk_putBackAll
  rw [elo]
  refine s_aload_n j0 rfl rfl ?_
  refine s_astore_n j1 rfl (n := 4) (L' := [some (am_ov (some this)), some (am_ov p0), none, some (am_ov p0)]) rfl (by decide) rfl ?_
  exact h
theorem P_Sk_putBackAll_2 (nl : Bool) (Ln : Nat) (xs : Nat → Int32) : am_Jl (TT nl Ln xs) 190 [(2, .aload_n 3, 3, []), (3, .ifnull 18, 6, []), (6, .aload_n 3, 7, []), (7, .getfield 16, 10, [9, 7, 5, 2]), (10, .astore_n 2, 11, []), (11, .aload_n 0, 12, []), (12, .aload_n 3, 13, []), (13, .invokevirtual 37, 16, [10, 80, 6, 2, 2]), (16, .aload_n 2, 17, []), (17, .astore_n 3, 18, []), (18, .goto (-16), 21, []), (21, .return_, 22, [0])] := dk_ck (by decide +kernel)
set_option maxRecDepth 4096 in
theorem w_Sk_putBackAll_2 {nl : Bool} {Ln : Nat} {xs : Nat → Int32} {d : Nat} {this : Nat} {x1 : Option Nat} {x2 : Option Value} {x3 : Option Nat} {σ : am_S} {F : am_S → Prop} (h : (x3 = none → F σ) ∧ (¬ (x3 = none) → (am_is σ x3 7) ∧ ∀ v3 : Option Nat, v3 = (am_fR σ 7005 (x3.getD 0)) → (am_is σ (some this) 5) ∧ k_Sk_putBack nl Ln xs d this x3 σ (fun σ6 => am_ext σ σ6 → c_Sk_putBackAll_2 nl Ln xs (d + 1) this x1 (some (am_ov v3)) v3 σ6 F))) : c_Sk_putBackAll_2 nl Ln xs (d + 1) this x1 x2 x3 σ F := by
  obtain ⟨j2, j3, j6, j7, j10, j11, j12, j13, j16, j17, j18, j21, -⟩ := P_Sk_putBackAll_2 nl Ln xs
  unfold c_Sk_putBackAll_2
  refine s_aload_n j2 rfl rfl ?_
  refine s_ifnull j3 rfl rfl (fun hc1 => ?_) (fun hc1 => ?_)
  · replace h := h.1 hc1
    exact s_retV j21 rfl h
  · replace h := h.2 hc1
    refine s_aload_n j6 rfl rfl ?_
    obtain ⟨ho2, h⟩ := h
    refine s_gfR j7 rfl ho2 ?_
    refine s_astore_nV j10 rfl (n := 4) (L' := fun w => [some (am_ov (some this)), some (am_ov x1), some (am_ov w), some (am_ov x3)]) rfl (by decide) (fun _ => am_st1_R [_] _ _ _ _) (fun v3 hv4 => ?_)
    replace h := h v3 hv4
    refine s_aload_n j11 rfl rfl ?_
    refine s_aload_n j12 rfl rfl ?_
    obtain ⟨ho5, h⟩ := h
    refine s_virt j13 rfl rfl rfl rfl ho5 (by decide) (in_Sk_putBack _ _) (am_r8 rfl) (am_bV h (fun σ6 h hx6 => ?_))
    replace h := h hx6
    refine s_aload_n j16 rfl rfl ?_
    refine s_astore_n j17 rfl (n := 4) (L' := [some (am_ov (some this)), some (am_ov x1), some (am_ov v3), some (am_ov v3)]) rfl (by decide) (am_st1_R [_, _] _ _ _ _) ?_
    refine s_goto j18 rfl rfl ?_
    exact h
theorem P_Sk_putBackCase (nl : Bool) (Ln : Nat) (xs : Nat → Int32) : am_Jl (TT nl Ln xs) 191 [(0, .aload_n 0, 1, []), (1, .aload_n 1, 2, []), (2, .getfield 128, 5, [9, 11, 5, 2]), (5, .invokevirtual 66, 8, [10, 190, 6, 4, 2]), (8, .aload_n 1, 9, []), (9, .aload_n 0, 10, []), (10, .getfield 106, 13, [9, 5, 3, 2]), (13, .putfield 113, 16, [9, 11, 7, 2]), (16, .aload_n 0, 17, []), (17, .aload_n 1, 18, []), (18, .putfield 106, 21, [9, 5, 3, 2]), (21, .return_, 22, [0])] := dk_ck (by decide +kernel)
set_option maxRecDepth 4096 in
theorem w_Sk_putBackCase {nl : Bool} {Ln : Nat} {xs : Nat → Int32} {d : Nat} {this : Nat} {p0 : Option Nat} {σ : am_S} {F : am_S → Prop} (h : (am_is σ p0 11) ∧ (am_is σ (some this) 5) ∧ k_Sk_putBackAll nl Ln xs d this (am_fR σ 11005 (p0.getD 0)) σ (fun σ3 => am_ext σ σ3 → ∀ σ5, σ5 = am_sfR σ3 11007 (p0.getD 0) (am_fR σ3 5003 this) → ∀ σ8, σ8 = am_sfR σ5 5003 this p0 → F σ8)) : k_Sk_putBackCase nl Ln xs (d + 1) this p0 σ F := by
  obtain ⟨j0, j1, j2, j5, j8, j9, j10, j13, j16, j17, j18, j21, -⟩ := P_Sk_putBackCase nl Ln xs
  have elo : am_lo 2 [am_ov (some this), am_ov p0] = [some (am_ov (some this)), some (am_ov p0)] := by simp only [am_lo, am_in_ov, am_in_int, am_in_long, am_in_nil]; rfl
  unfold k_Sk_putBackCase
  rw [elo]
  refine s_aload_n j0 rfl rfl ?_
  refine s_aload_n j1 rfl rfl ?_
  obtain ⟨ho1, h⟩ := h
  refine s_gfR j2 rfl ho1 ?_
  obtain ⟨ho2, h⟩ := h
  refine s_virt j5 rfl rfl rfl rfl ho2 (by decide) (in_Sk_putBackAll _ _) (am_r8 rfl) (am_bV h (fun σ3 h hx3 => ?_))
  replace h := h hx3
  refine s_aload_n j8 rfl rfl ?_
  refine s_aload_n j9 rfl rfl ?_
  refine s_gfR j10 rfl (am_is_ext hx3 ho2) ?_
  refine s_pfR j13 rfl (am_is_ext hx3 ho1) (fun σ5 e6 => ?_)
  replace h := h σ5 e6
  have ek7 : am_kd σ5 = am_kd σ3 := by rw [e6]
  refine s_aload_n j16 rfl rfl ?_
  refine s_aload_n j17 rfl rfl ?_
  refine s_pfR j18 rfl (am_is_kd ek7 (am_is_ext hx3 ho2)) (fun σ8 e9 => ?_)
  replace h := h σ8 e9
  have ek10 : am_kd σ8 = am_kd σ5 := by rw [e9]
  exact s_retV j21 rfl h
theorem P_Sk_putBackLoss (nl : Bool) (Ln : Nat) (xs : Nat → Int32) : am_Jl (TT nl Ln xs) 192 [(0, .aload_n 1, 1, []), (1, .aload_n 0, 2, []), (2, .getfield 69, 5, [9, 5, 2, 2]), (5, .putfield 76, 8, [9, 10, 9, 2]), (8, .aload_n 0, 9, []), (9, .aload_n 1, 10, []), (10, .putfield 69, 13, [9, 5, 2, 2]), (13, .return_, 14, [0])] := dk_ck (by decide +kernel)
set_option maxRecDepth 4096 in
theorem w_Sk_putBackLoss {nl : Bool} {Ln : Nat} {xs : Nat → Int32} {d : Nat} {this : Nat} {p0 : Option Nat} {σ : am_S} {F : am_S → Prop} (h : (am_is σ (some this) 5) ∧ (am_is σ p0 10) ∧ ∀ σ3, σ3 = am_sfR σ 10009 (p0.getD 0) (am_fR σ 5002 this) → ∀ σ6, σ6 = am_sfR σ3 5002 this p0 → F σ6) : k_Sk_putBackLoss nl Ln xs (d + 1) this p0 σ F := by
  obtain ⟨j0, j1, j2, j5, j8, j9, j10, j13, -⟩ := P_Sk_putBackLoss nl Ln xs
  have elo : am_lo 2 [am_ov (some this), am_ov p0] = [some (am_ov (some this)), some (am_ov p0)] := by simp only [am_lo, am_in_ov, am_in_int, am_in_long, am_in_nil]; rfl
  unfold k_Sk_putBackLoss
  rw [elo]
  refine s_aload_n j0 rfl rfl ?_
  refine s_aload_n j1 rfl rfl ?_
  obtain ⟨ho1, h⟩ := h
  refine s_gfR j2 rfl ho1 ?_
  obtain ⟨ho2, h⟩ := h
  refine s_pfR j5 rfl ho2 (fun σ3 e4 => ?_)
  replace h := h σ3 e4
  have ek5 : am_kd σ3 = am_kd σ := by rw [e4]
  refine s_aload_n j8 rfl rfl ?_
  refine s_aload_n j9 rfl rfl ?_
  refine s_pfR j10 rfl (am_is_kd ek5 ho1) (fun σ6 e7 => ?_)
  replace h := h σ6 e7
  have ek8 : am_kd σ6 = am_kd σ3 := by rw [e7]
  exact s_retV j13 rfl h
theorem P_Sk_putBackPolicy (nl : Bool) (Ln : Nat) (xs : Nat → Int32) : am_Jl (TT nl Ln xs) 193 [(0, .aload_n 0, 1, []), (1, .aload_n 1, 2, []), (2, .getfield 63, 5, [9, 9, 4, 2]), (5, .invokevirtual 66, 8, [10, 190, 6, 4, 2]), (8, .aload_n 1, 9, []), (9, .aload_n 0, 10, []), (10, .getfield 41, 13, [9, 5, 1, 2]), (13, .putfield 48, 16, [9, 9, 5, 2]), (16, .aload_n 0, 17, []), (17, .aload_n 1, 18, []), (18, .putfield 41, 21, [9, 5, 1, 2]), (21, .return_, 22, [0])] := dk_ck (by decide +kernel)
set_option maxRecDepth 4096 in
theorem w_Sk_putBackPolicy {nl : Bool} {Ln : Nat} {xs : Nat → Int32} {d : Nat} {this : Nat} {p0 : Option Nat} {σ : am_S} {F : am_S → Prop} (h : (am_is σ p0 9) ∧ (am_is σ (some this) 5) ∧ k_Sk_putBackAll nl Ln xs d this (am_fR σ 9004 (p0.getD 0)) σ (fun σ3 => am_ext σ σ3 → ∀ σ5, σ5 = am_sfR σ3 9005 (p0.getD 0) (am_fR σ3 5001 this) → ∀ σ8, σ8 = am_sfR σ5 5001 this p0 → F σ8)) : k_Sk_putBackPolicy nl Ln xs (d + 1) this p0 σ F := by
  obtain ⟨j0, j1, j2, j5, j8, j9, j10, j13, j16, j17, j18, j21, -⟩ := P_Sk_putBackPolicy nl Ln xs
  have elo : am_lo 2 [am_ov (some this), am_ov p0] = [some (am_ov (some this)), some (am_ov p0)] := by simp only [am_lo, am_in_ov, am_in_int, am_in_long, am_in_nil]; rfl
  unfold k_Sk_putBackPolicy
  rw [elo]
  refine s_aload_n j0 rfl rfl ?_
  refine s_aload_n j1 rfl rfl ?_
  obtain ⟨ho1, h⟩ := h
  refine s_gfR j2 rfl ho1 ?_
  obtain ⟨ho2, h⟩ := h
  refine s_virt j5 rfl rfl rfl rfl ho2 (by decide) (in_Sk_putBackAll _ _) (am_r8 rfl) (am_bV h (fun σ3 h hx3 => ?_))
  replace h := h hx3
  refine s_aload_n j8 rfl rfl ?_
  refine s_aload_n j9 rfl rfl ?_
  refine s_gfR j10 rfl (am_is_ext hx3 ho2) ?_
  refine s_pfR j13 rfl (am_is_ext hx3 ho1) (fun σ5 e6 => ?_)
  replace h := h σ5 e6
  have ek7 : am_kd σ5 = am_kd σ3 := by rw [e6]
  refine s_aload_n j16 rfl rfl ?_
  refine s_aload_n j17 rfl rfl ?_
  refine s_pfR j18 rfl (am_is_kd ek7 (am_is_ext hx3 ho2)) (fun σ8 e9 => ?_)
  replace h := h σ8 e9
  have ek10 : am_kd σ8 = am_kd σ5 := by rw [e9]
  exact s_retV j21 rfl h
theorem P_Arr_fill2 (nl : Bool) (Ln : Nat) (xs : Nat → Int32) : am_Jl (TT nl Ln xs) 194 [(0, .iconst 0, 1, []), (1, .istore_n 2, 2, []), (2, .aload_n 0, 3, []), (3, .arraylength, 4, []), (4, .istore_n 3, 5, [])] := dk_ck (by decide +kernel)
set_option maxRecDepth 4096 in
theorem w_Arr_fill2 {nl : Bool} {Ln : Nat} {xs : Nat → Int32} {d : Nat} {p0 : Option Nat} {p1 : Int32} {σ : am_S} {F : am_S → Prop} (h : (∃ n, p0 = some n ∧ (am_kd σ n).1 = 1000) ∧ ∀ v2 : Int32, v2 = (Int32.ofNat (am_kd σ (p0.getD 0)).2) → c_Arr_fill2_5 nl Ln xs (d + 1) p0 p1 (0 : Int32) v2 σ F) : k_Arr_fill2 nl Ln xs (d + 1) p0 p1 σ F := by
  obtain ⟨j0, j1, j2, j3, j4, -⟩ := P_Arr_fill2 nl Ln xs
  have elo : am_lo 4 [am_ov p0, .int p1] = [some (am_ov p0), some (.int p1), none, none] := by simp only [am_lo, am_in_ov, am_in_int, am_in_long, am_in_nil]; rfl
  unfold k_Arr_fill2
  rw [elo]
  refine s_iconst j0 rfl kc_ic_0 ?_
  refine s_istore_n j1 rfl (n := 4) (L' := [some (am_ov p0), some (.int p1), some (.int (0 : Int32)), none]) rfl (by decide) rfl ?_
  refine s_aload_n j2 rfl rfl ?_
  obtain ⟨ho1, h⟩ := h
  refine s_len (k := 1000) kn_1000 (by decide) j3 rfl ho1 ?_
  refine s_istore_nV j4 rfl (n := 4) (L' := fun w => [some (am_ov p0), some (.int p1), some (.int (0 : Int32)), some (.int w)]) rfl (by decide) (fun _ => rfl) (fun v2 hv3 => ?_)
  replace h := h v2 hv3
  exact h
theorem P_Arr_fill2_5 (nl : Bool) (Ln : Nat) (xs : Nat → Int32) : am_Jl (TT nl Ln xs) 194 [(5, .iload_n 2, 6, []), (6, .iload_n 3, 7, []), (7, .if_icmp .ge 13, 10, []), (10, .aload_n 0, 11, []), (11, .iload_n 2, 12, []), (12, .iload_n 1, 13, []), (13, .iastore, 14, []), (14, .iinc 2 1, 17, []), (17, .goto (-12), 20, []), (20, .return_, 21, [0])] := dk_ck (by decide +kernel)
set_option maxRecDepth 4096 in
theorem w_Arr_fill2_5 {nl : Bool} {Ln : Nat} {xs : Nat → Int32} {d : Nat} {x0 : Option Nat} {x1 : Int32} {x2 : Int32} {x3 : Int32} {σ : am_S} {F : am_S → Prop} (h : (x2 < x3 → (am_ar σ 1000 x0 x2) ∧ ∀ σ3, σ3 = am_saI σ (x0.getD 0) x2.toNatClampNeg x1 → c_Arr_fill2_5 nl Ln xs (d + 1) x0 x1 (x2 + (1 : Int32)) x3 σ3 F) ∧ (¬ (x2 < x3) → F σ)) : c_Arr_fill2_5 nl Ln xs (d + 1) x0 x1 x2 x3 σ F := by
  obtain ⟨j5, j6, j7, j10, j11, j12, j13, j14, j17, j20, -⟩ := P_Arr_fill2_5 nl Ln xs
  unfold c_Arr_fill2_5
  refine s_iload_n j5 rfl rfl ?_
  refine s_iload_n j6 rfl rfl ?_
  refine s_icn j7 rfl rfl am_cc_ge (fun hc1 => ?_) (fun hc1 => ?_)
  · replace h := h.2 hc1
    exact s_retV j20 rfl h
  · replace h := h.1 hc1
    refine s_aload_n j10 rfl rfl ?_
    refine s_iload_n j11 rfl rfl ?_
    refine s_iload_n j12 rfl rfl ?_
    obtain ⟨ho2, h⟩ := h
    refine s_iastore j13 rfl ho2 (fun σ3 e4 => ?_)
    replace h := h σ3 e4
    have ek5 : am_kd σ3 = am_kd σ := by rw [e4]
    refine s_iinc (L' := [some (am_ov x0), some (.int x1), some (.int (x2 + (1 : Int32))), some (.int x3)]) j14 rfl rfl kc_ic_1 rfl ?_
    refine s_goto j17 rfl rfl ?_
    exact h
theorem P_Co_of (nl : Bool) (Ln : Nat) (xs : Nat → Int32) : am_Jl (TT nl Ln xs) 195 [(0, .aload_n 0, 1, []), (1, .getfield 56, 4, [9, 0, 7, 2]), (4, .iload_n 1, 5, []), (5, .i2l, 6, []), (6, .invokevirtual 86, 9, [10, 12, 7, 3, 2]), (9, .astore_n 3, 10, []), (10, .aload_n 3, 11, []), (11, .ifnonnull 6, 14, []), (14, .bipush (-2), 16, []), (16, .ireturn, 17, [1]), (17, .iload_n 2, 18, []), (18, .tableswitch 101 0 6 #[42, 50, 55, 63, 68, 91, 96], 60, []), (60, .aload_n 3, 61, []), (61, .getfield 235, 64, [9, 11, 0, 2]), (64, .getfield 239, 67, [9, 9, 0, 0]), (67, .ireturn, 68, [1]), (68, .aload_n 3, 69, []), (69, .getfield 240, 72, [9, 11, 1, 0]), (72, .ireturn, 73, [1]), (73, .aload_n 3, 74, []), (74, .getfield 243, 77, [9, 11, 2, 2]), (77, .getfield 247, 80, [9, 10, 0, 0]), (80, .ireturn, 81, [1]), (81, .aload_n 3, 82, []), (82, .getfield 93, 85, [9, 11, 3, 0]), (85, .ireturn, 86, [1]), (109, .aload_n 3, 110, []), (110, .getfield 254, 113, [9, 11, 6, 0]), (113, .ireturn, 114, [1]), (114, .aload_n 3, 115, []), (115, .getfield 98, 118, [9, 11, 4, 0]), (118, .ireturn, 119, [1]), (119, .bipush (-2), 121, []), (121, .ireturn, 122, [1])] := dk_ck (by decide +kernel)
set_option maxRecDepth 4096 in
theorem w_Co_of {nl : Bool} {Ln : Nat} {xs : Nat → Int32} {d : Nat} {this : Nat} {p0 : Int32} {p1 : Int32} {σ : am_S} {F : Int32 → am_S → Prop} (h : (am_is σ (some this) 0) ∧ (am_is σ (am_fR σ 7 this) 6) ∧ k_Bk_caseAt nl Ln xs d ((am_fR σ 7 this).getD 0) p0.toInt64 σ (fun a4 σ3 => am_ext σ σ3 → (a4 = none → F (-2 : Int32) σ3) ∧ (¬ (a4 = none) → (p1 = (0 : Int32) → (am_is σ3 a4 11) ∧ (am_is σ3 (am_fR σ3 11000 (a4.getD 0)) 9) ∧ F (am_fI σ3 9000 ((am_fR σ3 11000 (a4.getD 0)).getD 0)) σ3) ∧ (p1 = (1 : Int32) → (am_is σ3 a4 11) ∧ F (am_fI σ3 11001 (a4.getD 0)) σ3) ∧ (p1 = (2 : Int32) → (am_is σ3 a4 11) ∧ (am_is σ3 (am_fR σ3 11002 (a4.getD 0)) 10) ∧ F (am_fI σ3 10000 ((am_fR σ3 11002 (a4.getD 0)).getD 0)) σ3) ∧ (p1 = (3 : Int32) → (am_is σ3 a4 11) ∧ F (am_fI σ3 11003 (a4.getD 0)) σ3) ∧ (p1 = (4 : Int32) → c_Co_of_86 nl Ln xs (d + 1) this p0 p1 a4 σ3 F) ∧ (p1 = (5 : Int32) → (am_is σ3 a4 11) ∧ F (am_fI σ3 11006 (a4.getD 0)) σ3) ∧ (p1 = (6 : Int32) → (am_is σ3 a4 11) ∧ F (am_fI σ3 11004 (a4.getD 0)) σ3) ∧ ((p1.toInt < 0 ∨ 6 < p1.toInt) → F (-2 : Int32) σ3)))) : k_Co_of nl Ln xs (d + 1) this p0 p1 σ F := by
  obtain ⟨j0, j1, j4, j5, j6, j9, j10, j11, j14, j16, j17, j18, j60, j61, j64, j67, j68, j69, j72, j73, j74, j77, j80, j81, j82, j85, j109, j110, j113, j114, j115, j118, j119, j121, -⟩ := P_Co_of nl Ln xs
  have elo : am_lo 4 [am_ov (some this), .int p0, .int p1] = [some (am_ov (some this)), some (.int p0), some (.int p1), none] := by simp only [am_lo, am_in_ov, am_in_int, am_in_long, am_in_nil]; rfl
  unfold k_Co_of
  rw [elo]
  refine s_aload_n j0 rfl rfl ?_
  obtain ⟨ho1, h⟩ := h
  refine s_gfR j1 rfl ho1 ?_
  refine s_iload_n j4 rfl rfl ?_
  refine s_g j5 rfl rfl rfl rfl rfl rfl ?_
  obtain ⟨ho2, h⟩ := h
  refine s_virt j6 rfl rfl rfl rfl ho2 (by decide) (in_Bk_caseAt _ _) (am_r8 rfl) (am_bR h (fun a4 σ3 h hx3 => ?_))
  replace h := h hx3
  refine s_astore_n j9 rfl (n := 4) (L' := [some (am_ov (some this)), some (.int p0), some (.int p1), some (am_ov a4)]) rfl (by decide) rfl ?_
  refine s_aload_n j10 rfl rfl ?_
  refine s_ifnonnull j11 rfl rfl (fun hc5 => ?_) (fun hc5 => ?_)
  · replace h := h.2 hc5
    refine s_iload_n j17 rfl rfl ?_
    by_cases hr14 : p1.toInt < 0 ∨ 6 < p1.toInt
    · refine s_tsw j18 (t := 119) ((am_sw_out hr14).trans rfl) ?_
      replace h := h.2.2.2.2.2.2.2 hr14
      refine s_bipush j119 rfl kc_bi_m2 ?_
      exact s_retI j121 rfl h
    · obtain ⟨k15, hk16, hv17⟩ := am_sw_in hr14
      have hk162 : k15 < 7 := by omega
      clear hk16
      match k15, hk162, hv17 with
      | 0, _, hv17 =>
        have hs : p1 = (0 : Int32) := am_te hv17 (by decide)
        refine s_tsw j18 (t := 60) (by show am_sw 18 101 0 6 #[42, 50, 55, 63, 68, 91, 96] p1.toInt = _; rw [hv17]; rfl) ?_
        replace h := h.1 hs
        refine s_aload_n j60 rfl rfl ?_
        obtain ⟨ho6, h⟩ := h
        refine s_gfR j61 rfl ho6 ?_
        obtain ⟨ho7, h⟩ := h
        refine s_gfI j64 rfl ho7 ?_
        exact s_retI j67 rfl h
      | 1, _, hv17 =>
        have hs : p1 = (1 : Int32) := am_te hv17 (by decide)
        refine s_tsw j18 (t := 68) (by show am_sw 18 101 0 6 #[42, 50, 55, 63, 68, 91, 96] p1.toInt = _; rw [hv17]; rfl) ?_
        replace h := h.2.1 hs
        refine s_aload_n j68 rfl rfl ?_
        obtain ⟨ho8, h⟩ := h
        refine s_gfI j69 rfl ho8 ?_
        exact s_retI j72 rfl h
      | 2, _, hv17 =>
        have hs : p1 = (2 : Int32) := am_te hv17 (by decide)
        refine s_tsw j18 (t := 73) (by show am_sw 18 101 0 6 #[42, 50, 55, 63, 68, 91, 96] p1.toInt = _; rw [hv17]; rfl) ?_
        replace h := h.2.2.1 hs
        refine s_aload_n j73 rfl rfl ?_
        obtain ⟨ho9, h⟩ := h
        refine s_gfR j74 rfl ho9 ?_
        obtain ⟨ho10, h⟩ := h
        refine s_gfI j77 rfl ho10 ?_
        exact s_retI j80 rfl h
      | 3, _, hv17 =>
        have hs : p1 = (3 : Int32) := am_te hv17 (by decide)
        refine s_tsw j18 (t := 81) (by show am_sw 18 101 0 6 #[42, 50, 55, 63, 68, 91, 96] p1.toInt = _; rw [hv17]; rfl) ?_
        replace h := h.2.2.2.1 hs
        refine s_aload_n j81 rfl rfl ?_
        obtain ⟨ho11, h⟩ := h
        refine s_gfI j82 rfl ho11 ?_
        exact s_retI j85 rfl h
      | 4, _, hv17 =>
        have hs : p1 = (4 : Int32) := am_te hv17 (by decide)
        refine s_tsw j18 (t := 86) (by show am_sw 18 101 0 6 #[42, 50, 55, 63, 68, 91, 96] p1.toInt = _; rw [hv17]; rfl) ?_
        replace h := h.2.2.2.2.1 hs
        exact h
      | 5, _, hv17 =>
        have hs : p1 = (5 : Int32) := am_te hv17 (by decide)
        refine s_tsw j18 (t := 109) (by show am_sw 18 101 0 6 #[42, 50, 55, 63, 68, 91, 96] p1.toInt = _; rw [hv17]; rfl) ?_
        replace h := h.2.2.2.2.2.1 hs
        refine s_aload_n j109 rfl rfl ?_
        obtain ⟨ho12, h⟩ := h
        refine s_gfI j110 rfl ho12 ?_
        exact s_retI j113 rfl h
      | 6, _, hv17 =>
        have hs : p1 = (6 : Int32) := am_te hv17 (by decide)
        refine s_tsw j18 (t := 114) (by show am_sw 18 101 0 6 #[42, 50, 55, 63, 68, 91, 96] p1.toInt = _; rw [hv17]; rfl) ?_
        replace h := h.2.2.2.2.2.2.1 hs
        refine s_aload_n j114 rfl rfl ?_
        obtain ⟨ho13, h⟩ := h
        refine s_gfI j115 rfl ho13 ?_
        exact s_retI j118 rfl h
      | n + 7, hk162, _ => exact absurd hk162 (by omega)
  · replace h := h.1 hc5
    refine s_bipush j14 rfl kc_bi_m2 ?_
    exact s_retI j16 rfl h
theorem P_Co_of_86 (nl : Bool) (Ln : Nat) (xs : Nat → Int32) : am_Jl (TT nl Ln xs) 195 [(86, .aload_n 3, 87, []), (87, .aload_n 0, 88, []), (88, .getfield 56, 91, [9, 0, 7, 2]), (91, .getfield 101, 94, [9, 6, 15, 0]), (94, .sipush 10949, 97, []), (97, .invokevirtual 250, 100, [10, 18, 12, 5, 3]), (100, .ifCond .eq 7, 103, []), (103, .iconst 1, 104, []), (104, .goto 4, 107, []), (107, .iconst 0, 108, []), (108, .ireturn, 109, [1])] := dk_ck (by decide +kernel)
set_option maxRecDepth 4096 in
theorem w_Co_of_86 {nl : Bool} {Ln : Nat} {xs : Nat → Int32} {d : Nat} {this : Nat} {x1 : Int32} {x2 : Int32} {x3 : Option Nat} {σ : am_S} {F : Int32 → am_S → Prop} (h : (am_is σ (some this) 0) ∧ (am_is σ (am_fR σ 7 this) 6) ∧ (am_is σ x3 11) ∧ k_Cs_isOpen nl Ln xs d (x3.getD 0) (am_fI σ 6015 ((am_fR σ 7 this).getD 0)) (10949 : Int32) σ (fun a5 σ4 => am_ext σ σ4 → F (if a5 = true then (1 : Int32) else 0) σ4)) : c_Co_of_86 nl Ln xs (d + 1) this x1 x2 x3 σ F := by
  obtain ⟨j86, j87, j88, j91, j94, j97, j100, j103, j104, j107, j108, -⟩ := P_Co_of_86 nl Ln xs
  unfold c_Co_of_86
  refine s_aload_n j86 rfl rfl ?_
  refine s_aload_n j87 rfl rfl ?_
  obtain ⟨ho1, h⟩ := h
  refine s_gfR j88 rfl ho1 ?_
  obtain ⟨ho2, h⟩ := h
  refine s_gfI j91 rfl ho2 ?_
  refine s_sipush j94 rfl kc_si_10949 ?_
  obtain ⟨ho3, h⟩ := h
  refine s_virt j97 rfl rfl rfl rfl ho3 (by decide) (in_Cs_isOpen _ _ _) (am_r8 rfl) (am_bB h (fun a5 σ4 h hx4 => ?_))
  replace h := h hx4
  have K7 : ∀ (w8 : Int32), w8 = (if a5 = true then (1 : Int32) else 0) → am_C (TT nl Ln xs) (d + 1) 195 108 [some (am_ov (some this)), some (.int x1), some (.int x2), some (am_ov x3)] [.int w8] σ4 (am_qI F) := by
    intro w8 hw9
    subst hw9
    exact s_retI j108 rfl h
  refine s_ifn j100 rfl rfl am_cb_eq (fun hc6 => ?_) (fun hc6 => ?_)
  · refine s_iconst j107 rfl kc_ic_0 ?_
    exact K7 _ (am_e0 (Iff.trans Iff.rfl (am_p10 hc6)))
  · refine s_iconst j103 rfl kc_ic_1 ?_
    refine s_goto j104 rfl rfl ?_
    exact K7 _ (am_e1 (Iff.trans Iff.rfl (am_p9 hc6)))
