/-! statements of methods, 11 (by wip/whole/gensteps.py) -/
theorem P_Rm_traced (nl : Bool) (Ln : Nat) (xs : Nat → Int32) : am_Jl (TT nl Ln xs) 226 [(0, .aload_n 0, 1, []), (1, .getfield 97, 4, [9, 12, 15, 3]), (4, .ifCond .eq 33, 7, []), (7, .aload_n 0, 8, []), (8, .getfield 101, 11, [9, 12, 14, 0]), (11, .sipush 200, 14, []), (14, .if_icmp .ge 23, 17, []), (17, .aload_n 0, 18, []), (18, .getfield 30, 21, [9, 12, 13, 2]), (21, .aload_n 0, 22, []), (22, .getfield 101, 25, [9, 12, 14, 0]), (25, .iload_n 1, 26, []), (26, .iastore, 27, []), (27, .aload_n 0, 28, []), (28, .dup, 29, []), (29, .getfield 101, 32, [9, 12, 14, 0]), (32, .iconst 1, 33, []), (33, .iadd, 34, []), (34, .putfield 101, 37, [9, 12, 14, 0]), (37, .return_, 38, [0])] := dk_ck (by decide +kernel)
set_option maxRecDepth 4096 in
theorem w_Rm_traced {nl : Bool} {Ln : Nat} {xs : Nat → Int32} {d : Nat} {this : Nat} {p0 : Int32} {σ : am_S} {F : am_S → Prop} (h : (am_is σ (some this) 12) ∧ ((am_fI σ 12015 this) = 0 → F σ) ∧ (¬ ((am_fI σ 12015 this) = 0) → ((am_fI σ 12014 this) < (200 : Int32) → (am_ar σ 1000 (am_fR σ 12013 this) (am_fI σ 12014 this)) ∧ ∀ σ5, σ5 = am_saI σ ((am_fR σ 12013 this).getD 0) (am_fI σ 12014 this).toNatClampNeg p0 → ∀ σ8, σ8 = am_sfI σ5 12014 this ((am_fI σ5 12014 this) + (1 : Int32)) → F σ8) ∧ (¬ ((am_fI σ 12014 this) < (200 : Int32)) → F σ))) : k_Rm_traced nl Ln xs (d + 1) this p0 σ F := by
  obtain ⟨j0, j1, j4, j7, j8, j11, j14, j17, j18, j21, j22, j25, j26, j27, j28, j29, j32, j33, j34, j37, -⟩ := P_Rm_traced nl Ln xs
  have elo : am_lo 2 [am_ov (some this), .int p0] = [some (am_ov (some this)), some (.int p0)] := by simp only [am_lo, am_in_ov, am_in_int, am_in_long, am_in_nil]; rfl
  unfold k_Rm_traced
  rw [elo]
  refine s_aload_n j0 rfl rfl ?_
  obtain ⟨ho1, h⟩ := h
  refine s_gfZ j1 rfl ho1 ?_
  refine s_if j4 rfl rfl am_cc_eq (fun hc2 => ?_) (fun hc2 => ?_)
  · replace h := h.1 hc2
    exact s_retV j37 rfl h
  · replace h := h.2 hc2
    refine s_aload_n j7 rfl rfl ?_
    refine s_gfI j8 rfl ho1 ?_
    refine s_sipush j11 rfl kc_si_200 ?_
    refine s_icn j14 rfl rfl am_cc_ge (fun hc3 => ?_) (fun hc3 => ?_)
    · replace h := h.2 hc3
      exact s_retV j37 rfl h
    · replace h := h.1 hc3
      refine s_aload_n j17 rfl rfl ?_
      refine s_gfR j18 rfl ho1 ?_
      refine s_aload_n j21 rfl rfl ?_
      refine s_gfI j22 rfl ho1 ?_
      refine s_iload_n j25 rfl rfl ?_
      obtain ⟨ho4, h⟩ := h
      refine s_iastore j26 rfl ho4 (fun σ5 e6 => ?_)
      replace h := h σ5 e6
      have ek7 : am_kd σ5 = am_kd σ := by rw [e6]
      refine s_aload_n j27 rfl rfl ?_
      refine s_dup j28 rfl (am_cov _) ?_
      refine s_gfI j29 rfl (am_is_kd ek7 ho1) ?_
      refine s_iconst j32 rfl kc_ic_1 ?_
      refine s_g j33 rfl rfl rfl rfl rfl rfl ?_
      refine s_pfI j34 rfl (am_is_kd ek7 ho1) (fun σ8 e9 => ?_)
      replace h := h σ8 e9
      have ek10 : am_kd σ8 = am_kd σ5 := by rw [e9]
      exact s_retV j37 rfl h
theorem P_Ro_amount (nl : Bool) (Ln : Nat) (xs : Nat → Int32) : am_Jl (TT nl Ln xs) 227 [(0, .bipush 6, 2, []), (2, .aload_n 0, 3, []), (3, .aload_n 0, 4, []), (4, .getfield 298, 7, [9, 13, 69, 0]), (7, .invokevirtual 301, 10, [10, 210, 14, 3, 2]), (10, .imul, 11, []), (11, .iload_n 1, 12, []), (12, .iadd, 13, []), (13, .istore_n 3, 14, []), (14, .iload_n 2, 15, []), (15, .ifCond .ne 12, 18, []), (18, .aload_n 0, 19, []), (19, .getfield 117, 22, [9, 13, 43, 2]), (22, .iload_n 3, 23, []), (23, .laload, 24, []), (24, .goto 9, 27, []), (27, .aload_n 0, 28, []), (28, .getfield 120, 31, [9, 13, 44, 2]), (31, .iload_n 3, 32, []), (32, .laload, 33, []), (33, .lstore 4, 35, []), (35, .iconst (-1), 36, []), (36, .istore 6, 38, []), (38, .bipush 40, 40, []), (40, .aload_n 0, 41, []), (41, .getfield 305, 44, [9, 13, 68, 0]), (44, .imul, 45, []), (45, .istore 7, 47, [])] := dk_ck (by decide +kernel)
set_option maxRecDepth 4096 in
theorem w_Ro_amount {nl : Bool} {Ln : Nat} {xs : Nat → Int32} {d : Nat} {this : Nat} {p0 : Int32} {p1 : Int32} {σ : am_S} {F : Int64 → am_S → Prop} (h : (am_is σ (some this) 13) ∧ k_Ro_root nl Ln xs d this (am_fI σ 13069 this) σ (fun a3 σ2 => am_ext σ σ2 → ∀ v4 : Int32, v4 = (((6 : Int32) * a3) + p0) → ((p1 = 0) → am_ar σ2 1001 (am_fR σ2 13043 this) v4) ∧ (¬ (p1 = 0) → am_ar σ2 1001 (am_fR σ2 13044 this) v4) ∧ ∀ w10 : Int64, w10 = (if p1 = 0 then (am_aL σ2 ((am_fR σ2 13043 this).getD 0) v4.toNatClampNeg) else (am_aL σ2 ((am_fR σ2 13044 this).getD 0) v4.toNatClampNeg)) → ∀ v12 : Int32, v12 = ((40 : Int32) * (am_fI σ2 13068 this)) → c_Ro_amount_47 nl Ln xs (d + 1) this p0 p1 v4 w10 (-1 : Int32) v12 none σ2 F)) : k_Ro_amount nl Ln xs (d + 1) this p0 p1 σ F := by
  obtain ⟨j0, j2, j3, j4, j7, j10, j11, j12, j13, j14, j15, j18, j19, j22, j23, j24, j27, j28, j31, j32, j33, j35, j36, j38, j40, j41, j44, j45, -⟩ := P_Ro_amount nl Ln xs
  have elo : am_lo 9 [am_ov (some this), .int p0, .int p1] = [some (am_ov (some this)), some (.int p0), some (.int p1), none, none, none, none, none, none] := by simp only [am_lo, am_in_ov, am_in_int, am_in_long, am_in_nil]; rfl
  unfold k_Ro_amount
  rw [elo]
  refine s_bipush j0 rfl kc_bi_6 ?_
  refine s_aload_n j2 rfl rfl ?_
  refine s_aload_n j3 rfl rfl ?_
  obtain ⟨ho1, h⟩ := h
  refine s_gfI j4 rfl ho1 ?_
  refine s_virt j7 rfl rfl rfl rfl ho1 (by decide) (in_Ro_root _ _) (am_r8 rfl) (am_bI h (fun a3 σ2 h hx2 => ?_))
  replace h := h hx2
  refine s_g j10 rfl rfl rfl rfl rfl rfl ?_
  refine s_iload_n j11 rfl rfl ?_
  refine s_g j12 rfl rfl rfl rfl rfl rfl ?_
  refine s_istore_nV j13 rfl (n := 9) (L' := fun w => [some (am_ov (some this)), some (.int p0), some (.int p1), some (.int w), none, none, none, none, none]) rfl (by decide) (fun _ => rfl) (fun v4 hv5 => ?_)
  replace h := h v4 hv5
  refine s_iload_n j14 rfl rfl ?_
  obtain ⟨ho7, h⟩ := h
  obtain ⟨ho8, h⟩ := h
  have K9 : ∀ (w10 : Int64), w10 = (if p1 = 0 then (am_aL σ2 ((am_fR σ2 13043 this).getD 0) v4.toNatClampNeg) else (am_aL σ2 ((am_fR σ2 13044 this).getD 0) v4.toNatClampNeg)) → am_C (TT nl Ln xs) (d + 1) 227 33 [some (am_ov (some this)), some (.int p0), some (.int p1), some (.int v4), none, none, none, none, none] [.long w10] σ2 (am_qL F) := by
    intro w10 hw11
    replace h := h w10 hw11
    refine s_lstore j33 rfl (n := 9) (L' := [some (am_ov (some this)), some (.int p0), some (.int p1), some (.int v4), some (.long w10), none, none, none, none]) rfl (by decide) rfl ?_
    refine s_iconst j35 rfl kc_ic_m1 ?_
    refine s_istore j36 rfl (n := 9) (L' := [some (am_ov (some this)), some (.int p0), some (.int p1), some (.int v4), some (.long w10), none, some (.int (-1 : Int32)), none, none]) rfl (by decide) rfl ?_
    refine s_bipush j38 rfl kc_bi_40 ?_
    refine s_aload_n j40 rfl rfl ?_
    refine s_gfI j41 rfl (am_is_ext hx2 ho1) ?_
    refine s_g j44 rfl rfl rfl rfl rfl rfl ?_
    refine s_istoreV j45 rfl (n := 9) (L' := fun w => [some (am_ov (some this)), some (.int p0), some (.int p1), some (.int v4), some (.long w10), none, some (.int (-1 : Int32)), some (.int w), none]) rfl (by decide) (fun _ => rfl) (fun v12 hv13 => ?_)
    replace h := h v12 hv13
    exact h
  refine s_ifn j15 rfl rfl am_cc_ne (fun hc6 => ?_) (fun hc6 => ?_)
  · refine s_aload_n j27 rfl rfl ?_
    refine s_gfR j28 rfl (am_is_ext hx2 ho1) ?_
    refine s_iload_n j31 rfl rfl ?_
    refine s_laload j32 rfl (ho8 hc6) ?_
    exact K9 _ (am_t2 hc6 rfl)
  · refine s_aload_n j18 rfl rfl ?_
    refine s_gfR j19 rfl (am_is_ext hx2 ho1) ?_
    refine s_iload_n j22 rfl rfl ?_
    refine s_laload j23 rfl (ho7 hc6) ?_
    refine s_goto j24 rfl rfl ?_
    exact K9 _ (am_t1 hc6 rfl)
theorem P_Ro_amount_47 (nl : Bool) (Ln : Nat) (xs : Nat → Int32) : am_Jl (TT nl Ln xs) 227 [(47, .iload 7, 49, []), (49, .bipush 40, 51, []), (51, .aload_n 0, 52, []), (52, .getfield 305, 55, [9, 13, 68, 0]), (55, .imul, 56, []), (56, .aload_n 0, 57, []), (57, .getfield 138, 60, [9, 13, 51, 2]), (60, .aload_n 0, 61, []), (61, .getfield 305, 64, [9, 13, 68, 0]), (64, .iaload, 65, []), (65, .iadd, 66, []), (66, .if_icmp .ge 116, 69, []), (69, .aload_n 0, 70, []), (70, .getfield 141, 73, [9, 13, 52, 2]), (73, .iload 7, 75, []), (75, .iaload, 76, []), (76, .bipush 16, 78, []), (78, .if_icmp .ne 46, 81, []), (81, .aload_n 0, 82, []), (82, .iload 7, 84, []), (84, .aload_n 0, 85, []), (85, .getfield 308, 88, [9, 13, 72, 0]), (88, .aload_n 0, 89, []), (89, .getfield 311, 92, [9, 13, 73, 0]), (92, .invokevirtual 262, 95, [10, 212, 14, 4, 4]), (95, .ifCond .eq 29, 98, []), (98, .aload_n 0, 99, []), (99, .getfield 150, 102, [9, 13, 55, 2]), (102, .iload 7, 104, []), (104, .iaload, 105, []), (105, .iload_n 1, 106, []), (106, .if_icmp .ne 18, 109, []), (109, .aload_n 0, 110, []), (110, .getfield 153, 113, [9, 13, 56, 2]), (113, .iload 7, 115, []), (115, .iaload, 116, []), (116, .iload_n 2, 117, []), (117, .if_icmp .ne 7, 120, []), (120, .iconst 1, 121, []), (121, .goto 4, 124, []), (124, .iconst 0, 125, []), (182, .lload 4, 184, []), (184, .lreturn, 185, [2])] := dk_ck (by decide +kernel)
set_option maxRecDepth 4096 in
theorem w_Ro_amount_47 {nl : Bool} {Ln : Nat} {xs : Nat → Int32} {d : Nat} {this : Nat} {x1 : Int32} {x2 : Int32} {x3 : Int32} {x4 : Int64} {x6 : Int32} {x7 : Int32} {x8 : Option Value} {σ : am_S} {F : Int64 → am_S → Prop} (h : (am_is σ (some this) 13) ∧ (am_ar σ 1000 (am_fR σ 13051 this) (am_fI σ 13068 this)) ∧ (x7 < (((40 : Int32) * (am_fI σ 13068 this)) + (am_aI σ ((am_fR σ 13051 this).getD 0) (am_fI σ 13068 this).toNatClampNeg)) → (am_ar σ 1000 (am_fR σ 13052 this) x7) ∧ ((am_aI σ ((am_fR σ 13052 this).getD 0) x7.toNatClampNeg) = (16 : Int32) → k_Ro_counts nl Ln xs d this x7 (am_fI σ 13072 this) (am_fI σ 13073 this) σ (fun a7 σ6 => am_ext σ σ6 → ((a7 = true) → am_ar σ6 1000 (am_fR σ6 13055 this) x7) ∧ ((a7 = true) → ((am_aI σ6 ((am_fR σ6 13055 this).getD 0) x7.toNatClampNeg) = x1) → am_ar σ6 1000 (am_fR σ6 13056 this) x7) ∧ c_Ro_amount_125 nl Ln xs (d + 1) this x1 x2 x3 x4 x6 x7 x8 (if (a7 = true) ∧ (((am_aI σ6 ((am_fR σ6 13055 this).getD 0) x7.toNatClampNeg) = x1) ∧ ((am_aI σ6 ((am_fR σ6 13056 this).getD 0) x7.toNatClampNeg) = x2)) then (1 : Int32) else 0) σ6 F)) ∧ (¬ ((am_aI σ ((am_fR σ 13052 this).getD 0) x7.toNatClampNeg) = (16 : Int32)) → c_Ro_amount_124 nl Ln xs (d + 1) this x1 x2 x3 x4 x6 x7 x8 σ F)) ∧ (¬ (x7 < (((40 : Int32) * (am_fI σ 13068 this)) + (am_aI σ ((am_fR σ 13051 this).getD 0) (am_fI σ 13068 this).toNatClampNeg))) → F x4 σ)) : c_Ro_amount_47 nl Ln xs (d + 1) this x1 x2 x3 x4 x6 x7 x8 σ F := by
  obtain ⟨j47, j49, j51, j52, j55, j56, j57, j60, j61, j64, j65, j66, j69, j70, j73, j75, j76, j78, j81, j82, j84, j85, j88, j89, j92, j95, j98, j99, j102, j104, j105, j106, j109, j110, j113, j115, j116, j117, j120, j121, j124, j182, j184, -⟩ := P_Ro_amount_47 nl Ln xs
  unfold c_Ro_amount_47
  refine s_iload j47 rfl rfl ?_
  refine s_bipush j49 rfl kc_bi_40 ?_
  refine s_aload_n j51 rfl rfl ?_
  obtain ⟨ho1, h⟩ := h
  refine s_gfI j52 rfl ho1 ?_
  refine s_g j55 rfl rfl rfl rfl rfl rfl ?_
  refine s_aload_n j56 rfl rfl ?_
  refine s_gfR j57 rfl ho1 ?_
  refine s_aload_n j60 rfl rfl ?_
  refine s_gfI j61 rfl ho1 ?_
  obtain ⟨ho2, h⟩ := h
  refine s_iaload j64 rfl ho2 ?_
  refine s_g j65 rfl rfl rfl rfl rfl rfl ?_
  refine s_icn j66 rfl rfl am_cc_ge (fun hc3 => ?_) (fun hc3 => ?_)
  · replace h := h.2 hc3
    refine s_lload j182 rfl rfl ?_
    exact s_retL j184 rfl h
  · replace h := h.1 hc3
    refine s_aload_n j69 rfl rfl ?_
    refine s_gfR j70 rfl ho1 ?_
    refine s_iload j73 rfl rfl ?_
    obtain ⟨ho4, h⟩ := h
    refine s_iaload j75 rfl ho4 ?_
    refine s_bipush j76 rfl kc_bi_16 ?_
    refine s_icn j78 rfl rfl am_cc_ne (fun hc5 => ?_) (fun hc5 => ?_)
    · replace h := h.2 hc5
      exact h
    · replace h := h.1 hc5
      refine s_aload_n j81 rfl rfl ?_
      refine s_iload j82 rfl rfl ?_
      refine s_aload_n j84 rfl rfl ?_
      refine s_gfI j85 rfl ho1 ?_
      refine s_aload_n j88 rfl rfl ?_
      refine s_gfI j89 rfl ho1 ?_
      refine s_virt j92 rfl rfl rfl rfl ho1 (by decide) (in_Ro_counts _ _ _ _) (am_r8 rfl) (am_bB h (fun a7 σ6 h hx6 => ?_))
      replace h := h hx6
      obtain ⟨ho9, h⟩ := h
      obtain ⟨ho11, h⟩ := h
      have K13 : ∀ (w14 : Int32), w14 = (if (a7 = true) ∧ (((am_aI σ6 ((am_fR σ6 13055 this).getD 0) x7.toNatClampNeg) = x1) ∧ ((am_aI σ6 ((am_fR σ6 13056 this).getD 0) x7.toNatClampNeg) = x2)) then (1 : Int32) else 0) → am_C (TT nl Ln xs) (d + 1) 227 125 [some (am_ov (some this)), some (.int x1), some (.int x2), some (.int x3), some (.long x4), none, some (.int x6), some (.int x7), x8] [.int w14] σ6 (am_qL F) := by
        intro w14 hw15
        subst hw15
        exact h
      refine s_ifn j95 rfl rfl am_cb_eq (fun hc8 => ?_) (fun hc8 => ?_)
      · refine s_iconst j124 rfl kc_ic_0 ?_
        exact K13 _ (am_e0 (Iff.trans Iff.rfl (am_p2 hc8)))
      · refine s_aload_n j98 rfl rfl ?_
        refine s_gfR j99 rfl (am_is_ext hx6 ho1) ?_
        refine s_iload j102 rfl rfl ?_
        refine s_iaload j104 rfl (ho9 hc8) ?_
        refine s_iload_n j105 rfl rfl ?_
        refine s_icn j106 rfl rfl am_cc_ne (fun hc10 => ?_) (fun hc10 => ?_)
        · refine s_iconst j124 rfl kc_ic_0 ?_
          exact K13 _ (am_e0 (am_p1 hc8 (Iff.trans Iff.rfl (am_p2 hc10))))
        · refine s_aload_n j109 rfl rfl ?_
          refine s_gfR j110 rfl (am_is_ext hx6 ho1) ?_
          refine s_iload j113 rfl rfl ?_
          refine s_iaload j115 rfl (ho11 hc8 hc10) ?_
          refine s_iload_n j116 rfl rfl ?_
          refine s_icn j117 rfl rfl am_cc_ne (fun hc12 => ?_) (fun hc12 => ?_)
          · refine s_iconst j124 rfl kc_ic_0 ?_
            exact K13 _ (am_e0 (am_p1 hc8 (am_p1 hc10 (Iff.trans Iff.rfl (am_p10 hc12)))))
          · refine s_iconst j120 rfl kc_ic_1 ?_
            refine s_goto j121 rfl rfl ?_
            exact K13 _ (am_e1 (am_p1 hc8 (am_p1 hc10 (Iff.trans Iff.rfl (am_p9 hc12)))))
theorem P_Ro_amount_124 (nl : Bool) (Ln : Nat) (xs : Nat → Int32) : am_Jl (TT nl Ln xs) 227 [(124, .iconst 0, 125, [])] := dk_ck (by decide +kernel)
set_option maxRecDepth 4096 in
theorem w_Ro_amount_124 {nl : Bool} {Ln : Nat} {xs : Nat → Int32} {d : Nat} {this : Nat} {x1 : Int32} {x2 : Int32} {x3 : Int32} {x4 : Int64} {x6 : Int32} {x7 : Int32} {x8 : Option Value} {σ : am_S} {F : Int64 → am_S → Prop} (h : c_Ro_amount_125 nl Ln xs (d + 1) this x1 x2 x3 x4 x6 x7 x8 (0 : Int32) σ F) : c_Ro_amount_124 nl Ln xs (d + 1) this x1 x2 x3 x4 x6 x7 x8 σ F := by
  obtain ⟨j124, -⟩ := P_Ro_amount_124 nl Ln xs
  unfold c_Ro_amount_124
  refine s_iconst j124 rfl kc_ic_0 ?_
  exact h
theorem P_Ro_amount_125 (nl : Bool) (Ln : Nat) (xs : Nat → Int32) : am_Jl (TT nl Ln xs) 227 [(125, .istore 8, 127, []), (127, .iload 8, 129, []), (129, .ifCond .eq 47, 132, []), (132, .aload_n 0, 133, []), (133, .getfield 156, 136, [9, 13, 57, 2]), (136, .iload 7, 138, []), (138, .iaload, 139, []), (139, .aload_n 0, 140, []), (140, .getfield 308, 143, [9, 13, 72, 0]), (143, .if_icmp .gt 33, 146, []), (146, .aload_n 0, 147, []), (147, .getfield 156, 150, [9, 13, 57, 2]), (150, .iload 7, 152, []), (152, .iaload, 153, []), (153, .iload 6, 155, []), (155, .if_icmp .lt 21, 158, []), (158, .aload_n 0, 159, []), (159, .getfield 156, 162, [9, 13, 57, 2]), (162, .iload 7, 164, []), (164, .iaload, 165, []), (165, .istore 6, 167, []), (167, .aload_n 0, 168, []), (168, .getfield 159, 171, [9, 13, 58, 2]), (171, .iload 7, 173, []), (173, .laload, 174, []), (174, .lstore 4, 176, []), (176, .iinc 7 1, 179, []), (179, .goto (-132), 182, [])] := dk_ck (by decide +kernel)
set_option maxRecDepth 4096 in
theorem w_Ro_amount_125 {nl : Bool} {Ln : Nat} {xs : Nat → Int32} {d : Nat} {this : Nat} {x1 : Int32} {x2 : Int32} {x3 : Int32} {x4 : Int64} {x6 : Int32} {x7 : Int32} {x8 : Option Value} {y0 : Int32} {σ : am_S} {F : Int64 → am_S → Prop} (h : (¬ (y0 = 0) → am_is σ (some this) 13) ∧ (¬ (y0 = 0) → am_ar σ 1000 (am_fR σ 13057 this) x7) ∧ (¬ (y0 = 0) → am_is σ (some this) 13) ∧ (¬ (y0 = 0) → ¬ ((am_fI σ 13072 this) < (am_aI σ ((am_fR σ 13057 this).getD 0) x7.toNatClampNeg)) → am_is σ (some this) 13) ∧ (¬ (y0 = 0) → ¬ ((am_fI σ 13072 this) < (am_aI σ ((am_fR σ 13057 this).getD 0) x7.toNatClampNeg)) → am_ar σ 1000 (am_fR σ 13057 this) x7) ∧ (¬ (y0 = 0) → ¬ ((am_fI σ 13072 this) < (am_aI σ ((am_fR σ 13057 this).getD 0) x7.toNatClampNeg)) → ¬ ((am_aI σ ((am_fR σ 13057 this).getD 0) x7.toNatClampNeg) < x6) → am_is σ (some this) 13) ∧ (¬ (y0 = 0) → ¬ ((am_fI σ 13072 this) < (am_aI σ ((am_fR σ 13057 this).getD 0) x7.toNatClampNeg)) → ¬ ((am_aI σ ((am_fR σ 13057 this).getD 0) x7.toNatClampNeg) < x6) → am_ar σ 1000 (am_fR σ 13057 this) x7) ∧ (¬ (y0 = 0) → ¬ ((am_fI σ 13072 this) < (am_aI σ ((am_fR σ 13057 this).getD 0) x7.toNatClampNeg)) → ¬ ((am_aI σ ((am_fR σ 13057 this).getD 0) x7.toNatClampNeg) < x6) → am_is σ (some this) 13) ∧ (¬ (y0 = 0) → ¬ ((am_fI σ 13072 this) < (am_aI σ ((am_fR σ 13057 this).getD 0) x7.toNatClampNeg)) → ¬ ((am_aI σ ((am_fR σ 13057 this).getD 0) x7.toNatClampNeg) < x6) → am_ar σ 1001 (am_fR σ 13058 this) x7) ∧ ∀ w14 : Int64, w14 = (if y0 = 0 then x4 else (if (am_fI σ 13072 this) < (am_aI σ ((am_fR σ 13057 this).getD 0) x7.toNatClampNeg) then x4 else (if (am_aI σ ((am_fR σ 13057 this).getD 0) x7.toNatClampNeg) < x6 then x4 else (am_aL σ ((am_fR σ 13058 this).getD 0) x7.toNatClampNeg)))) → ∀ w15 : Int32, w15 = (if y0 = 0 then x6 else (if (am_fI σ 13072 this) < (am_aI σ ((am_fR σ 13057 this).getD 0) x7.toNatClampNeg) then x6 else (if (am_aI σ ((am_fR σ 13057 this).getD 0) x7.toNatClampNeg) < x6 then x6 else (am_aI σ ((am_fR σ 13057 this).getD 0) x7.toNatClampNeg)))) → c_Ro_amount_47 nl Ln xs (d + 1) this x1 x2 x3 w14 w15 (x7 + (1 : Int32)) (some (.int y0)) σ F) : c_Ro_amount_125 nl Ln xs (d + 1) this x1 x2 x3 x4 x6 x7 x8 y0 σ F := by
  obtain ⟨j125, j127, j129, j132, j133, j136, j138, j139, j140, j143, j146, j147, j150, j152, j153, j155, j158, j159, j162, j164, j165, j167, j168, j171, j173, j174, j176, j179, -⟩ := P_Ro_amount_125 nl Ln xs
  unfold c_Ro_amount_125
  refine s_istore j125 rfl (n := 9) (L' := [some (am_ov (some this)), some (.int x1), some (.int x2), some (.int x3), some (.long x4), none, some (.int x6), some (.int x7), some (.int y0)]) rfl (by decide) rfl ?_
  refine s_iload j127 rfl rfl ?_
  obtain ⟨ho2, h⟩ := h
  obtain ⟨ho3, h⟩ := h
  obtain ⟨ho4, h⟩ := h
  obtain ⟨ho6, h⟩ := h
  obtain ⟨ho7, h⟩ := h
  obtain ⟨ho9, h⟩ := h
  obtain ⟨ho10, h⟩ := h
  obtain ⟨ho11, h⟩ := h
  obtain ⟨ho12, h⟩ := h
  have K13 : ∀ (w14 : Int64) (w15 : Int32), w14 = (if y0 = 0 then x4 else (if (am_fI σ 13072 this) < (am_aI σ ((am_fR σ 13057 this).getD 0) x7.toNatClampNeg) then x4 else (if (am_aI σ ((am_fR σ 13057 this).getD 0) x7.toNatClampNeg) < x6 then x4 else (am_aL σ ((am_fR σ 13058 this).getD 0) x7.toNatClampNeg)))) → w15 = (if y0 = 0 then x6 else (if (am_fI σ 13072 this) < (am_aI σ ((am_fR σ 13057 this).getD 0) x7.toNatClampNeg) then x6 else (if (am_aI σ ((am_fR σ 13057 this).getD 0) x7.toNatClampNeg) < x6 then x6 else (am_aI σ ((am_fR σ 13057 this).getD 0) x7.toNatClampNeg)))) → am_C (TT nl Ln xs) (d + 1) 227 176 [some (am_ov (some this)), some (.int x1), some (.int x2), some (.int x3), some (.long w14), none, some (.int w15), some (.int x7), some (.int y0)] [] σ (am_qL F) := by
    intro w14 w15 hw16 hw17
    replace h := h w14 hw16
    replace h := h w15 hw17
    refine s_iinc (L' := [some (am_ov (some this)), some (.int x1), some (.int x2), some (.int x3), some (.long w14), none, some (.int w15), some (.int (x7 + (1 : Int32))), some (.int y0)]) j176 rfl rfl kc_ic_1 rfl ?_
    refine s_goto j179 rfl rfl ?_
    exact h
  refine s_if j129 rfl rfl am_cc_eq (fun hc1 => ?_) (fun hc1 => ?_)
  · exact K13 _ _ (am_t1 hc1 rfl) (am_t1 hc1 rfl)
  · refine s_aload_n j132 rfl rfl ?_
    refine s_gfR j133 rfl (ho2 hc1) ?_
    refine s_iload j136 rfl rfl ?_
    refine s_iaload j138 rfl (ho3 hc1) ?_
    refine s_aload_n j139 rfl rfl ?_
    refine s_gfI j140 rfl (ho4 hc1) ?_
    refine s_ic j143 rfl rfl am_cc_gt (fun hc5 => ?_) (fun hc5 => ?_)
    · exact K13 _ _ (am_t2 hc1 (am_t1 hc5 rfl)) (am_t2 hc1 (am_t1 hc5 rfl))
    · refine s_aload_n j146 rfl rfl ?_
      refine s_gfR j147 rfl (ho6 hc1 hc5) ?_
      refine s_iload j150 rfl rfl ?_
      refine s_iaload j152 rfl (ho7 hc1 hc5) ?_
      refine s_iload j153 rfl rfl ?_
      refine s_ic j155 rfl rfl am_cc_lt (fun hc8 => ?_) (fun hc8 => ?_)
      · exact K13 _ _ (am_t2 hc1 (am_t2 hc5 (am_t1 hc8 rfl))) (am_t2 hc1 (am_t2 hc5 (am_t1 hc8 rfl)))
      · refine s_aload_n j158 rfl rfl ?_
        refine s_gfR j159 rfl (ho9 hc1 hc5 hc8) ?_
        refine s_iload j162 rfl rfl ?_
        refine s_iaload j164 rfl (ho10 hc1 hc5 hc8) ?_
        refine s_istore j165 rfl (n := 9) (L' := [some (am_ov (some this)), some (.int x1), some (.int x2), some (.int x3), some (.long x4), none, some (.int (am_aI σ ((am_fR σ 13057 this).getD 0) x7.toNatClampNeg)), some (.int x7), some (.int y0)]) rfl (by decide) rfl ?_
        refine s_aload_n j167 rfl rfl ?_
        refine s_gfR j168 rfl (ho11 hc1 hc5 hc8) ?_
        refine s_iload j171 rfl rfl ?_
        refine s_laload j173 rfl (ho12 hc1 hc5 hc8) ?_
        refine s_lstore j174 rfl (n := 9) (L' := [some (am_ov (some this)), some (.int x1), some (.int x2), some (.int x3), some (.long (am_aL σ ((am_fR σ 13058 this).getD 0) x7.toNatClampNeg)), none, some (.int (am_aI σ ((am_fR σ 13057 this).getD 0) x7.toNatClampNeg)), some (.int x7), some (.int y0)]) rfl (by decide) rfl ?_
        exact K13 _ _ (am_t2 hc1 (am_t2 hc5 (am_t2 hc8 rfl))) (am_t2 hc1 (am_t2 hc5 (am_t2 hc8 rfl)))
theorem P_Ro_row (nl : Bool) (Ln : Nat) (xs : Nat → Int32) : am_Jl (TT nl Ln xs) 228 [(0, .aload_n 0, 1, []), (1, .dup, 2, []), (2, .getfield 272, 5, [9, 13, 78, 1]), (5, .lload_n 3, 6, []), (6, .ladd, 7, []), (7, .putfield 272, 10, [9, 13, 78, 1]), (10, .aload_n 0, 11, []), (11, .getfield 3, 14, [9, 13, 99, 2]), (14, .getfield 276, 17, [9, 12, 15, 3]), (17, .ifCond .eq 64, 20, []), (20, .aload_n 0, 21, []), (21, .getfield 3, 24, [9, 13, 99, 2]), (24, .getfield 279, 27, [9, 12, 9, 2]), (27, .aload_n 0, 28, []), (28, .getfield 3, 31, [9, 13, 99, 2]), (31, .getfield 282, 34, [9, 12, 12, 0]), (34, .iload_n 1, 35, []), (35, .iastore, 36, []), (36, .aload_n 0, 37, []), (37, .getfield 3, 40, [9, 13, 99, 2]), (40, .getfield 285, 43, [9, 12, 10, 2]), (43, .aload_n 0, 44, []), (44, .getfield 3, 47, [9, 13, 99, 2]), (47, .getfield 282, 50, [9, 12, 12, 0]), (50, .iload_n 2, 51, []), (51, .iastore, 52, []), (52, .aload_n 0, 53, []), (53, .getfield 3, 56, [9, 13, 99, 2]), (56, .getfield 288, 59, [9, 12, 11, 2]), (59, .aload_n 0, 60, []), (60, .getfield 3, 63, [9, 13, 99, 2]), (63, .getfield 282, 66, [9, 12, 12, 0]), (66, .lload_n 3, 67, []), (67, .lastore, 68, []), (68, .aload_n 0, 69, []), (69, .getfield 3, 72, [9, 13, 99, 2]), (72, .dup, 73, []), (73, .getfield 282, 76, [9, 12, 12, 0]), (76, .iconst 1, 77, []), (77, .iadd, 78, []), (78, .putfield 282, 81, [9, 12, 12, 0]), (81, .return_, 82, [0])] := dk_ck (by decide +kernel)
set_option maxRecDepth 4096 in
theorem w_Ro_row {nl : Bool} {Ln : Nat} {xs : Nat → Int32} {d : Nat} {this : Nat} {p0 : Int32} {p1 : Int32} {p2 : Int64} {σ : am_S} {F : am_S → Prop} (h : (am_is σ (some this) 13) ∧ ∀ σ2, σ2 = am_sfL σ 13078 this ((am_fL σ 13078 this) + p2) → (am_is σ2 (am_fR σ2 13099 this) 12) ∧ ((am_fI σ2 12015 ((am_fR σ2 13099 this).getD 0)) = 0 → F σ2) ∧ (¬ ((am_fI σ2 12015 ((am_fR σ2 13099 this).getD 0)) = 0) → (am_ar σ2 1000 (am_fR σ2 12009 ((am_fR σ2 13099 this).getD 0)) (am_fI σ2 12012 ((am_fR σ2 13099 this).getD 0))) ∧ ∀ σ8, σ8 = am_saI σ2 ((am_fR σ2 12009 ((am_fR σ2 13099 this).getD 0)).getD 0) (am_fI σ2 12012 ((am_fR σ2 13099 this).getD 0)).toNatClampNeg p0 → (am_is σ8 (am_fR σ8 13099 this) 12) ∧ (am_ar σ8 1000 (am_fR σ8 12010 ((am_fR σ8 13099 this).getD 0)) (am_fI σ8 12012 ((am_fR σ8 13099 this).getD 0))) ∧ ∀ σ13, σ13 = am_saI σ8 ((am_fR σ8 12010 ((am_fR σ8 13099 this).getD 0)).getD 0) (am_fI σ8 12012 ((am_fR σ8 13099 this).getD 0)).toNatClampNeg p1 → (am_is σ13 (am_fR σ13 13099 this) 12) ∧ (am_ar σ13 1001 (am_fR σ13 12011 ((am_fR σ13 13099 this).getD 0)) (am_fI σ13 12012 ((am_fR σ13 13099 this).getD 0))) ∧ ∀ σ18, σ18 = am_saL σ13 ((am_fR σ13 12011 ((am_fR σ13 13099 this).getD 0)).getD 0) (am_fI σ13 12012 ((am_fR σ13 13099 this).getD 0)).toNatClampNeg p2 → (am_is σ18 (am_fR σ18 13099 this) 12) ∧ ∀ σ22, σ22 = am_sfI σ18 12012 ((am_fR σ18 13099 this).getD 0) ((am_fI σ18 12012 ((am_fR σ18 13099 this).getD 0)) + (1 : Int32)) → F σ22)) : k_Ro_row nl Ln xs (d + 1) this p0 p1 p2 σ F := by
  obtain ⟨j0, j1, j2, j5, j6, j7, j10, j11, j14, j17, j20, j21, j24, j27, j28, j31, j34, j35, j36, j37, j40, j43, j44, j47, j50, j51, j52, j53, j56, j59, j60, j63, j66, j67, j68, j69, j72, j73, j76, j77, j78, j81, -⟩ := P_Ro_row nl Ln xs
  have elo : am_lo 5 [am_ov (some this), .int p0, .int p1, .long p2] = [some (am_ov (some this)), some (.int p0), some (.int p1), some (.long p2), none] := by simp only [am_lo, am_in_ov, am_in_int, am_in_long, am_in_nil]; rfl
  unfold k_Ro_row
  rw [elo]
  refine s_aload_n j0 rfl rfl ?_
  refine s_dup j1 rfl (am_cov _) ?_
  obtain ⟨ho1, h⟩ := h
  refine s_gfL j2 rfl ho1 ?_
  refine s_lload_n j5 rfl rfl ?_
  refine s_g j6 rfl rfl rfl rfl rfl rfl ?_
  refine s_pfL j7 rfl ho1 (fun σ2 e3 => ?_)
  replace h := h σ2 e3
  have ek4 : am_kd σ2 = am_kd σ := by rw [e3]
  refine s_aload_n j10 rfl rfl ?_
  refine s_gfR j11 rfl (am_is_kd ek4 ho1) ?_
  obtain ⟨ho5, h⟩ := h
  refine s_gfZ j14 rfl ho5 ?_
  refine s_if j17 rfl rfl am_cc_eq (fun hc6 => ?_) (fun hc6 => ?_)
  · replace h := h.1 hc6
    exact s_retV j81 rfl h
  · replace h := h.2 hc6
    refine s_aload_n j20 rfl rfl ?_
    refine s_gfR j21 rfl (am_is_kd ek4 ho1) ?_
    refine s_gfR j24 rfl ho5 ?_
    refine s_aload_n j27 rfl rfl ?_
    refine s_gfR j28 rfl (am_is_kd ek4 ho1) ?_
    refine s_gfI j31 rfl ho5 ?_
    refine s_iload_n j34 rfl rfl ?_
    obtain ⟨ho7, h⟩ := h
    refine s_iastore j35 rfl ho7 (fun σ8 e9 => ?_)
    replace h := h σ8 e9
    have ek10 : am_kd σ8 = am_kd σ2 := by rw [e9]
    refine s_aload_n j36 rfl rfl ?_
    refine s_gfR j37 rfl (am_is_kd ek10 (am_is_kd ek4 ho1)) ?_
    obtain ⟨ho11, h⟩ := h
    refine s_gfR j40 rfl ho11 ?_
    refine s_aload_n j43 rfl rfl ?_
    refine s_gfR j44 rfl (am_is_kd ek10 (am_is_kd ek4 ho1)) ?_
    refine s_gfI j47 rfl ho11 ?_
    refine s_iload_n j50 rfl rfl ?_
    obtain ⟨ho12, h⟩ := h
    refine s_iastore j51 rfl ho12 (fun σ13 e14 => ?_)
    replace h := h σ13 e14
    have ek15 : am_kd σ13 = am_kd σ8 := by rw [e14]
    refine s_aload_n j52 rfl rfl ?_
    refine s_gfR j53 rfl (am_is_kd ek15 (am_is_kd ek10 (am_is_kd ek4 ho1))) ?_
    obtain ⟨ho16, h⟩ := h
    refine s_gfR j56 rfl ho16 ?_
    refine s_aload_n j59 rfl rfl ?_
    refine s_gfR j60 rfl (am_is_kd ek15 (am_is_kd ek10 (am_is_kd ek4 ho1))) ?_
    refine s_gfI j63 rfl ho16 ?_
    refine s_lload_n j66 rfl rfl ?_
    obtain ⟨ho17, h⟩ := h
    refine s_lastore j67 rfl ho17 (fun σ18 e19 => ?_)
    replace h := h σ18 e19
    have ek20 : am_kd σ18 = am_kd σ13 := by rw [e19]
    refine s_aload_n j68 rfl rfl ?_
    refine s_gfR j69 rfl (am_is_kd ek20 (am_is_kd ek15 (am_is_kd ek10 (am_is_kd ek4 ho1)))) ?_
    refine s_dup j72 rfl (am_cov _) ?_
    obtain ⟨ho21, h⟩ := h
    refine s_gfI j73 rfl ho21 ?_
    refine s_iconst j76 rfl kc_ic_1 ?_
    refine s_g j77 rfl rfl rfl rfl rfl rfl ?_
    refine s_pfI j78 rfl ho21 (fun σ22 e23 => ?_)
    replace h := h σ22 e23
    have ek24 : am_kd σ22 = am_kd σ18 := by rw [e23]
    exact s_retV j81 rfl h
theorem P_Ro_outs (nl : Bool) (Ln : Nat) (xs : Nat → Int32) : am_Jl (TT nl Ln xs) 229 [(0, .aload_n 0, 1, []), (1, .getfield 98, 4, [9, 13, 37, 2]), (4, .aload_n 0, 5, []), (5, .getfield 298, 8, [9, 13, 69, 0]), (8, .iaload, 9, []), (9, .i2l, 10, []), (10, .aload_n 0, 11, []), (11, .getfield 19, 14, [9, 13, 4, 2]), (14, .aload_n 0, 15, []), (15, .getfield 351, 18, [9, 13, 70, 0]), (18, .iaload, 19, []), (19, .i2l, 20, []), (20, .aload_n 0, 21, []), (21, .getfield 22, 24, [9, 13, 5, 2]), (24, .aload_n 0, 25, []), (25, .getfield 351, 28, [9, 13, 70, 0]), (28, .iaload, 29, []), (29, .i2l, 30, []), (30, .invokestatic 364, 33, [12, 209, 6, 3]), (33, .ifCond .ne 21, 36, []), (36, .aload_n 0, 37, []), (37, .iconst 1, 38, []), (38, .bipush (-2), 40, []), (40, .aload_n 0, 41, []), (41, .getfield 295, 44, [9, 13, 77, 1]), (44, .lneg, 45, []), (45, .invokevirtual 291, 48, [10, 228, 14, 5, 4]), (48, .aload_n 0, 49, []), (49, .iconst 1, 50, []), (50, .putfield 368, 53, [9, 13, 75, 3]), (53, .return_, 54, [0]), (54, .aload_n 0, 55, []), (55, .aload_n 0, 56, []), (56, .invokevirtual 354, 59, [10, 230, 14, 2, 1]), (59, .invokevirtual 345, 62, [10, 231, 14, 2, 2]), (62, .istore_n 1, 63, []), (63, .iconst (-1), 64, []), (64, .istore_n 2, 65, []), (65, .aload_n 0, 66, []), (66, .getfield 266, 69, [9, 13, 74, 0]), (69, .ifCond .eq 4, 72, []), (72, .return_, 73, [0]), (73, .aload_n 0, 74, []), (74, .getfield 371, 77, [9, 13, 71, 0]), (77, .iconst (-1), 78, []), (78, .if_icmp .ne 7, 81, []), (81, .iconst 0, 82, []), (82, .goto 12, 85, []), (85, .aload_n 0, 86, []), (86, .getfield 74, 89, [9, 13, 27, 2]), (89, .aload_n 0, 90, []), (90, .getfield 371, 93, [9, 13, 71, 0]), (93, .iaload, 94, []), (94, .istore_n 3, 95, [])] := dk_ck (by decide +kernel)
set_option maxRecDepth 4096 in
theorem w_Ro_outs {nl : Bool} {Ln : Nat} {xs : Nat → Int32} {d : Nat} {this : Nat} {σ : am_S} {F : am_S → Prop} (h : (am_is σ (some this) 13) ∧ (am_ar σ 1000 (am_fR σ 13037 this) (am_fI σ 13069 this)) ∧ (am_ar σ 1000 (am_fR σ 13004 this) (am_fI σ 13070 this)) ∧ (am_ar σ 1000 (am_fR σ 13005 this) (am_fI σ 13070 this)) ∧ k_Rm_in nl Ln xs d ((am_aI σ ((am_fR σ 13037 this).getD 0) (am_fI σ 13069 this).toNatClampNeg).toInt64) ((am_aI σ ((am_fR σ 13004 this).getD 0) (am_fI σ 13070 this).toNatClampNeg).toInt64) ((am_aI σ ((am_fR σ 13005 this).getD 0) (am_fI σ 13070 this).toNatClampNeg).toInt64) σ (fun a6 σ5 => am_ext σ σ5 → (a6 = true → k_Ro_owner nl Ln xs d this σ5 (fun a9 σ8 => am_ext σ5 σ8 → k_Ro_covers nl Ln xs d this a9 σ8 (fun a11 σ10 => am_ext σ8 σ10 → ((am_fI σ10 13074 this) = 0 → (¬ ((am_fI σ10 13071 this) = (-1 : Int32)) → am_ar σ10 1000 (am_fR σ10 13027 this) (am_fI σ10 13071 this)) ∧ ∀ w16 : Int32, w16 = (if (am_fI σ10 13071 this) = (-1 : Int32) then (0 : Int32) else (am_aI σ10 ((am_fR σ10 13027 this).getD 0) (am_fI σ10 13071 this).toNatClampNeg)) → c_Ro_outs_95 nl Ln xs (d + 1) this (if a11 = true then (1 : Int32) else 0) (-1 : Int32) w16 none σ10 F) ∧ (¬ ((am_fI σ10 13074 this) = 0) → F σ10)))) ∧ (¬ (a6 = true) → k_Ro_row nl Ln xs d this (1 : Int32) (-2 : Int32) (-(am_fL σ5 13077 this)) σ5 (fun σ18 => am_ext σ5 σ18 → ∀ σ20, σ20 = am_sfI σ18 13075 this (1 : Int32) → F σ20)))) : k_Ro_outs nl Ln xs (d + 1) this σ F := by
  obtain ⟨j0, j1, j4, j5, j8, j9, j10, j11, j14, j15, j18, j19, j20, j21, j24, j25, j28, j29, j30, j33, j36, j37, j38, j40, j41, j44, j45, j48, j49, j50, j53, j54, j55, j56, j59, j62, j63, j64, j65, j66, j69, j72, j73, j74, j77, j78, j81, j82, j85, j86, j89, j90, j93, j94, -⟩ := P_Ro_outs nl Ln xs
  have elo : am_lo 5 [am_ov (some this)] = [some (am_ov (some this)), none, none, none, none] := by simp only [am_lo, am_in_ov, am_in_int, am_in_long, am_in_nil]; rfl
  unfold k_Ro_outs
  rw [elo]
  refine s_aload_n j0 rfl rfl ?_
  obtain ⟨ho1, h⟩ := h
  refine s_gfR j1 rfl ho1 ?_
  refine s_aload_n j4 rfl rfl ?_
  refine s_gfI j5 rfl ho1 ?_
  obtain ⟨ho2, h⟩ := h
  refine s_iaload j8 rfl ho2 ?_
  refine s_g j9 rfl rfl rfl rfl rfl rfl ?_
  refine s_aload_n j10 rfl rfl ?_
  refine s_gfR j11 rfl ho1 ?_
  refine s_aload_n j14 rfl rfl ?_
  refine s_gfI j15 rfl ho1 ?_
  obtain ⟨ho3, h⟩ := h
  refine s_iaload j18 rfl ho3 ?_
  refine s_g j19 rfl rfl rfl rfl rfl rfl ?_
  refine s_aload_n j20 rfl rfl ?_
  refine s_gfR j21 rfl ho1 ?_
  refine s_aload_n j24 rfl rfl ?_
  refine s_gfI j25 rfl ho1 ?_
  obtain ⟨ho4, h⟩ := h
  refine s_iaload j28 rfl ho4 ?_
  refine s_g j29 rfl rfl rfl rfl rfl rfl ?_
  refine s_stat j30 rfl rfl rfl rfl (by decide) (in_Rm_in _ _ _) (am_r8 rfl) (am_bB h (fun a6 σ5 h hx5 => ?_))
  replace h := h hx5
  refine s_if j33 rfl rfl am_cb_ne (fun hc7 => ?_) (fun hc7 => ?_)
  · replace h := h.1 hc7
    refine s_aload_n j54 rfl rfl ?_
    refine s_aload_n j55 rfl rfl ?_
    refine s_virt j56 rfl rfl rfl rfl (am_is_ext hx5 ho1) (by decide) (in_Ro_owner _) (am_r8 rfl) (am_bI h (fun a9 σ8 h hx8 => ?_))
    replace h := h hx8
    refine s_virt j59 rfl rfl rfl rfl (am_is_ext hx8 (am_is_ext hx5 ho1)) (by decide) (in_Ro_covers _ _) (am_r8 rfl) (am_bB h (fun a11 σ10 h hx10 => ?_))
    replace h := h hx10
    refine s_istore_n j62 rfl (n := 5) (L' := [some (am_ov (some this)), some (.int (if a11 = true then (1 : Int32) else 0)), none, none, none]) rfl (by decide) (am_st1_R [] _ _ _ _) ?_
    refine s_iconst j63 rfl kc_ic_m1 ?_
    refine s_istore_n j64 rfl (n := 5) (L' := [some (am_ov (some this)), some (.int (if a11 = true then (1 : Int32) else 0)), some (.int (-1 : Int32)), none, none]) rfl (by decide) rfl ?_
    refine s_aload_n j65 rfl rfl ?_
    refine s_gfI j66 rfl (am_is_ext hx10 (am_is_ext hx8 (am_is_ext hx5 ho1))) ?_
    refine s_if j69 rfl rfl am_cc_eq (fun hc12 => ?_) (fun hc12 => ?_)
    · replace h := h.1 hc12
      refine s_aload_n j73 rfl rfl ?_
      refine s_gfI j74 rfl (am_is_ext hx10 (am_is_ext hx8 (am_is_ext hx5 ho1))) ?_
      refine s_iconst j77 rfl kc_ic_m1 ?_
      obtain ⟨ho14, h⟩ := h
      have K15 : ∀ (w16 : Int32), w16 = (if (am_fI σ10 13071 this) = (-1 : Int32) then (0 : Int32) else (am_aI σ10 ((am_fR σ10 13027 this).getD 0) (am_fI σ10 13071 this).toNatClampNeg)) → am_C (TT nl Ln xs) (d + 1) 229 94 [some (am_ov (some this)), some (.int (if a11 = true then (1 : Int32) else 0)), some (.int (-1 : Int32)), none, none] [.int w16] σ10 (am_qV F) := by
        intro w16 hw17
        replace h := h w16 hw17
        refine s_istore_n j94 rfl (n := 5) (L' := [some (am_ov (some this)), some (.int (if a11 = true then (1 : Int32) else 0)), some (.int (-1 : Int32)), some (.int w16), none]) rfl (by decide) rfl ?_
        exact h
      refine s_icn j78 rfl rfl am_cc_ne (fun hc13 => ?_) (fun hc13 => ?_)
      · refine s_aload_n j85 rfl rfl ?_
        refine s_gfR j86 rfl (am_is_ext hx10 (am_is_ext hx8 (am_is_ext hx5 ho1))) ?_
        refine s_aload_n j89 rfl rfl ?_
        refine s_gfI j90 rfl (am_is_ext hx10 (am_is_ext hx8 (am_is_ext hx5 ho1))) ?_
        refine s_iaload j93 rfl (ho14 hc13) ?_
        exact K15 _ (am_t2 hc13 rfl)
      · refine s_iconst j81 rfl kc_ic_0 ?_
        refine s_goto j82 rfl rfl ?_
        exact K15 _ (am_t1 hc13 rfl)
    · replace h := h.2 hc12
      exact s_retV j72 rfl h
  · replace h := h.2 hc7
    refine s_aload_n j36 rfl rfl ?_
    refine s_iconst j37 rfl kc_ic_1 ?_
    refine s_bipush j38 rfl kc_bi_m2 ?_
    refine s_aload_n j40 rfl rfl ?_
    refine s_gfL j41 rfl (am_is_ext hx5 ho1) ?_
    refine s_g j44 rfl rfl rfl rfl rfl rfl ?_
    refine s_virt j45 rfl rfl rfl rfl (am_is_ext hx5 ho1) (by decide) (in_Ro_row _ _ _ _) (am_r8 rfl) (am_bV h (fun σ18 h hx18 => ?_))
    replace h := h hx18
    refine s_aload_n j48 rfl rfl ?_
    refine s_iconst j49 rfl kc_ic_1 ?_
    refine s_pfZ j50 rfl (am_is_ext hx18 (am_is_ext hx5 ho1)) (Or.inr rfl) (fun σ20 e21 => ?_)
    replace h := h σ20 e21
    have ek22 : am_kd σ20 = am_kd σ18 := by rw [e21]
    exact s_retV j53 rfl h
theorem P_Ro_outs_95 (nl : Bool) (Ln : Nat) (xs : Nat → Int32) : am_Jl (TT nl Ln xs) 229 [(95, .aload_n 0, 96, []), (96, .getfield 371, 99, [9, 13, 71, 0]), (99, .iconst (-1), 100, []), (100, .if_icmp .eq 119, 103, []), (103, .iload_n 3, 104, []), (104, .aload_n 0, 105, []), (105, .getfield 74, 108, [9, 13, 27, 2]), (108, .aload_n 0, 109, []), (109, .getfield 371, 112, [9, 13, 71, 0]), (112, .iconst 1, 113, []), (113, .iadd, 114, []), (114, .iaload, 115, []), (115, .if_icmp .ge 104, 118, []), (118, .aload_n 0, 119, []), (119, .getfield 77, 122, [9, 13, 28, 2]), (122, .iload_n 3, 123, []), (123, .iaload, 124, []), (124, .iconst 1, 125, []), (125, .if_icmp .gt 30, 128, []), (128, .aload_n 0, 129, []), (129, .getfield 80, 132, [9, 13, 29, 2]), (132, .iload_n 3, 133, []), (133, .iaload, 134, []), (134, .iconst 5, 135, []), (135, .if_icmp .eq 16, 138, []), (138, .aload_n 0, 139, []), (139, .aload_n 0, 140, []), (140, .getfield 80, 143, [9, 13, 29, 2]), (143, .iload_n 3, 144, []), (144, .iaload, 145, []), (145, .invokevirtual 342, 148, [10, 232, 14, 2, 2]), (148, .ifCond .eq 7, 151, []), (151, .iconst 1, 152, []), (152, .goto 4, 155, []), (155, .iconst 0, 156, [])] := dk_ck (by decide +kernel)
set_option maxRecDepth 4096 in
theorem w_Ro_outs_95 {nl : Bool} {Ln : Nat} {xs : Nat → Int32} {d : Nat} {this : Nat} {x1 : Int32} {x2 : Int32} {x3 : Int32} {x4 : Option Value} {σ : am_S} {F : am_S → Prop} (h : (am_is σ (some this) 13) ∧ ((am_fI σ 13071 this) = (-1 : Int32) → c_Ro_outs_219 nl Ln xs (d + 1) this x1 x2 x3 x4 σ F) ∧ (¬ ((am_fI σ 13071 this) = (-1 : Int32)) → (am_ar σ 1000 (am_fR σ 13027 this) ((am_fI σ 13071 this) + (1 : Int32))) ∧ (x3 < (am_aI σ ((am_fR σ 13027 this).getD 0) ((am_fI σ 13071 this) + (1 : Int32)).toNatClampNeg) → (am_ar σ 1000 (am_fR σ 13028 this) x3) ∧ ((1 : Int32) < (am_aI σ ((am_fR σ 13028 this).getD 0) x3.toNatClampNeg) → c_Ro_outs_155 nl Ln xs (d + 1) this x1 x2 x3 x4 σ F) ∧ (¬ ((1 : Int32) < (am_aI σ ((am_fR σ 13028 this).getD 0) x3.toNatClampNeg)) → (am_ar σ 1000 (am_fR σ 13029 this) x3) ∧ ((am_aI σ ((am_fR σ 13029 this).getD 0) x3.toNatClampNeg) = (5 : Int32) → c_Ro_outs_151 nl Ln xs (d + 1) this x1 x2 x3 x4 σ F) ∧ (¬ ((am_aI σ ((am_fR σ 13029 this).getD 0) x3.toNatClampNeg) = (5 : Int32)) → (am_ar σ 1000 (am_fR σ 13029 this) x3) ∧ k_Ro_is nl Ln xs d this (am_aI σ ((am_fR σ 13029 this).getD 0) x3.toNatClampNeg) σ (fun a11 σ10 => am_ext σ σ10 → c_Ro_outs_156 nl Ln xs (d + 1) this x1 x2 x3 x4 (if a11 = true then (1 : Int32) else 0) σ10 F)))) ∧ (¬ (x3 < (am_aI σ ((am_fR σ 13027 this).getD 0) ((am_fI σ 13071 this) + (1 : Int32)).toNatClampNeg)) → c_Ro_outs_219 nl Ln xs (d + 1) this x1 x2 x3 x4 σ F))) : c_Ro_outs_95 nl Ln xs (d + 1) this x1 x2 x3 x4 σ F := by
  obtain ⟨j95, j96, j99, j100, j103, j104, j105, j108, j109, j112, j113, j114, j115, j118, j119, j122, j123, j124, j125, j128, j129, j132, j133, j134, j135, j138, j139, j140, j143, j144, j145, j148, j151, j152, j155, -⟩ := P_Ro_outs_95 nl Ln xs
  unfold c_Ro_outs_95
  refine s_aload_n j95 rfl rfl ?_
  obtain ⟨ho1, h⟩ := h
  refine s_gfI j96 rfl ho1 ?_
  refine s_iconst j99 rfl kc_ic_m1 ?_
  refine s_ic j100 rfl rfl am_cc_eq (fun hc2 => ?_) (fun hc2 => ?_)
  · replace h := h.1 hc2
    exact h
  · replace h := h.2 hc2
    refine s_iload_n j103 rfl rfl ?_
    refine s_aload_n j104 rfl rfl ?_
    refine s_gfR j105 rfl ho1 ?_
    refine s_aload_n j108 rfl rfl ?_
    refine s_gfI j109 rfl ho1 ?_
    refine s_iconst j112 rfl kc_ic_1 ?_
    refine s_g j113 rfl rfl rfl rfl rfl rfl ?_
    obtain ⟨ho3, h⟩ := h
    refine s_iaload j114 rfl ho3 ?_
    refine s_icn j115 rfl rfl am_cc_ge (fun hc4 => ?_) (fun hc4 => ?_)
    · replace h := h.2 hc4
      exact h
    · replace h := h.1 hc4
      refine s_aload_n j118 rfl rfl ?_
      refine s_gfR j119 rfl ho1 ?_
      refine s_iload_n j122 rfl rfl ?_
      obtain ⟨ho5, h⟩ := h
      refine s_iaload j123 rfl ho5 ?_
      refine s_iconst j124 rfl kc_ic_1 ?_
      refine s_ic j125 rfl rfl am_cc_gt (fun hc6 => ?_) (fun hc6 => ?_)
      · replace h := h.1 hc6
        exact h
      · replace h := h.2 hc6
        refine s_aload_n j128 rfl rfl ?_
        refine s_gfR j129 rfl ho1 ?_
        refine s_iload_n j132 rfl rfl ?_
        obtain ⟨ho7, h⟩ := h
        refine s_iaload j133 rfl ho7 ?_
        refine s_iconst j134 rfl kc_ic_5 ?_
        refine s_ic j135 rfl rfl am_cc_eq (fun hc8 => ?_) (fun hc8 => ?_)
        · replace h := h.1 hc8
          exact h
        · replace h := h.2 hc8
          refine s_aload_n j138 rfl rfl ?_
          refine s_aload_n j139 rfl rfl ?_
          refine s_gfR j140 rfl ho1 ?_
          refine s_iload_n j143 rfl rfl ?_
          obtain ⟨ho9, h⟩ := h
          refine s_iaload j144 rfl ho9 ?_
          refine s_virt j145 rfl rfl rfl rfl ho1 (by decide) (in_Ro_is _ _) (am_r8 rfl) (am_bB h (fun a11 σ10 h hx10 => ?_))
          replace h := h hx10
          have K13 : ∀ (w14 : Int32), w14 = (if a11 = true then (1 : Int32) else 0) → am_C (TT nl Ln xs) (d + 1) 229 156 [some (am_ov (some this)), some (.int x1), some (.int x2), some (.int x3), x4] [.int w14] σ10 (am_qV F) := by
            intro w14 hw15
            subst hw15
            exact h
          refine s_ifn j148 rfl rfl am_cb_eq (fun hc12 => ?_) (fun hc12 => ?_)
          · refine s_iconst j155 rfl kc_ic_0 ?_
            exact K13 _ (am_e0 (Iff.trans Iff.rfl (am_p10 hc12)))
          · refine s_iconst j151 rfl kc_ic_1 ?_
            refine s_goto j152 rfl rfl ?_
            exact K13 _ (am_e1 (Iff.trans Iff.rfl (am_p9 hc12)))
theorem P_Ro_outs_151 (nl : Bool) (Ln : Nat) (xs : Nat → Int32) : am_Jl (TT nl Ln xs) 229 [(151, .iconst 1, 152, []), (152, .goto 4, 155, [])] := dk_ck (by decide +kernel)
set_option maxRecDepth 4096 in
theorem w_Ro_outs_151 {nl : Bool} {Ln : Nat} {xs : Nat → Int32} {d : Nat} {this : Nat} {x1 : Int32} {x2 : Int32} {x3 : Int32} {x4 : Option Value} {σ : am_S} {F : am_S → Prop} (h : c_Ro_outs_156 nl Ln xs (d + 1) this x1 x2 x3 x4 (1 : Int32) σ F) : c_Ro_outs_151 nl Ln xs (d + 1) this x1 x2 x3 x4 σ F := by
  obtain ⟨j151, j152, -⟩ := P_Ro_outs_151 nl Ln xs
  unfold c_Ro_outs_151
  refine s_iconst j151 rfl kc_ic_1 ?_
  refine s_goto j152 rfl rfl ?_
  exact h
theorem P_Ro_outs_155 (nl : Bool) (Ln : Nat) (xs : Nat → Int32) : am_Jl (TT nl Ln xs) 229 [(155, .iconst 0, 156, [])] := dk_ck (by decide +kernel)
set_option maxRecDepth 4096 in
theorem w_Ro_outs_155 {nl : Bool} {Ln : Nat} {xs : Nat → Int32} {d : Nat} {this : Nat} {x1 : Int32} {x2 : Int32} {x3 : Int32} {x4 : Option Value} {σ : am_S} {F : am_S → Prop} (h : c_Ro_outs_156 nl Ln xs (d + 1) this x1 x2 x3 x4 (0 : Int32) σ F) : c_Ro_outs_155 nl Ln xs (d + 1) this x1 x2 x3 x4 σ F := by
  obtain ⟨j155, -⟩ := P_Ro_outs_155 nl Ln xs
  unfold c_Ro_outs_155
  refine s_iconst j155 rfl kc_ic_0 ?_
  exact h
theorem P_Ro_outs_156 (nl : Bool) (Ln : Nat) (xs : Nat → Int32) : am_Jl (TT nl Ln xs) 229 [(156, .istore 4, 158, []), (158, .iload 4, 160, []), (160, .ifCond .eq 53, 163, []), (163, .aload_n 0, 164, []), (164, .getfield 83, 167, [9, 13, 30, 2]), (167, .iload_n 3, 168, []), (168, .iaload, 169, []), (169, .iconst (-1), 170, []), (170, .if_icmp .eq 16, 173, []), (173, .aload_n 0, 174, []), (174, .aload_n 0, 175, []), (175, .getfield 83, 178, [9, 13, 30, 2]), (178, .iload_n 3, 179, []), (179, .iaload, 180, []), (180, .invokevirtual 357, 183, [10, 235, 14, 3, 2]), (183, .ifCond .ne 30, 186, []), (186, .aload_n 0, 187, []), (187, .getfield 77, 190, [9, 13, 28, 2]), (190, .iload_n 3, 191, []), (191, .iaload, 192, []), (192, .ifCond .ne 7, 195, []), (195, .iconst 1, 196, []), (196, .goto 4, 199, []), (199, .iconst 0, 200, []), (200, .istore_n 1, 201, []), (201, .iload_n 3, 202, []), (202, .aload_n 0, 203, []), (203, .getfield 74, 206, [9, 13, 27, 2]), (206, .aload_n 0, 207, []), (207, .getfield 371, 210, [9, 13, 71, 0]), (210, .iaload, 211, []), (211, .isub, 212, []), (212, .istore_n 2, 213, []), (213, .iinc 3 1, 216, []), (216, .goto (-121), 219, [])] := dk_ck (by decide +kernel)
set_option maxRecDepth 4096 in
theorem w_Ro_outs_156 {nl : Bool} {Ln : Nat} {xs : Nat → Int32} {d : Nat} {this : Nat} {x1 : Int32} {x2 : Int32} {x3 : Int32} {x4 : Option Value} {y0 : Int32} {σ : am_S} {F : am_S → Prop} (h : (y0 = 0 → c_Ro_outs_95 nl Ln xs (d + 1) this x1 x2 (x3 + (1 : Int32)) (some (.int y0)) σ F) ∧ (¬ (y0 = 0) → (am_is σ (some this) 13) ∧ (am_ar σ 1000 (am_fR σ 13030 this) x3) ∧ ((am_aI σ ((am_fR σ 13030 this).getD 0) x3.toNatClampNeg) = (-1 : Int32) → c_Ro_outs_186 nl Ln xs (d + 1) this x1 x2 x3 y0 σ F) ∧ (¬ ((am_aI σ ((am_fR σ 13030 this).getD 0) x3.toNatClampNeg) = (-1 : Int32)) → (am_ar σ 1000 (am_fR σ 13030 this) x3) ∧ k_Ro_holds nl Ln xs d this (am_aI σ ((am_fR σ 13030 this).getD 0) x3.toNatClampNeg) σ (fun a7 σ6 => am_ext σ σ6 → (¬ (a7 = true) → am_ar σ6 1000 (am_fR σ6 13028 this) x3) ∧ (¬ (a7 = true) → ((am_aI σ6 ((am_fR σ6 13028 this).getD 0) x3.toNatClampNeg) = 0) → am_ar σ6 1000 (am_fR σ6 13027 this) (am_fI σ6 13071 this)) ∧ (¬ (a7 = true) → ¬ ((am_aI σ6 ((am_fR σ6 13028 this).getD 0) x3.toNatClampNeg) = 0) → am_ar σ6 1000 (am_fR σ6 13027 this) (am_fI σ6 13071 this)) ∧ ∀ w14 : Int32, w14 = (if a7 = true then x1 else (if (am_aI σ6 ((am_fR σ6 13028 this).getD 0) x3.toNatClampNeg) = 0 then (1 : Int32) else (0 : Int32))) → ∀ w15 : Int32, w15 = (if a7 = true then x2 else (x3 - (am_aI σ6 ((am_fR σ6 13027 this).getD 0) (am_fI σ6 13071 this).toNatClampNeg))) → c_Ro_outs_95 nl Ln xs (d + 1) this w14 w15 (x3 + (1 : Int32)) (some (.int y0)) σ6 F)))) : c_Ro_outs_156 nl Ln xs (d + 1) this x1 x2 x3 x4 y0 σ F := by
  obtain ⟨j156, j158, j160, j163, j164, j167, j168, j169, j170, j173, j174, j175, j178, j179, j180, j183, j186, j187, j190, j191, j192, j195, j196, j199, j200, j201, j202, j203, j206, j207, j210, j211, j212, j213, j216, -⟩ := P_Ro_outs_156 nl Ln xs
  unfold c_Ro_outs_156
  refine s_istore j156 rfl (n := 5) (L' := [some (am_ov (some this)), some (.int x1), some (.int x2), some (.int x3), some (.int y0)]) rfl (by decide) rfl ?_
  refine s_iload j158 rfl rfl ?_
  refine s_if j160 rfl rfl am_cc_eq (fun hc1 => ?_) (fun hc1 => ?_)
  · replace h := h.1 hc1
    refine s_iinc (L' := [some (am_ov (some this)), some (.int x1), some (.int x2), some (.int (x3 + (1 : Int32))), some (.int y0)]) j213 rfl rfl kc_ic_1 rfl ?_
    refine s_goto j216 rfl rfl ?_
    exact h
  · replace h := h.2 hc1
    refine s_aload_n j163 rfl rfl ?_
    obtain ⟨ho2, h⟩ := h
    refine s_gfR j164 rfl ho2 ?_
    refine s_iload_n j167 rfl rfl ?_
    obtain ⟨ho3, h⟩ := h
    refine s_iaload j168 rfl ho3 ?_
    refine s_iconst j169 rfl kc_ic_m1 ?_
    refine s_ic j170 rfl rfl am_cc_eq (fun hc4 => ?_) (fun hc4 => ?_)
    · replace h := h.1 hc4
      exact h
    · replace h := h.2 hc4
      refine s_aload_n j173 rfl rfl ?_
      refine s_aload_n j174 rfl rfl ?_
      refine s_gfR j175 rfl ho2 ?_
      refine s_iload_n j178 rfl rfl ?_
      obtain ⟨ho5, h⟩ := h
      refine s_iaload j179 rfl ho5 ?_
      refine s_virt j180 rfl rfl rfl rfl ho2 (by decide) (in_Ro_holds _ _) (am_r8 rfl) (am_bB h (fun a7 σ6 h hx6 => ?_))
      replace h := h hx6
      obtain ⟨ho9, h⟩ := h
      obtain ⟨ho11, h⟩ := h
      obtain ⟨ho12, h⟩ := h
      have K13 : ∀ (w14 : Int32) (w15 : Int32), w14 = (if a7 = true then x1 else (if (am_aI σ6 ((am_fR σ6 13028 this).getD 0) x3.toNatClampNeg) = 0 then (1 : Int32) else (0 : Int32))) → w15 = (if a7 = true then x2 else (x3 - (am_aI σ6 ((am_fR σ6 13027 this).getD 0) (am_fI σ6 13071 this).toNatClampNeg))) → am_C (TT nl Ln xs) (d + 1) 229 213 [some (am_ov (some this)), some (.int w14), some (.int w15), some (.int x3), some (.int y0)] [] σ6 (am_qV F) := by
        intro w14 w15 hw16 hw17
        replace h := h w14 hw16
        replace h := h w15 hw17
        refine s_iinc (L' := [some (am_ov (some this)), some (.int w14), some (.int w15), some (.int (x3 + (1 : Int32))), some (.int y0)]) j213 rfl rfl kc_ic_1 rfl ?_
        refine s_goto j216 rfl rfl ?_
        exact h
      refine s_if j183 rfl rfl am_cb_ne (fun hc8 => ?_) (fun hc8 => ?_)
      · exact K13 _ _ (am_t1 hc8 rfl) (am_t1 hc8 rfl)
      · refine s_aload_n j186 rfl rfl ?_
        refine s_gfR j187 rfl (am_is_ext hx6 ho2) ?_
        refine s_iload_n j190 rfl rfl ?_
        refine s_iaload j191 rfl (ho9 hc8) ?_
        refine s_ifn j192 rfl rfl am_cc_ne (fun hc10 => ?_) (fun hc10 => ?_)
        · refine s_iconst j199 rfl kc_ic_0 ?_
          refine s_istore_n j200 rfl (n := 5) (L' := [some (am_ov (some this)), some (.int (0 : Int32)), some (.int x2), some (.int x3), some (.int y0)]) rfl (by decide) (am_st1_R [] _ _ _ _) ?_
          refine s_iload_n j201 rfl rfl ?_
          refine s_aload_n j202 rfl rfl ?_
          refine s_gfR j203 rfl (am_is_ext hx6 ho2) ?_
          refine s_aload_n j206 rfl rfl ?_
          refine s_gfI j207 rfl (am_is_ext hx6 ho2) ?_
          refine s_iaload j210 rfl (ho12 hc8 hc10) ?_
          refine s_g j211 rfl rfl rfl rfl rfl rfl ?_
          refine s_istore_n j212 rfl (n := 5) (L' := [some (am_ov (some this)), some (.int (0 : Int32)), some (.int (x3 - (am_aI σ6 ((am_fR σ6 13027 this).getD 0) (am_fI σ6 13071 this).toNatClampNeg))), some (.int x3), some (.int y0)]) rfl (by decide) rfl ?_
          exact K13 _ _ (am_t2 hc8 (am_t2 hc10 rfl)) (am_t2 hc8 rfl)
        · refine s_iconst j195 rfl kc_ic_1 ?_
          refine s_goto j196 rfl rfl ?_
          refine s_istore_n j200 rfl (n := 5) (L' := [some (am_ov (some this)), some (.int (1 : Int32)), some (.int x2), some (.int x3), some (.int y0)]) rfl (by decide) (am_st1_R [] _ _ _ _) ?_
          refine s_iload_n j201 rfl rfl ?_
          refine s_aload_n j202 rfl rfl ?_
          refine s_gfR j203 rfl (am_is_ext hx6 ho2) ?_
          refine s_aload_n j206 rfl rfl ?_
          refine s_gfI j207 rfl (am_is_ext hx6 ho2) ?_
          refine s_iaload j210 rfl (ho11 hc8 hc10) ?_
          refine s_g j211 rfl rfl rfl rfl rfl rfl ?_
          refine s_istore_n j212 rfl (n := 5) (L' := [some (am_ov (some this)), some (.int (1 : Int32)), some (.int (x3 - (am_aI σ6 ((am_fR σ6 13027 this).getD 0) (am_fI σ6 13071 this).toNatClampNeg))), some (.int x3), some (.int y0)]) rfl (by decide) rfl ?_
          exact K13 _ _ (am_t2 hc8 (am_t1 hc10 rfl)) (am_t2 hc8 rfl)
theorem P_Ro_outs_186 (nl : Bool) (Ln : Nat) (xs : Nat → Int32) : am_Jl (TT nl Ln xs) 229 [(186, .aload_n 0, 187, []), (187, .getfield 77, 190, [9, 13, 28, 2]), (190, .iload_n 3, 191, []), (191, .iaload, 192, []), (192, .ifCond .ne 7, 195, []), (195, .iconst 1, 196, []), (196, .goto 4, 199, []), (199, .iconst 0, 200, []), (200, .istore_n 1, 201, []), (201, .iload_n 3, 202, []), (202, .aload_n 0, 203, []), (203, .getfield 74, 206, [9, 13, 27, 2]), (206, .aload_n 0, 207, []), (207, .getfield 371, 210, [9, 13, 71, 0]), (210, .iaload, 211, []), (211, .isub, 212, []), (212, .istore_n 2, 213, []), (213, .iinc 3 1, 216, []), (216, .goto (-121), 219, [])] := dk_ck (by decide +kernel)
set_option maxRecDepth 4096 in
theorem w_Ro_outs_186 {nl : Bool} {Ln : Nat} {xs : Nat → Int32} {d : Nat} {this : Nat} {x1 : Int32} {x2 : Int32} {x3 : Int32} {x4 : Int32} {σ : am_S} {F : am_S → Prop} (h : (am_is σ (some this) 13) ∧ (am_ar σ 1000 (am_fR σ 13028 this) x3) ∧ (am_ar σ 1000 (am_fR σ 13027 this) (am_fI σ 13071 this)) ∧ ∀ v8 : Int32, v8 = (x3 - (am_aI σ ((am_fR σ 13027 this).getD 0) (am_fI σ 13071 this).toNatClampNeg)) → c_Ro_outs_95 nl Ln xs (d + 1) this (if (am_aI σ ((am_fR σ 13028 this).getD 0) x3.toNatClampNeg) = 0 then (1 : Int32) else 0) v8 (x3 + (1 : Int32)) (some (.int x4)) σ F) : c_Ro_outs_186 nl Ln xs (d + 1) this x1 x2 x3 x4 σ F := by
  obtain ⟨j186, j187, j190, j191, j192, j195, j196, j199, j200, j201, j202, j203, j206, j207, j210, j211, j212, j213, j216, -⟩ := P_Ro_outs_186 nl Ln xs
  unfold c_Ro_outs_186
  refine s_aload_n j186 rfl rfl ?_
  obtain ⟨ho1, h⟩ := h
  refine s_gfR j187 rfl ho1 ?_
  refine s_iload_n j190 rfl rfl ?_
  obtain ⟨ho2, h⟩ := h
  refine s_iaload j191 rfl ho2 ?_
  have K4 : ∀ (w5 : Int32), w5 = (if (am_aI σ ((am_fR σ 13028 this).getD 0) x3.toNatClampNeg) = 0 then (1 : Int32) else 0) → am_C (TT nl Ln xs) (d + 1) 229 200 [some (am_ov (some this)), some (.int x1), some (.int x2), some (.int x3), some (.int x4)] [.int w5] σ (am_qV F) := by
    intro w5 hw6
    subst hw6
    refine s_istore_n j200 rfl (n := 5) (L' := [some (am_ov (some this)), some (.int (if (am_aI σ ((am_fR σ 13028 this).getD 0) x3.toNatClampNeg) = 0 then (1 : Int32) else 0)), some (.int x2), some (.int x3), some (.int x4)]) rfl (by decide) (am_st1_R [] _ _ _ _) ?_
    refine s_iload_n j201 rfl rfl ?_
    refine s_aload_n j202 rfl rfl ?_
    refine s_gfR j203 rfl ho1 ?_
    refine s_aload_n j206 rfl rfl ?_
    refine s_gfI j207 rfl ho1 ?_
    obtain ⟨ho7, h⟩ := h
    refine s_iaload j210 rfl ho7 ?_
    refine s_g j211 rfl rfl rfl rfl rfl rfl ?_
    refine s_istore_nV j212 rfl (n := 5) (L' := fun w => [some (am_ov (some this)), some (.int (if (am_aI σ ((am_fR σ 13028 this).getD 0) x3.toNatClampNeg) = 0 then (1 : Int32) else 0)), some (.int w), some (.int x3), some (.int x4)]) rfl (by decide) (fun _ => rfl) (fun v8 hv9 => ?_)
    replace h := h v8 hv9
    refine s_iinc (L' := [some (am_ov (some this)), some (.int (if (am_aI σ ((am_fR σ 13028 this).getD 0) x3.toNatClampNeg) = 0 then (1 : Int32) else 0)), some (.int v8), some (.int (x3 + (1 : Int32))), some (.int x4)]) j213 rfl rfl kc_ic_1 rfl ?_
    refine s_goto j216 rfl rfl ?_
    exact h
  refine s_ifn j192 rfl rfl am_cc_ne (fun hc3 => ?_) (fun hc3 => ?_)
  · refine s_iconst j199 rfl kc_ic_0 ?_
    exact K4 _ (am_e0 (Iff.trans Iff.rfl (am_p10 hc3)))
  · refine s_iconst j195 rfl kc_ic_1 ?_
    refine s_goto j196 rfl rfl ?_
    exact K4 _ (am_e1 (Iff.trans Iff.rfl (am_p9 hc3)))
theorem P_Ro_outs_219 (nl : Bool) (Ln : Nat) (xs : Nat → Int32) : am_Jl (TT nl Ln xs) 229 [(219, .iload_n 1, 220, []), (220, .ifCond .ne 19, 223, []), (223, .aload_n 0, 224, []), (224, .iconst 1, 225, []), (225, .iload_n 2, 226, []), (226, .aload_n 0, 227, []), (227, .getfield 295, 230, [9, 13, 77, 1]), (230, .lneg, 231, []), (231, .invokevirtual 291, 234, [10, 228, 14, 5, 4]), (234, .aload_n 0, 235, []), (235, .iconst 1, 236, []), (236, .putfield 368, 239, [9, 13, 75, 3]), (239, .return_, 240, [0])] := dk_ck (by decide +kernel)
set_option maxRecDepth 4096 in
theorem w_Ro_outs_219 {nl : Bool} {Ln : Nat} {xs : Nat → Int32} {d : Nat} {this : Nat} {x1 : Int32} {x2 : Int32} {x3 : Int32} {x4 : Option Value} {σ : am_S} {F : am_S → Prop} (h : (x1 = 0 → (am_is σ (some this) 13) ∧ k_Ro_row nl Ln xs d this (1 : Int32) x2 (-(am_fL σ 13077 this)) σ (fun σ3 => am_ext σ σ3 → ∀ σ5, σ5 = am_sfI σ3 13075 this (1 : Int32) → F σ5)) ∧ (¬ (x1 = 0) → F σ)) : c_Ro_outs_219 nl Ln xs (d + 1) this x1 x2 x3 x4 σ F := by
  obtain ⟨j219, j220, j223, j224, j225, j226, j227, j230, j231, j234, j235, j236, j239, -⟩ := P_Ro_outs_219 nl Ln xs
  unfold c_Ro_outs_219
  refine s_iload_n j219 rfl rfl ?_
  refine s_ifn j220 rfl rfl am_cc_ne (fun hc1 => ?_) (fun hc1 => ?_)
  · replace h := h.2 hc1
    exact s_retV j239 rfl h
  · replace h := h.1 hc1
    refine s_aload_n j223 rfl rfl ?_
    refine s_iconst j224 rfl kc_ic_1 ?_
    refine s_iload_n j225 rfl rfl ?_
    refine s_aload_n j226 rfl rfl ?_
    obtain ⟨ho2, h⟩ := h
    refine s_gfL j227 rfl ho2 ?_
    refine s_g j230 rfl rfl rfl rfl rfl rfl ?_
    refine s_virt j231 rfl rfl rfl rfl ho2 (by decide) (in_Ro_row _ _ _ _) (am_r8 rfl) (am_bV h (fun σ3 h hx3 => ?_))
    replace h := h hx3
    refine s_aload_n j234 rfl rfl ?_
    refine s_iconst j235 rfl kc_ic_1 ?_
    refine s_pfZ j236 rfl (am_is_ext hx3 ho2) (Or.inr rfl) (fun σ5 e6 => ?_)
    replace h := h σ5 e6
    have ek7 : am_kd σ5 = am_kd σ3 := by rw [e6]
    exact s_retV j239 rfl h
theorem P_Ro_owner (nl : Bool) (Ln : Nat) (xs : Nat → Int32) : am_Jl (TT nl Ln xs) 230 [(0, .aload_n 0, 1, []), (1, .getfield 15, 4, [9, 13, 3, 2]), (4, .aload_n 0, 5, []), (5, .getfield 351, 8, [9, 13, 70, 0]), (8, .iaload, 9, []), (9, .istore_n 1, 10, []), (10, .iload_n 1, 11, []), (11, .ifCond .ne 7, 14, []), (14, .iconst 3, 15, []), (15, .goto 43, 18, []), (18, .iload_n 1, 19, []), (19, .iconst 1, 20, []), (20, .if_icmp .ne 7, 23, []), (23, .iconst 4, 24, []), (24, .goto 34, 27, []), (27, .iload_n 1, 28, []), (28, .iconst 2, 29, []), (29, .if_icmp .ne 8, 32, []), (32, .bipush 6, 34, []), (34, .goto 24, 37, []), (37, .iload_n 1, 38, []), (38, .iconst 3, 39, []), (39, .if_icmp .ne 8, 42, []), (42, .bipush 8, 44, []), (44, .goto 14, 47, []), (47, .iload_n 1, 48, []), (48, .iconst 4, 49, []), (49, .if_icmp .ne 7, 52, []), (52, .iconst 5, 53, []), (53, .goto 5, 56, []), (56, .bipush 7, 58, []), (58, .ireturn, 59, [1])] := dk_ck (by decide +kernel)
set_option maxRecDepth 4096 in
theorem w_Ro_owner {nl : Bool} {Ln : Nat} {xs : Nat → Int32} {d : Nat} {this : Nat} {σ : am_S} {F : Int32 → am_S → Prop} (h : (am_is σ (some this) 13) ∧ (am_ar σ 1000 (am_fR σ 13003 this) (am_fI σ 13070 this)) ∧ ∀ v3 : Int32, v3 = (am_aI σ ((am_fR σ 13003 this).getD 0) (am_fI σ 13070 this).toNatClampNeg) → ∀ w11 : Int32, w11 = (if v3 = 0 then (3 : Int32) else (if v3 = (1 : Int32) then (4 : Int32) else (if v3 = (2 : Int32) then (6 : Int32) else (if v3 = (3 : Int32) then (8 : Int32) else (if v3 = (4 : Int32) then (5 : Int32) else (7 : Int32)))))) → F w11 σ) : k_Ro_owner nl Ln xs (d + 1) this σ F := by
  obtain ⟨j0, j1, j4, j5, j8, j9, j10, j11, j14, j15, j18, j19, j20, j23, j24, j27, j28, j29, j32, j34, j37, j38, j39, j42, j44, j47, j48, j49, j52, j53, j56, j58, -⟩ := P_Ro_owner nl Ln xs
  have elo : am_lo 2 [am_ov (some this)] = [some (am_ov (some this)), none] := by simp only [am_lo, am_in_ov, am_in_int, am_in_long, am_in_nil]; rfl
  unfold k_Ro_owner
  rw [elo]
  refine s_aload_n j0 rfl rfl ?_
  obtain ⟨ho1, h⟩ := h
  refine s_gfR j1 rfl ho1 ?_
  refine s_aload_n j4 rfl rfl ?_
  refine s_gfI j5 rfl ho1 ?_
  obtain ⟨ho2, h⟩ := h
  refine s_iaload j8 rfl ho2 ?_
  refine s_istore_nV j9 rfl (n := 2) (L' := fun w => [some (am_ov (some this)), some (.int w)]) rfl (by decide) (fun _ => am_st1_R [] _ _ _ _) (fun v3 hv4 => ?_)
  replace h := h v3 hv4
  refine s_iload_n j10 rfl rfl ?_
  have K10 : ∀ (w11 : Int32), w11 = (if v3 = 0 then (3 : Int32) else (if v3 = (1 : Int32) then (4 : Int32) else (if v3 = (2 : Int32) then (6 : Int32) else (if v3 = (3 : Int32) then (8 : Int32) else (if v3 = (4 : Int32) then (5 : Int32) else (7 : Int32)))))) → am_C (TT nl Ln xs) (d + 1) 230 58 [some (am_ov (some this)), some (.int v3)] [.int w11] σ (am_qI F) := by
    intro w11 hw12
    replace h := h w11 hw12
    exact s_retI j58 rfl h
  refine s_ifn j11 rfl rfl am_cc_ne (fun hc5 => ?_) (fun hc5 => ?_)
  · refine s_iload_n j18 rfl rfl ?_
    refine s_iconst j19 rfl kc_ic_1 ?_
    refine s_icn j20 rfl rfl am_cc_ne (fun hc6 => ?_) (fun hc6 => ?_)
    · refine s_iload_n j27 rfl rfl ?_
      refine s_iconst j28 rfl kc_ic_2 ?_
      refine s_icn j29 rfl rfl am_cc_ne (fun hc7 => ?_) (fun hc7 => ?_)
      · refine s_iload_n j37 rfl rfl ?_
        refine s_iconst j38 rfl kc_ic_3 ?_
        refine s_icn j39 rfl rfl am_cc_ne (fun hc8 => ?_) (fun hc8 => ?_)
        · refine s_iload_n j47 rfl rfl ?_
          refine s_iconst j48 rfl kc_ic_4 ?_
          refine s_icn j49 rfl rfl am_cc_ne (fun hc9 => ?_) (fun hc9 => ?_)
          · refine s_bipush j56 rfl kc_bi_7 ?_
            exact K10 _ (am_t2 hc5 (am_t2 hc6 (am_t2 hc7 (am_t2 hc8 (am_t2 hc9 rfl)))))
          · refine s_iconst j52 rfl kc_ic_5 ?_
            refine s_goto j53 rfl rfl ?_
            exact K10 _ (am_t2 hc5 (am_t2 hc6 (am_t2 hc7 (am_t2 hc8 (am_t1 hc9 rfl)))))
        · refine s_bipush j42 rfl kc_bi_8 ?_
          refine s_goto j44 rfl rfl ?_
          exact K10 _ (am_t2 hc5 (am_t2 hc6 (am_t2 hc7 (am_t1 hc8 rfl))))
      · refine s_bipush j32 rfl kc_bi_6 ?_
        refine s_goto j34 rfl rfl ?_
        exact K10 _ (am_t2 hc5 (am_t2 hc6 (am_t1 hc7 rfl)))
    · refine s_iconst j23 rfl kc_ic_4 ?_
      refine s_goto j24 rfl rfl ?_
      exact K10 _ (am_t2 hc5 (am_t1 hc6 rfl))
  · refine s_iconst j14 rfl kc_ic_3 ?_
    refine s_goto j15 rfl rfl ?_
    exact K10 _ (am_t1 hc5 rfl)
theorem P_Ro_covers (nl : Bool) (Ln : Nat) (xs : Nat → Int32) : am_Jl (TT nl Ln xs) 231 [(0, .aload_n 0, 1, []), (1, .getfield 3, 4, [9, 13, 99, 2]), (4, .bipush 10, 6, []), (6, .iload_n 1, 7, []), (7, .imul, 8, []), (8, .invokevirtual 322, 11, [10, 226, 13, 2, 2]), (11, .iload_n 1, 12, []), (12, .tableswitch 195 1 7 #[44, 46, 68, 98, 120, 126, 164], 56, []), (56, .iconst 0, 57, []), (57, .ireturn, 58, [4])] := dk_ck (by decide +kernel)
set_option maxRecDepth 4096 in
theorem w_Ro_covers {nl : Bool} {Ln : Nat} {xs : Nat → Int32} {d : Nat} {this : Nat} {p0 : Int32} {σ : am_S} {F : Bool → am_S → Prop} (h : (am_is σ (some this) 13) ∧ (am_is σ (am_fR σ 13099 this) 12) ∧ k_Rm_traced nl Ln xs d ((am_fR σ 13099 this).getD 0) ((10 : Int32) * p0) σ (fun σ3 => am_ext σ σ3 → (p0 = (1 : Int32) → F false σ3) ∧ (p0 = (2 : Int32) → c_Ro_covers_58 nl Ln xs (d + 1) this p0 σ3 F) ∧ (p0 = (3 : Int32) → c_Ro_covers_80 nl Ln xs (d + 1) this p0 σ3 F) ∧ (p0 = (4 : Int32) → c_Ro_covers_110 nl Ln xs (d + 1) this p0 σ3 F) ∧ (p0 = (5 : Int32) → c_Ro_covers_132 nl Ln xs (d + 1) this p0 σ3 F) ∧ (p0 = (6 : Int32) → c_Ro_covers_138 nl Ln xs (d + 1) this p0 σ3 F) ∧ (p0 = (7 : Int32) → c_Ro_covers_176 nl Ln xs (d + 1) this p0 σ3 F) ∧ ((p0.toInt < 1 ∨ 7 < p0.toInt) → c_Ro_covers_207 nl Ln xs (d + 1) this p0 σ3 F))) : k_Ro_covers nl Ln xs (d + 1) this p0 σ F := by
  obtain ⟨j0, j1, j4, j6, j7, j8, j11, j12, j56, j57, -⟩ := P_Ro_covers nl Ln xs
  have elo : am_lo 2 [am_ov (some this), .int p0] = [some (am_ov (some this)), some (.int p0)] := by simp only [am_lo, am_in_ov, am_in_int, am_in_long, am_in_nil]; rfl
  unfold k_Ro_covers
  rw [elo]
  refine s_aload_n j0 rfl rfl ?_
  obtain ⟨ho1, h⟩ := h
  refine s_gfR j1 rfl ho1 ?_
  refine s_bipush j4 rfl kc_bi_10 ?_
  refine s_iload_n j6 rfl rfl ?_
  refine s_g j7 rfl rfl rfl rfl rfl rfl ?_
  obtain ⟨ho2, h⟩ := h
  refine s_virt j8 rfl rfl rfl rfl ho2 (by decide) (in_Rm_traced _ _) (am_r8 rfl) (am_bV h (fun σ3 h hx3 => ?_))
  replace h := h hx3
  refine s_iload_n j11 rfl rfl ?_
  by_cases hr5 : p0.toInt < 1 ∨ 7 < p0.toInt
  · refine s_tsw j12 (t := 207) ((am_sw_out hr5).trans rfl) ?_
    replace h := h.2.2.2.2.2.2.2 hr5
    exact h
  · obtain ⟨k6, hk7, hv8⟩ := am_sw_in hr5
    have hk72 : k6 < 7 := by omega
    clear hk7
    match k6, hk72, hv8 with
    | 0, _, hv8 =>
      have hs : p0 = (1 : Int32) := am_te hv8 (by decide)
      refine s_tsw j12 (t := 56) (by show am_sw 12 195 1 7 #[44, 46, 68, 98, 120, 126, 164] p0.toInt = _; rw [hv8]; rfl) ?_
      replace h := h.1 hs
      refine s_iconst j56 rfl kc_ic_0 ?_
      exact s_retZ0 j57 rfl h
    | 1, _, hv8 =>
      have hs : p0 = (2 : Int32) := am_te hv8 (by decide)
      refine s_tsw j12 (t := 58) (by show am_sw 12 195 1 7 #[44, 46, 68, 98, 120, 126, 164] p0.toInt = _; rw [hv8]; rfl) ?_
      replace h := h.2.1 hs
      exact h
    | 2, _, hv8 =>
      have hs : p0 = (3 : Int32) := am_te hv8 (by decide)
      refine s_tsw j12 (t := 80) (by show am_sw 12 195 1 7 #[44, 46, 68, 98, 120, 126, 164] p0.toInt = _; rw [hv8]; rfl) ?_
      replace h := h.2.2.1 hs
      exact h
    | 3, _, hv8 =>
      have hs : p0 = (4 : Int32) := am_te hv8 (by decide)
      refine s_tsw j12 (t := 110) (by show am_sw 12 195 1 7 #[44, 46, 68, 98, 120, 126, 164] p0.toInt = _; rw [hv8]; rfl) ?_
      replace h := h.2.2.2.1 hs
      exact h
    | 4, _, hv8 =>
      have hs : p0 = (5 : Int32) := am_te hv8 (by decide)
      refine s_tsw j12 (t := 132) (by show am_sw 12 195 1 7 #[44, 46, 68, 98, 120, 126, 164] p0.toInt = _; rw [hv8]; rfl) ?_
      replace h := h.2.2.2.2.1 hs
      exact h
    | 5, _, hv8 =>
      have hs : p0 = (6 : Int32) := am_te hv8 (by decide)
      refine s_tsw j12 (t := 138) (by show am_sw 12 195 1 7 #[44, 46, 68, 98, 120, 126, 164] p0.toInt = _; rw [hv8]; rfl) ?_
      replace h := h.2.2.2.2.2.1 hs
      exact h
    | 6, _, hv8 =>
      have hs : p0 = (7 : Int32) := am_te hv8 (by decide)
      refine s_tsw j12 (t := 176) (by show am_sw 12 195 1 7 #[44, 46, 68, 98, 120, 126, 164] p0.toInt = _; rw [hv8]; rfl) ?_
      replace h := h.2.2.2.2.2.2.1 hs
      exact h
    | n + 7, hk72, _ => exact absurd hk72 (by omega)
theorem P_Ro_covers_58 (nl : Bool) (Ln : Nat) (xs : Nat → Int32) : am_Jl (TT nl Ln xs) 231 [(58, .aload_n 0, 59, []), (59, .iconst 0, 60, []), (60, .invokevirtual 342, 63, [10, 232, 14, 2, 2]), (63, .ifCond .ne 11, 66, []), (66, .aload_n 0, 67, []), (67, .iconst 1, 68, []), (68, .invokevirtual 345, 71, [10, 231, 14, 2, 2]), (71, .ifCond .eq 7, 74, []), (74, .iconst 1, 75, []), (75, .goto 4, 78, []), (78, .iconst 0, 79, []), (79, .ireturn, 80, [4])] := dk_ck (by decide +kernel)
set_option maxRecDepth 4096 in
theorem w_Ro_covers_58 {nl : Bool} {Ln : Nat} {xs : Nat → Int32} {d : Nat} {this : Nat} {x1 : Int32} {σ : am_S} {F : Bool → am_S → Prop} (h : (am_is σ (some this) 13) ∧ k_Ro_is nl Ln xs d this (0 : Int32) σ (fun a3 σ2 => am_ext σ σ2 → (a3 = true → F true σ2) ∧ (¬ (a3 = true) → k_Ro_covers nl Ln xs d this (1 : Int32) σ2 (fun a6 σ5 => am_ext σ2 σ5 → F (decide (a6 = true)) σ5)))) : c_Ro_covers_58 nl Ln xs (d + 1) this x1 σ F := by
  obtain ⟨j58, j59, j60, j63, j66, j67, j68, j71, j74, j75, j78, j79, -⟩ := P_Ro_covers_58 nl Ln xs
  unfold c_Ro_covers_58
  refine s_aload_n j58 rfl rfl ?_
  refine s_iconst j59 rfl kc_ic_0 ?_
  obtain ⟨ho1, h⟩ := h
  refine s_virt j60 rfl rfl rfl rfl ho1 (by decide) (in_Ro_is _ _) (am_r8 rfl) (am_bB h (fun a3 σ2 h hx2 => ?_))
  replace h := h hx2
  refine s_if j63 rfl rfl am_cb_ne (fun hc4 => ?_) (fun hc4 => ?_)
  · replace h := h.1 hc4
    refine s_iconst j74 rfl kc_ic_1 ?_
    refine s_goto j75 rfl rfl ?_
    exact s_retZ1 j79 rfl h
  · replace h := h.2 hc4
    refine s_aload_n j66 rfl rfl ?_
    refine s_iconst j67 rfl kc_ic_1 ?_
    refine s_virt j68 rfl rfl rfl rfl (am_is_ext hx2 ho1) (by decide) (in_Ro_covers _ _) (am_r8 rfl) (am_bB h (fun a6 σ5 h hx5 => ?_))
    replace h := h hx5
    have K8 : ∀ (w9 : Int32), w9 = (if a6 = true then (1 : Int32) else 0) → am_C (TT nl Ln xs) (d + 1) 231 79 [some (am_ov (some this)), some (.int x1)] [.int w9] σ5 (am_qB F) := by
      intro w9 hw10
      subst hw10
      exact s_retZ j79 rfl h
    refine s_ifn j71 rfl rfl am_cb_eq (fun hc7 => ?_) (fun hc7 => ?_)
    · refine s_iconst j78 rfl kc_ic_0 ?_
      exact K8 _ (am_e0 (Iff.trans Iff.rfl (am_p10 hc7)))
    · refine s_iconst j74 rfl kc_ic_1 ?_
      refine s_goto j75 rfl rfl ?_
      exact K8 _ (am_e1 (Iff.trans Iff.rfl (am_p9 hc7)))
theorem P_Ro_covers_80 (nl : Bool) (Ln : Nat) (xs : Nat → Int32) : am_Jl (TT nl Ln xs) 231 [(80, .aload_n 0, 81, []), (81, .iconst 1, 82, []), (82, .invokevirtual 342, 85, [10, 232, 14, 2, 2]), (85, .ifCond .ne 19, 88, []), (88, .aload_n 0, 89, []), (89, .iconst 3, 90, []), (90, .invokevirtual 342, 93, [10, 232, 14, 2, 2]), (93, .ifCond .ne 11, 96, []), (96, .aload_n 0, 97, []), (97, .iconst 2, 98, []), (98, .invokevirtual 345, 101, [10, 231, 14, 2, 2]), (101, .ifCond .eq 7, 104, []), (104, .iconst 1, 105, []), (105, .goto 4, 108, []), (108, .iconst 0, 109, []), (109, .ireturn, 110, [4])] := dk_ck (by decide +kernel)
set_option maxRecDepth 4096 in
theorem w_Ro_covers_80 {nl : Bool} {Ln : Nat} {xs : Nat → Int32} {d : Nat} {this : Nat} {x1 : Int32} {σ : am_S} {F : Bool → am_S → Prop} (h : (am_is σ (some this) 13) ∧ k_Ro_is nl Ln xs d this (1 : Int32) σ (fun a3 σ2 => am_ext σ σ2 → (a3 = true → F true σ2) ∧ (¬ (a3 = true) → k_Ro_is nl Ln xs d this (3 : Int32) σ2 (fun a6 σ5 => am_ext σ2 σ5 → (a6 = true → F true σ5) ∧ (¬ (a6 = true) → k_Ro_covers nl Ln xs d this (2 : Int32) σ5 (fun a9 σ8 => am_ext σ5 σ8 → F (decide (a9 = true)) σ8)))))) : c_Ro_covers_80 nl Ln xs (d + 1) this x1 σ F := by
  obtain ⟨j80, j81, j82, j85, j88, j89, j90, j93, j96, j97, j98, j101, j104, j105, j108, j109, -⟩ := P_Ro_covers_80 nl Ln xs
  unfold c_Ro_covers_80
  refine s_aload_n j80 rfl rfl ?_
  refine s_iconst j81 rfl kc_ic_1 ?_
  obtain ⟨ho1, h⟩ := h
  refine s_virt j82 rfl rfl rfl rfl ho1 (by decide) (in_Ro_is _ _) (am_r8 rfl) (am_bB h (fun a3 σ2 h hx2 => ?_))
  replace h := h hx2
  refine s_if j85 rfl rfl am_cb_ne (fun hc4 => ?_) (fun hc4 => ?_)
  · replace h := h.1 hc4
    refine s_iconst j104 rfl kc_ic_1 ?_
    refine s_goto j105 rfl rfl ?_
    exact s_retZ1 j109 rfl h
  · replace h := h.2 hc4
    refine s_aload_n j88 rfl rfl ?_
    refine s_iconst j89 rfl kc_ic_3 ?_
    refine s_virt j90 rfl rfl rfl rfl (am_is_ext hx2 ho1) (by decide) (in_Ro_is _ _) (am_r8 rfl) (am_bB h (fun a6 σ5 h hx5 => ?_))
    replace h := h hx5
    refine s_if j93 rfl rfl am_cb_ne (fun hc7 => ?_) (fun hc7 => ?_)
    · replace h := h.1 hc7
      refine s_iconst j104 rfl kc_ic_1 ?_
      refine s_goto j105 rfl rfl ?_
      exact s_retZ1 j109 rfl h
    · replace h := h.2 hc7
      refine s_aload_n j96 rfl rfl ?_
      refine s_iconst j97 rfl kc_ic_2 ?_
      refine s_virt j98 rfl rfl rfl rfl (am_is_ext hx5 (am_is_ext hx2 ho1)) (by decide) (in_Ro_covers _ _) (am_r8 rfl) (am_bB h (fun a9 σ8 h hx8 => ?_))
      replace h := h hx8
      have K11 : ∀ (w12 : Int32), w12 = (if a9 = true then (1 : Int32) else 0) → am_C (TT nl Ln xs) (d + 1) 231 109 [some (am_ov (some this)), some (.int x1)] [.int w12] σ8 (am_qB F) := by
        intro w12 hw13
        subst hw13
        exact s_retZ j109 rfl h
      refine s_ifn j101 rfl rfl am_cb_eq (fun hc10 => ?_) (fun hc10 => ?_)
      · refine s_iconst j108 rfl kc_ic_0 ?_
        exact K11 _ (am_e0 (Iff.trans Iff.rfl (am_p10 hc10)))
      · refine s_iconst j104 rfl kc_ic_1 ?_
        refine s_goto j105 rfl rfl ?_
        exact K11 _ (am_e1 (Iff.trans Iff.rfl (am_p9 hc10)))
theorem P_Ro_covers_110 (nl : Bool) (Ln : Nat) (xs : Nat → Int32) : am_Jl (TT nl Ln xs) 231 [(110, .aload_n 0, 111, []), (111, .iconst 2, 112, []), (112, .invokevirtual 342, 115, [10, 232, 14, 2, 2]), (115, .ifCond .ne 11, 118, []), (118, .aload_n 0, 119, []), (119, .iconst 3, 120, []), (120, .invokevirtual 345, 123, [10, 231, 14, 2, 2]), (123, .ifCond .eq 7, 126, []), (126, .iconst 1, 127, []), (127, .goto 4, 130, []), (130, .iconst 0, 131, []), (131, .ireturn, 132, [4])] := dk_ck (by decide +kernel)
set_option maxRecDepth 4096 in
theorem w_Ro_covers_110 {nl : Bool} {Ln : Nat} {xs : Nat → Int32} {d : Nat} {this : Nat} {x1 : Int32} {σ : am_S} {F : Bool → am_S → Prop} (h : (am_is σ (some this) 13) ∧ k_Ro_is nl Ln xs d this (2 : Int32) σ (fun a3 σ2 => am_ext σ σ2 → (a3 = true → F true σ2) ∧ (¬ (a3 = true) → k_Ro_covers nl Ln xs d this (3 : Int32) σ2 (fun a6 σ5 => am_ext σ2 σ5 → F (decide (a6 = true)) σ5)))) : c_Ro_covers_110 nl Ln xs (d + 1) this x1 σ F := by
  obtain ⟨j110, j111, j112, j115, j118, j119, j120, j123, j126, j127, j130, j131, -⟩ := P_Ro_covers_110 nl Ln xs
  unfold c_Ro_covers_110
  refine s_aload_n j110 rfl rfl ?_
  refine s_iconst j111 rfl kc_ic_2 ?_
  obtain ⟨ho1, h⟩ := h
  refine s_virt j112 rfl rfl rfl rfl ho1 (by decide) (in_Ro_is _ _) (am_r8 rfl) (am_bB h (fun a3 σ2 h hx2 => ?_))
  replace h := h hx2
  refine s_if j115 rfl rfl am_cb_ne (fun hc4 => ?_) (fun hc4 => ?_)
  · replace h := h.1 hc4
    refine s_iconst j126 rfl kc_ic_1 ?_
    refine s_goto j127 rfl rfl ?_
    exact s_retZ1 j131 rfl h
  · replace h := h.2 hc4
    refine s_aload_n j118 rfl rfl ?_
    refine s_iconst j119 rfl kc_ic_3 ?_
    refine s_virt j120 rfl rfl rfl rfl (am_is_ext hx2 ho1) (by decide) (in_Ro_covers _ _) (am_r8 rfl) (am_bB h (fun a6 σ5 h hx5 => ?_))
    replace h := h hx5
    have K8 : ∀ (w9 : Int32), w9 = (if a6 = true then (1 : Int32) else 0) → am_C (TT nl Ln xs) (d + 1) 231 131 [some (am_ov (some this)), some (.int x1)] [.int w9] σ5 (am_qB F) := by
      intro w9 hw10
      subst hw10
      exact s_retZ j131 rfl h
    refine s_ifn j123 rfl rfl am_cb_eq (fun hc7 => ?_) (fun hc7 => ?_)
    · refine s_iconst j130 rfl kc_ic_0 ?_
      exact K8 _ (am_e0 (Iff.trans Iff.rfl (am_p10 hc7)))
    · refine s_iconst j126 rfl kc_ic_1 ?_
      refine s_goto j127 rfl rfl ?_
      exact K8 _ (am_e1 (Iff.trans Iff.rfl (am_p9 hc7)))
theorem P_Ro_covers_132 (nl : Bool) (Ln : Nat) (xs : Nat → Int32) : am_Jl (TT nl Ln xs) 231 [(132, .aload_n 0, 133, []), (133, .iconst 3, 134, []), (134, .invokevirtual 342, 137, [10, 232, 14, 2, 2]), (137, .ireturn, 138, [4])] := dk_ck (by decide +kernel)
set_option maxRecDepth 4096 in
theorem w_Ro_covers_132 {nl : Bool} {Ln : Nat} {xs : Nat → Int32} {d : Nat} {this : Nat} {x1 : Int32} {σ : am_S} {F : Bool → am_S → Prop} (h : (am_is σ (some this) 13) ∧ k_Ro_is nl Ln xs d this (3 : Int32) σ (fun a3 σ2 => am_ext σ σ2 → F (decide (a3 = true)) σ2)) : c_Ro_covers_132 nl Ln xs (d + 1) this x1 σ F := by
  obtain ⟨j132, j133, j134, j137, -⟩ := P_Ro_covers_132 nl Ln xs
  unfold c_Ro_covers_132
  refine s_aload_n j132 rfl rfl ?_
  refine s_iconst j133 rfl kc_ic_3 ?_
  obtain ⟨ho1, h⟩ := h
  refine s_virt j134 rfl rfl rfl rfl ho1 (by decide) (in_Ro_is _ _) (am_r8 rfl) (am_bB h (fun a3 σ2 h hx2 => ?_))
  replace h := h hx2
  exact s_retZ j137 rfl h
theorem P_Ro_covers_138 (nl : Bool) (Ln : Nat) (xs : Nat → Int32) : am_Jl (TT nl Ln xs) 231 [(138, .aload_n 0, 139, []), (139, .iconst 0, 140, []), (140, .invokevirtual 342, 143, [10, 232, 14, 2, 2]), (143, .ifCond .ne 27, 146, []), (146, .aload_n 0, 147, []), (147, .iconst 2, 148, []), (148, .invokevirtual 342, 151, [10, 232, 14, 2, 2]), (151, .ifCond .ne 19, 154, []), (154, .aload_n 0, 155, []), (155, .iconst 4, 156, []), (156, .invokevirtual 342, 159, [10, 232, 14, 2, 2]), (159, .ifCond .ne 11, 162, []), (162, .aload_n 0, 163, []), (163, .iconst 1, 164, []), (164, .invokevirtual 345, 167, [10, 231, 14, 2, 2]), (167, .ifCond .eq 7, 170, []), (170, .iconst 1, 171, []), (171, .goto 4, 174, []), (174, .iconst 0, 175, []), (175, .ireturn, 176, [4])] := dk_ck (by decide +kernel)
set_option maxRecDepth 4096 in
theorem w_Ro_covers_138 {nl : Bool} {Ln : Nat} {xs : Nat → Int32} {d : Nat} {this : Nat} {x1 : Int32} {σ : am_S} {F : Bool → am_S → Prop} (h : (am_is σ (some this) 13) ∧ k_Ro_is nl Ln xs d this (0 : Int32) σ (fun a3 σ2 => am_ext σ σ2 → (a3 = true → F true σ2) ∧ (¬ (a3 = true) → k_Ro_is nl Ln xs d this (2 : Int32) σ2 (fun a6 σ5 => am_ext σ2 σ5 → (a6 = true → F true σ5) ∧ (¬ (a6 = true) → k_Ro_is nl Ln xs d this (4 : Int32) σ5 (fun a9 σ8 => am_ext σ5 σ8 → (a9 = true → F true σ8) ∧ (¬ (a9 = true) → k_Ro_covers nl Ln xs d this (1 : Int32) σ8 (fun a12 σ11 => am_ext σ8 σ11 → F (decide (a12 = true)) σ11)))))))) : c_Ro_covers_138 nl Ln xs (d + 1) this x1 σ F := by
  obtain ⟨j138, j139, j140, j143, j146, j147, j148, j151, j154, j155, j156, j159, j162, j163, j164, j167, j170, j171, j174, j175, -⟩ := P_Ro_covers_138 nl Ln xs
  unfold c_Ro_covers_138
  refine s_aload_n j138 rfl rfl ?_
  refine s_iconst j139 rfl kc_ic_0 ?_
  obtain ⟨ho1, h⟩ := h
  refine s_virt j140 rfl rfl rfl rfl ho1 (by decide) (in_Ro_is _ _) (am_r8 rfl) (am_bB h (fun a3 σ2 h hx2 => ?_))
  replace h := h hx2
  refine s_if j143 rfl rfl am_cb_ne (fun hc4 => ?_) (fun hc4 => ?_)
  · replace h := h.1 hc4
    refine s_iconst j170 rfl kc_ic_1 ?_
    refine s_goto j171 rfl rfl ?_
    exact s_retZ1 j175 rfl h
  · replace h := h.2 hc4
    refine s_aload_n j146 rfl rfl ?_
    refine s_iconst j147 rfl kc_ic_2 ?_
    refine s_virt j148 rfl rfl rfl rfl (am_is_ext hx2 ho1) (by decide) (in_Ro_is _ _) (am_r8 rfl) (am_bB h (fun a6 σ5 h hx5 => ?_))
    replace h := h hx5
    refine s_if j151 rfl rfl am_cb_ne (fun hc7 => ?_) (fun hc7 => ?_)
    · replace h := h.1 hc7
      refine s_iconst j170 rfl kc_ic_1 ?_
      refine s_goto j171 rfl rfl ?_
      exact s_retZ1 j175 rfl h
    · replace h := h.2 hc7
      refine s_aload_n j154 rfl rfl ?_
      refine s_iconst j155 rfl kc_ic_4 ?_
      refine s_virt j156 rfl rfl rfl rfl (am_is_ext hx5 (am_is_ext hx2 ho1)) (by decide) (in_Ro_is _ _) (am_r8 rfl) (am_bB h (fun a9 σ8 h hx8 => ?_))
      replace h := h hx8
      refine s_if j159 rfl rfl am_cb_ne (fun hc10 => ?_) (fun hc10 => ?_)
      · replace h := h.1 hc10
        refine s_iconst j170 rfl kc_ic_1 ?_
        refine s_goto j171 rfl rfl ?_
        exact s_retZ1 j175 rfl h
      · replace h := h.2 hc10
        refine s_aload_n j162 rfl rfl ?_
        refine s_iconst j163 rfl kc_ic_1 ?_
        refine s_virt j164 rfl rfl rfl rfl (am_is_ext hx8 (am_is_ext hx5 (am_is_ext hx2 ho1))) (by decide) (in_Ro_covers _ _) (am_r8 rfl) (am_bB h (fun a12 σ11 h hx11 => ?_))
        replace h := h hx11
        have K14 : ∀ (w15 : Int32), w15 = (if a12 = true then (1 : Int32) else 0) → am_C (TT nl Ln xs) (d + 1) 231 175 [some (am_ov (some this)), some (.int x1)] [.int w15] σ11 (am_qB F) := by
          intro w15 hw16
          subst hw16
          exact s_retZ j175 rfl h
        refine s_ifn j167 rfl rfl am_cb_eq (fun hc13 => ?_) (fun hc13 => ?_)
        · refine s_iconst j174 rfl kc_ic_0 ?_
          exact K14 _ (am_e0 (Iff.trans Iff.rfl (am_p10 hc13)))
        · refine s_iconst j170 rfl kc_ic_1 ?_
          refine s_goto j171 rfl rfl ?_
          exact K14 _ (am_e1 (Iff.trans Iff.rfl (am_p9 hc13)))
theorem P_Ro_covers_176 (nl : Bool) (Ln : Nat) (xs : Nat → Int32) : am_Jl (TT nl Ln xs) 231 [(176, .aload_n 0, 177, []), (177, .iconst 4, 178, []), (178, .invokevirtual 342, 181, [10, 232, 14, 2, 2]), (181, .ifCond .ne 24, 184, []), (184, .aload_n 0, 185, []), (185, .iconst 1, 186, []), (186, .invokevirtual 342, 189, [10, 232, 14, 2, 2]), (189, .ifCond .ne 12, 192, []), (192, .aload_n 0, 193, []), (193, .bipush 6, 195, []), (195, .invokevirtual 345, 198, [10, 231, 14, 2, 2]), (198, .ifCond .eq 7, 201, []), (201, .iconst 1, 202, []), (202, .goto 4, 205, []), (205, .iconst 0, 206, []), (206, .ireturn, 207, [4])] := dk_ck (by decide +kernel)
set_option maxRecDepth 4096 in
theorem w_Ro_covers_176 {nl : Bool} {Ln : Nat} {xs : Nat → Int32} {d : Nat} {this : Nat} {x1 : Int32} {σ : am_S} {F : Bool → am_S → Prop} (h : (am_is σ (some this) 13) ∧ k_Ro_is nl Ln xs d this (4 : Int32) σ (fun a3 σ2 => am_ext σ σ2 → (a3 = true → F false σ2) ∧ (¬ (a3 = true) → k_Ro_is nl Ln xs d this (1 : Int32) σ2 (fun a6 σ5 => am_ext σ2 σ5 → (a6 = true → F true σ5) ∧ (¬ (a6 = true) → k_Ro_covers nl Ln xs d this (6 : Int32) σ5 (fun a9 σ8 => am_ext σ5 σ8 → F (decide (a9 = true)) σ8)))))) : c_Ro_covers_176 nl Ln xs (d + 1) this x1 σ F := by
  obtain ⟨j176, j177, j178, j181, j184, j185, j186, j189, j192, j193, j195, j198, j201, j202, j205, j206, -⟩ := P_Ro_covers_176 nl Ln xs
  unfold c_Ro_covers_176
  refine s_aload_n j176 rfl rfl ?_
  refine s_iconst j177 rfl kc_ic_4 ?_
  obtain ⟨ho1, h⟩ := h
  refine s_virt j178 rfl rfl rfl rfl ho1 (by decide) (in_Ro_is _ _) (am_r8 rfl) (am_bB h (fun a3 σ2 h hx2 => ?_))
  replace h := h hx2
  refine s_if j181 rfl rfl am_cb_ne (fun hc4 => ?_) (fun hc4 => ?_)
  · replace h := h.1 hc4
    refine s_iconst j205 rfl kc_ic_0 ?_
    exact s_retZ0 j206 rfl h
  · replace h := h.2 hc4
    refine s_aload_n j184 rfl rfl ?_
    refine s_iconst j185 rfl kc_ic_1 ?_
    refine s_virt j186 rfl rfl rfl rfl (am_is_ext hx2 ho1) (by decide) (in_Ro_is _ _) (am_r8 rfl) (am_bB h (fun a6 σ5 h hx5 => ?_))
    replace h := h hx5
    refine s_if j189 rfl rfl am_cb_ne (fun hc7 => ?_) (fun hc7 => ?_)
    · replace h := h.1 hc7
      refine s_iconst j201 rfl kc_ic_1 ?_
      refine s_goto j202 rfl rfl ?_
      exact s_retZ1 j206 rfl h
    · replace h := h.2 hc7
      refine s_aload_n j192 rfl rfl ?_
      refine s_bipush j193 rfl kc_bi_6 ?_
      refine s_virt j195 rfl rfl rfl rfl (am_is_ext hx5 (am_is_ext hx2 ho1)) (by decide) (in_Ro_covers _ _) (am_r8 rfl) (am_bB h (fun a9 σ8 h hx8 => ?_))
      replace h := h hx8
      have K11 : ∀ (w12 : Int32), w12 = (if a9 = true then (1 : Int32) else 0) → am_C (TT nl Ln xs) (d + 1) 231 206 [some (am_ov (some this)), some (.int x1)] [.int w12] σ8 (am_qB F) := by
        intro w12 hw13
        subst hw13
        exact s_retZ j206 rfl h
      refine s_ifn j198 rfl rfl am_cb_eq (fun hc10 => ?_) (fun hc10 => ?_)
      · refine s_iconst j205 rfl kc_ic_0 ?_
        exact K11 _ (am_e0 (Iff.trans Iff.rfl (am_p10 hc10)))
      · refine s_iconst j201 rfl kc_ic_1 ?_
        refine s_goto j202 rfl rfl ?_
        exact K11 _ (am_e1 (Iff.trans Iff.rfl (am_p9 hc10)))
theorem P_Ro_covers_207 (nl : Bool) (Ln : Nat) (xs : Nat → Int32) : am_Jl (TT nl Ln xs) 231 [(207, .aload_n 0, 208, []), (208, .getfield 95, 211, [9, 13, 36, 2]), (211, .aload_n 0, 212, []), (212, .getfield 298, 215, [9, 13, 69, 0]), (215, .iaload, 216, []), (216, .iconst 4, 217, []), (217, .if_icmp .eq 10, 220, []), (220, .aload_n 0, 221, []), (221, .iconst 2, 222, []), (222, .invokevirtual 348, 225, [10, 220, 14, 2, 2]), (225, .iconst 0, 226, []), (226, .ireturn, 227, [4]), (227, .aload_n 0, 228, []), (228, .getfield 107, 231, [9, 13, 40, 2]), (231, .aload_n 0, 232, []), (232, .getfield 298, 235, [9, 13, 69, 0]), (235, .iaload, 236, []), (236, .ifCond .le 7, 239, []), (239, .iconst 1, 240, []), (240, .goto 4, 243, []), (243, .iconst 0, 244, []), (244, .ireturn, 245, [4])] := dk_ck (by decide +kernel)
set_option maxRecDepth 4096 in
theorem w_Ro_covers_207 {nl : Bool} {Ln : Nat} {xs : Nat → Int32} {d : Nat} {this : Nat} {x1 : Int32} {σ : am_S} {F : Bool → am_S → Prop} (h : (am_is σ (some this) 13) ∧ (am_ar σ 1000 (am_fR σ 13036 this) (am_fI σ 13069 this)) ∧ ((am_aI σ ((am_fR σ 13036 this).getD 0) (am_fI σ 13069 this).toNatClampNeg) = (4 : Int32) → (am_ar σ 1000 (am_fR σ 13040 this) (am_fI σ 13069 this)) ∧ F (decide (0 < (am_aI σ ((am_fR σ 13040 this).getD 0) (am_fI σ 13069 this).toNatClampNeg))) σ) ∧ (¬ ((am_aI σ ((am_fR σ 13036 this).getD 0) (am_fI σ 13069 this).toNatClampNeg) = (4 : Int32)) → k_Ro_meets nl Ln xs d this (2 : Int32) σ (fun σ9 => am_ext σ σ9 → F false σ9))) : c_Ro_covers_207 nl Ln xs (d + 1) this x1 σ F := by
  obtain ⟨j207, j208, j211, j212, j215, j216, j217, j220, j221, j222, j225, j226, j227, j228, j231, j232, j235, j236, j239, j240, j243, j244, -⟩ := P_Ro_covers_207 nl Ln xs
  unfold c_Ro_covers_207
  refine s_aload_n j207 rfl rfl ?_
  obtain ⟨ho1, h⟩ := h
  refine s_gfR j208 rfl ho1 ?_
  refine s_aload_n j211 rfl rfl ?_
  refine s_gfI j212 rfl ho1 ?_
  obtain ⟨ho2, h⟩ := h
  refine s_iaload j215 rfl ho2 ?_
  refine s_iconst j216 rfl kc_ic_4 ?_
  refine s_ic j217 rfl rfl am_cc_eq (fun hc3 => ?_) (fun hc3 => ?_)
  · replace h := h.1 hc3
    refine s_aload_n j227 rfl rfl ?_
    refine s_gfR j228 rfl ho1 ?_
    refine s_aload_n j231 rfl rfl ?_
    refine s_gfI j232 rfl ho1 ?_
    obtain ⟨ho4, h⟩ := h
    refine s_iaload j235 rfl ho4 ?_
    have K6 : ∀ (w7 : Int32), w7 = (if 0 < (am_aI σ ((am_fR σ 13040 this).getD 0) (am_fI σ 13069 this).toNatClampNeg) then (1 : Int32) else 0) → am_C (TT nl Ln xs) (d + 1) 231 244 [some (am_ov (some this)), some (.int x1)] [.int w7] σ (am_qB F) := by
      intro w7 hw8
      subst hw8
      exact s_retZ j244 rfl h
    refine s_ifn j236 rfl rfl am_cc_le (fun hc5 => ?_) (fun hc5 => ?_)
    · refine s_iconst j243 rfl kc_ic_0 ?_
      exact K6 _ (am_e0 (Iff.trans Iff.rfl (am_p10 hc5)))
    · refine s_iconst j239 rfl kc_ic_1 ?_
      refine s_goto j240 rfl rfl ?_
      exact K6 _ (am_e1 (Iff.trans Iff.rfl (am_p9 hc5)))
  · replace h := h.2 hc3
    refine s_aload_n j220 rfl rfl ?_
    refine s_iconst j221 rfl kc_ic_2 ?_
    refine s_virt j222 rfl rfl rfl rfl ho1 (by decide) (in_Ro_meets _ _) (am_r8 rfl) (am_bV h (fun σ9 h hx9 => ?_))
    replace h := h hx9
    refine s_iconst j225 rfl kc_ic_0 ?_
    exact s_retZ0 j226 rfl h
theorem P_Ro_is (nl : Bool) (Ln : Nat) (xs : Nat → Int32) : am_Jl (TT nl Ln xs) 232 [(0, .aload_n 0, 1, []), (1, .aload_n 0, 2, []), (2, .getfield 298, 5, [9, 13, 69, 0]), (5, .iload_n 1, 6, []), (6, .invokevirtual 326, 9, [10, 233, 14, 3, 3]), (9, .ireturn, 10, [4])] := dk_ck (by decide +kernel)
set_option maxRecDepth 4096 in
theorem w_Ro_is {nl : Bool} {Ln : Nat} {xs : Nat → Int32} {d : Nat} {this : Nat} {p0 : Int32} {σ : am_S} {F : Bool → am_S → Prop} (h : (am_is σ (some this) 13) ∧ k_Ro_is2 nl Ln xs d this (am_fI σ 13069 this) p0 σ (fun a3 σ2 => am_ext σ σ2 → F (decide (a3 = true)) σ2)) : k_Ro_is nl Ln xs (d + 1) this p0 σ F := by
  obtain ⟨j0, j1, j2, j5, j6, j9, -⟩ := P_Ro_is nl Ln xs
  have elo : am_lo 2 [am_ov (some this), .int p0] = [some (am_ov (some this)), some (.int p0)] := by simp only [am_lo, am_in_ov, am_in_int, am_in_long, am_in_nil]; rfl
  unfold k_Ro_is
  rw [elo]
  refine s_aload_n j0 rfl rfl ?_
  refine s_aload_n j1 rfl rfl ?_
  obtain ⟨ho1, h⟩ := h
  refine s_gfI j2 rfl ho1 ?_
  refine s_iload_n j5 rfl rfl ?_
  refine s_virt j6 rfl rfl rfl rfl ho1 (by decide) (in_Ro_is2 _ _ _) (am_r8 rfl) (am_bB h (fun a3 σ2 h hx2 => ?_))
  replace h := h hx2
  exact s_retZ j9 rfl h
theorem P_Ro_is2 (nl : Bool) (Ln : Nat) (xs : Nat → Int32) : am_Jl (TT nl Ln xs) 233 [(0, .aload_n 0, 1, []), (1, .getfield 95, 4, [9, 13, 36, 2]), (4, .iload_n 1, 5, []), (5, .iaload, 6, []), (6, .iconst 5, 7, []), (7, .if_icmp .ne 25, 10, []), (10, .aload_n 0, 11, []), (11, .getfield 3, 14, [9, 13, 99, 2]), (14, .sipush 145, 17, []), (17, .invokevirtual 322, 20, [10, 226, 13, 2, 2]), (20, .aload_n 0, 21, []), (21, .aload_n 0, 22, []), (22, .getfield 101, 25, [9, 13, 38, 2]), (25, .iload_n 1, 26, []), (26, .iaload, 27, []), (27, .iload_n 2, 28, []), (28, .invokevirtual 326, 31, [10, 233, 14, 3, 3]), (31, .ireturn, 32, [4]), (32, .aload_n 0, 33, []), (33, .getfield 95, 36, [9, 13, 36, 2]), (36, .iload_n 1, 37, []), (37, .iaload, 38, []), (38, .iconst 3, 39, []), (39, .if_icmp .ne 30, 42, []), (42, .aload_n 0, 43, []), (43, .getfield 3, 46, [9, 13, 99, 2]), (46, .bipush 125, 48, []), (48, .invokevirtual 322, 51, [10, 226, 13, 2, 2]), (51, .iload_n 2, 52, []), (52, .iconst 1, 53, []), (53, .if_icmp .ne 16, 56, []), (56, .aload_n 0, 57, []), (57, .iload_n 1, 58, []), (58, .ldc2_w 330, 61, [6, 3]), (61, .invokevirtual 332, 64, [10, 234, 14, 5, 3]), (64, .ifCond .eq 5, 67, []), (67, .iconst 1, 68, []), (68, .ireturn, 69, [4])] := dk_ck (by decide +kernel)
set_option maxRecDepth 4096 in
theorem w_Ro_is2 {nl : Bool} {Ln : Nat} {xs : Nat → Int32} {d : Nat} {this : Nat} {p0 : Int32} {p1 : Int32} {σ : am_S} {F : Bool → am_S → Prop} (h : (am_is σ (some this) 13) ∧ (am_ar σ 1000 (am_fR σ 13036 this) p0) ∧ ((am_aI σ ((am_fR σ 13036 this).getD 0) p0.toNatClampNeg) = (5 : Int32) → (am_is σ (am_fR σ 13099 this) 12) ∧ k_Rm_traced nl Ln xs d ((am_fR σ 13099 this).getD 0) (145 : Int32) σ (fun σ5 => am_ext σ σ5 → (am_ar σ5 1000 (am_fR σ5 13038 this) p0) ∧ k_Ro_is2 nl Ln xs d this (am_aI σ5 ((am_fR σ5 13038 this).getD 0) p0.toNatClampNeg) p1 σ5 (fun a9 σ8 => am_ext σ5 σ8 → F (decide (a9 = true)) σ8))) ∧ (¬ ((am_aI σ ((am_fR σ 13036 this).getD 0) p0.toNatClampNeg) = (5 : Int32)) → (am_ar σ 1000 (am_fR σ 13036 this) p0) ∧ ((am_aI σ ((am_fR σ 13036 this).getD 0) p0.toNatClampNeg) = (3 : Int32) → (am_is σ (am_fR σ 13099 this) 12) ∧ k_Rm_traced nl Ln xs d ((am_fR σ 13099 this).getD 0) (125 : Int32) σ (fun σ13 => am_ext σ σ13 → (p1 = (1 : Int32) → k_Ro_hasSort nl Ln xs d this p0 (3 : Int64) σ13 (fun a17 σ16 => am_ext σ13 σ16 → (a17 = true → F true σ16) ∧ (¬ (a17 = true) → c_Ro_is2_69 nl Ln xs (d + 1) this p0 p1 σ16 F))) ∧ (¬ (p1 = (1 : Int32)) → c_Ro_is2_69 nl Ln xs (d + 1) this p0 p1 σ13 F))) ∧ (¬ ((am_aI σ ((am_fR σ 13036 this).getD 0) p0.toNatClampNeg) = (3 : Int32)) → c_Ro_is2_69 nl Ln xs (d + 1) this p0 p1 σ F))) : k_Ro_is2 nl Ln xs (d + 1) this p0 p1 σ F := by
  obtain ⟨j0, j1, j4, j5, j6, j7, j10, j11, j14, j17, j20, j21, j22, j25, j26, j27, j28, j31, j32, j33, j36, j37, j38, j39, j42, j43, j46, j48, j51, j52, j53, j56, j57, j58, j61, j64, j67, j68, -⟩ := P_Ro_is2 nl Ln xs
  have elo : am_lo 3 [am_ov (some this), .int p0, .int p1] = [some (am_ov (some this)), some (.int p0), some (.int p1)] := by simp only [am_lo, am_in_ov, am_in_int, am_in_long, am_in_nil]; rfl
  unfold k_Ro_is2
  rw [elo]
  refine s_aload_n j0 rfl rfl ?_
  obtain ⟨ho1, h⟩ := h
  refine s_gfR j1 rfl ho1 ?_
  refine s_iload_n j4 rfl rfl ?_
  obtain ⟨ho2, h⟩ := h
  refine s_iaload j5 rfl ho2 ?_
  refine s_iconst j6 rfl kc_ic_5 ?_
  refine s_icn j7 rfl rfl am_cc_ne (fun hc3 => ?_) (fun hc3 => ?_)
  · replace h := h.2 hc3
    refine s_aload_n j32 rfl rfl ?_
    refine s_gfR j33 rfl ho1 ?_
    refine s_iload_n j36 rfl rfl ?_
    obtain ⟨ho10, h⟩ := h
    refine s_iaload j37 rfl ho10 ?_
    refine s_iconst j38 rfl kc_ic_3 ?_
    refine s_icn j39 rfl rfl am_cc_ne (fun hc11 => ?_) (fun hc11 => ?_)
    · replace h := h.2 hc11
      exact h
    · replace h := h.1 hc11
      refine s_aload_n j42 rfl rfl ?_
      refine s_gfR j43 rfl ho1 ?_
      refine s_bipush j46 rfl kc_bi_125 ?_
      obtain ⟨ho12, h⟩ := h
      refine s_virt j48 rfl rfl rfl rfl ho12 (by decide) (in_Rm_traced _ _) (am_r8 rfl) (am_bV h (fun σ13 h hx13 => ?_))
      replace h := h hx13
      refine s_iload_n j51 rfl rfl ?_
      refine s_iconst j52 rfl kc_ic_1 ?_
      refine s_icn j53 rfl rfl am_cc_ne (fun hc15 => ?_) (fun hc15 => ?_)
      · replace h := h.2 hc15
        exact h
      · replace h := h.1 hc15
        refine s_aload_n j56 rfl rfl ?_
        refine s_iload_n j57 rfl rfl ?_
        refine s_ldc2 j58 rfl kc_ll_3 ?_
        refine s_virt j61 rfl rfl rfl rfl (am_is_ext hx13 ho1) (by decide) (in_Ro_hasSort _ _ _) (am_r8 rfl) (am_bB h (fun a17 σ16 h hx16 => ?_))
        replace h := h hx16
        refine s_ifn j64 rfl rfl am_cb_eq (fun hc18 => ?_) (fun hc18 => ?_)
        · replace h := h.2 hc18
          exact h
        · replace h := h.1 hc18
          refine s_iconst j67 rfl kc_ic_1 ?_
          exact s_retZ1 j68 rfl h
  · replace h := h.1 hc3
    refine s_aload_n j10 rfl rfl ?_
    refine s_gfR j11 rfl ho1 ?_
    refine s_sipush j14 rfl kc_si_145 ?_
    obtain ⟨ho4, h⟩ := h
    refine s_virt j17 rfl rfl rfl rfl ho4 (by decide) (in_Rm_traced _ _) (am_r8 rfl) (am_bV h (fun σ5 h hx5 => ?_))
    replace h := h hx5
    refine s_aload_n j20 rfl rfl ?_
    refine s_aload_n j21 rfl rfl ?_
    refine s_gfR j22 rfl (am_is_ext hx5 ho1) ?_
    refine s_iload_n j25 rfl rfl ?_
    obtain ⟨ho7, h⟩ := h
    refine s_iaload j26 rfl ho7 ?_
    refine s_iload_n j27 rfl rfl ?_
    refine s_virt j28 rfl rfl rfl rfl (am_is_ext hx5 ho1) (by decide) (in_Ro_is2 _ _ _) (am_r8 rfl) (am_bB h (fun a9 σ8 h hx8 => ?_))
    replace h := h hx8
    exact s_retZ j31 rfl h
theorem P_Ro_is2_69 (nl : Bool) (Ln : Nat) (xs : Nat → Int32) : am_Jl (TT nl Ln xs) 233 [(69, .aload_n 0, 70, []), (70, .getfield 3, 73, [9, 13, 99, 2]), (73, .bipush 95, 75, []), (75, .invokevirtual 322, 78, [10, 226, 13, 2, 2]), (78, .aload_n 0, 79, []), (79, .getfield 95, 82, [9, 13, 36, 2]), (82, .iload_n 1, 83, []), (83, .iaload, 84, []), (84, .iload_n 2, 85, []), (85, .if_icmp .ne 7, 88, []), (88, .iconst 1, 89, []), (89, .goto 4, 92, []), (92, .iconst 0, 93, []), (93, .ireturn, 94, [4])] := dk_ck (by decide +kernel)
set_option maxRecDepth 4096 in
theorem w_Ro_is2_69 {nl : Bool} {Ln : Nat} {xs : Nat → Int32} {d : Nat} {this : Nat} {x1 : Int32} {x2 : Int32} {σ : am_S} {F : Bool → am_S → Prop} (h : (am_is σ (some this) 13) ∧ (am_is σ (am_fR σ 13099 this) 12) ∧ k_Rm_traced nl Ln xs d ((am_fR σ 13099 this).getD 0) (95 : Int32) σ (fun σ3 => am_ext σ σ3 → (am_ar σ3 1000 (am_fR σ3 13036 this) x1) ∧ F (decide ((am_aI σ3 ((am_fR σ3 13036 this).getD 0) x1.toNatClampNeg) = x2)) σ3)) : c_Ro_is2_69 nl Ln xs (d + 1) this x1 x2 σ F := by
  obtain ⟨j69, j70, j73, j75, j78, j79, j82, j83, j84, j85, j88, j89, j92, j93, -⟩ := P_Ro_is2_69 nl Ln xs
  unfold c_Ro_is2_69
  refine s_aload_n j69 rfl rfl ?_
  obtain ⟨ho1, h⟩ := h
  refine s_gfR j70 rfl ho1 ?_
  refine s_bipush j73 rfl kc_bi_95 ?_
  obtain ⟨ho2, h⟩ := h
  refine s_virt j75 rfl rfl rfl rfl ho2 (by decide) (in_Rm_traced _ _) (am_r8 rfl) (am_bV h (fun σ3 h hx3 => ?_))
  replace h := h hx3
  refine s_aload_n j78 rfl rfl ?_
  refine s_gfR j79 rfl (am_is_ext hx3 ho1) ?_
  refine s_iload_n j82 rfl rfl ?_
  obtain ⟨ho5, h⟩ := h
  refine s_iaload j83 rfl ho5 ?_
  refine s_iload_n j84 rfl rfl ?_
  have K7 : ∀ (w8 : Int32), w8 = (if (am_aI σ3 ((am_fR σ3 13036 this).getD 0) x1.toNatClampNeg) = x2 then (1 : Int32) else 0) → am_C (TT nl Ln xs) (d + 1) 233 93 [some (am_ov (some this)), some (.int x1), some (.int x2)] [.int w8] σ3 (am_qB F) := by
    intro w8 hw9
    subst hw9
    exact s_retZ j93 rfl h
  refine s_icn j85 rfl rfl am_cc_ne (fun hc6 => ?_) (fun hc6 => ?_)
  · refine s_iconst j92 rfl kc_ic_0 ?_
    exact K7 _ (am_e0 (Iff.trans Iff.rfl (am_p10 hc6)))
  · refine s_iconst j88 rfl kc_ic_1 ?_
    refine s_goto j89 rfl rfl ?_
    exact K7 _ (am_e1 (Iff.trans Iff.rfl (am_p9 hc6)))
theorem P_Ro_hasSort (nl : Bool) (Ln : Nat) (xs : Nat → Int32) : am_Jl (TT nl Ln xs) 234 [(0, .iconst 0, 1, []), (1, .istore 4, 3, [])] := dk_ck (by decide +kernel)
set_option maxRecDepth 4096 in
theorem w_Ro_hasSort {nl : Bool} {Ln : Nat} {xs : Nat → Int32} {d : Nat} {this : Nat} {p0 : Int32} {p1 : Int64} {σ : am_S} {F : Bool → am_S → Prop} (h : c_Ro_hasSort_3 nl Ln xs (d + 1) this p0 p1 (0 : Int32) σ F) : k_Ro_hasSort nl Ln xs (d + 1) this p0 p1 σ F := by
  obtain ⟨j0, j1, -⟩ := P_Ro_hasSort nl Ln xs
  have elo : am_lo 5 [am_ov (some this), .int p0, .long p1] = [some (am_ov (some this)), some (.int p0), some (.long p1), none, none] := by simp only [am_lo, am_in_ov, am_in_int, am_in_long, am_in_nil]; rfl
  unfold k_Ro_hasSort
  rw [elo]
  refine s_iconst j0 rfl kc_ic_0 ?_
  refine s_istore j1 rfl (n := 5) (L' := [some (am_ov (some this)), some (.int p0), some (.long p1), none, some (.int (0 : Int32))]) rfl (by decide) rfl ?_
  exact h
theorem P_Ro_hasSort_3 (nl : Bool) (Ln : Nat) (xs : Nat → Int32) : am_Jl (TT nl Ln xs) 234 [(3, .iload 4, 5, []), (5, .aload_n 0, 6, []), (6, .getfield 107, 9, [9, 13, 40, 2]), (9, .iload_n 1, 10, []), (10, .iaload, 11, []), (11, .if_icmp .ge 29, 14, []), (14, .aload_n 0, 15, []), (15, .getfield 114, 18, [9, 13, 42, 2]), (18, .bipush 6, 20, []), (20, .iload_n 1, 21, []), (21, .imul, 22, []), (22, .iload 4, 24, []), (24, .iadd, 25, []), (25, .iaload, 26, []), (26, .i2l, 27, []), (27, .lload_n 2, 28, []), (28, .lcmp, 29, []), (29, .ifCond .ne 5, 32, []), (32, .iconst 1, 33, []), (33, .ireturn, 34, [4]), (34, .iinc 4 1, 37, []), (37, .goto (-34), 40, []), (40, .iconst 0, 41, []), (41, .ireturn, 42, [4])] := dk_ck (by decide +kernel)
set_option maxRecDepth 4096 in
theorem w_Ro_hasSort_3 {nl : Bool} {Ln : Nat} {xs : Nat → Int32} {d : Nat} {this : Nat} {x1 : Int32} {x2 : Int64} {x4 : Int32} {σ : am_S} {F : Bool → am_S → Prop} (h : (am_is σ (some this) 13) ∧ (am_ar σ 1000 (am_fR σ 13040 this) x1) ∧ (x4 < (am_aI σ ((am_fR σ 13040 this).getD 0) x1.toNatClampNeg) → (am_ar σ 1000 (am_fR σ 13042 this) (((6 : Int32) * x1) + x4)) ∧ ((am_aI σ ((am_fR σ 13042 this).getD 0) (((6 : Int32) * x1) + x4).toNatClampNeg).toInt64 = x2 → F true σ) ∧ (¬ ((am_aI σ ((am_fR σ 13042 this).getD 0) (((6 : Int32) * x1) + x4).toNatClampNeg).toInt64 = x2) → c_Ro_hasSort_3 nl Ln xs (d + 1) this x1 x2 (x4 + (1 : Int32)) σ F)) ∧ (¬ (x4 < (am_aI σ ((am_fR σ 13040 this).getD 0) x1.toNatClampNeg)) → F false σ)) : c_Ro_hasSort_3 nl Ln xs (d + 1) this x1 x2 x4 σ F := by
  obtain ⟨j3, j5, j6, j9, j10, j11, j14, j15, j18, j20, j21, j22, j24, j25, j26, j27, j28, j29, j32, j33, j34, j37, j40, j41, -⟩ := P_Ro_hasSort_3 nl Ln xs
  unfold c_Ro_hasSort_3
  refine s_iload j3 rfl rfl ?_
  refine s_aload_n j5 rfl rfl ?_
  obtain ⟨ho1, h⟩ := h
  refine s_gfR j6 rfl ho1 ?_
  refine s_iload_n j9 rfl rfl ?_
  obtain ⟨ho2, h⟩ := h
  refine s_iaload j10 rfl ho2 ?_
  refine s_icn j11 rfl rfl am_cc_ge (fun hc3 => ?_) (fun hc3 => ?_)
  · replace h := h.2 hc3
    refine s_iconst j40 rfl kc_ic_0 ?_
    exact s_retZ0 j41 rfl h
  · replace h := h.1 hc3
    refine s_aload_n j14 rfl rfl ?_
    refine s_gfR j15 rfl ho1 ?_
    refine s_bipush j18 rfl kc_bi_6 ?_
    refine s_iload_n j20 rfl rfl ?_
    refine s_g j21 rfl rfl rfl rfl rfl rfl ?_
    refine s_iload j22 rfl rfl ?_
    refine s_g j24 rfl rfl rfl rfl rfl rfl ?_
    obtain ⟨ho4, h⟩ := h
    refine s_iaload j25 rfl ho4 ?_
    refine s_g j26 rfl rfl rfl rfl rfl rfl ?_
    refine s_lload_n j27 rfl rfl ?_
    refine s_g j28 rfl rfl rfl rfl rfl rfl ?_
    refine s_ifn j29 rfl rfl am_cl_ne (fun hc5 => ?_) (fun hc5 => ?_)
    · replace h := h.2 hc5
      refine s_iinc (L' := [some (am_ov (some this)), some (.int x1), some (.long x2), none, some (.int (x4 + (1 : Int32)))]) j34 rfl rfl kc_ic_1 rfl ?_
      refine s_goto j37 rfl rfl ?_
      exact h
    · replace h := h.1 hc5
      refine s_iconst j32 rfl kc_ic_1 ?_
      exact s_retZ1 j33 rfl h
theorem P_Ro_holds (nl : Bool) (Ln : Nat) (xs : Nat → Int32) : am_Jl (TT nl Ln xs) 235 [(0, .aload_n 0, 1, []), (1, .getfield 89, 4, [9, 13, 33, 2]), (4, .iload_n 1, 5, []), (5, .iaload, 6, []), (6, .istore_n 2, 7, []), (7, .aload_n 0, 8, []), (8, .getfield 86, 11, [9, 13, 32, 2]), (11, .iload_n 1, 12, []), (12, .iaload, 13, []), (13, .tableswitch 186 0 6 #[43, 70, 97, 111, 128, 142, 171], 56, [])] := dk_ck (by decide +kernel)
set_option maxRecDepth 4096 in
theorem w_Ro_holds {nl : Bool} {Ln : Nat} {xs : Nat → Int32} {d : Nat} {this : Nat} {p0 : Int32} {σ : am_S} {F : Bool → am_S → Prop} (h : (am_is σ (some this) 13) ∧ (am_ar σ 1000 (am_fR σ 13033 this) p0) ∧ ∀ v3 : Int32, v3 = (am_aI σ ((am_fR σ 13033 this).getD 0) p0.toNatClampNeg) → (am_ar σ 1000 (am_fR σ 13032 this) p0) ∧ ((am_aI σ ((am_fR σ 13032 this).getD 0) p0.toNatClampNeg) = (0 : Int32) → c_Ro_holds_56 nl Ln xs (d + 1) this p0 v3 σ F) ∧ ((am_aI σ ((am_fR σ 13032 this).getD 0) p0.toNatClampNeg) = (1 : Int32) → c_Ro_holds_83 nl Ln xs (d + 1) this p0 v3 σ F) ∧ ((am_aI σ ((am_fR σ 13032 this).getD 0) p0.toNatClampNeg) = (2 : Int32) → c_Ro_holds_110 nl Ln xs (d + 1) this p0 v3 σ F) ∧ ((am_aI σ ((am_fR σ 13032 this).getD 0) p0.toNatClampNeg) = (3 : Int32) → c_Ro_holds_124 nl Ln xs (d + 1) this p0 v3 σ F) ∧ ((am_aI σ ((am_fR σ 13032 this).getD 0) p0.toNatClampNeg) = (4 : Int32) → c_Ro_holds_141 nl Ln xs (d + 1) this p0 v3 σ F) ∧ ((am_aI σ ((am_fR σ 13032 this).getD 0) p0.toNatClampNeg) = (5 : Int32) → c_Ro_holds_155 nl Ln xs (d + 1) this p0 v3 σ F) ∧ ((am_aI σ ((am_fR σ 13032 this).getD 0) p0.toNatClampNeg) = (6 : Int32) → c_Ro_holds_184 nl Ln xs (d + 1) this p0 v3 σ F) ∧ (((am_aI σ ((am_fR σ 13032 this).getD 0) p0.toNatClampNeg).toInt < 0 ∨ 6 < (am_aI σ ((am_fR σ 13032 this).getD 0) p0.toNatClampNeg).toInt) → c_Ro_holds_199 nl Ln xs (d + 1) this p0 v3 σ F)) : k_Ro_holds nl Ln xs (d + 1) this p0 σ F := by
  obtain ⟨j0, j1, j4, j5, j6, j7, j8, j11, j12, j13, -⟩ := P_Ro_holds nl Ln xs
  have elo : am_lo 3 [am_ov (some this), .int p0] = [some (am_ov (some this)), some (.int p0), none] := by simp only [am_lo, am_in_ov, am_in_int, am_in_long, am_in_nil]; rfl
  unfold k_Ro_holds
  rw [elo]
  refine s_aload_n j0 rfl rfl ?_
  obtain ⟨ho1, h⟩ := h
  refine s_gfR j1 rfl ho1 ?_
  refine s_iload_n j4 rfl rfl ?_
  obtain ⟨ho2, h⟩ := h
  refine s_iaload j5 rfl ho2 ?_
  refine s_istore_nV j6 rfl (n := 3) (L' := fun w => [some (am_ov (some this)), some (.int p0), some (.int w)]) rfl (by decide) (fun _ => rfl) (fun v3 hv4 => ?_)
  replace h := h v3 hv4
  refine s_aload_n j7 rfl rfl ?_
  refine s_gfR j8 rfl ho1 ?_
  refine s_iload_n j11 rfl rfl ?_
  obtain ⟨ho5, h⟩ := h
  refine s_iaload j12 rfl ho5 ?_
  by_cases hr6 : (am_aI σ ((am_fR σ 13032 this).getD 0) p0.toNatClampNeg).toInt < 0 ∨ 6 < (am_aI σ ((am_fR σ 13032 this).getD 0) p0.toNatClampNeg).toInt
  · refine s_tsw j13 (t := 199) ((am_sw_out hr6).trans rfl) ?_
    replace h := h.2.2.2.2.2.2.2 hr6
    exact h
  · obtain ⟨k7, hk8, hv9⟩ := am_sw_in hr6
    have hk82 : k7 < 7 := by omega
    clear hk8
    match k7, hk82, hv9 with
    | 0, _, hv9 =>
      have hs : (am_aI σ ((am_fR σ 13032 this).getD 0) p0.toNatClampNeg) = (0 : Int32) := am_te hv9 (by decide)
      refine s_tsw j13 (t := 56) (by show am_sw 13 186 0 6 #[43, 70, 97, 111, 128, 142, 171] (am_aI σ ((am_fR σ 13032 this).getD 0) p0.toNatClampNeg).toInt = _; rw [hv9]; rfl) ?_
      replace h := h.1 hs
      exact h
    | 1, _, hv9 =>
      have hs : (am_aI σ ((am_fR σ 13032 this).getD 0) p0.toNatClampNeg) = (1 : Int32) := am_te hv9 (by decide)
      refine s_tsw j13 (t := 83) (by show am_sw 13 186 0 6 #[43, 70, 97, 111, 128, 142, 171] (am_aI σ ((am_fR σ 13032 this).getD 0) p0.toNatClampNeg).toInt = _; rw [hv9]; rfl) ?_
      replace h := h.2.1 hs
      exact h
    | 2, _, hv9 =>
      have hs : (am_aI σ ((am_fR σ 13032 this).getD 0) p0.toNatClampNeg) = (2 : Int32) := am_te hv9 (by decide)
      refine s_tsw j13 (t := 110) (by show am_sw 13 186 0 6 #[43, 70, 97, 111, 128, 142, 171] (am_aI σ ((am_fR σ 13032 this).getD 0) p0.toNatClampNeg).toInt = _; rw [hv9]; rfl) ?_
      replace h := h.2.2.1 hs
      exact h
    | 3, _, hv9 =>
      have hs : (am_aI σ ((am_fR σ 13032 this).getD 0) p0.toNatClampNeg) = (3 : Int32) := am_te hv9 (by decide)
      refine s_tsw j13 (t := 124) (by show am_sw 13 186 0 6 #[43, 70, 97, 111, 128, 142, 171] (am_aI σ ((am_fR σ 13032 this).getD 0) p0.toNatClampNeg).toInt = _; rw [hv9]; rfl) ?_
      replace h := h.2.2.2.1 hs
      exact h
    | 4, _, hv9 =>
      have hs : (am_aI σ ((am_fR σ 13032 this).getD 0) p0.toNatClampNeg) = (4 : Int32) := am_te hv9 (by decide)
      refine s_tsw j13 (t := 141) (by show am_sw 13 186 0 6 #[43, 70, 97, 111, 128, 142, 171] (am_aI σ ((am_fR σ 13032 this).getD 0) p0.toNatClampNeg).toInt = _; rw [hv9]; rfl) ?_
      replace h := h.2.2.2.2.1 hs
      exact h
    | 5, _, hv9 =>
      have hs : (am_aI σ ((am_fR σ 13032 this).getD 0) p0.toNatClampNeg) = (5 : Int32) := am_te hv9 (by decide)
      refine s_tsw j13 (t := 155) (by show am_sw 13 186 0 6 #[43, 70, 97, 111, 128, 142, 171] (am_aI σ ((am_fR σ 13032 this).getD 0) p0.toNatClampNeg).toInt = _; rw [hv9]; rfl) ?_
      replace h := h.2.2.2.2.2.1 hs
      exact h
    | 6, _, hv9 =>
      have hs : (am_aI σ ((am_fR σ 13032 this).getD 0) p0.toNatClampNeg) = (6 : Int32) := am_te hv9 (by decide)
      refine s_tsw j13 (t := 184) (by show am_sw 13 186 0 6 #[43, 70, 97, 111, 128, 142, 171] (am_aI σ ((am_fR σ 13032 this).getD 0) p0.toNatClampNeg).toInt = _; rw [hv9]; rfl) ?_
      replace h := h.2.2.2.2.2.2.1 hs
      exact h
    | n + 7, hk82, _ => exact absurd hk82 (by omega)
theorem P_Ro_holds_56 (nl : Bool) (Ln : Nat) (xs : Nat → Int32) : am_Jl (TT nl Ln xs) 235 [(56, .aload_n 0, 57, []), (57, .iload_n 2, 58, []), (58, .invokevirtual 357, 61, [10, 235, 14, 3, 2]), (61, .ifCond .ne 16, 64, []), (64, .aload_n 0, 65, []), (65, .aload_n 0, 66, []), (66, .getfield 92, 69, [9, 13, 34, 2]), (69, .iload_n 1, 70, []), (70, .iaload, 71, []), (71, .invokevirtual 357, 74, [10, 235, 14, 3, 2]), (74, .ifCond .eq 7, 77, []), (77, .iconst 1, 78, []), (78, .goto 4, 81, []), (81, .iconst 0, 82, []), (82, .ireturn, 83, [4])] := dk_ck (by decide +kernel)
set_option maxRecDepth 4096 in
theorem w_Ro_holds_56 {nl : Bool} {Ln : Nat} {xs : Nat → Int32} {d : Nat} {this : Nat} {x1 : Int32} {x2 : Int32} {σ : am_S} {F : Bool → am_S → Prop} (h : (am_is σ (some this) 13) ∧ k_Ro_holds nl Ln xs d this x2 σ (fun a3 σ2 => am_ext σ σ2 → (a3 = true → F true σ2) ∧ (¬ (a3 = true) → (am_ar σ2 1000 (am_fR σ2 13034 this) x1) ∧ k_Ro_holds nl Ln xs d this (am_aI σ2 ((am_fR σ2 13034 this).getD 0) x1.toNatClampNeg) σ2 (fun a7 σ6 => am_ext σ2 σ6 → F (decide (a7 = true)) σ6)))) : c_Ro_holds_56 nl Ln xs (d + 1) this x1 x2 σ F := by
  obtain ⟨j56, j57, j58, j61, j64, j65, j66, j69, j70, j71, j74, j77, j78, j81, j82, -⟩ := P_Ro_holds_56 nl Ln xs
  unfold c_Ro_holds_56
  refine s_aload_n j56 rfl rfl ?_
  refine s_iload_n j57 rfl rfl ?_
  obtain ⟨ho1, h⟩ := h
  refine s_virt j58 rfl rfl rfl rfl ho1 (by decide) (in_Ro_holds _ _) (am_r8 rfl) (am_bB h (fun a3 σ2 h hx2 => ?_))
  replace h := h hx2
  refine s_if j61 rfl rfl am_cb_ne (fun hc4 => ?_) (fun hc4 => ?_)
  · replace h := h.1 hc4
    refine s_iconst j77 rfl kc_ic_1 ?_
    refine s_goto j78 rfl rfl ?_
    exact s_retZ1 j82 rfl h
  · replace h := h.2 hc4
    refine s_aload_n j64 rfl rfl ?_
    refine s_aload_n j65 rfl rfl ?_
    refine s_gfR j66 rfl (am_is_ext hx2 ho1) ?_
    refine s_iload_n j69 rfl rfl ?_
    obtain ⟨ho5, h⟩ := h
    refine s_iaload j70 rfl ho5 ?_
    refine s_virt j71 rfl rfl rfl rfl (am_is_ext hx2 ho1) (by decide) (in_Ro_holds _ _) (am_r8 rfl) (am_bB h (fun a7 σ6 h hx6 => ?_))
    replace h := h hx6
    have K9 : ∀ (w10 : Int32), w10 = (if a7 = true then (1 : Int32) else 0) → am_C (TT nl Ln xs) (d + 1) 235 82 [some (am_ov (some this)), some (.int x1), some (.int x2)] [.int w10] σ6 (am_qB F) := by
      intro w10 hw11
      subst hw11
      exact s_retZ j82 rfl h
    refine s_ifn j74 rfl rfl am_cb_eq (fun hc8 => ?_) (fun hc8 => ?_)
    · refine s_iconst j81 rfl kc_ic_0 ?_
      exact K9 _ (am_e0 (Iff.trans Iff.rfl (am_p10 hc8)))
    · refine s_iconst j77 rfl kc_ic_1 ?_
      refine s_goto j78 rfl rfl ?_
      exact K9 _ (am_e1 (Iff.trans Iff.rfl (am_p9 hc8)))
theorem P_Ro_holds_83 (nl : Bool) (Ln : Nat) (xs : Nat → Int32) : am_Jl (TT nl Ln xs) 235 [(83, .aload_n 0, 84, []), (84, .iload_n 2, 85, []), (85, .invokevirtual 357, 88, [10, 235, 14, 3, 2]), (88, .ifCond .eq 20, 91, []), (91, .aload_n 0, 92, []), (92, .aload_n 0, 93, []), (93, .getfield 92, 96, [9, 13, 34, 2]), (96, .iload_n 1, 97, []), (97, .iaload, 98, []), (98, .invokevirtual 357, 101, [10, 235, 14, 3, 2]), (101, .ifCond .eq 7, 104, []), (104, .iconst 1, 105, []), (105, .goto 4, 108, []), (108, .iconst 0, 109, []), (109, .ireturn, 110, [4])] := dk_ck (by decide +kernel)
set_option maxRecDepth 4096 in
theorem w_Ro_holds_83 {nl : Bool} {Ln : Nat} {xs : Nat → Int32} {d : Nat} {this : Nat} {x1 : Int32} {x2 : Int32} {σ : am_S} {F : Bool → am_S → Prop} (h : (am_is σ (some this) 13) ∧ k_Ro_holds nl Ln xs d this x2 σ (fun a3 σ2 => am_ext σ σ2 → (a3 = true → (am_ar σ2 1000 (am_fR σ2 13034 this) x1) ∧ k_Ro_holds nl Ln xs d this (am_aI σ2 ((am_fR σ2 13034 this).getD 0) x1.toNatClampNeg) σ2 (fun a7 σ6 => am_ext σ2 σ6 → F (decide (a7 = true)) σ6)) ∧ (¬ (a3 = true) → F false σ2))) : c_Ro_holds_83 nl Ln xs (d + 1) this x1 x2 σ F := by
  obtain ⟨j83, j84, j85, j88, j91, j92, j93, j96, j97, j98, j101, j104, j105, j108, j109, -⟩ := P_Ro_holds_83 nl Ln xs
  unfold c_Ro_holds_83
  refine s_aload_n j83 rfl rfl ?_
  refine s_iload_n j84 rfl rfl ?_
  obtain ⟨ho1, h⟩ := h
  refine s_virt j85 rfl rfl rfl rfl ho1 (by decide) (in_Ro_holds _ _) (am_r8 rfl) (am_bB h (fun a3 σ2 h hx2 => ?_))
  replace h := h hx2
  refine s_ifn j88 rfl rfl am_cb_eq (fun hc4 => ?_) (fun hc4 => ?_)
  · replace h := h.2 hc4
    refine s_iconst j108 rfl kc_ic_0 ?_
    exact s_retZ0 j109 rfl h
  · replace h := h.1 hc4
    refine s_aload_n j91 rfl rfl ?_
    refine s_aload_n j92 rfl rfl ?_
    refine s_gfR j93 rfl (am_is_ext hx2 ho1) ?_
    refine s_iload_n j96 rfl rfl ?_
    obtain ⟨ho5, h⟩ := h
    refine s_iaload j97 rfl ho5 ?_
    refine s_virt j98 rfl rfl rfl rfl (am_is_ext hx2 ho1) (by decide) (in_Ro_holds _ _) (am_r8 rfl) (am_bB h (fun a7 σ6 h hx6 => ?_))
    replace h := h hx6
    have K9 : ∀ (w10 : Int32), w10 = (if a7 = true then (1 : Int32) else 0) → am_C (TT nl Ln xs) (d + 1) 235 109 [some (am_ov (some this)), some (.int x1), some (.int x2)] [.int w10] σ6 (am_qB F) := by
      intro w10 hw11
      subst hw11
      exact s_retZ j109 rfl h
    refine s_ifn j101 rfl rfl am_cb_eq (fun hc8 => ?_) (fun hc8 => ?_)
    · refine s_iconst j108 rfl kc_ic_0 ?_
      exact K9 _ (am_e0 (Iff.trans Iff.rfl (am_p10 hc8)))
    · refine s_iconst j104 rfl kc_ic_1 ?_
      refine s_goto j105 rfl rfl ?_
      exact K9 _ (am_e1 (Iff.trans Iff.rfl (am_p9 hc8)))
theorem P_Ro_holds_110 (nl : Bool) (Ln : Nat) (xs : Nat → Int32) : am_Jl (TT nl Ln xs) 235 [(110, .aload_n 0, 111, []), (111, .iload_n 2, 112, []), (112, .invokevirtual 357, 115, [10, 235, 14, 3, 2]), (115, .ifCond .ne 7, 118, []), (118, .iconst 1, 119, []), (119, .goto 4, 122, []), (122, .iconst 0, 123, []), (123, .ireturn, 124, [4])] := dk_ck (by decide +kernel)
set_option maxRecDepth 4096 in
theorem w_Ro_holds_110 {nl : Bool} {Ln : Nat} {xs : Nat → Int32} {d : Nat} {this : Nat} {x1 : Int32} {x2 : Int32} {σ : am_S} {F : Bool → am_S → Prop} (h : (am_is σ (some this) 13) ∧ k_Ro_holds nl Ln xs d this x2 σ (fun a3 σ2 => am_ext σ σ2 → F (decide (¬ (a3 = true))) σ2)) : c_Ro_holds_110 nl Ln xs (d + 1) this x1 x2 σ F := by
  obtain ⟨j110, j111, j112, j115, j118, j119, j122, j123, -⟩ := P_Ro_holds_110 nl Ln xs
  unfold c_Ro_holds_110
  refine s_aload_n j110 rfl rfl ?_
  refine s_iload_n j111 rfl rfl ?_
  obtain ⟨ho1, h⟩ := h
  refine s_virt j112 rfl rfl rfl rfl ho1 (by decide) (in_Ro_holds _ _) (am_r8 rfl) (am_bB h (fun a3 σ2 h hx2 => ?_))
  replace h := h hx2
  have K5 : ∀ (w6 : Int32), w6 = (if ¬ (a3 = true) then (1 : Int32) else 0) → am_C (TT nl Ln xs) (d + 1) 235 123 [some (am_ov (some this)), some (.int x1), some (.int x2)] [.int w6] σ2 (am_qB F) := by
    intro w6 hw7
    subst hw7
    exact s_retZ j123 rfl h
  refine s_if j115 rfl rfl am_cb_ne (fun hc4 => ?_) (fun hc4 => ?_)
  · refine s_iconst j122 rfl kc_ic_0 ?_
    exact K5 _ (am_e0 (Iff.trans Iff.rfl (am_p11 hc4)))
  · refine s_iconst j118 rfl kc_ic_1 ?_
    refine s_goto j119 rfl rfl ?_
    exact K5 _ (am_e1 (Iff.trans Iff.rfl (am_p12 hc4)))
theorem P_Ro_holds_124 (nl : Bool) (Ln : Nat) (xs : Nat → Int32) : am_Jl (TT nl Ln xs) 235 [(124, .aload_n 0, 125, []), (125, .iconst 0, 126, []), (126, .invokevirtual 360, 129, [10, 236, 14, 5, 2]), (129, .iload_n 2, 130, []), (130, .i2l, 131, []), (131, .lcmp, 132, []), (132, .ifCond .le 7, 135, []), (135, .iconst 1, 136, []), (136, .goto 4, 139, []), (139, .iconst 0, 140, []), (140, .ireturn, 141, [4])] := dk_ck (by decide +kernel)
set_option maxRecDepth 4096 in
theorem w_Ro_holds_124 {nl : Bool} {Ln : Nat} {xs : Nat → Int32} {d : Nat} {this : Nat} {x1 : Int32} {x2 : Int32} {σ : am_S} {F : Bool → am_S → Prop} (h : (am_is σ (some this) 13) ∧ k_Ro_all nl Ln xs d this (0 : Int32) σ (fun a3 σ2 => am_ext σ σ2 → F (decide (x2.toInt64 < a3)) σ2)) : c_Ro_holds_124 nl Ln xs (d + 1) this x1 x2 σ F := by
  obtain ⟨j124, j125, j126, j129, j130, j131, j132, j135, j136, j139, j140, -⟩ := P_Ro_holds_124 nl Ln xs
  unfold c_Ro_holds_124
  refine s_aload_n j124 rfl rfl ?_
  refine s_iconst j125 rfl kc_ic_0 ?_
  obtain ⟨ho1, h⟩ := h
  refine s_virt j126 rfl rfl rfl rfl ho1 (by decide) (in_Ro_all _ _) (am_r8 rfl) (am_bL h (fun a3 σ2 h hx2 => ?_))
  replace h := h hx2
  refine s_iload_n j129 rfl rfl ?_
  refine s_g j130 rfl rfl rfl rfl rfl rfl ?_
  refine s_g j131 rfl rfl rfl rfl rfl rfl ?_
  have K5 : ∀ (w6 : Int32), w6 = (if x2.toInt64 < a3 then (1 : Int32) else 0) → am_C (TT nl Ln xs) (d + 1) 235 140 [some (am_ov (some this)), some (.int x1), some (.int x2)] [.int w6] σ2 (am_qB F) := by
    intro w6 hw7
    subst hw7
    exact s_retZ j140 rfl h
  refine s_ifn j132 rfl rfl am_cl_le (fun hc4 => ?_) (fun hc4 => ?_)
  · refine s_iconst j139 rfl kc_ic_0 ?_
    exact K5 _ (am_e0 (Iff.trans Iff.rfl (am_p10 hc4)))
  · refine s_iconst j135 rfl kc_ic_1 ?_
    refine s_goto j136 rfl rfl ?_
    exact K5 _ (am_e1 (Iff.trans Iff.rfl (am_p9 hc4)))
theorem P_Ro_holds_141 (nl : Bool) (Ln : Nat) (xs : Nat → Int32) : am_Jl (TT nl Ln xs) 235 [(141, .aload_n 0, 142, []), (142, .invokevirtual 314, 145, [10, 237, 14, 1, 1]), (145, .iload_n 2, 146, []), (146, .if_icmp .le 7, 149, []), (149, .iconst 1, 150, []), (150, .goto 4, 153, []), (153, .iconst 0, 154, []), (154, .ireturn, 155, [4])] := dk_ck (by decide +kernel)
set_option maxRecDepth 4096 in
theorem w_Ro_holds_141 {nl : Bool} {Ln : Nat} {xs : Nat → Int32} {d : Nat} {this : Nat} {x1 : Int32} {x2 : Int32} {σ : am_S} {F : Bool → am_S → Prop} (h : (am_is σ (some this) 13) ∧ k_Ro_items nl Ln xs d this σ (fun a3 σ2 => am_ext σ σ2 → F (decide (x2 < a3)) σ2)) : c_Ro_holds_141 nl Ln xs (d + 1) this x1 x2 σ F := by
  obtain ⟨j141, j142, j145, j146, j149, j150, j153, j154, -⟩ := P_Ro_holds_141 nl Ln xs
  unfold c_Ro_holds_141
  refine s_aload_n j141 rfl rfl ?_
  obtain ⟨ho1, h⟩ := h
  refine s_virt j142 rfl rfl rfl rfl ho1 (by decide) (in_Ro_items _) (am_r8 rfl) (am_bI h (fun a3 σ2 h hx2 => ?_))
  replace h := h hx2
  refine s_iload_n j145 rfl rfl ?_
  have K5 : ∀ (w6 : Int32), w6 = (if x2 < a3 then (1 : Int32) else 0) → am_C (TT nl Ln xs) (d + 1) 235 154 [some (am_ov (some this)), some (.int x1), some (.int x2)] [.int w6] σ2 (am_qB F) := by
    intro w6 hw7
    subst hw7
    exact s_retZ j154 rfl h
  refine s_icn j146 rfl rfl am_cc_le (fun hc4 => ?_) (fun hc4 => ?_)
  · refine s_iconst j153 rfl kc_ic_0 ?_
    exact K5 _ (am_e0 (Iff.trans Iff.rfl (am_p10 hc4)))
  · refine s_iconst j149 rfl kc_ic_1 ?_
    refine s_goto j150 rfl rfl ?_
    exact K5 _ (am_e1 (Iff.trans Iff.rfl (am_p9 hc4)))
theorem P_Ro_holds_155 (nl : Bool) (Ln : Nat) (xs : Nat → Int32) : am_Jl (TT nl Ln xs) 235 [(155, .aload_n 0, 156, []), (156, .getfield 132, 159, [9, 13, 49, 2]), (159, .aload_n 0, 160, []), (160, .getfield 305, 163, [9, 13, 68, 0]), (163, .iaload, 164, []), (164, .aload_n 0, 165, []), (165, .getfield 98, 168, [9, 13, 37, 2]), (168, .aload_n 0, 169, []), (169, .getfield 298, 172, [9, 13, 69, 0]), (172, .iaload, 173, []), (173, .isub, 174, []), (174, .iload_n 2, 175, []), (175, .if_icmp .le 7, 178, []), (178, .iconst 1, 179, []), (179, .goto 4, 182, []), (182, .iconst 0, 183, []), (183, .ireturn, 184, [4])] := dk_ck (by decide +kernel)
set_option maxRecDepth 4096 in
theorem w_Ro_holds_155 {nl : Bool} {Ln : Nat} {xs : Nat → Int32} {d : Nat} {this : Nat} {x1 : Int32} {x2 : Int32} {σ : am_S} {F : Bool → am_S → Prop} (h : (am_is σ (some this) 13) ∧ (am_ar σ 1000 (am_fR σ 13049 this) (am_fI σ 13068 this)) ∧ (am_ar σ 1000 (am_fR σ 13037 this) (am_fI σ 13069 this)) ∧ F (decide (x2 < ((am_aI σ ((am_fR σ 13049 this).getD 0) (am_fI σ 13068 this).toNatClampNeg) - (am_aI σ ((am_fR σ 13037 this).getD 0) (am_fI σ 13069 this).toNatClampNeg)))) σ) : c_Ro_holds_155 nl Ln xs (d + 1) this x1 x2 σ F := by
  obtain ⟨j155, j156, j159, j160, j163, j164, j165, j168, j169, j172, j173, j174, j175, j178, j179, j182, j183, -⟩ := P_Ro_holds_155 nl Ln xs
  unfold c_Ro_holds_155
  refine s_aload_n j155 rfl rfl ?_
  obtain ⟨ho1, h⟩ := h
  refine s_gfR j156 rfl ho1 ?_
  refine s_aload_n j159 rfl rfl ?_
  refine s_gfI j160 rfl ho1 ?_
  obtain ⟨ho2, h⟩ := h
  refine s_iaload j163 rfl ho2 ?_
  refine s_aload_n j164 rfl rfl ?_
  refine s_gfR j165 rfl ho1 ?_
  refine s_aload_n j168 rfl rfl ?_
  refine s_gfI j169 rfl ho1 ?_
  obtain ⟨ho3, h⟩ := h
  refine s_iaload j172 rfl ho3 ?_
  refine s_g j173 rfl rfl rfl rfl rfl rfl ?_
  refine s_iload_n j174 rfl rfl ?_
  have K5 : ∀ (w6 : Int32), w6 = (if x2 < ((am_aI σ ((am_fR σ 13049 this).getD 0) (am_fI σ 13068 this).toNatClampNeg) - (am_aI σ ((am_fR σ 13037 this).getD 0) (am_fI σ 13069 this).toNatClampNeg)) then (1 : Int32) else 0) → am_C (TT nl Ln xs) (d + 1) 235 183 [some (am_ov (some this)), some (.int x1), some (.int x2)] [.int w6] σ (am_qB F) := by
    intro w6 hw7
    subst hw7
    exact s_retZ j183 rfl h
  refine s_icn j175 rfl rfl am_cc_le (fun hc4 => ?_) (fun hc4 => ?_)
  · refine s_iconst j182 rfl kc_ic_0 ?_
    exact K5 _ (am_e0 (Iff.trans Iff.rfl (am_p10 hc4)))
  · refine s_iconst j178 rfl kc_ic_1 ?_
    refine s_goto j179 rfl rfl ?_
    exact K5 _ (am_e1 (Iff.trans Iff.rfl (am_p9 hc4)))
theorem P_Ro_holds_184 (nl : Bool) (Ln : Nat) (xs : Nat → Int32) : am_Jl (TT nl Ln xs) 235 [(184, .aload_n 0, 185, []), (185, .aload_n 0, 186, []), (186, .aload_n 0, 187, []), (187, .getfield 298, 190, [9, 13, 69, 0]), (190, .invokevirtual 301, 193, [10, 210, 14, 3, 2]), (193, .iload_n 2, 194, []), (194, .i2l, 195, []), (195, .invokevirtual 332, 198, [10, 234, 14, 5, 3]), (198, .ireturn, 199, [4])] := dk_ck (by decide +kernel)
set_option maxRecDepth 4096 in
theorem w_Ro_holds_184 {nl : Bool} {Ln : Nat} {xs : Nat → Int32} {d : Nat} {this : Nat} {x1 : Int32} {x2 : Int32} {σ : am_S} {F : Bool → am_S → Prop} (h : (am_is σ (some this) 13) ∧ k_Ro_root nl Ln xs d this (am_fI σ 13069 this) σ (fun a3 σ2 => am_ext σ σ2 → k_Ro_hasSort nl Ln xs d this a3 x2.toInt64 σ2 (fun a5 σ4 => am_ext σ2 σ4 → F (decide (a5 = true)) σ4))) : c_Ro_holds_184 nl Ln xs (d + 1) this x1 x2 σ F := by
  obtain ⟨j184, j185, j186, j187, j190, j193, j194, j195, j198, -⟩ := P_Ro_holds_184 nl Ln xs
  unfold c_Ro_holds_184
  refine s_aload_n j184 rfl rfl ?_
  refine s_aload_n j185 rfl rfl ?_
  refine s_aload_n j186 rfl rfl ?_
  obtain ⟨ho1, h⟩ := h
  refine s_gfI j187 rfl ho1 ?_
  refine s_virt j190 rfl rfl rfl rfl ho1 (by decide) (in_Ro_root _ _) (am_r8 rfl) (am_bI h (fun a3 σ2 h hx2 => ?_))
  replace h := h hx2
  refine s_iload_n j193 rfl rfl ?_
  refine s_g j194 rfl rfl rfl rfl rfl rfl ?_
  refine s_virt j195 rfl rfl rfl rfl (am_is_ext hx2 ho1) (by decide) (in_Ro_hasSort _ _ _) (am_r8 rfl) (am_bB h (fun a5 σ4 h hx4 => ?_))
  replace h := h hx4
  exact s_retZ j198 rfl h
theorem P_Ro_holds_199 (nl : Bool) (Ln : Nat) (xs : Nat → Int32) : am_Jl (TT nl Ln xs) 235 [(199, .iload_n 2, 200, []), (200, .iconst 5, 201, []), (201, .if_icmp .eq 11, 204, []), (204, .aload_n 0, 205, []), (205, .iload_n 2, 206, []), (206, .invokevirtual 342, 209, [10, 232, 14, 2, 2]), (209, .ifCond .eq 7, 212, []), (212, .iconst 1, 213, []), (213, .goto 4, 216, []), (216, .iconst 0, 217, []), (217, .ireturn, 218, [4])] := dk_ck (by decide +kernel)
set_option maxRecDepth 4096 in
theorem w_Ro_holds_199 {nl : Bool} {Ln : Nat} {xs : Nat → Int32} {d : Nat} {this : Nat} {x1 : Int32} {x2 : Int32} {σ : am_S} {F : Bool → am_S → Prop} (h : (x2 = (5 : Int32) → F true σ) ∧ (¬ (x2 = (5 : Int32)) → (am_is σ (some this) 13) ∧ k_Ro_is nl Ln xs d this x2 σ (fun a4 σ3 => am_ext σ σ3 → F (decide (a4 = true)) σ3))) : c_Ro_holds_199 nl Ln xs (d + 1) this x1 x2 σ F := by
  obtain ⟨j199, j200, j201, j204, j205, j206, j209, j212, j213, j216, j217, -⟩ := P_Ro_holds_199 nl Ln xs
  unfold c_Ro_holds_199
  refine s_iload_n j199 rfl rfl ?_
  refine s_iconst j200 rfl kc_ic_5 ?_
  refine s_ic j201 rfl rfl am_cc_eq (fun hc1 => ?_) (fun hc1 => ?_)
  · replace h := h.1 hc1
    refine s_iconst j212 rfl kc_ic_1 ?_
    refine s_goto j213 rfl rfl ?_
    exact s_retZ1 j217 rfl h
  · replace h := h.2 hc1
    refine s_aload_n j204 rfl rfl ?_
    refine s_iload_n j205 rfl rfl ?_
    obtain ⟨ho2, h⟩ := h
    refine s_virt j206 rfl rfl rfl rfl ho2 (by decide) (in_Ro_is _ _) (am_r8 rfl) (am_bB h (fun a4 σ3 h hx3 => ?_))
    replace h := h hx3
    have K6 : ∀ (w7 : Int32), w7 = (if a4 = true then (1 : Int32) else 0) → am_C (TT nl Ln xs) (d + 1) 235 217 [some (am_ov (some this)), some (.int x1), some (.int x2)] [.int w7] σ3 (am_qB F) := by
      intro w7 hw8
      subst hw8
      exact s_retZ j217 rfl h
    refine s_ifn j209 rfl rfl am_cb_eq (fun hc5 => ?_) (fun hc5 => ?_)
    · refine s_iconst j216 rfl kc_ic_0 ?_
      exact K6 _ (am_e0 (Iff.trans Iff.rfl (am_p10 hc5)))
    · refine s_iconst j212 rfl kc_ic_1 ?_
      refine s_goto j213 rfl rfl ?_
      exact K6 _ (am_e1 (Iff.trans Iff.rfl (am_p9 hc5)))
theorem P_Ro_all (nl : Bool) (Ln : Nat) (xs : Nat → Int32) : am_Jl (TT nl Ln xs) 236 [(0, .lconst 0, 1, []), (1, .lstore_n 2, 2, []), (2, .iconst 0, 3, []), (3, .istore 4, 5, [])] := dk_ck (by decide +kernel)
set_option maxRecDepth 4096 in
theorem w_Ro_all {nl : Bool} {Ln : Nat} {xs : Nat → Int32} {d : Nat} {this : Nat} {p0 : Int32} {σ : am_S} {F : Int64 → am_S → Prop} (h : c_Ro_all_5 nl Ln xs (d + 1) this p0 (0 : Int64) (0 : Int32) σ F) : k_Ro_all nl Ln xs (d + 1) this p0 σ F := by
  obtain ⟨j0, j1, j2, j3, -⟩ := P_Ro_all nl Ln xs
  have elo : am_lo 5 [am_ov (some this), .int p0] = [some (am_ov (some this)), some (.int p0), none, none, none] := by simp only [am_lo, am_in_ov, am_in_int, am_in_long, am_in_nil]; rfl
  unfold k_Ro_all
  rw [elo]
  refine s_lconst j0 rfl rfl ?_
  refine s_lstore_n j1 rfl (n := 5) (L' := [some (am_ov (some this)), some (.int p0), some (.long (0 : Int64)), none, none]) rfl (by decide) rfl ?_
  refine s_iconst j2 rfl kc_ic_0 ?_
  refine s_istore j3 rfl (n := 5) (L' := [some (am_ov (some this)), some (.int p0), some (.long (0 : Int64)), none, some (.int (0 : Int32))]) rfl (by decide) rfl ?_
  exact h
theorem P_Ro_all_5 (nl : Bool) (Ln : Nat) (xs : Nat → Int32) : am_Jl (TT nl Ln xs) 236 [(5, .iload 4, 7, []), (7, .aload_n 0, 8, []), (8, .invokevirtual 314, 11, [10, 237, 14, 1, 1]), (11, .if_icmp .ge 19, 14, []), (14, .lload_n 2, 15, []), (15, .aload_n 0, 16, []), (16, .iload 4, 18, []), (18, .iload_n 1, 19, []), (19, .invokevirtual 318, 22, [10, 227, 14, 9, 3]), (22, .ladd, 23, []), (23, .lstore_n 2, 24, []), (24, .iinc 4 1, 27, []), (27, .goto (-22), 30, []), (30, .lload_n 2, 31, []), (31, .lreturn, 32, [2])] := dk_ck (by decide +kernel)
set_option maxRecDepth 4096 in
theorem w_Ro_all_5 {nl : Bool} {Ln : Nat} {xs : Nat → Int32} {d : Nat} {this : Nat} {x1 : Int32} {x2 : Int64} {x4 : Int32} {σ : am_S} {F : Int64 → am_S → Prop} (h : (am_is σ (some this) 13) ∧ k_Ro_items nl Ln xs d this σ (fun a3 σ2 => am_ext σ σ2 → (x4 < a3 → k_Ro_amount nl Ln xs d this x4 x1 σ2 (fun a6 σ5 => am_ext σ2 σ5 → ∀ v7 : Int64, v7 = (x2 + a6) → c_Ro_all_5 nl Ln xs (d + 1) this x1 v7 (x4 + (1 : Int32)) σ5 F)) ∧ (¬ (x4 < a3) → F x2 σ2))) : c_Ro_all_5 nl Ln xs (d + 1) this x1 x2 x4 σ F := by
  obtain ⟨j5, j7, j8, j11, j14, j15, j16, j18, j19, j22, j23, j24, j27, j30, j31, -⟩ := P_Ro_all_5 nl Ln xs
  unfold c_Ro_all_5
  refine s_iload j5 rfl rfl ?_
  refine s_aload_n j7 rfl rfl ?_
  obtain ⟨ho1, h⟩ := h
  refine s_virt j8 rfl rfl rfl rfl ho1 (by decide) (in_Ro_items _) (am_r8 rfl) (am_bI h (fun a3 σ2 h hx2 => ?_))
  replace h := h hx2
  refine s_icn j11 rfl rfl am_cc_ge (fun hc4 => ?_) (fun hc4 => ?_)
  · replace h := h.2 hc4
    refine s_lload_n j30 rfl rfl ?_
    exact s_retL j31 rfl h
  · replace h := h.1 hc4
    refine s_lload_n j14 rfl rfl ?_
    refine s_aload_n j15 rfl rfl ?_
    refine s_iload j16 rfl rfl ?_
    refine s_iload_n j18 rfl rfl ?_
    refine s_virt j19 rfl rfl rfl rfl (am_is_ext hx2 ho1) (by decide) (in_Ro_amount _ _ _) (am_r8 rfl) (am_bL h (fun a6 σ5 h hx5 => ?_))
    replace h := h hx5
    refine s_g j22 rfl rfl rfl rfl rfl rfl ?_
    refine s_lstore_nV j23 rfl (n := 5) (L' := fun w => [some (am_ov (some this)), some (.int x1), some (.long w), none, some (.int x4)]) rfl (by decide) (fun _ => rfl) (fun v7 hv8 => ?_)
    replace h := h v7 hv8
    refine s_iinc (L' := [some (am_ov (some this)), some (.int x1), some (.long v7), none, some (.int (x4 + (1 : Int32)))]) j24 rfl rfl kc_ic_1 rfl ?_
    refine s_goto j27 rfl rfl ?_
    exact h
theorem P_Ro_items (nl : Bool) (Ln : Nat) (xs : Nat → Int32) : am_Jl (TT nl Ln xs) 237 [(0, .aload_n 0, 1, []), (1, .getfield 107, 4, [9, 13, 40, 2]), (4, .aload_n 0, 5, []), (5, .aload_n 0, 6, []), (6, .getfield 298, 9, [9, 13, 69, 0]), (9, .invokevirtual 301, 12, [10, 210, 14, 3, 2]), (12, .iaload, 13, []), (13, .ireturn, 14, [1])] := dk_ck (by decide +kernel)
set_option maxRecDepth 4096 in
theorem w_Ro_items {nl : Bool} {Ln : Nat} {xs : Nat → Int32} {d : Nat} {this : Nat} {σ : am_S} {F : Int32 → am_S → Prop} (h : (am_is σ (some this) 13) ∧ k_Ro_root nl Ln xs d this (am_fI σ 13069 this) σ (fun a3 σ2 => am_ext σ σ2 → (am_ar σ2 1000 (am_fR σ 13040 this) a3) ∧ F (am_aI σ2 ((am_fR σ 13040 this).getD 0) a3.toNatClampNeg) σ2)) : k_Ro_items nl Ln xs (d + 1) this σ F := by
  obtain ⟨j0, j1, j4, j5, j6, j9, j12, j13, -⟩ := P_Ro_items nl Ln xs
  have elo : am_lo 1 [am_ov (some this)] = [some (am_ov (some this))] := by simp only [am_lo, am_in_ov, am_in_int, am_in_long, am_in_nil]; rfl
  unfold k_Ro_items
  rw [elo]
  refine s_aload_n j0 rfl rfl ?_
  obtain ⟨ho1, h⟩ := h
  refine s_gfR j1 rfl ho1 ?_
  refine s_aload_n j4 rfl rfl ?_
  refine s_aload_n j5 rfl rfl ?_
  refine s_gfI j6 rfl ho1 ?_
  refine s_virt j9 rfl rfl rfl rfl ho1 (by decide) (in_Ro_root _ _) (am_r8 rfl) (am_bI h (fun a3 σ2 h hx2 => ?_))
  replace h := h hx2
  obtain ⟨ho4, h⟩ := h
  refine s_iaload j12 rfl ho4 ?_
  exact s_retI j13 rfl h
theorem P_Ro_waiting (nl : Bool) (Ln : Nat) (xs : Nat → Int32) : am_Jl (TT nl Ln xs) 238 [(0, .aload_n 0, 1, []), (1, .invokevirtual 374, 4, [10, 239, 14, 2, 1]), (4, .istore_n 1, 5, []), (5, .aload_n 0, 6, []), (6, .aload_n 0, 7, []), (7, .getfield 371, 10, [9, 13, 71, 0]), (10, .bipush 7, 12, []), (12, .invokevirtual 377, 15, [10, 224, 14, 6, 3]), (15, .lstore_n 2, 16, []), (16, .lload_n 2, 17, []), (17, .iload_n 1, 18, []), (18, .i2l, 19, []), (19, .lcmp, 20, []), (20, .ifCond .le 7, 23, []), (23, .lload_n 2, 24, []), (24, .goto 5, 27, []), (27, .iload_n 1, 28, []), (28, .i2l, 29, [])] := dk_ck (by decide +kernel)
set_option maxRecDepth 4096 in
theorem w_Ro_waiting {nl : Bool} {Ln : Nat} {xs : Nat → Int32} {d : Nat} {this : Nat} {σ : am_S} {F : am_S → Prop} (h : (am_is σ (some this) 13) ∧ k_Ro_waits nl Ln xs d this σ (fun a3 σ2 => am_ext σ σ2 → k_Ro_told nl Ln xs d this (am_fI σ2 13071 this) (7 : Int32) σ2 (fun a5 σ4 => am_ext σ2 σ4 → ∀ w8 : Int64, w8 = (if a3.toInt64 < a5 then a5 else a3.toInt64) → c_Ro_waiting_29 nl Ln xs (d + 1) this a3 a5 w8 σ4 F))) : k_Ro_waiting nl Ln xs (d + 1) this σ F := by
  obtain ⟨j0, j1, j4, j5, j6, j7, j10, j12, j15, j16, j17, j18, j19, j20, j23, j24, j27, j28, -⟩ := P_Ro_waiting nl Ln xs
  have elo : am_lo 6 [am_ov (some this)] = [some (am_ov (some this)), none, none, none, none, none] := by simp only [am_lo, am_in_ov, am_in_int, am_in_long, am_in_nil]; rfl
  unfold k_Ro_waiting
  rw [elo]
  refine s_aload_n j0 rfl rfl ?_
  obtain ⟨ho1, h⟩ := h
  refine s_virt j1 rfl rfl rfl rfl ho1 (by decide) (in_Ro_waits _) (am_r8 rfl) (am_bI h (fun a3 σ2 h hx2 => ?_))
  replace h := h hx2
  refine s_istore_n j4 rfl (n := 6) (L' := [some (am_ov (some this)), some (.int a3), none, none, none, none]) rfl (by decide) (am_st1_R [] _ _ _ _) ?_
  refine s_aload_n j5 rfl rfl ?_
  refine s_aload_n j6 rfl rfl ?_
  refine s_gfI j7 rfl (am_is_ext hx2 ho1) ?_
  refine s_bipush j10 rfl kc_bi_7 ?_
  refine s_virt j12 rfl rfl rfl rfl (am_is_ext hx2 ho1) (by decide) (in_Ro_told _ _ _) (am_r8 rfl) (am_bL h (fun a5 σ4 h hx4 => ?_))
  replace h := h hx4
  refine s_lstore_n j15 rfl (n := 6) (L' := [some (am_ov (some this)), some (.int a3), some (.long a5), none, none, none]) rfl (by decide) rfl ?_
  refine s_lload_n j16 rfl rfl ?_
  refine s_iload_n j17 rfl rfl ?_
  refine s_g j18 rfl rfl rfl rfl rfl rfl ?_
  refine s_g j19 rfl rfl rfl rfl rfl rfl ?_
  have K7 : ∀ (w8 : Int64), w8 = (if a3.toInt64 < a5 then a5 else a3.toInt64) → am_C (TT nl Ln xs) (d + 1) 238 29 [some (am_ov (some this)), some (.int a3), some (.long a5), none, none, none] [.long w8] σ4 (am_qV F) := by
    intro w8 hw9
    replace h := h w8 hw9
    exact h
  refine s_ifn j20 rfl rfl am_cl_le (fun hc6 => ?_) (fun hc6 => ?_)
  · refine s_iload_n j27 rfl rfl ?_
    refine s_g j28 rfl rfl rfl rfl rfl rfl ?_
    exact K7 _ (am_t2 hc6 rfl)
  · refine s_lload_n j23 rfl rfl ?_
    refine s_goto j24 rfl rfl ?_
    exact K7 _ (am_t1 hc6 rfl)
theorem P_Ro_waiting_29 (nl : Bool) (Ln : Nat) (xs : Nat → Int32) : am_Jl (TT nl Ln xs) 238 [(29, .lstore 4, 31, []), (31, .aload_n 0, 32, []), (32, .getfield 98, 35, [9, 13, 37, 2]), (35, .aload_n 0, 36, []), (36, .getfield 298, 39, [9, 13, 69, 0]), (39, .iaload, 40, []), (40, .i2l, 41, []), (41, .aload_n 0, 42, []), (42, .getfield 19, 45, [9, 13, 4, 2]), (45, .aload_n 0, 46, []), (46, .getfield 351, 49, [9, 13, 70, 0]), (49, .iaload, 50, []), (50, .i2l, 51, []), (51, .lload 4, 53, []), (53, .ladd, 54, []), (54, .lcmp, 55, []), (55, .ifCond .ge 21, 58, []), (58, .aload_n 0, 59, []), (59, .iconst 2, 60, []), (60, .lload 4, 62, []), (62, .l2i, 63, []), (63, .aload_n 0, 64, []), (64, .getfield 295, 67, [9, 13, 77, 1]), (67, .lneg, 68, []), (68, .invokevirtual 291, 71, [10, 228, 14, 5, 4]), (71, .aload_n 0, 72, []), (72, .iconst 1, 73, []), (73, .putfield 368, 76, [9, 13, 75, 3]), (76, .return_, 77, [0])] := dk_ck (by decide +kernel)
set_option maxRecDepth 4096 in
theorem w_Ro_waiting_29 {nl : Bool} {Ln : Nat} {xs : Nat → Int32} {d : Nat} {this : Nat} {x1 : Int32} {x2 : Int64} {y0 : Int64} {σ : am_S} {F : am_S → Prop} (h : (am_is σ (some this) 13) ∧ (am_ar σ 1000 (am_fR σ 13037 this) (am_fI σ 13069 this)) ∧ (am_ar σ 1000 (am_fR σ 13004 this) (am_fI σ 13070 this)) ∧ ((am_aI σ ((am_fR σ 13037 this).getD 0) (am_fI σ 13069 this).toNatClampNeg).toInt64 < ((am_aI σ ((am_fR σ 13004 this).getD 0) (am_fI σ 13070 this).toNatClampNeg).toInt64 + y0) → k_Ro_row nl Ln xs d this (2 : Int32) y0.toInt32 (-(am_fL σ 13077 this)) σ (fun σ5 => am_ext σ σ5 → ∀ σ7, σ7 = am_sfI σ5 13075 this (1 : Int32) → F σ7)) ∧ (¬ ((am_aI σ ((am_fR σ 13037 this).getD 0) (am_fI σ 13069 this).toNatClampNeg).toInt64 < ((am_aI σ ((am_fR σ 13004 this).getD 0) (am_fI σ 13070 this).toNatClampNeg).toInt64 + y0)) → F σ)) : c_Ro_waiting_29 nl Ln xs (d + 1) this x1 x2 y0 σ F := by
  obtain ⟨j29, j31, j32, j35, j36, j39, j40, j41, j42, j45, j46, j49, j50, j51, j53, j54, j55, j58, j59, j60, j62, j63, j64, j67, j68, j71, j72, j73, j76, -⟩ := P_Ro_waiting_29 nl Ln xs
  unfold c_Ro_waiting_29
  refine s_lstore j29 rfl (n := 6) (L' := [some (am_ov (some this)), some (.int x1), some (.long x2), none, some (.long y0), none]) rfl (by decide) rfl ?_
  refine s_aload_n j31 rfl rfl ?_
  obtain ⟨ho1, h⟩ := h
  refine s_gfR j32 rfl ho1 ?_
  refine s_aload_n j35 rfl rfl ?_
  refine s_gfI j36 rfl ho1 ?_
  obtain ⟨ho2, h⟩ := h
  refine s_iaload j39 rfl ho2 ?_
  refine s_g j40 rfl rfl rfl rfl rfl rfl ?_
  refine s_aload_n j41 rfl rfl ?_
  refine s_gfR j42 rfl ho1 ?_
  refine s_aload_n j45 rfl rfl ?_
  refine s_gfI j46 rfl ho1 ?_
  obtain ⟨ho3, h⟩ := h
  refine s_iaload j49 rfl ho3 ?_
  refine s_g j50 rfl rfl rfl rfl rfl rfl ?_
  refine s_lload j51 rfl rfl ?_
  refine s_g j53 rfl rfl rfl rfl rfl rfl ?_
  refine s_g j54 rfl rfl rfl rfl rfl rfl ?_
  refine s_ifn j55 rfl rfl am_cl_ge (fun hc4 => ?_) (fun hc4 => ?_)
  · replace h := h.2 hc4
    exact s_retV j76 rfl h
  · replace h := h.1 hc4
    refine s_aload_n j58 rfl rfl ?_
    refine s_iconst j59 rfl kc_ic_2 ?_
    refine s_lload j60 rfl rfl ?_
    refine s_g j62 rfl rfl rfl rfl rfl rfl ?_
    refine s_aload_n j63 rfl rfl ?_
    refine s_gfL j64 rfl ho1 ?_
    refine s_g j67 rfl rfl rfl rfl rfl rfl ?_
    refine s_virt j68 rfl rfl rfl rfl ho1 (by decide) (in_Ro_row _ _ _ _) (am_r8 rfl) (am_bV h (fun σ5 h hx5 => ?_))
    replace h := h hx5
    refine s_aload_n j71 rfl rfl ?_
    refine s_iconst j72 rfl kc_ic_1 ?_
    refine s_pfZ j73 rfl (am_is_ext hx5 ho1) (Or.inr rfl) (fun σ7 e8 => ?_)
    replace h := h σ7 e8
    have ek9 : am_kd σ7 = am_kd σ5 := by rw [e8]
    exact s_retV j76 rfl h
theorem P_Ro_waits (nl : Bool) (Ln : Nat) (xs : Nat → Int32) : am_Jl (TT nl Ln xs) 239 [(0, .aload_n 0, 1, []), (1, .invokevirtual 354, 4, [10, 230, 14, 2, 1]), (4, .istore_n 1, 5, []), (5, .iload_n 1, 6, []), (6, .iconst 4, 7, []), (7, .if_icmp .eq 14, 10, []), (10, .iload_n 1, 11, []), (11, .iconst 5, 12, []), (12, .if_icmp .eq 9, 15, []), (15, .iload_n 1, 16, []), (16, .bipush 7, 18, []), (18, .if_icmp .ne 61, 21, []), (79, .aload_n 0, 80, []), (80, .getfield 3, 83, [9, 13, 99, 2]), (83, .iconst 1, 84, []), (84, .invokevirtual 322, 87, [10, 226, 13, 2, 2]), (87, .iconst 0, 88, []), (88, .ireturn, 89, [1])] := dk_ck (by decide +kernel)
set_option maxRecDepth 4096 in
theorem w_Ro_waits {nl : Bool} {Ln : Nat} {xs : Nat → Int32} {d : Nat} {this : Nat} {σ : am_S} {F : Int32 → am_S → Prop} (h : (am_is σ (some this) 13) ∧ k_Ro_owner nl Ln xs d this σ (fun a3 σ2 => am_ext σ σ2 → (a3 = (4 : Int32) → c_Ro_waits_21 nl Ln xs (d + 1) this a3 σ2 F) ∧ (¬ (a3 = (4 : Int32)) → (a3 = (5 : Int32) → c_Ro_waits_21 nl Ln xs (d + 1) this a3 σ2 F) ∧ (¬ (a3 = (5 : Int32)) → (a3 = (7 : Int32) → c_Ro_waits_21 nl Ln xs (d + 1) this a3 σ2 F) ∧ (¬ (a3 = (7 : Int32)) → (am_is σ2 (am_fR σ2 13099 this) 12) ∧ k_Rm_traced nl Ln xs d ((am_fR σ2 13099 this).getD 0) (1 : Int32) σ2 (fun σ8 => am_ext σ2 σ8 → F (0 : Int32) σ8)))))) : k_Ro_waits nl Ln xs (d + 1) this σ F := by
  obtain ⟨j0, j1, j4, j5, j6, j7, j10, j11, j12, j15, j16, j18, j79, j80, j83, j84, j87, j88, -⟩ := P_Ro_waits nl Ln xs
  have elo : am_lo 2 [am_ov (some this)] = [some (am_ov (some this)), none] := by simp only [am_lo, am_in_ov, am_in_int, am_in_long, am_in_nil]; rfl
  unfold k_Ro_waits
  rw [elo]
  refine s_aload_n j0 rfl rfl ?_
  obtain ⟨ho1, h⟩ := h
  refine s_virt j1 rfl rfl rfl rfl ho1 (by decide) (in_Ro_owner _) (am_r8 rfl) (am_bI h (fun a3 σ2 h hx2 => ?_))
  replace h := h hx2
  refine s_istore_n j4 rfl (n := 2) (L' := [some (am_ov (some this)), some (.int a3)]) rfl (by decide) (am_st1_R [] _ _ _ _) ?_
  refine s_iload_n j5 rfl rfl ?_
  refine s_iconst j6 rfl kc_ic_4 ?_
  refine s_ic j7 rfl rfl am_cc_eq (fun hc4 => ?_) (fun hc4 => ?_)
  · replace h := h.1 hc4
    exact h
  · replace h := h.2 hc4
    refine s_iload_n j10 rfl rfl ?_
    refine s_iconst j11 rfl kc_ic_5 ?_
    refine s_ic j12 rfl rfl am_cc_eq (fun hc5 => ?_) (fun hc5 => ?_)
    · replace h := h.1 hc5
      exact h
    · replace h := h.2 hc5
      refine s_iload_n j15 rfl rfl ?_
      refine s_bipush j16 rfl kc_bi_7 ?_
      refine s_icn j18 rfl rfl am_cc_ne (fun hc6 => ?_) (fun hc6 => ?_)
      · replace h := h.2 hc6
        refine s_aload_n j79 rfl rfl ?_
        refine s_gfR j80 rfl (am_is_ext hx2 ho1) ?_
        refine s_iconst j83 rfl kc_ic_1 ?_
        obtain ⟨ho7, h⟩ := h
        refine s_virt j84 rfl rfl rfl rfl ho7 (by decide) (in_Rm_traced _ _) (am_r8 rfl) (am_bV h (fun σ8 h hx8 => ?_))
        replace h := h hx8
        refine s_iconst j87 rfl kc_ic_0 ?_
        exact s_retI j88 rfl h
      · replace h := h.1 hc6
        exact h
theorem P_Ro_waits_21 (nl : Bool) (Ln : Nat) (xs : Nat → Int32) : am_Jl (TT nl Ln xs) 239 [(21, .aload_n 0, 22, []), (22, .getfield 3, 25, [9, 13, 99, 2]), (25, .bipush 10, 27, []), (27, .iload_n 1, 28, []), (28, .imul, 29, []), (29, .iconst 1, 30, []), (30, .iadd, 31, []), (31, .invokevirtual 322, 34, [10, 226, 13, 2, 2]), (34, .iload_n 1, 35, []), (35, .iconst 5, 36, []), (36, .if_icmp .ne 8, 39, []), (39, .bipush 14, 41, []), (41, .goto 37, 44, []), (44, .iload_n 1, 45, []), (45, .iconst 4, 46, []), (46, .if_icmp .ne 19, 49, []), (49, .aload_n 0, 50, []), (50, .iconst 2, 51, []), (51, .invokevirtual 342, 54, [10, 232, 14, 2, 2]), (54, .ifCond .eq 7, 57, []), (57, .iconst 3, 58, []), (58, .goto 20, 61, []), (61, .iconst 0, 62, []), (62, .goto 16, 65, []), (65, .aload_n 0, 66, []), (66, .iconst 1, 67, []), (67, .invokevirtual 342, 70, [10, 232, 14, 2, 2]), (70, .ifCond .eq 7, 73, []), (73, .iconst 2, 74, []), (74, .goto 4, 77, []), (77, .iconst 0, 78, []), (78, .ireturn, 79, [1])] := dk_ck (by decide +kernel)
set_option maxRecDepth 4096 in
theorem w_Ro_waits_21 {nl : Bool} {Ln : Nat} {xs : Nat → Int32} {d : Nat} {this : Nat} {x1 : Int32} {σ : am_S} {F : Int32 → am_S → Prop} (h : (am_is σ (some this) 13) ∧ (am_is σ (am_fR σ 13099 this) 12) ∧ k_Rm_traced nl Ln xs d ((am_fR σ 13099 this).getD 0) (((10 : Int32) * x1) + (1 : Int32)) σ (fun σ3 => am_ext σ σ3 → (x1 = (5 : Int32) → F (14 : Int32) σ3) ∧ (¬ (x1 = (5 : Int32)) → (x1 = (4 : Int32) → k_Ro_is nl Ln xs d this (2 : Int32) σ3 (fun a8 σ7 => am_ext σ3 σ7 → ∀ w11 : Int32, w11 = (if a8 = true then (3 : Int32) else (0 : Int32)) → F w11 σ7)) ∧ (¬ (x1 = (4 : Int32)) → k_Ro_is nl Ln xs d this (1 : Int32) σ3 (fun a14 σ13 => am_ext σ3 σ13 → ∀ w17 : Int32, w17 = (if a14 = true then (2 : Int32) else (0 : Int32)) → F w17 σ13))))) : c_Ro_waits_21 nl Ln xs (d + 1) this x1 σ F := by
  obtain ⟨j21, j22, j25, j27, j28, j29, j30, j31, j34, j35, j36, j39, j41, j44, j45, j46, j49, j50, j51, j54, j57, j58, j61, j62, j65, j66, j67, j70, j73, j74, j77, j78, -⟩ := P_Ro_waits_21 nl Ln xs
  unfold c_Ro_waits_21
  refine s_aload_n j21 rfl rfl ?_
  obtain ⟨ho1, h⟩ := h
  refine s_gfR j22 rfl ho1 ?_
  refine s_bipush j25 rfl kc_bi_10 ?_
  refine s_iload_n j27 rfl rfl ?_
  refine s_g j28 rfl rfl rfl rfl rfl rfl ?_
  refine s_iconst j29 rfl kc_ic_1 ?_
  refine s_g j30 rfl rfl rfl rfl rfl rfl ?_
  obtain ⟨ho2, h⟩ := h
  refine s_virt j31 rfl rfl rfl rfl ho2 (by decide) (in_Rm_traced _ _) (am_r8 rfl) (am_bV h (fun σ3 h hx3 => ?_))
  replace h := h hx3
  refine s_iload_n j34 rfl rfl ?_
  refine s_iconst j35 rfl kc_ic_5 ?_
  refine s_icn j36 rfl rfl am_cc_ne (fun hc5 => ?_) (fun hc5 => ?_)
  · replace h := h.2 hc5
    refine s_iload_n j44 rfl rfl ?_
    refine s_iconst j45 rfl kc_ic_4 ?_
    refine s_icn j46 rfl rfl am_cc_ne (fun hc6 => ?_) (fun hc6 => ?_)
    · replace h := h.2 hc6
      refine s_aload_n j65 rfl rfl ?_
      refine s_iconst j66 rfl kc_ic_1 ?_
      refine s_virt j67 rfl rfl rfl rfl (am_is_ext hx3 ho1) (by decide) (in_Ro_is _ _) (am_r8 rfl) (am_bB h (fun a14 σ13 h hx13 => ?_))
      replace h := h hx13
      have K16 : ∀ (w17 : Int32), w17 = (if a14 = true then (2 : Int32) else (0 : Int32)) → am_C (TT nl Ln xs) (d + 1) 239 78 [some (am_ov (some this)), some (.int x1)] [.int w17] σ13 (am_qI F) := by
        intro w17 hw18
        replace h := h w17 hw18
        exact s_retI j78 rfl h
      refine s_ifn j70 rfl rfl am_cb_eq (fun hc15 => ?_) (fun hc15 => ?_)
      · refine s_iconst j77 rfl kc_ic_0 ?_
        exact K16 _ (am_t2 hc15 rfl)
      · refine s_iconst j73 rfl kc_ic_2 ?_
        refine s_goto j74 rfl rfl ?_
        exact K16 _ (am_t1 hc15 rfl)
    · replace h := h.1 hc6
      refine s_aload_n j49 rfl rfl ?_
      refine s_iconst j50 rfl kc_ic_2 ?_
      refine s_virt j51 rfl rfl rfl rfl (am_is_ext hx3 ho1) (by decide) (in_Ro_is _ _) (am_r8 rfl) (am_bB h (fun a8 σ7 h hx7 => ?_))
      replace h := h hx7
      have K10 : ∀ (w11 : Int32), w11 = (if a8 = true then (3 : Int32) else (0 : Int32)) → am_C (TT nl Ln xs) (d + 1) 239 78 [some (am_ov (some this)), some (.int x1)] [.int w11] σ7 (am_qI F) := by
        intro w11 hw12
        replace h := h w11 hw12
        exact s_retI j78 rfl h
      refine s_ifn j54 rfl rfl am_cb_eq (fun hc9 => ?_) (fun hc9 => ?_)
      · refine s_iconst j61 rfl kc_ic_0 ?_
        refine s_goto j62 rfl rfl ?_
        exact K10 _ (am_t2 hc9 rfl)
      · refine s_iconst j57 rfl kc_ic_3 ?_
        refine s_goto j58 rfl rfl ?_
        exact K10 _ (am_t1 hc9 rfl)
  · replace h := h.1 hc5
    refine s_bipush j39 rfl kc_bi_14 ?_
    refine s_goto j41 rfl rfl ?_
    exact s_retI j78 rfl h
