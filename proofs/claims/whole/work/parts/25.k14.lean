/-! statements of methods, 14 (by wip/whole/gensteps.py) -/
theorem P_Ro_isPolicy (nl : Bool) (Ln : Nat) (xs : Nat → Int32) : am_Jl (TT nl Ln xs) 270 [(0, .lload_n 1, 1, []), (1, .lconst 0, 2, []), (2, .aload_n 0, 3, []), (3, .getfield 213, 6, [9, 13, 2, 0]), (6, .iconst 1, 7, []), (7, .isub, 8, []), (8, .i2l, 9, []), (9, .invokestatic 364, 12, [12, 209, 6, 3]), (12, .ireturn, 13, [4])] := dk_ck (by decide +kernel)
set_option maxRecDepth 4096 in
theorem w_Ro_isPolicy {nl : Bool} {Ln : Nat} {xs : Nat → Int32} {d : Nat} {this : Nat} {p0 : Int64} {σ : am_S} {F : Bool → am_S → Prop} (h : (am_is σ (some this) 13) ∧ k_Rm_in nl Ln xs d p0 (0 : Int64) (((am_fI σ 13002 this) - (1 : Int32)).toInt64) σ (fun a3 σ2 => am_ext σ σ2 → F (decide (a3 = true)) σ2)) : k_Ro_isPolicy nl Ln xs (d + 1) this p0 σ F := by
  obtain ⟨j0, j1, j2, j3, j6, j7, j8, j9, j12, -⟩ := P_Ro_isPolicy nl Ln xs
  have elo : am_lo 3 [am_ov (some this), .long p0] = [some (am_ov (some this)), some (.long p0), none] := by simp only [am_lo, am_in_ov, am_in_int, am_in_long, am_in_nil]; rfl
  unfold k_Ro_isPolicy
  rw [elo]
  refine s_lload_n j0 rfl rfl ?_
  refine s_lconst j1 rfl rfl ?_
  refine s_aload_n j2 rfl rfl ?_
  obtain ⟨ho1, h⟩ := h
  refine s_gfI j3 rfl ho1 ?_
  refine s_iconst j6 rfl kc_ic_1 ?_
  refine s_g j7 rfl rfl rfl rfl rfl rfl ?_
  refine s_g j8 rfl rfl rfl rfl rfl rfl ?_
  refine s_stat j9 rfl rfl rfl rfl (by decide) (in_Rm_in _ _ _) (am_r8 rfl) (am_bB h (fun a3 σ2 h hx2 => ?_))
  replace h := h hx2
  exact s_retZ j12 rfl h
theorem P_Ro_isCover (nl : Bool) (Ln : Nat) (xs : Nat → Int32) : am_Jl (TT nl Ln xs) 271 [(0, .aload_n 0, 1, []), (1, .lload_n 1, 2, []), (2, .invokevirtual 495, 5, [10, 270, 14, 3, 2]), (5, .ifCond .eq 19, 8, []), (8, .aload_n 0, 9, []), (9, .getfield 15, 12, [9, 13, 3, 2]), (12, .lload_n 1, 13, []), (13, .l2i, 14, []), (14, .iaload, 15, []), (15, .bipush 6, 17, []), (17, .if_icmp .eq 7, 20, []), (20, .iconst 1, 21, []), (21, .goto 4, 24, []), (24, .iconst 0, 25, []), (25, .ireturn, 26, [4])] := dk_ck (by decide +kernel)
set_option maxRecDepth 4096 in
theorem w_Ro_isCover {nl : Bool} {Ln : Nat} {xs : Nat → Int32} {d : Nat} {this : Nat} {p0 : Int64} {σ : am_S} {F : Bool → am_S → Prop} (h : (am_is σ (some this) 13) ∧ k_Ro_isPolicy nl Ln xs d this p0 σ (fun a3 σ2 => am_ext σ σ2 → ((a3 = true) → am_ar σ2 1000 (am_fR σ2 13003 this) p0.toInt32) ∧ F (decide ((a3 = true) ∧ (¬ ((am_aI σ2 ((am_fR σ2 13003 this).getD 0) p0.toInt32.toNatClampNeg) = (6 : Int32))))) σ2)) : k_Ro_isCover nl Ln xs (d + 1) this p0 σ F := by
  obtain ⟨j0, j1, j2, j5, j8, j9, j12, j13, j14, j15, j17, j20, j21, j24, j25, -⟩ := P_Ro_isCover nl Ln xs
  have elo : am_lo 3 [am_ov (some this), .long p0] = [some (am_ov (some this)), some (.long p0), none] := by simp only [am_lo, am_in_ov, am_in_int, am_in_long, am_in_nil]; rfl
  unfold k_Ro_isCover
  rw [elo]
  refine s_aload_n j0 rfl rfl ?_
  refine s_lload_n j1 rfl rfl ?_
  obtain ⟨ho1, h⟩ := h
  refine s_virt j2 rfl rfl rfl rfl ho1 (by decide) (in_Ro_isPolicy _ _) (am_r8 rfl) (am_bB h (fun a3 σ2 h hx2 => ?_))
  replace h := h hx2
  obtain ⟨ho5, h⟩ := h
  have K7 : ∀ (w8 : Int32), w8 = (if (a3 = true) ∧ (¬ ((am_aI σ2 ((am_fR σ2 13003 this).getD 0) p0.toInt32.toNatClampNeg) = (6 : Int32))) then (1 : Int32) else 0) → am_C (TT nl Ln xs) (d + 1) 271 25 [some (am_ov (some this)), some (.long p0), none] [.int w8] σ2 (am_qB F) := by
    intro w8 hw9
    subst hw9
    exact s_retZ j25 rfl h
  refine s_ifn j5 rfl rfl am_cb_eq (fun hc4 => ?_) (fun hc4 => ?_)
  · refine s_iconst j24 rfl kc_ic_0 ?_
    exact K7 _ (am_e0 (Iff.trans Iff.rfl (am_p2 hc4)))
  · refine s_aload_n j8 rfl rfl ?_
    refine s_gfR j9 rfl (am_is_ext hx2 ho1) ?_
    refine s_lload_n j12 rfl rfl ?_
    refine s_g j13 rfl rfl rfl rfl rfl rfl ?_
    refine s_iaload j14 rfl (ho5 hc4) ?_
    refine s_bipush j15 rfl kc_bi_6 ?_
    refine s_ic j17 rfl rfl am_cc_eq (fun hc6 => ?_) (fun hc6 => ?_)
    · refine s_iconst j24 rfl kc_ic_0 ?_
      exact K7 _ (am_e0 (am_p1 hc4 (Iff.trans Iff.rfl (am_p11 hc6))))
    · refine s_iconst j20 rfl kc_ic_1 ?_
      refine s_goto j21 rfl rfl ?_
      exact K7 _ (am_e1 (am_p1 hc4 (Iff.trans Iff.rfl (am_p12 hc6))))
theorem P_Ro_comesIn (nl : Bool) (Ln : Nat) (xs : Nat → Int32) : am_Jl (TT nl Ln xs) 272 [(0, .iconst 0, 1, []), (1, .istore_n 3, 2, [])] := dk_ck (by decide +kernel)
set_option maxRecDepth 4096 in
theorem w_Ro_comesIn {nl : Bool} {Ln : Nat} {xs : Nat → Int32} {d : Nat} {this : Nat} {p0 : Int32} {p1 : Int32} {σ : am_S} {F : Bool → am_S → Prop} (h : c_Ro_comesIn_2 nl Ln xs (d + 1) this p0 p1 (0 : Int32) σ F) : k_Ro_comesIn nl Ln xs (d + 1) this p0 p1 σ F := by
  obtain ⟨j0, j1, -⟩ := P_Ro_comesIn nl Ln xs
  have elo : am_lo 4 [am_ov (some this), .int p0, .int p1] = [some (am_ov (some this)), some (.int p0), some (.int p1), none] := by simp only [am_lo, am_in_ov, am_in_int, am_in_long, am_in_nil]; rfl
  unfold k_Ro_comesIn
  rw [elo]
  refine s_iconst j0 rfl kc_ic_0 ?_
  refine s_istore_n j1 rfl (n := 4) (L' := [some (am_ov (some this)), some (.int p0), some (.int p1), some (.int (0 : Int32))]) rfl (by decide) rfl ?_
  exact h
theorem P_Ro_comesIn_2 (nl : Bool) (Ln : Nat) (xs : Nat → Int32) : am_Jl (TT nl Ln xs) 272 [(2, .iload_n 3, 3, []), (3, .aload_n 0, 4, []), (4, .getfield 213, 7, [9, 13, 2, 0]), (7, .if_icmp .ge 16, 10, []), (10, .aload_n 0, 11, []), (11, .getfield 194, 14, [9, 13, 87, 2]), (14, .iload_n 3, 15, []), (15, .iconst 0, 16, []), (16, .bastore, 17, []), (17, .iinc 3 1, 20, []), (20, .goto (-18), 23, []), (23, .aload_n 0, 24, []), (24, .iload_n 1, 25, []), (25, .iload_n 2, 26, []), (26, .invokevirtual 515, 29, [10, 273, 14, 5, 3]), (29, .ireturn, 30, [4])] := dk_ck (by decide +kernel)
set_option maxRecDepth 4096 in
theorem w_Ro_comesIn_2 {nl : Bool} {Ln : Nat} {xs : Nat → Int32} {d : Nat} {this : Nat} {x1 : Int32} {x2 : Int32} {x3 : Int32} {σ : am_S} {F : Bool → am_S → Prop} (h : (am_is σ (some this) 13) ∧ (x3 < (am_fI σ 13002 this) → (am_ar σ 1003 (am_fR σ 13087 this) x3) ∧ ∀ σ4, σ4 = am_saI σ ((am_fR σ 13087 this).getD 0) x3.toNatClampNeg (vp_nar .boolean (0 : Int32)) → c_Ro_comesIn_2 nl Ln xs (d + 1) this x1 x2 (x3 + (1 : Int32)) σ4 F) ∧ (¬ (x3 < (am_fI σ 13002 this)) → k_Ro_stands nl Ln xs d this x1 x2 σ (fun a8 σ7 => am_ext σ σ7 → F (decide (a8 = true)) σ7))) : c_Ro_comesIn_2 nl Ln xs (d + 1) this x1 x2 x3 σ F := by
  obtain ⟨j2, j3, j4, j7, j10, j11, j14, j15, j16, j17, j20, j23, j24, j25, j26, j29, -⟩ := P_Ro_comesIn_2 nl Ln xs
  unfold c_Ro_comesIn_2
  refine s_iload_n j2 rfl rfl ?_
  refine s_aload_n j3 rfl rfl ?_
  obtain ⟨ho1, h⟩ := h
  refine s_gfI j4 rfl ho1 ?_
  refine s_icn j7 rfl rfl am_cc_ge (fun hc2 => ?_) (fun hc2 => ?_)
  · replace h := h.2 hc2
    refine s_aload_n j23 rfl rfl ?_
    refine s_iload_n j24 rfl rfl ?_
    refine s_iload_n j25 rfl rfl ?_
    refine s_virt j26 rfl rfl rfl rfl ho1 (by decide) (in_Ro_stands _ _ _) (am_r8 rfl) (am_bB h (fun a8 σ7 h hx7 => ?_))
    replace h := h hx7
    exact s_retZ j29 rfl h
  · replace h := h.1 hc2
    refine s_aload_n j10 rfl rfl ?_
    refine s_gfR j11 rfl ho1 ?_
    refine s_iload_n j14 rfl rfl ?_
    refine s_iconst j15 rfl kc_ic_0 ?_
    obtain ⟨ho3, h⟩ := h
    refine s_zastore j16 rfl ho3 (fun σ4 e5 => ?_)
    replace h := h σ4 e5
    have ek6 : am_kd σ4 = am_kd σ := by rw [e5]
    refine s_iinc (L' := [some (am_ov (some this)), some (.int x1), some (.int x2), some (.int (x3 + (1 : Int32)))]) j17 rfl rfl kc_ic_1 rfl ?_
    refine s_goto j20 rfl rfl ?_
    exact h
theorem P_Ro_stands (nl : Bool) (Ln : Nat) (xs : Nat → Int32) : am_Jl (TT nl Ln xs) 273 [(0, .iload_n 1, 1, []), (1, .iload_n 2, 2, []), (2, .if_icmp .ne 5, 5, []), (5, .iconst 1, 6, []), (6, .ireturn, 7, [4]), (7, .aload_n 0, 8, []), (8, .getfield 194, 11, [9, 13, 87, 2]), (11, .iload_n 2, 12, []), (12, .iconst 1, 13, []), (13, .bastore, 14, []), (14, .iconst 0, 15, []), (15, .istore_n 3, 16, [])] := dk_ck (by decide +kernel)
set_option maxRecDepth 4096 in
theorem w_Ro_stands {nl : Bool} {Ln : Nat} {xs : Nat → Int32} {d : Nat} {this : Nat} {p0 : Int32} {p1 : Int32} {σ : am_S} {F : Bool → am_S → Prop} (h : (p0 = p1 → F true σ) ∧ (¬ (p0 = p1) → (am_is σ (some this) 13) ∧ (am_ar σ 1003 (am_fR σ 13087 this) p1) ∧ ∀ σ4, σ4 = am_saI σ ((am_fR σ 13087 this).getD 0) p1.toNatClampNeg (vp_nar .boolean (1 : Int32)) → c_Ro_stands_16 nl Ln xs (d + 1) this p0 p1 (0 : Int32) none σ4 F)) : k_Ro_stands nl Ln xs (d + 1) this p0 p1 σ F := by
  obtain ⟨j0, j1, j2, j5, j6, j7, j8, j11, j12, j13, j14, j15, -⟩ := P_Ro_stands nl Ln xs
  have elo : am_lo 5 [am_ov (some this), .int p0, .int p1] = [some (am_ov (some this)), some (.int p0), some (.int p1), none, none] := by simp only [am_lo, am_in_ov, am_in_int, am_in_long, am_in_nil]; rfl
  unfold k_Ro_stands
  rw [elo]
  refine s_iload_n j0 rfl rfl ?_
  refine s_iload_n j1 rfl rfl ?_
  refine s_icn j2 rfl rfl am_cc_ne (fun hc1 => ?_) (fun hc1 => ?_)
  · replace h := h.2 hc1
    refine s_aload_n j7 rfl rfl ?_
    obtain ⟨ho2, h⟩ := h
    refine s_gfR j8 rfl ho2 ?_
    refine s_iload_n j11 rfl rfl ?_
    refine s_iconst j12 rfl kc_ic_1 ?_
    obtain ⟨ho3, h⟩ := h
    refine s_zastore j13 rfl ho3 (fun σ4 e5 => ?_)
    replace h := h σ4 e5
    have ek6 : am_kd σ4 = am_kd σ := by rw [e5]
    refine s_iconst j14 rfl kc_ic_0 ?_
    refine s_istore_n j15 rfl (n := 5) (L' := [some (am_ov (some this)), some (.int p0), some (.int p1), some (.int (0 : Int32)), none]) rfl (by decide) rfl ?_
    exact h
  · replace h := h.1 hc1
    refine s_iconst j5 rfl kc_ic_1 ?_
    exact s_retZ1 j6 rfl h
theorem P_Ro_stands_16 (nl : Bool) (Ln : Nat) (xs : Nat → Int32) : am_Jl (TT nl Ln xs) 273 [(16, .iload_n 3, 17, []), (17, .iconst 4, 18, []), (18, .if_icmp .ge 60, 21, []), (21, .aload_n 0, 22, []), (22, .getfield 15, 25, [9, 13, 3, 2]), (25, .iload_n 2, 26, []), (26, .iaload, 27, []), (27, .bipush 6, 29, []), (29, .if_icmp .ne 49, 32, []), (32, .aload_n 0, 33, []), (33, .iload_n 2, 34, []), (34, .iload_n 3, 35, []), (35, .aload_n 0, 36, []), (36, .getfield 206, 39, [9, 13, 0, 0]), (39, .invokevirtual 258, 42, [10, 219, 14, 6, 4]), (42, .istore 4, 44, []), (44, .iload 4, 46, []), (46, .iconst (-1), 47, []), (47, .if_icmp .eq 25, 50, []), (50, .aload_n 0, 51, []), (51, .getfield 194, 54, [9, 13, 87, 2]), (54, .iload 4, 56, []), (56, .baload, 57, []), (57, .ifCond .ne 15, 60, []), (60, .aload_n 0, 61, []), (61, .iload_n 1, 62, []), (62, .iload 4, 64, []), (64, .invokevirtual 515, 67, [10, 273, 14, 5, 3]), (67, .ifCond .eq 5, 70, []), (70, .iconst 1, 71, []), (71, .ireturn, 72, [4]), (72, .iinc 3 1, 75, []), (75, .goto (-59), 78, []), (78, .iconst 0, 79, []), (79, .ireturn, 80, [4])] := dk_ck (by decide +kernel)
set_option maxRecDepth 4096 in
theorem w_Ro_stands_16 {nl : Bool} {Ln : Nat} {xs : Nat → Int32} {d : Nat} {this : Nat} {x1 : Int32} {x2 : Int32} {x3 : Int32} {x4 : Option Value} {σ : am_S} {F : Bool → am_S → Prop} (h : (x3 < (4 : Int32) → (am_is σ (some this) 13) ∧ (am_ar σ 1000 (am_fR σ 13003 this) x2) ∧ ((am_aI σ ((am_fR σ 13003 this).getD 0) x2.toNatClampNeg) = (6 : Int32) → k_Ro_partOf nl Ln xs d this x2 x3 (am_fI σ 13000 this) σ (fun a6 σ5 => am_ext σ σ5 → (a6 = (-1 : Int32) → c_Ro_stands_16 nl Ln xs (d + 1) this x1 x2 (x3 + (1 : Int32)) (some (.int a6)) σ5 F) ∧ (¬ (a6 = (-1 : Int32)) → (am_ar σ5 1003 (am_fR σ5 13087 this) a6) ∧ ((am_aI σ5 ((am_fR σ5 13087 this).getD 0) a6.toNatClampNeg) = 0 → k_Ro_stands nl Ln xs d this x1 a6 σ5 (fun a11 σ10 => am_ext σ5 σ10 → (a11 = true → F true σ10) ∧ (¬ (a11 = true) → c_Ro_stands_16 nl Ln xs (d + 1) this x1 x2 (x3 + (1 : Int32)) (some (.int a6)) σ10 F))) ∧ (¬ ((am_aI σ5 ((am_fR σ5 13087 this).getD 0) a6.toNatClampNeg) = 0) → c_Ro_stands_16 nl Ln xs (d + 1) this x1 x2 (x3 + (1 : Int32)) (some (.int a6)) σ5 F)))) ∧ (¬ ((am_aI σ ((am_fR σ 13003 this).getD 0) x2.toNatClampNeg) = (6 : Int32)) → F false σ)) ∧ (¬ (x3 < (4 : Int32)) → F false σ)) : c_Ro_stands_16 nl Ln xs (d + 1) this x1 x2 x3 x4 σ F := by
  obtain ⟨j16, j17, j18, j21, j22, j25, j26, j27, j29, j32, j33, j34, j35, j36, j39, j42, j44, j46, j47, j50, j51, j54, j56, j57, j60, j61, j62, j64, j67, j70, j71, j72, j75, j78, j79, -⟩ := P_Ro_stands_16 nl Ln xs
  unfold c_Ro_stands_16
  refine s_iload_n j16 rfl rfl ?_
  refine s_iconst j17 rfl kc_ic_4 ?_
  refine s_icn j18 rfl rfl am_cc_ge (fun hc1 => ?_) (fun hc1 => ?_)
  · replace h := h.2 hc1
    refine s_iconst j78 rfl kc_ic_0 ?_
    exact s_retZ0 j79 rfl h
  · replace h := h.1 hc1
    refine s_aload_n j21 rfl rfl ?_
    obtain ⟨ho2, h⟩ := h
    refine s_gfR j22 rfl ho2 ?_
    refine s_iload_n j25 rfl rfl ?_
    obtain ⟨ho3, h⟩ := h
    refine s_iaload j26 rfl ho3 ?_
    refine s_bipush j27 rfl kc_bi_6 ?_
    refine s_icn j29 rfl rfl am_cc_ne (fun hc4 => ?_) (fun hc4 => ?_)
    · replace h := h.2 hc4
      refine s_iconst j78 rfl kc_ic_0 ?_
      exact s_retZ0 j79 rfl h
    · replace h := h.1 hc4
      refine s_aload_n j32 rfl rfl ?_
      refine s_iload_n j33 rfl rfl ?_
      refine s_iload_n j34 rfl rfl ?_
      refine s_aload_n j35 rfl rfl ?_
      refine s_gfI j36 rfl ho2 ?_
      refine s_virt j39 rfl rfl rfl rfl ho2 (by decide) (in_Ro_partOf _ _ _ _) (am_r8 rfl) (am_bI h (fun a6 σ5 h hx5 => ?_))
      replace h := h hx5
      refine s_istore j42 rfl (n := 5) (L' := [some (am_ov (some this)), some (.int x1), some (.int x2), some (.int x3), some (.int a6)]) rfl (by decide) rfl ?_
      refine s_iload j44 rfl rfl ?_
      refine s_iconst j46 rfl kc_ic_m1 ?_
      refine s_ic j47 rfl rfl am_cc_eq (fun hc7 => ?_) (fun hc7 => ?_)
      · replace h := h.1 hc7
        refine s_iinc (L' := [some (am_ov (some this)), some (.int x1), some (.int x2), some (.int (x3 + (1 : Int32))), some (.int a6)]) j72 rfl rfl kc_ic_1 rfl ?_
        refine s_goto j75 rfl rfl ?_
        exact h
      · replace h := h.2 hc7
        refine s_aload_n j50 rfl rfl ?_
        refine s_gfR j51 rfl (am_is_ext hx5 ho2) ?_
        refine s_iload j54 rfl rfl ?_
        obtain ⟨ho8, h⟩ := h
        refine s_baload (k := 1003) (by decide) j56 rfl ho8 ?_
        refine s_ifn j57 rfl rfl am_cc_ne (fun hc9 => ?_) (fun hc9 => ?_)
        · replace h := h.2 hc9
          refine s_iinc (L' := [some (am_ov (some this)), some (.int x1), some (.int x2), some (.int (x3 + (1 : Int32))), some (.int a6)]) j72 rfl rfl kc_ic_1 rfl ?_
          refine s_goto j75 rfl rfl ?_
          exact h
        · replace h := h.1 hc9
          refine s_aload_n j60 rfl rfl ?_
          refine s_iload_n j61 rfl rfl ?_
          refine s_iload j62 rfl rfl ?_
          refine s_virt j64 rfl rfl rfl rfl (am_is_ext hx5 ho2) (by decide) (in_Ro_stands _ _ _) (am_r8 rfl) (am_bB h (fun a11 σ10 h hx10 => ?_))
          replace h := h hx10
          refine s_ifn j67 rfl rfl am_cb_eq (fun hc12 => ?_) (fun hc12 => ?_)
          · replace h := h.2 hc12
            refine s_iinc (L' := [some (am_ov (some this)), some (.int x1), some (.int x2), some (.int (x3 + (1 : Int32))), some (.int a6)]) j72 rfl rfl kc_ic_1 rfl ?_
            refine s_goto j75 rfl rfl ?_
            exact h
          · replace h := h.1 hc12
            refine s_iconst j70 rfl kc_ic_1 ?_
            exact s_retZ1 j71 rfl h
theorem P_Ro_period (nl : Bool) (Ln : Nat) (xs : Nat → Int32) : am_Jl (TT nl Ln xs) 274 [(0, .aload_n 0, 1, []), (1, .aload_n 1, 2, []), (2, .iconst 0, 3, []), (3, .laload, 4, []), (4, .invokevirtual 518, 7, [10, 271, 14, 3, 2]), (7, .ifCond .eq 53, 10, []), (10, .aload_n 1, 11, []), (11, .iconst 1, 12, []), (12, .laload, 13, []), (13, .aload_n 0, 14, []), (14, .getfield 19, 17, [9, 13, 4, 2]), (17, .aload_n 1, 18, []), (18, .iconst 0, 19, []), (19, .laload, 20, []), (20, .l2i, 21, []), (21, .iaload, 22, []), (22, .sipush 365, 25, []), (25, .idiv, 26, []), (26, .i2l, 27, []), (27, .aload_n 0, 28, []), (28, .getfield 22, 31, [9, 13, 5, 2]), (31, .aload_n 1, 32, []), (32, .iconst 0, 33, []), (33, .laload, 34, []), (34, .l2i, 35, []), (35, .iaload, 36, []), (36, .sipush 365, 39, []), (39, .idiv, 40, []), (40, .i2l, 41, []), (41, .invokestatic 364, 44, [12, 209, 6, 3]), (44, .ifCond .eq 16, 47, []), (47, .aload_n 1, 48, []), (48, .iconst 2, 49, []), (49, .laload, 50, []), (50, .lconst 0, 51, []), (51, .ldc2_w 406, 54, [6, 1000000000000]), (54, .invokestatic 364, 57, [12, 209, 6, 3]), (57, .ifCond .ne 6, 60, []), (60, .bipush (-2), 62, []), (62, .ireturn, 63, [1]), (63, .aload_n 0, 64, []), (64, .getfield 222, 67, [9, 13, 15, 0]), (67, .sipush 300, 70, []), (70, .if_icmp .ne 6, 73, []), (73, .bipush (-7), 75, []), (75, .ireturn, 76, [1]), (76, .aload_n 0, 77, []), (77, .getfield 46, 80, [9, 13, 16, 2]), (80, .aload_n 0, 81, []), (81, .getfield 222, 84, [9, 13, 15, 0]), (84, .aload_n 1, 85, []), (85, .iconst 0, 86, []), (86, .laload, 87, []), (87, .l2i, 88, []), (88, .iastore, 89, []), (89, .aload_n 0, 90, []), (90, .getfield 49, 93, [9, 13, 17, 2]), (93, .aload_n 0, 94, []), (94, .getfield 222, 97, [9, 13, 15, 0]), (97, .aload_n 1, 98, []), (98, .iconst 1, 99, []), (99, .laload, 100, []), (100, .l2i, 101, []), (101, .iastore, 102, []), (102, .aload_n 0, 103, []), (103, .getfield 52, 106, [9, 13, 18, 2]), (106, .aload_n 0, 107, []), (107, .getfield 222, 110, [9, 13, 15, 0]), (110, .aload_n 1, 111, []), (111, .iconst 2, 112, []), (112, .laload, 113, []), (113, .lastore, 114, []), (114, .aload_n 0, 115, []), (115, .getfield 56, 118, [9, 13, 19, 2]), (118, .aload_n 0, 119, []), (119, .getfield 222, 122, [9, 13, 15, 0]), (122, .aload_n 0, 123, []), (123, .getfield 206, 126, [9, 13, 0, 0]), (126, .iconst 1, 127, []), (127, .iadd, 128, []), (128, .iastore, 129, []), (129, .aload_n 0, 130, []), (130, .dup, 131, []), (131, .getfield 222, 134, [9, 13, 15, 0]), (134, .iconst 1, 135, []), (135, .iadd, 136, []), (136, .putfield 222, 139, [9, 13, 15, 0]), (139, .aload_n 0, 140, []), (140, .iconst 5, 141, []), (141, .aload_n 1, 142, []), (142, .iconst 1, 143, []), (143, .invokevirtual 503, 146, [10, 265, 14, 4, 4]), (146, .ireturn, 147, [1])] := dk_ck (by decide +kernel)
set_option maxRecDepth 4096 in
theorem w_Ro_period {nl : Bool} {Ln : Nat} {xs : Nat → Int32} {d : Nat} {this : Nat} {p0 : Option Nat} {σ : am_S} {F : Int32 → am_S → Prop} (h : (am_ar σ 1001 p0 (0 : Int32)) ∧ (am_is σ (some this) 13) ∧ k_Ro_isCover nl Ln xs d this (am_aL σ (p0.getD 0) (0 : Int32).toNatClampNeg) σ (fun a4 σ3 => am_ext σ σ3 → (a4 = true → (am_ar σ3 1001 p0 (1 : Int32)) ∧ (am_ar σ3 1001 p0 (0 : Int32)) ∧ (am_ar σ3 1000 (am_fR σ3 13004 this) ((am_aL σ3 (p0.getD 0) (0 : Int32).toNatClampNeg).toInt32)) ∧ (am_ar σ3 1001 p0 (0 : Int32)) ∧ (am_ar σ3 1000 (am_fR σ3 13005 this) ((am_aL σ3 (p0.getD 0) (0 : Int32).toNatClampNeg).toInt32)) ∧ k_Rm_in nl Ln xs d (am_aL σ3 (p0.getD 0) (1 : Int32).toNatClampNeg) (((am_aI σ3 ((am_fR σ3 13004 this).getD 0) ((am_aL σ3 (p0.getD 0) (0 : Int32).toNatClampNeg).toInt32).toNatClampNeg) / (365 : Int32)).toInt64) (((am_aI σ3 ((am_fR σ3 13005 this).getD 0) ((am_aL σ3 (p0.getD 0) (0 : Int32).toNatClampNeg).toInt32).toNatClampNeg) / (365 : Int32)).toInt64) σ3 (fun a12 σ11 => am_ext σ3 σ11 → (a12 = true → (am_ar σ11 1001 p0 (2 : Int32)) ∧ k_Rm_in nl Ln xs d (am_aL σ11 (p0.getD 0) (2 : Int32).toNatClampNeg) (0 : Int64) (1000000000000 : Int64) σ11 (fun a16 σ15 => am_ext σ11 σ15 → (a16 = true → ((am_fI σ15 13015 this) = (300 : Int32) → F (-7 : Int32) σ15) ∧ (¬ ((am_fI σ15 13015 this) = (300 : Int32)) → (am_ar σ15 1001 p0 (0 : Int32)) ∧ (am_ar σ15 1000 (am_fR σ15 13016 this) (am_fI σ15 13015 this)) ∧ ∀ σ21, σ21 = am_saI σ15 ((am_fR σ15 13016 this).getD 0) (am_fI σ15 13015 this).toNatClampNeg ((am_aL σ15 (p0.getD 0) (0 : Int32).toNatClampNeg).toInt32) → (am_ar σ21 1001 p0 (1 : Int32)) ∧ (am_ar σ21 1000 (am_fR σ21 13017 this) (am_fI σ21 13015 this)) ∧ ∀ σ26, σ26 = am_saI σ21 ((am_fR σ21 13017 this).getD 0) (am_fI σ21 13015 this).toNatClampNeg ((am_aL σ21 (p0.getD 0) (1 : Int32).toNatClampNeg).toInt32) → (am_ar σ26 1001 p0 (2 : Int32)) ∧ (am_ar σ26 1001 (am_fR σ26 13018 this) (am_fI σ26 13015 this)) ∧ ∀ σ31, σ31 = am_saL σ26 ((am_fR σ26 13018 this).getD 0) (am_fI σ26 13015 this).toNatClampNeg (am_aL σ26 (p0.getD 0) (2 : Int32).toNatClampNeg) → (am_ar σ31 1000 (am_fR σ31 13019 this) (am_fI σ31 13015 this)) ∧ ∀ σ35, σ35 = am_saI σ31 ((am_fR σ31 13019 this).getD 0) (am_fI σ31 13015 this).toNatClampNeg ((am_fI σ31 13000 this) + (1 : Int32)) → ∀ σ38, σ38 = am_sfI σ35 13015 this ((am_fI σ35 13015 this) + (1 : Int32)) → k_Ro_done nl Ln xs d this (5 : Int32) p0 (1 : Int32) σ38 (fun a42 σ41 => am_ext σ38 σ41 → F a42 σ41))) ∧ (¬ (a16 = true) → F (-2 : Int32) σ15))) ∧ (¬ (a12 = true) → F (-2 : Int32) σ11))) ∧ (¬ (a4 = true) → F (-2 : Int32) σ3))) : k_Ro_period nl Ln xs (d + 1) this p0 σ F := by
  obtain ⟨j0, j1, j2, j3, j4, j7, j10, j11, j12, j13, j14, j17, j18, j19, j20, j21, j22, j25, j26, j27, j28, j31, j32, j33, j34, j35, j36, j39, j40, j41, j44, j47, j48, j49, j50, j51, j54, j57, j60, j62, j63, j64, j67, j70, j73, j75, j76, j77, j80, j81, j84, j85, j86, j87, j88, j89, j90, j93, j94, j97, j98, j99, j100, j101, j102, j103, j106, j107, j110, j111, j112, j113, j114, j115, j118, j119, j122, j123, j126, j127, j128, j129, j130, j131, j134, j135, j136, j139, j140, j141, j142, j143, j146, -⟩ := P_Ro_period nl Ln xs
  have elo : am_lo 2 [am_ov (some this), am_ov p0] = [some (am_ov (some this)), some (am_ov p0)] := by simp only [am_lo, am_in_ov, am_in_int, am_in_long, am_in_nil]; rfl
  unfold k_Ro_period
  rw [elo]
  refine s_aload_n j0 rfl rfl ?_
  refine s_aload_n j1 rfl rfl ?_
  refine s_iconst j2 rfl kc_ic_0 ?_
  obtain ⟨ho1, h⟩ := h
  refine s_laload j3 rfl ho1 ?_
  obtain ⟨ho2, h⟩ := h
  refine s_virt j4 rfl rfl rfl rfl ho2 (by decide) (in_Ro_isCover _ _) (am_r8 rfl) (am_bB h (fun a4 σ3 h hx3 => ?_))
  replace h := h hx3
  refine s_ifn j7 rfl rfl am_cb_eq (fun hc5 => ?_) (fun hc5 => ?_)
  · replace h := h.2 hc5
    refine s_bipush j60 rfl kc_bi_m2 ?_
    exact s_retI j62 rfl h
  · replace h := h.1 hc5
    refine s_aload_n j10 rfl rfl ?_
    refine s_iconst j11 rfl kc_ic_1 ?_
    obtain ⟨ho6, h⟩ := h
    refine s_laload j12 rfl ho6 ?_
    refine s_aload_n j13 rfl rfl ?_
    refine s_gfR j14 rfl (am_is_ext hx3 ho2) ?_
    refine s_aload_n j17 rfl rfl ?_
    refine s_iconst j18 rfl kc_ic_0 ?_
    obtain ⟨ho7, h⟩ := h
    refine s_laload j19 rfl ho7 ?_
    refine s_g j20 rfl rfl rfl rfl rfl rfl ?_
    obtain ⟨ho8, h⟩ := h
    refine s_iaload j21 rfl ho8 ?_
    refine s_sipush j22 rfl kc_si_365 ?_
    refine s_idiv j25 rfl (by decide) ?_
    refine s_g j26 rfl rfl rfl rfl rfl rfl ?_
    refine s_aload_n j27 rfl rfl ?_
    refine s_gfR j28 rfl (am_is_ext hx3 ho2) ?_
    refine s_aload_n j31 rfl rfl ?_
    refine s_iconst j32 rfl kc_ic_0 ?_
    obtain ⟨ho9, h⟩ := h
    refine s_laload j33 rfl ho9 ?_
    refine s_g j34 rfl rfl rfl rfl rfl rfl ?_
    obtain ⟨ho10, h⟩ := h
    refine s_iaload j35 rfl ho10 ?_
    refine s_sipush j36 rfl kc_si_365 ?_
    refine s_idiv j39 rfl (by decide) ?_
    refine s_g j40 rfl rfl rfl rfl rfl rfl ?_
    refine s_stat j41 rfl rfl rfl rfl (by decide) (in_Rm_in _ _ _) (am_r8 rfl) (am_bB h (fun a12 σ11 h hx11 => ?_))
    replace h := h hx11
    refine s_ifn j44 rfl rfl am_cb_eq (fun hc13 => ?_) (fun hc13 => ?_)
    · replace h := h.2 hc13
      refine s_bipush j60 rfl kc_bi_m2 ?_
      exact s_retI j62 rfl h
    · replace h := h.1 hc13
      refine s_aload_n j47 rfl rfl ?_
      refine s_iconst j48 rfl kc_ic_2 ?_
      obtain ⟨ho14, h⟩ := h
      refine s_laload j49 rfl ho14 ?_
      refine s_lconst j50 rfl rfl ?_
      refine s_ldc2 j51 rfl kc_ll_1000000000000 ?_
      refine s_stat j54 rfl rfl rfl rfl (by decide) (in_Rm_in _ _ _) (am_r8 rfl) (am_bB h (fun a16 σ15 h hx15 => ?_))
      replace h := h hx15
      refine s_if j57 rfl rfl am_cb_ne (fun hc17 => ?_) (fun hc17 => ?_)
      · replace h := h.1 hc17
        refine s_aload_n j63 rfl rfl ?_
        refine s_gfI j64 rfl (am_is_ext hx15 (am_is_ext hx11 (am_is_ext hx3 ho2))) ?_
        refine s_sipush j67 rfl kc_si_300 ?_
        refine s_icn j70 rfl rfl am_cc_ne (fun hc18 => ?_) (fun hc18 => ?_)
        · replace h := h.2 hc18
          refine s_aload_n j76 rfl rfl ?_
          refine s_gfR j77 rfl (am_is_ext hx15 (am_is_ext hx11 (am_is_ext hx3 ho2))) ?_
          refine s_aload_n j80 rfl rfl ?_
          refine s_gfI j81 rfl (am_is_ext hx15 (am_is_ext hx11 (am_is_ext hx3 ho2))) ?_
          refine s_aload_n j84 rfl rfl ?_
          refine s_iconst j85 rfl kc_ic_0 ?_
          obtain ⟨ho19, h⟩ := h
          refine s_laload j86 rfl ho19 ?_
          refine s_g j87 rfl rfl rfl rfl rfl rfl ?_
          obtain ⟨ho20, h⟩ := h
          refine s_iastore j88 rfl ho20 (fun σ21 e22 => ?_)
          replace h := h σ21 e22
          have ek23 : am_kd σ21 = am_kd σ15 := by rw [e22]
          refine s_aload_n j89 rfl rfl ?_
          refine s_gfR j90 rfl (am_is_kd ek23 (am_is_ext hx15 (am_is_ext hx11 (am_is_ext hx3 ho2)))) ?_
          refine s_aload_n j93 rfl rfl ?_
          refine s_gfI j94 rfl (am_is_kd ek23 (am_is_ext hx15 (am_is_ext hx11 (am_is_ext hx3 ho2)))) ?_
          refine s_aload_n j97 rfl rfl ?_
          refine s_iconst j98 rfl kc_ic_1 ?_
          obtain ⟨ho24, h⟩ := h
          refine s_laload j99 rfl ho24 ?_
          refine s_g j100 rfl rfl rfl rfl rfl rfl ?_
          obtain ⟨ho25, h⟩ := h
          refine s_iastore j101 rfl ho25 (fun σ26 e27 => ?_)
          replace h := h σ26 e27
          have ek28 : am_kd σ26 = am_kd σ21 := by rw [e27]
          refine s_aload_n j102 rfl rfl ?_
          refine s_gfR j103 rfl (am_is_kd ek28 (am_is_kd ek23 (am_is_ext hx15 (am_is_ext hx11 (am_is_ext hx3 ho2))))) ?_
          refine s_aload_n j106 rfl rfl ?_
          refine s_gfI j107 rfl (am_is_kd ek28 (am_is_kd ek23 (am_is_ext hx15 (am_is_ext hx11 (am_is_ext hx3 ho2))))) ?_
          refine s_aload_n j110 rfl rfl ?_
          refine s_iconst j111 rfl kc_ic_2 ?_
          obtain ⟨ho29, h⟩ := h
          refine s_laload j112 rfl ho29 ?_
          obtain ⟨ho30, h⟩ := h
          refine s_lastore j113 rfl ho30 (fun σ31 e32 => ?_)
          replace h := h σ31 e32
          have ek33 : am_kd σ31 = am_kd σ26 := by rw [e32]
          refine s_aload_n j114 rfl rfl ?_
          refine s_gfR j115 rfl (am_is_kd ek33 (am_is_kd ek28 (am_is_kd ek23 (am_is_ext hx15 (am_is_ext hx11 (am_is_ext hx3 ho2)))))) ?_
          refine s_aload_n j118 rfl rfl ?_
          refine s_gfI j119 rfl (am_is_kd ek33 (am_is_kd ek28 (am_is_kd ek23 (am_is_ext hx15 (am_is_ext hx11 (am_is_ext hx3 ho2)))))) ?_
          refine s_aload_n j122 rfl rfl ?_
          refine s_gfI j123 rfl (am_is_kd ek33 (am_is_kd ek28 (am_is_kd ek23 (am_is_ext hx15 (am_is_ext hx11 (am_is_ext hx3 ho2)))))) ?_
          refine s_iconst j126 rfl kc_ic_1 ?_
          refine s_g j127 rfl rfl rfl rfl rfl rfl ?_
          obtain ⟨ho34, h⟩ := h
          refine s_iastore j128 rfl ho34 (fun σ35 e36 => ?_)
          replace h := h σ35 e36
          have ek37 : am_kd σ35 = am_kd σ31 := by rw [e36]
          refine s_aload_n j129 rfl rfl ?_
          refine s_dup j130 rfl (am_cov _) ?_
          refine s_gfI j131 rfl (am_is_kd ek37 (am_is_kd ek33 (am_is_kd ek28 (am_is_kd ek23 (am_is_ext hx15 (am_is_ext hx11 (am_is_ext hx3 ho2))))))) ?_
          refine s_iconst j134 rfl kc_ic_1 ?_
          refine s_g j135 rfl rfl rfl rfl rfl rfl ?_
          refine s_pfI j136 rfl (am_is_kd ek37 (am_is_kd ek33 (am_is_kd ek28 (am_is_kd ek23 (am_is_ext hx15 (am_is_ext hx11 (am_is_ext hx3 ho2))))))) (fun σ38 e39 => ?_)
          replace h := h σ38 e39
          have ek40 : am_kd σ38 = am_kd σ35 := by rw [e39]
          refine s_aload_n j139 rfl rfl ?_
          refine s_iconst j140 rfl kc_ic_5 ?_
          refine s_aload_n j141 rfl rfl ?_
          refine s_iconst j142 rfl kc_ic_1 ?_
          refine s_virt j143 rfl rfl rfl rfl (am_is_kd ek40 (am_is_kd ek37 (am_is_kd ek33 (am_is_kd ek28 (am_is_kd ek23 (am_is_ext hx15 (am_is_ext hx11 (am_is_ext hx3 ho2)))))))) (by decide) (in_Ro_done _ _ _ _) (am_r8 rfl) (am_bI h (fun a42 σ41 h hx41 => ?_))
          replace h := h hx41
          exact s_retI j146 rfl h
        · replace h := h.1 hc18
          refine s_bipush j73 rfl kc_bi_m7 ?_
          exact s_retI j75 rfl h
      · replace h := h.2 hc17
        refine s_bipush j60 rfl kc_bi_m2 ?_
        exact s_retI j62 rfl h
theorem P_Ro_clauses (nl : Bool) (Ln : Nat) (xs : Nat → Int32) : am_Jl (TT nl Ln xs) 275 [(0, .aload_n 0, 1, []), (1, .aload_n 1, 2, []), (2, .iconst 0, 3, []), (3, .laload, 4, []), (4, .invokevirtual 518, 7, [10, 271, 14, 3, 2]), (7, .ifCond .ne 6, 10, []), (10, .bipush (-2), 12, []), (12, .ireturn, 13, [1]), (13, .aload_n 0, 14, []), (14, .getfield 228, 17, [9, 13, 24, 0]), (17, .sipush 150, 20, []), (20, .if_icmp .ne 6, 23, []), (23, .bipush (-7), 25, []), (25, .ireturn, 26, [1]), (26, .aload_n 0, 27, []), (27, .aload_n 1, 28, []), (28, .iconst 1, 29, []), (29, .laload, 30, []), (30, .l2i, 31, []), (31, .putfield 627, 34, [9, 13, 91, 0]), (34, .aload_n 0, 35, []), (35, .iconst 0, 36, []), (36, .putfield 624, 39, [9, 13, 92, 0]), (39, .aload_n 0, 40, []), (40, .iconst (-1), 41, []), (41, .putfield 652, 44, [9, 13, 97, 0]), (44, .aload_n 0, 45, []), (45, .iconst 0, 46, []), (46, .putfield 681, 49, [9, 13, 98, 0]), (49, .aload_n 0, 50, []), (50, .getfield 231, 53, [9, 13, 31, 0]), (53, .istore_n 2, 54, []), (54, .aload_n 0, 55, []), (55, .getfield 228, 58, [9, 13, 24, 0]), (58, .ifCond .ne 7, 61, []), (61, .iconst 0, 62, []), (62, .goto 12, 65, []), (65, .aload_n 0, 66, []), (66, .getfield 74, 69, [9, 13, 27, 2]), (69, .aload_n 0, 70, []), (70, .getfield 228, 73, [9, 13, 24, 0]), (73, .iaload, 74, [])] := dk_ck (by decide +kernel)
set_option maxRecDepth 4096 in
theorem w_Ro_clauses {nl : Bool} {Ln : Nat} {xs : Nat → Int32} {d : Nat} {this : Nat} {p0 : Option Nat} {σ : am_S} {F : Int32 → am_S → Prop} (h : (am_ar σ 1001 p0 (0 : Int32)) ∧ (am_is σ (some this) 13) ∧ k_Ro_isCover nl Ln xs d this (am_aL σ (p0.getD 0) (0 : Int32).toNatClampNeg) σ (fun a4 σ3 => am_ext σ σ3 → (a4 = true → ((am_fI σ3 13024 this) = (150 : Int32) → F (-7 : Int32) σ3) ∧ (¬ ((am_fI σ3 13024 this) = (150 : Int32)) → (am_ar σ3 1001 p0 (1 : Int32)) ∧ ∀ σ8, σ8 = am_sfI σ3 13091 this ((am_aL σ3 (p0.getD 0) (1 : Int32).toNatClampNeg).toInt32) → ∀ σ11, σ11 = am_sfI σ8 13092 this (0 : Int32) → ∀ σ14, σ14 = am_sfI σ11 13097 this (-1 : Int32) → ∀ σ17, σ17 = am_sfI σ14 13098 this (0 : Int32) → ∀ v20 : Int32, v20 = (am_fI σ17 13031 this) → (¬ ((am_fI σ17 13024 this) = 0) → am_ar σ17 1000 (am_fR σ17 13027 this) (am_fI σ17 13024 this)) ∧ ∀ w25 : Int32, w25 = (if (am_fI σ17 13024 this) = 0 then (0 : Int32) else (am_aI σ17 ((am_fR σ17 13027 this).getD 0) (am_fI σ17 13024 this).toNatClampNeg)) → c_Ro_clauses_74 nl Ln xs (d + 1) this p0 v20 w25 σ17 F)) ∧ (¬ (a4 = true) → F (-2 : Int32) σ3))) : k_Ro_clauses nl Ln xs (d + 1) this p0 σ F := by
  obtain ⟨j0, j1, j2, j3, j4, j7, j10, j12, j13, j14, j17, j20, j23, j25, j26, j27, j28, j29, j30, j31, j34, j35, j36, j39, j40, j41, j44, j45, j46, j49, j50, j53, j54, j55, j58, j61, j62, j65, j66, j69, j70, j73, -⟩ := P_Ro_clauses nl Ln xs
  have elo : am_lo 5 [am_ov (some this), am_ov p0] = [some (am_ov (some this)), some (am_ov p0), none, none, none] := by simp only [am_lo, am_in_ov, am_in_int, am_in_long, am_in_nil]; rfl
  unfold k_Ro_clauses
  rw [elo]
  refine s_aload_n j0 rfl rfl ?_
  refine s_aload_n j1 rfl rfl ?_
  refine s_iconst j2 rfl kc_ic_0 ?_
  obtain ⟨ho1, h⟩ := h
  refine s_laload j3 rfl ho1 ?_
  obtain ⟨ho2, h⟩ := h
  refine s_virt j4 rfl rfl rfl rfl ho2 (by decide) (in_Ro_isCover _ _) (am_r8 rfl) (am_bB h (fun a4 σ3 h hx3 => ?_))
  replace h := h hx3
  refine s_if j7 rfl rfl am_cb_ne (fun hc5 => ?_) (fun hc5 => ?_)
  · replace h := h.1 hc5
    refine s_aload_n j13 rfl rfl ?_
    refine s_gfI j14 rfl (am_is_ext hx3 ho2) ?_
    refine s_sipush j17 rfl kc_si_150 ?_
    refine s_icn j20 rfl rfl am_cc_ne (fun hc6 => ?_) (fun hc6 => ?_)
    · replace h := h.2 hc6
      refine s_aload_n j26 rfl rfl ?_
      refine s_aload_n j27 rfl rfl ?_
      refine s_iconst j28 rfl kc_ic_1 ?_
      obtain ⟨ho7, h⟩ := h
      refine s_laload j29 rfl ho7 ?_
      refine s_g j30 rfl rfl rfl rfl rfl rfl ?_
      refine s_pfI j31 rfl (am_is_ext hx3 ho2) (fun σ8 e9 => ?_)
      replace h := h σ8 e9
      have ek10 : am_kd σ8 = am_kd σ3 := by rw [e9]
      refine s_aload_n j34 rfl rfl ?_
      refine s_iconst j35 rfl kc_ic_0 ?_
      refine s_pfI j36 rfl (am_is_kd ek10 (am_is_ext hx3 ho2)) (fun σ11 e12 => ?_)
      replace h := h σ11 e12
      have ek13 : am_kd σ11 = am_kd σ8 := by rw [e12]
      refine s_aload_n j39 rfl rfl ?_
      refine s_iconst j40 rfl kc_ic_m1 ?_
      refine s_pfI j41 rfl (am_is_kd ek13 (am_is_kd ek10 (am_is_ext hx3 ho2))) (fun σ14 e15 => ?_)
      replace h := h σ14 e15
      have ek16 : am_kd σ14 = am_kd σ11 := by rw [e15]
      refine s_aload_n j44 rfl rfl ?_
      refine s_iconst j45 rfl kc_ic_0 ?_
      refine s_pfI j46 rfl (am_is_kd ek16 (am_is_kd ek13 (am_is_kd ek10 (am_is_ext hx3 ho2)))) (fun σ17 e18 => ?_)
      replace h := h σ17 e18
      have ek19 : am_kd σ17 = am_kd σ14 := by rw [e18]
      refine s_aload_n j49 rfl rfl ?_
      refine s_gfI j50 rfl (am_is_kd ek19 (am_is_kd ek16 (am_is_kd ek13 (am_is_kd ek10 (am_is_ext hx3 ho2))))) ?_
      refine s_istore_nV j53 rfl (n := 5) (L' := fun w => [some (am_ov (some this)), some (am_ov p0), some (.int w), none, none]) rfl (by decide) (fun _ => am_st1_R [_] _ _ _ _) (fun v20 hv21 => ?_)
      replace h := h v20 hv21
      refine s_aload_n j54 rfl rfl ?_
      refine s_gfI j55 rfl (am_is_kd ek19 (am_is_kd ek16 (am_is_kd ek13 (am_is_kd ek10 (am_is_ext hx3 ho2))))) ?_
      obtain ⟨ho23, h⟩ := h
      have K24 : ∀ (w25 : Int32), w25 = (if (am_fI σ17 13024 this) = 0 then (0 : Int32) else (am_aI σ17 ((am_fR σ17 13027 this).getD 0) (am_fI σ17 13024 this).toNatClampNeg)) → am_C (TT nl Ln xs) (d + 1) 275 74 [some (am_ov (some this)), some (am_ov p0), some (.int v20), none, none] [.int w25] σ17 (am_qI F) := by
        intro w25 hw26
        replace h := h w25 hw26
        exact h
      refine s_ifn j58 rfl rfl am_cc_ne (fun hc22 => ?_) (fun hc22 => ?_)
      · refine s_aload_n j65 rfl rfl ?_
        refine s_gfR j66 rfl (am_is_kd ek19 (am_is_kd ek16 (am_is_kd ek13 (am_is_kd ek10 (am_is_ext hx3 ho2))))) ?_
        refine s_aload_n j69 rfl rfl ?_
        refine s_gfI j70 rfl (am_is_kd ek19 (am_is_kd ek16 (am_is_kd ek13 (am_is_kd ek10 (am_is_ext hx3 ho2))))) ?_
        refine s_iaload j73 rfl (ho23 hc22) ?_
        exact K24 _ (am_t2 hc22 rfl)
      · refine s_iconst j61 rfl kc_ic_0 ?_
        refine s_goto j62 rfl rfl ?_
        exact K24 _ (am_t1 hc22 rfl)
    · replace h := h.1 hc6
      refine s_bipush j23 rfl kc_bi_m7 ?_
      exact s_retI j25 rfl h
  · replace h := h.2 hc5
    refine s_bipush j10 rfl kc_bi_m2 ?_
    exact s_retI j12 rfl h
theorem P_Ro_clauses_74 (nl : Bool) (Ln : Nat) (xs : Nat → Int32) : am_Jl (TT nl Ln xs) 275 [(74, .istore_n 3, 75, []), (75, .iload_n 3, 76, []), (76, .istore 4, 78, []), (78, .aload_n 0, 79, []), (79, .invokevirtual 668, 82, [10, 276, 14, 2, 1])] := dk_ck (by decide +kernel)
set_option maxRecDepth 4096 in
theorem w_Ro_clauses_74 {nl : Bool} {Ln : Nat} {xs : Nat → Int32} {d : Nat} {this : Nat} {x1 : Option Nat} {x2 : Int32} {y0 : Int32} {σ : am_S} {F : Int32 → am_S → Prop} (h : (am_is σ (some this) 13) ∧ k_Ro_step nl Ln xs d this σ (fun σ2 => am_ext σ σ2 → c_Ro_clauses_82 nl Ln xs (d + 1) this x1 x2 y0 y0 σ2 F)) : c_Ro_clauses_74 nl Ln xs (d + 1) this x1 x2 y0 σ F := by
  obtain ⟨j74, j75, j76, j78, j79, -⟩ := P_Ro_clauses_74 nl Ln xs
  unfold c_Ro_clauses_74
  refine s_istore_n j74 rfl (n := 5) (L' := [some (am_ov (some this)), some (am_ov x1), some (.int x2), some (.int y0), none]) rfl (by decide) rfl ?_
  refine s_iload_n j75 rfl rfl ?_
  refine s_istore j76 rfl (n := 5) (L' := [some (am_ov (some this)), some (am_ov x1), some (.int x2), some (.int y0), some (.int y0)]) rfl (by decide) rfl ?_
  refine s_aload_n j78 rfl rfl ?_
  obtain ⟨ho1, h⟩ := h
  refine s_virt j79 rfl rfl rfl rfl ho1 (by decide) (in_Ro_step _) (am_r8 rfl) (am_bV h (fun σ2 h hx2 => ?_))
  replace h := h hx2
  exact h
theorem P_Ro_clauses_82 (nl : Bool) (Ln : Nat) (xs : Nat → Int32) : am_Jl (TT nl Ln xs) 275 [(82, .aload_n 0, 83, []), (83, .getfield 652, 86, [9, 13, 97, 0]), (86, .iconst (-1), 87, []), (87, .if_icmp .ne 42, 90, []), (90, .aload_n 0, 91, []), (91, .getfield 633, 94, [9, 13, 94, 0]), (94, .ifCond .eq 35, 97, []), (97, .iload 4, 99, []), (99, .iload_n 3, 100, []), (100, .isub, 101, []), (101, .bipush 30, 103, []), (103, .if_icmp .ne 14, 106, []), (106, .aload_n 0, 107, []), (107, .aload_n 0, 108, []), (108, .getfield 630, 111, [9, 13, 93, 0]), (111, .invokevirtual 671, 114, [10, 277, 14, 2, 2]), (114, .goto (-32), 117, []), (117, .aload_n 0, 118, []), (118, .iload 4, 120, []), (120, .invokevirtual 743, 123, [10, 278, 14, 4, 2]), (123, .iinc 4 1, 126, []), (126, .goto (-44), 129, [])] := dk_ck (by decide +kernel)
set_option maxRecDepth 4096 in
theorem w_Ro_clauses_82 {nl : Bool} {Ln : Nat} {xs : Nat → Int32} {d : Nat} {this : Nat} {x1 : Option Nat} {x2 : Int32} {x3 : Int32} {x4 : Int32} {σ : am_S} {F : Int32 → am_S → Prop} (h : (am_is σ (some this) 13) ∧ ((am_fI σ 13097 this) = (-1 : Int32) → ((am_fI σ 13094 this) = 0 → c_Ro_clauses_129 nl Ln xs (d + 1) this x1 x2 x3 x4 σ F) ∧ (¬ ((am_fI σ 13094 this) = 0) → ((x4 - x3) = (30 : Int32) → k_Ro_wrong nl Ln xs d this (am_fI σ 13093 this) σ (fun σ5 => am_ext σ σ5 → c_Ro_clauses_82 nl Ln xs (d + 1) this x1 x2 x3 x4 σ5 F)) ∧ (¬ ((x4 - x3) = (30 : Int32)) → k_Ro_clause nl Ln xs d this x4 σ (fun σ7 => am_ext σ σ7 → c_Ro_clauses_82 nl Ln xs (d + 1) this x1 x2 x3 (x4 + (1 : Int32)) σ7 F)))) ∧ (¬ ((am_fI σ 13097 this) = (-1 : Int32)) → c_Ro_clauses_129 nl Ln xs (d + 1) this x1 x2 x3 x4 σ F)) : c_Ro_clauses_82 nl Ln xs (d + 1) this x1 x2 x3 x4 σ F := by
  obtain ⟨j82, j83, j86, j87, j90, j91, j94, j97, j99, j100, j101, j103, j106, j107, j108, j111, j114, j117, j118, j120, j123, j126, -⟩ := P_Ro_clauses_82 nl Ln xs
  unfold c_Ro_clauses_82
  refine s_aload_n j82 rfl rfl ?_
  obtain ⟨ho1, h⟩ := h
  refine s_gfI j83 rfl ho1 ?_
  refine s_iconst j86 rfl kc_ic_m1 ?_
  refine s_icn j87 rfl rfl am_cc_ne (fun hc2 => ?_) (fun hc2 => ?_)
  · replace h := h.2 hc2
    exact h
  · replace h := h.1 hc2
    refine s_aload_n j90 rfl rfl ?_
    refine s_gfI j91 rfl ho1 ?_
    refine s_if j94 rfl rfl am_cc_eq (fun hc3 => ?_) (fun hc3 => ?_)
    · replace h := h.1 hc3
      exact h
    · replace h := h.2 hc3
      refine s_iload j97 rfl rfl ?_
      refine s_iload_n j99 rfl rfl ?_
      refine s_g j100 rfl rfl rfl rfl rfl rfl ?_
      refine s_bipush j101 rfl kc_bi_30 ?_
      refine s_icn j103 rfl rfl am_cc_ne (fun hc4 => ?_) (fun hc4 => ?_)
      · replace h := h.2 hc4
        refine s_aload_n j117 rfl rfl ?_
        refine s_iload j118 rfl rfl ?_
        refine s_virt j120 rfl rfl rfl rfl ho1 (by decide) (in_Ro_clause _ _) (am_r8 rfl) (am_bV h (fun σ7 h hx7 => ?_))
        replace h := h hx7
        refine s_iinc (L' := [some (am_ov (some this)), some (am_ov x1), some (.int x2), some (.int x3), some (.int (x4 + (1 : Int32)))]) j123 rfl rfl kc_ic_1 rfl ?_
        refine s_goto j126 rfl rfl ?_
        exact h
      · replace h := h.1 hc4
        refine s_aload_n j106 rfl rfl ?_
        refine s_aload_n j107 rfl rfl ?_
        refine s_gfI j108 rfl ho1 ?_
        refine s_virt j111 rfl rfl rfl rfl ho1 (by decide) (in_Ro_wrong _ _) (am_r8 rfl) (am_bV h (fun σ5 h hx5 => ?_))
        replace h := h hx5
        refine s_goto j114 rfl rfl ?_
        exact h
theorem P_Ro_clauses_129 (nl : Bool) (Ln : Nat) (xs : Nat → Int32) : am_Jl (TT nl Ln xs) 275 [(129, .aload_n 0, 130, []), (130, .getfield 652, 133, [9, 13, 97, 0]), (133, .iconst (-1), 134, []), (134, .if_icmp .eq 16, 137, []), (137, .aload_n 0, 138, []), (138, .iload_n 2, 139, []), (139, .putfield 231, 142, [9, 13, 31, 0]), (142, .bipush (-10), 144, []), (144, .aload_n 0, 145, []), (145, .getfield 652, 148, [9, 13, 97, 0]), (148, .isub, 149, []), (149, .ireturn, 150, [1]), (150, .aload_n 0, 151, []), (151, .getfield 68, 154, [9, 13, 25, 2]), (154, .aload_n 0, 155, []), (155, .getfield 228, 158, [9, 13, 24, 0]), (158, .aload_n 1, 159, []), (159, .iconst 0, 160, []), (160, .laload, 161, []), (161, .l2i, 162, []), (162, .iastore, 163, []), (163, .aload_n 0, 164, []), (164, .getfield 71, 167, [9, 13, 26, 2]), (167, .aload_n 0, 168, []), (168, .getfield 228, 171, [9, 13, 24, 0]), (171, .aload_n 0, 172, []), (172, .getfield 206, 175, [9, 13, 0, 0]), (175, .iconst 1, 176, []), (176, .iadd, 177, []), (177, .iastore, 178, []), (178, .aload_n 0, 179, []), (179, .getfield 74, 182, [9, 13, 27, 2]), (182, .aload_n 0, 183, []), (183, .getfield 228, 186, [9, 13, 24, 0]), (186, .iload_n 3, 187, []), (187, .iastore, 188, []), (188, .aload_n 0, 189, []), (189, .dup, 190, []), (190, .getfield 228, 193, [9, 13, 24, 0]), (193, .iconst 1, 194, []), (194, .iadd, 195, []), (195, .putfield 228, 198, [9, 13, 24, 0]), (198, .aload_n 0, 199, []), (199, .getfield 74, 202, [9, 13, 27, 2]), (202, .aload_n 0, 203, []), (203, .getfield 228, 206, [9, 13, 24, 0]), (206, .iload 4, 208, []), (208, .iastore, 209, []), (209, .aload_n 0, 210, []), (210, .bipush 6, 212, []), (212, .aload_n 1, 213, []), (213, .iload 4, 215, []), (215, .iload_n 3, 216, []), (216, .isub, 217, []), (217, .invokevirtual 503, 220, [10, 265, 14, 4, 4]), (220, .ireturn, 221, [1])] := dk_ck (by decide +kernel)
set_option maxRecDepth 4096 in
theorem w_Ro_clauses_129 {nl : Bool} {Ln : Nat} {xs : Nat → Int32} {d : Nat} {this : Nat} {x1 : Option Nat} {x2 : Int32} {x3 : Int32} {x4 : Int32} {σ : am_S} {F : Int32 → am_S → Prop} (h : (am_is σ (some this) 13) ∧ ((am_fI σ 13097 this) = (-1 : Int32) → (am_ar σ 1001 x1 (0 : Int32)) ∧ (am_ar σ 1000 (am_fR σ 13025 this) (am_fI σ 13024 this)) ∧ ∀ σ5, σ5 = am_saI σ ((am_fR σ 13025 this).getD 0) (am_fI σ 13024 this).toNatClampNeg ((am_aL σ (x1.getD 0) (0 : Int32).toNatClampNeg).toInt32) → (am_ar σ5 1000 (am_fR σ5 13026 this) (am_fI σ5 13024 this)) ∧ ∀ σ9, σ9 = am_saI σ5 ((am_fR σ5 13026 this).getD 0) (am_fI σ5 13024 this).toNatClampNeg ((am_fI σ5 13000 this) + (1 : Int32)) → (am_ar σ9 1000 (am_fR σ9 13027 this) (am_fI σ9 13024 this)) ∧ ∀ σ13, σ13 = am_saI σ9 ((am_fR σ9 13027 this).getD 0) (am_fI σ9 13024 this).toNatClampNeg x3 → ∀ σ16, σ16 = am_sfI σ13 13024 this ((am_fI σ13 13024 this) + (1 : Int32)) → (am_ar σ16 1000 (am_fR σ16 13027 this) (am_fI σ16 13024 this)) ∧ ∀ σ20, σ20 = am_saI σ16 ((am_fR σ16 13027 this).getD 0) (am_fI σ16 13024 this).toNatClampNeg x4 → k_Ro_done nl Ln xs d this (6 : Int32) x1 (x4 - x3) σ20 (fun a24 σ23 => am_ext σ20 σ23 → F a24 σ23)) ∧ (¬ ((am_fI σ 13097 this) = (-1 : Int32)) → ∀ σ25, σ25 = am_sfI σ 13031 this x2 → F ((-10 : Int32) - (am_fI σ25 13097 this)) σ25)) : c_Ro_clauses_129 nl Ln xs (d + 1) this x1 x2 x3 x4 σ F := by
  obtain ⟨j129, j130, j133, j134, j137, j138, j139, j142, j144, j145, j148, j149, j150, j151, j154, j155, j158, j159, j160, j161, j162, j163, j164, j167, j168, j171, j172, j175, j176, j177, j178, j179, j182, j183, j186, j187, j188, j189, j190, j193, j194, j195, j198, j199, j202, j203, j206, j208, j209, j210, j212, j213, j215, j216, j217, j220, -⟩ := P_Ro_clauses_129 nl Ln xs
  unfold c_Ro_clauses_129
  refine s_aload_n j129 rfl rfl ?_
  obtain ⟨ho1, h⟩ := h
  refine s_gfI j130 rfl ho1 ?_
  refine s_iconst j133 rfl kc_ic_m1 ?_
  refine s_ic j134 rfl rfl am_cc_eq (fun hc2 => ?_) (fun hc2 => ?_)
  · replace h := h.1 hc2
    refine s_aload_n j150 rfl rfl ?_
    refine s_gfR j151 rfl ho1 ?_
    refine s_aload_n j154 rfl rfl ?_
    refine s_gfI j155 rfl ho1 ?_
    refine s_aload_n j158 rfl rfl ?_
    refine s_iconst j159 rfl kc_ic_0 ?_
    obtain ⟨ho3, h⟩ := h
    refine s_laload j160 rfl ho3 ?_
    refine s_g j161 rfl rfl rfl rfl rfl rfl ?_
    obtain ⟨ho4, h⟩ := h
    refine s_iastore j162 rfl ho4 (fun σ5 e6 => ?_)
    replace h := h σ5 e6
    have ek7 : am_kd σ5 = am_kd σ := by rw [e6]
    refine s_aload_n j163 rfl rfl ?_
    refine s_gfR j164 rfl (am_is_kd ek7 ho1) ?_
    refine s_aload_n j167 rfl rfl ?_
    refine s_gfI j168 rfl (am_is_kd ek7 ho1) ?_
    refine s_aload_n j171 rfl rfl ?_
    refine s_gfI j172 rfl (am_is_kd ek7 ho1) ?_
    refine s_iconst j175 rfl kc_ic_1 ?_
    refine s_g j176 rfl rfl rfl rfl rfl rfl ?_
    obtain ⟨ho8, h⟩ := h
    refine s_iastore j177 rfl ho8 (fun σ9 e10 => ?_)
    replace h := h σ9 e10
    have ek11 : am_kd σ9 = am_kd σ5 := by rw [e10]
    refine s_aload_n j178 rfl rfl ?_
    refine s_gfR j179 rfl (am_is_kd ek11 (am_is_kd ek7 ho1)) ?_
    refine s_aload_n j182 rfl rfl ?_
    refine s_gfI j183 rfl (am_is_kd ek11 (am_is_kd ek7 ho1)) ?_
    refine s_iload_n j186 rfl rfl ?_
    obtain ⟨ho12, h⟩ := h
    refine s_iastore j187 rfl ho12 (fun σ13 e14 => ?_)
    replace h := h σ13 e14
    have ek15 : am_kd σ13 = am_kd σ9 := by rw [e14]
    refine s_aload_n j188 rfl rfl ?_
    refine s_dup j189 rfl (am_cov _) ?_
    refine s_gfI j190 rfl (am_is_kd ek15 (am_is_kd ek11 (am_is_kd ek7 ho1))) ?_
    refine s_iconst j193 rfl kc_ic_1 ?_
    refine s_g j194 rfl rfl rfl rfl rfl rfl ?_
    refine s_pfI j195 rfl (am_is_kd ek15 (am_is_kd ek11 (am_is_kd ek7 ho1))) (fun σ16 e17 => ?_)
    replace h := h σ16 e17
    have ek18 : am_kd σ16 = am_kd σ13 := by rw [e17]
    refine s_aload_n j198 rfl rfl ?_
    refine s_gfR j199 rfl (am_is_kd ek18 (am_is_kd ek15 (am_is_kd ek11 (am_is_kd ek7 ho1)))) ?_
    refine s_aload_n j202 rfl rfl ?_
    refine s_gfI j203 rfl (am_is_kd ek18 (am_is_kd ek15 (am_is_kd ek11 (am_is_kd ek7 ho1)))) ?_
    refine s_iload j206 rfl rfl ?_
    obtain ⟨ho19, h⟩ := h
    refine s_iastore j208 rfl ho19 (fun σ20 e21 => ?_)
    replace h := h σ20 e21
    have ek22 : am_kd σ20 = am_kd σ16 := by rw [e21]
    refine s_aload_n j209 rfl rfl ?_
    refine s_bipush j210 rfl kc_bi_6 ?_
    refine s_aload_n j212 rfl rfl ?_
    refine s_iload j213 rfl rfl ?_
    refine s_iload_n j215 rfl rfl ?_
    refine s_g j216 rfl rfl rfl rfl rfl rfl ?_
    refine s_virt j217 rfl rfl rfl rfl (am_is_kd ek22 (am_is_kd ek18 (am_is_kd ek15 (am_is_kd ek11 (am_is_kd ek7 ho1))))) (by decide) (in_Ro_done _ _ _ _) (am_r8 rfl) (am_bI h (fun a24 σ23 h hx23 => ?_))
    replace h := h hx23
    exact s_retI j220 rfl h
  · replace h := h.2 hc2
    refine s_aload_n j137 rfl rfl ?_
    refine s_iload_n j138 rfl rfl ?_
    refine s_pfI j139 rfl ho1 (fun σ25 e26 => ?_)
    replace h := h σ25 e26
    have ek27 : am_kd σ25 = am_kd σ := by rw [e26]
    refine s_bipush j142 rfl kc_bi_m10 ?_
    refine s_aload_n j144 rfl rfl ?_
    refine s_gfI j145 rfl (am_is_kd ek27 ho1) ?_
    refine s_g j148 rfl rfl rfl rfl rfl rfl ?_
    exact s_retI j149 rfl h
set_option maxRecDepth 4096 in
theorem w_Ro_step {nl : Bool} {Ln : Nat} {xs : Nat → Int32} {d : Nat} {this : Nat} {σ : am_S} {F : am_S → Prop} (h : c_Ro_step_0 nl Ln xs (d + 1) this σ F) : k_Ro_step nl Ln xs (d + 1) this σ F := by
  have elo : am_lo 2 [am_ov (some this)] = [some (am_ov (some this)), none] := by simp only [am_lo, am_in_ov, am_in_int, am_in_long, am_in_nil]; rfl
  unfold k_Ro_step
  rw [elo]
  exact h
theorem P_Ro_step_0 (nl : Bool) (Ln : Nat) (xs : Nat → Int32) : am_Jl (TT nl Ln xs) 276 [(0, .aload_n 0, 1, []), (1, .getfield 624, 4, [9, 13, 92, 0]), (4, .aload_n 0, 5, []), (5, .getfield 627, 8, [9, 13, 91, 0]), (8, .if_icmp .ge 44, 11, []), (11, .aload_n 0, 12, []), (12, .getfield 203, 15, [9, 13, 90, 2]), (15, .aload_n 0, 16, []), (16, .getfield 624, 19, [9, 13, 92, 0]), (19, .iaload, 20, []), (20, .bipush 32, 22, []), (22, .if_icmp .eq 17, 25, []), (25, .aload_n 0, 26, []), (26, .getfield 203, 29, [9, 13, 90, 2]), (29, .aload_n 0, 30, []), (30, .getfield 624, 33, [9, 13, 92, 0]), (33, .iaload, 34, []), (34, .bipush 10, 36, []), (36, .if_icmp .ne 16, 39, []), (39, .aload_n 0, 40, []), (40, .dup, 41, []), (41, .getfield 624, 44, [9, 13, 92, 0]), (44, .iconst 1, 45, []), (45, .iadd, 46, []), (46, .putfield 624, 49, [9, 13, 92, 0]), (49, .goto (-49), 52, [])] := dk_ck (by decide +kernel)
set_option maxRecDepth 4096 in
theorem w_Ro_step_0 {nl : Bool} {Ln : Nat} {xs : Nat → Int32} {d : Nat} {this : Nat} {σ : am_S} {F : am_S → Prop} (h : (am_is σ (some this) 13) ∧ ((am_fI σ 13092 this) < (am_fI σ 13091 this) → (am_ar σ 1000 (am_fR σ 13090 this) (am_fI σ 13092 this)) ∧ ((am_aI σ ((am_fR σ 13090 this).getD 0) (am_fI σ 13092 this).toNatClampNeg) = (32 : Int32) → ∀ σ5, σ5 = am_sfI σ 13092 this ((am_fI σ 13092 this) + (1 : Int32)) → c_Ro_step_0 nl Ln xs (d + 1) this σ5 F) ∧ (¬ ((am_aI σ ((am_fR σ 13090 this).getD 0) (am_fI σ 13092 this).toNatClampNeg) = (32 : Int32)) → (am_ar σ 1000 (am_fR σ 13090 this) (am_fI σ 13092 this)) ∧ ((am_aI σ ((am_fR σ 13090 this).getD 0) (am_fI σ 13092 this).toNatClampNeg) = (10 : Int32) → ∀ σ10, σ10 = am_sfI σ 13092 this ((am_fI σ 13092 this) + (1 : Int32)) → c_Ro_step_0 nl Ln xs (d + 1) this σ10 F) ∧ (¬ ((am_aI σ ((am_fR σ 13090 this).getD 0) (am_fI σ 13092 this).toNatClampNeg) = (10 : Int32)) → c_Ro_step_52 nl Ln xs (d + 1) this σ F))) ∧ (¬ ((am_fI σ 13092 this) < (am_fI σ 13091 this)) → c_Ro_step_52 nl Ln xs (d + 1) this σ F)) : c_Ro_step_0 nl Ln xs (d + 1) this σ F := by
  obtain ⟨j0, j1, j4, j5, j8, j11, j12, j15, j16, j19, j20, j22, j25, j26, j29, j30, j33, j34, j36, j39, j40, j41, j44, j45, j46, j49, -⟩ := P_Ro_step_0 nl Ln xs
  unfold c_Ro_step_0
  refine s_aload_n j0 rfl rfl ?_
  obtain ⟨ho1, h⟩ := h
  refine s_gfI j1 rfl ho1 ?_
  refine s_aload_n j4 rfl rfl ?_
  refine s_gfI j5 rfl ho1 ?_
  refine s_icn j8 rfl rfl am_cc_ge (fun hc2 => ?_) (fun hc2 => ?_)
  · replace h := h.2 hc2
    exact h
  · replace h := h.1 hc2
    refine s_aload_n j11 rfl rfl ?_
    refine s_gfR j12 rfl ho1 ?_
    refine s_aload_n j15 rfl rfl ?_
    refine s_gfI j16 rfl ho1 ?_
    obtain ⟨ho3, h⟩ := h
    refine s_iaload j19 rfl ho3 ?_
    refine s_bipush j20 rfl kc_bi_32 ?_
    refine s_ic j22 rfl rfl am_cc_eq (fun hc4 => ?_) (fun hc4 => ?_)
    · replace h := h.1 hc4
      refine s_aload_n j39 rfl rfl ?_
      refine s_dup j40 rfl (am_cov _) ?_
      refine s_gfI j41 rfl ho1 ?_
      refine s_iconst j44 rfl kc_ic_1 ?_
      refine s_g j45 rfl rfl rfl rfl rfl rfl ?_
      refine s_pfI j46 rfl ho1 (fun σ5 e6 => ?_)
      replace h := h σ5 e6
      have ek7 : am_kd σ5 = am_kd σ := by rw [e6]
      refine s_goto j49 rfl rfl ?_
      exact h
    · replace h := h.2 hc4
      refine s_aload_n j25 rfl rfl ?_
      refine s_gfR j26 rfl ho1 ?_
      refine s_aload_n j29 rfl rfl ?_
      refine s_gfI j30 rfl ho1 ?_
      obtain ⟨ho8, h⟩ := h
      refine s_iaload j33 rfl ho8 ?_
      refine s_bipush j34 rfl kc_bi_10 ?_
      refine s_icn j36 rfl rfl am_cc_ne (fun hc9 => ?_) (fun hc9 => ?_)
      · replace h := h.2 hc9
        exact h
      · replace h := h.1 hc9
        refine s_aload_n j39 rfl rfl ?_
        refine s_dup j40 rfl (am_cov _) ?_
        refine s_gfI j41 rfl ho1 ?_
        refine s_iconst j44 rfl kc_ic_1 ?_
        refine s_g j45 rfl rfl rfl rfl rfl rfl ?_
        refine s_pfI j46 rfl ho1 (fun σ10 e11 => ?_)
        replace h := h σ10 e11
        have ek12 : am_kd σ10 = am_kd σ := by rw [e11]
        refine s_goto j49 rfl rfl ?_
        exact h
theorem P_Ro_step_52 (nl : Bool) (Ln : Nat) (xs : Nat → Int32) : am_Jl (TT nl Ln xs) 276 [(52, .aload_n 0, 53, []), (53, .aload_n 0, 54, []), (54, .getfield 624, 57, [9, 13, 92, 0]), (57, .putfield 630, 60, [9, 13, 93, 0]), (60, .aload_n 0, 61, []), (61, .getfield 624, 64, [9, 13, 92, 0]), (64, .aload_n 0, 65, []), (65, .getfield 627, 68, [9, 13, 91, 0]), (68, .if_icmp .ge 15, 71, []), (71, .aload_n 0, 72, []), (72, .getfield 203, 75, [9, 13, 90, 2]), (75, .aload_n 0, 76, []), (76, .getfield 624, 79, [9, 13, 92, 0]), (79, .iaload, 80, []), (80, .goto 4, 83, []), (83, .iconst (-1), 84, [])] := dk_ck (by decide +kernel)
set_option maxRecDepth 4096 in
theorem w_Ro_step_52 {nl : Bool} {Ln : Nat} {xs : Nat → Int32} {d : Nat} {this : Nat} {σ : am_S} {F : am_S → Prop} (h : (am_is σ (some this) 13) ∧ ∀ σ2, σ2 = am_sfI σ 13093 this (am_fI σ 13092 this) → (((am_fI σ2 13092 this) < (am_fI σ2 13091 this)) → am_ar σ2 1000 (am_fR σ2 13090 this) (am_fI σ2 13092 this)) ∧ ∀ w8 : Int32, w8 = (if (am_fI σ2 13092 this) < (am_fI σ2 13091 this) then (am_aI σ2 ((am_fR σ2 13090 this).getD 0) (am_fI σ2 13092 this).toNatClampNeg) else (-1 : Int32)) → c_Ro_step_84 nl Ln xs (d + 1) this w8 σ2 F) : c_Ro_step_52 nl Ln xs (d + 1) this σ F := by
  obtain ⟨j52, j53, j54, j57, j60, j61, j64, j65, j68, j71, j72, j75, j76, j79, j80, j83, -⟩ := P_Ro_step_52 nl Ln xs
  unfold c_Ro_step_52
  refine s_aload_n j52 rfl rfl ?_
  refine s_aload_n j53 rfl rfl ?_
  obtain ⟨ho1, h⟩ := h
  refine s_gfI j54 rfl ho1 ?_
  refine s_pfI j57 rfl ho1 (fun σ2 e3 => ?_)
  replace h := h σ2 e3
  have ek4 : am_kd σ2 = am_kd σ := by rw [e3]
  refine s_aload_n j60 rfl rfl ?_
  refine s_gfI j61 rfl (am_is_kd ek4 ho1) ?_
  refine s_aload_n j64 rfl rfl ?_
  refine s_gfI j65 rfl (am_is_kd ek4 ho1) ?_
  obtain ⟨ho6, h⟩ := h
  have K7 : ∀ (w8 : Int32), w8 = (if (am_fI σ2 13092 this) < (am_fI σ2 13091 this) then (am_aI σ2 ((am_fR σ2 13090 this).getD 0) (am_fI σ2 13092 this).toNatClampNeg) else (-1 : Int32)) → am_C (TT nl Ln xs) (d + 1) 276 84 [some (am_ov (some this)), none] [.int w8] σ2 (am_qV F) := by
    intro w8 hw9
    replace h := h w8 hw9
    exact h
  refine s_icn j68 rfl rfl am_cc_ge (fun hc5 => ?_) (fun hc5 => ?_)
  · refine s_iconst j83 rfl kc_ic_m1 ?_
    exact K7 _ (am_t2 hc5 rfl)
  · refine s_aload_n j71 rfl rfl ?_
    refine s_gfR j72 rfl (am_is_kd ek4 ho1) ?_
    refine s_aload_n j75 rfl rfl ?_
    refine s_gfI j76 rfl (am_is_kd ek4 ho1) ?_
    refine s_iaload j79 rfl (ho6 hc5) ?_
    refine s_goto j80 rfl rfl ?_
    exact K7 _ (am_t1 hc5 rfl)
theorem P_Ro_step_84 (nl : Bool) (Ln : Nat) (xs : Nat → Int32) : am_Jl (TT nl Ln xs) 276 [(84, .istore_n 1, 85, []), (85, .iload_n 1, 86, []), (86, .iconst (-1), 87, []), (87, .if_icmp .ne 11, 90, []), (90, .aload_n 0, 91, []), (91, .iconst 0, 92, []), (92, .putfield 633, 95, [9, 13, 94, 0]), (95, .goto 223, 98, []), (98, .iload_n 1, 99, []), (99, .i2l, 100, []), (100, .ldc2_w 636, 103, [6, 97]), (103, .ldc2_w 638, 106, [6, 122]), (106, .invokestatic 364, 109, [12, 209, 6, 3]), (109, .ifCond .eq 54, 112, []), (112, .aload_n 0, 113, []), (113, .iconst 1, 114, []), (114, .putfield 633, 117, [9, 13, 94, 0]), (163, .iload_n 1, 164, []), (164, .i2l, 165, []), (165, .ldc2_w 640, 168, [6, 48]), (168, .ldc2_w 642, 171, [6, 57]), (171, .invokestatic 364, 174, [12, 209, 6, 3]), (174, .ifCond .eq 107, 177, []), (177, .aload_n 0, 178, []), (178, .iconst 2, 179, []), (179, .putfield 633, 182, [9, 13, 94, 0]), (182, .aload_n 0, 183, []), (183, .lconst 0, 184, []), (184, .putfield 644, 187, [9, 13, 96, 1]), (281, .aload_n 0, 282, []), (282, .iload_n 1, 283, []), (283, .bipush 40, 285, []), (285, .if_icmp .eq 15, 288, []), (288, .iload_n 1, 289, []), (289, .bipush 41, 291, []), (291, .if_icmp .eq 9, 294, []), (294, .iload_n 1, 295, []), (295, .bipush 59, 297, []), (297, .if_icmp .ne 7, 300, []), (300, .iload_n 1, 301, []), (301, .goto 4, 304, []), (304, .iconst 3, 305, []), (305, .putfield 633, 308, [9, 13, 94, 0]), (308, .aload_n 0, 309, []), (309, .dup, 310, []), (310, .getfield 624, 313, [9, 13, 92, 0]), (313, .iconst 1, 314, []), (314, .iadd, 315, []), (315, .putfield 624, 318, [9, 13, 92, 0]), (318, .aload_n 0, 319, []), (319, .aload_n 0, 320, []), (320, .getfield 624, 323, [9, 13, 92, 0]), (323, .putfield 649, 326, [9, 13, 95, 0]), (326, .return_, 327, [0])] := dk_ck (by decide +kernel)
set_option maxRecDepth 4096 in
theorem w_Ro_step_84 {nl : Bool} {Ln : Nat} {xs : Nat → Int32} {d : Nat} {this : Nat} {y0 : Int32} {σ : am_S} {F : am_S → Prop} (h : (y0 = (-1 : Int32) → (am_is σ (some this) 13) ∧ ∀ σ3, σ3 = am_sfI σ 13094 this (0 : Int32) → ∀ σ6, σ6 = am_sfI σ3 13095 this (am_fI σ3 13092 this) → F σ6) ∧ (¬ (y0 = (-1 : Int32)) → k_Rm_in nl Ln xs d y0.toInt64 (97 : Int64) (122 : Int64) σ (fun a10 σ9 => am_ext σ σ9 → (a10 = true → (am_is σ9 (some this) 13) ∧ ∀ σ13, σ13 = am_sfI σ9 13094 this (1 : Int32) → c_Ro_step_117 nl Ln xs (d + 1) this y0 σ13 F) ∧ (¬ (a10 = true) → k_Rm_in nl Ln xs d y0.toInt64 (48 : Int64) (57 : Int64) σ9 (fun a17 σ16 => am_ext σ9 σ16 → (a17 = true → (am_is σ16 (some this) 13) ∧ ∀ σ20, σ20 = am_sfI σ16 13094 this (2 : Int32) → ∀ σ23, σ23 = am_sfL σ20 13096 this (0 : Int64) → c_Ro_step_187 nl Ln xs (d + 1) this y0 σ23 F) ∧ (¬ (a17 = true) → ∀ w30 : Int32, w30 = (if y0 = (40 : Int32) then y0 else (if y0 = (41 : Int32) then y0 else (if y0 = (59 : Int32) then y0 else (3 : Int32)))) → (am_is σ16 (some this) 13) ∧ ∀ σ33, σ33 = am_sfI σ16 13094 this w30 → ∀ σ36, σ36 = am_sfI σ33 13092 this ((am_fI σ33 13092 this) + (1 : Int32)) → ∀ σ39, σ39 = am_sfI σ36 13095 this (am_fI σ36 13092 this) → F σ39)))))) : c_Ro_step_84 nl Ln xs (d + 1) this y0 σ F := by
  obtain ⟨j84, j85, j86, j87, j90, j91, j92, j95, j98, j99, j100, j103, j106, j109, j112, j113, j114, j163, j164, j165, j168, j171, j174, j177, j178, j179, j182, j183, j184, j281, j282, j283, j285, j288, j289, j291, j294, j295, j297, j300, j301, j304, j305, j308, j309, j310, j313, j314, j315, j318, j319, j320, j323, j326, -⟩ := P_Ro_step_84 nl Ln xs
  unfold c_Ro_step_84
  refine s_istore_n j84 rfl (n := 2) (L' := [some (am_ov (some this)), some (.int y0)]) rfl (by decide) (am_st1_R [] _ _ _ _) ?_
  refine s_iload_n j85 rfl rfl ?_
  refine s_iconst j86 rfl kc_ic_m1 ?_
  refine s_icn j87 rfl rfl am_cc_ne (fun hc1 => ?_) (fun hc1 => ?_)
  · replace h := h.2 hc1
    refine s_iload_n j98 rfl rfl ?_
    refine s_g j99 rfl rfl rfl rfl rfl rfl ?_
    refine s_ldc2 j100 rfl kc_ll_97 ?_
    refine s_ldc2 j103 rfl kc_ll_122 ?_
    refine s_stat j106 rfl rfl rfl rfl (by decide) (in_Rm_in _ _ _) (am_r8 rfl) (am_bB h (fun a10 σ9 h hx9 => ?_))
    replace h := h hx9
    refine s_ifn j109 rfl rfl am_cb_eq (fun hc11 => ?_) (fun hc11 => ?_)
    · replace h := h.2 hc11
      refine s_iload_n j163 rfl rfl ?_
      refine s_g j164 rfl rfl rfl rfl rfl rfl ?_
      refine s_ldc2 j165 rfl kc_ll_48 ?_
      refine s_ldc2 j168 rfl kc_ll_57 ?_
      refine s_stat j171 rfl rfl rfl rfl (by decide) (in_Rm_in _ _ _) (am_r8 rfl) (am_bB h (fun a17 σ16 h hx16 => ?_))
      replace h := h hx16
      refine s_ifn j174 rfl rfl am_cb_eq (fun hc18 => ?_) (fun hc18 => ?_)
      · replace h := h.2 hc18
        refine s_aload_n j281 rfl rfl ?_
        refine s_iload_n j282 rfl rfl ?_
        refine s_bipush j283 rfl kc_bi_40 ?_
        have K29 : ∀ (w30 : Int32), w30 = (if y0 = (40 : Int32) then y0 else (if y0 = (41 : Int32) then y0 else (if y0 = (59 : Int32) then y0 else (3 : Int32)))) → am_C (TT nl Ln xs) (d + 1) 276 305 [some (am_ov (some this)), some (.int y0)] [.int w30, am_ov (some this)] σ16 (am_qV F) := by
          intro w30 hw31
          replace h := h w30 hw31
          obtain ⟨ho32, h⟩ := h
          refine s_pfI j305 rfl ho32 (fun σ33 e34 => ?_)
          replace h := h σ33 e34
          have ek35 : am_kd σ33 = am_kd σ16 := by rw [e34]
          refine s_aload_n j308 rfl rfl ?_
          refine s_dup j309 rfl (am_cov _) ?_
          refine s_gfI j310 rfl (am_is_kd ek35 ho32) ?_
          refine s_iconst j313 rfl kc_ic_1 ?_
          refine s_g j314 rfl rfl rfl rfl rfl rfl ?_
          refine s_pfI j315 rfl (am_is_kd ek35 ho32) (fun σ36 e37 => ?_)
          replace h := h σ36 e37
          have ek38 : am_kd σ36 = am_kd σ33 := by rw [e37]
          refine s_aload_n j318 rfl rfl ?_
          refine s_aload_n j319 rfl rfl ?_
          refine s_gfI j320 rfl (am_is_kd ek38 (am_is_kd ek35 ho32)) ?_
          refine s_pfI j323 rfl (am_is_kd ek38 (am_is_kd ek35 ho32)) (fun σ39 e40 => ?_)
          replace h := h σ39 e40
          have ek41 : am_kd σ39 = am_kd σ36 := by rw [e40]
          exact s_retV j326 rfl h
        refine s_ic j285 rfl rfl am_cc_eq (fun hc26 => ?_) (fun hc26 => ?_)
        · refine s_iload_n j300 rfl rfl ?_
          refine s_goto j301 rfl rfl ?_
          exact K29 _ (am_t1 hc26 rfl)
        · refine s_iload_n j288 rfl rfl ?_
          refine s_bipush j289 rfl kc_bi_41 ?_
          refine s_ic j291 rfl rfl am_cc_eq (fun hc27 => ?_) (fun hc27 => ?_)
          · refine s_iload_n j300 rfl rfl ?_
            refine s_goto j301 rfl rfl ?_
            exact K29 _ (am_t2 hc26 (am_t1 hc27 rfl))
          · refine s_iload_n j294 rfl rfl ?_
            refine s_bipush j295 rfl kc_bi_59 ?_
            refine s_icn j297 rfl rfl am_cc_ne (fun hc28 => ?_) (fun hc28 => ?_)
            · refine s_iconst j304 rfl kc_ic_3 ?_
              exact K29 _ (am_t2 hc26 (am_t2 hc27 (am_t2 hc28 rfl)))
            · refine s_iload_n j300 rfl rfl ?_
              refine s_goto j301 rfl rfl ?_
              exact K29 _ (am_t2 hc26 (am_t2 hc27 (am_t1 hc28 rfl)))
      · replace h := h.1 hc18
        refine s_aload_n j177 rfl rfl ?_
        refine s_iconst j178 rfl kc_ic_2 ?_
        obtain ⟨ho19, h⟩ := h
        refine s_pfI j179 rfl ho19 (fun σ20 e21 => ?_)
        replace h := h σ20 e21
        have ek22 : am_kd σ20 = am_kd σ16 := by rw [e21]
        refine s_aload_n j182 rfl rfl ?_
        refine s_lconst j183 rfl rfl ?_
        refine s_pfL j184 rfl (am_is_kd ek22 ho19) (fun σ23 e24 => ?_)
        replace h := h σ23 e24
        have ek25 : am_kd σ23 = am_kd σ20 := by rw [e24]
        exact h
    · replace h := h.1 hc11
      refine s_aload_n j112 rfl rfl ?_
      refine s_iconst j113 rfl kc_ic_1 ?_
      obtain ⟨ho12, h⟩ := h
      refine s_pfI j114 rfl ho12 (fun σ13 e14 => ?_)
      replace h := h σ13 e14
      have ek15 : am_kd σ13 = am_kd σ9 := by rw [e14]
      exact h
  · replace h := h.1 hc1
    refine s_aload_n j90 rfl rfl ?_
    refine s_iconst j91 rfl kc_ic_0 ?_
    obtain ⟨ho2, h⟩ := h
    refine s_pfI j92 rfl ho2 (fun σ3 e4 => ?_)
    replace h := h σ3 e4
    have ek5 : am_kd σ3 = am_kd σ := by rw [e4]
    refine s_goto j95 rfl rfl ?_
    refine s_aload_n j318 rfl rfl ?_
    refine s_aload_n j319 rfl rfl ?_
    refine s_gfI j320 rfl (am_is_kd ek5 ho2) ?_
    refine s_pfI j323 rfl (am_is_kd ek5 ho2) (fun σ6 e7 => ?_)
    replace h := h σ6 e7
    have ek8 : am_kd σ6 = am_kd σ3 := by rw [e7]
    exact s_retV j326 rfl h
theorem P_Ro_step_117 (nl : Bool) (Ln : Nat) (xs : Nat → Int32) : am_Jl (TT nl Ln xs) 276 [(117, .aload_n 0, 118, []), (118, .getfield 624, 121, [9, 13, 92, 0]), (121, .aload_n 0, 122, []), (122, .getfield 627, 125, [9, 13, 91, 0]), (125, .if_icmp .ge 193, 128, []), (128, .aload_n 0, 129, []), (129, .getfield 203, 132, [9, 13, 90, 2]), (132, .aload_n 0, 133, []), (133, .getfield 624, 136, [9, 13, 92, 0]), (136, .iaload, 137, []), (137, .i2l, 138, []), (138, .ldc2_w 636, 141, [6, 97]), (141, .ldc2_w 638, 144, [6, 122]), (144, .invokestatic 364, 147, [12, 209, 6, 3]), (147, .ifCond .eq 171, 150, []), (150, .aload_n 0, 151, []), (151, .dup, 152, []), (152, .getfield 624, 155, [9, 13, 92, 0]), (155, .iconst 1, 156, []), (156, .iadd, 157, []), (157, .putfield 624, 160, [9, 13, 92, 0]), (160, .goto (-43), 163, []), (318, .aload_n 0, 319, []), (319, .aload_n 0, 320, []), (320, .getfield 624, 323, [9, 13, 92, 0]), (323, .putfield 649, 326, [9, 13, 95, 0]), (326, .return_, 327, [0])] := dk_ck (by decide +kernel)
set_option maxRecDepth 4096 in
theorem w_Ro_step_117 {nl : Bool} {Ln : Nat} {xs : Nat → Int32} {d : Nat} {this : Nat} {x1 : Int32} {σ : am_S} {F : am_S → Prop} (h : (am_is σ (some this) 13) ∧ ((am_fI σ 13092 this) < (am_fI σ 13091 this) → (am_ar σ 1000 (am_fR σ 13090 this) (am_fI σ 13092 this)) ∧ k_Rm_in nl Ln xs d ((am_aI σ ((am_fR σ 13090 this).getD 0) (am_fI σ 13092 this).toNatClampNeg).toInt64) (97 : Int64) (122 : Int64) σ (fun a5 σ4 => am_ext σ σ4 → (a5 = true → ∀ σ7, σ7 = am_sfI σ4 13092 this ((am_fI σ4 13092 this) + (1 : Int32)) → c_Ro_step_117 nl Ln xs (d + 1) this x1 σ7 F) ∧ (¬ (a5 = true) → ∀ σ10, σ10 = am_sfI σ4 13095 this (am_fI σ4 13092 this) → F σ10))) ∧ (¬ ((am_fI σ 13092 this) < (am_fI σ 13091 this)) → ∀ σ13, σ13 = am_sfI σ 13095 this (am_fI σ 13092 this) → F σ13)) : c_Ro_step_117 nl Ln xs (d + 1) this x1 σ F := by
  obtain ⟨j117, j118, j121, j122, j125, j128, j129, j132, j133, j136, j137, j138, j141, j144, j147, j150, j151, j152, j155, j156, j157, j160, j318, j319, j320, j323, j326, -⟩ := P_Ro_step_117 nl Ln xs
  unfold c_Ro_step_117
  refine s_aload_n j117 rfl rfl ?_
  obtain ⟨ho1, h⟩ := h
  refine s_gfI j118 rfl ho1 ?_
  refine s_aload_n j121 rfl rfl ?_
  refine s_gfI j122 rfl ho1 ?_
  refine s_icn j125 rfl rfl am_cc_ge (fun hc2 => ?_) (fun hc2 => ?_)
  · replace h := h.2 hc2
    refine s_aload_n j318 rfl rfl ?_
    refine s_aload_n j319 rfl rfl ?_
    refine s_gfI j320 rfl ho1 ?_
    refine s_pfI j323 rfl ho1 (fun σ13 e14 => ?_)
    replace h := h σ13 e14
    have ek15 : am_kd σ13 = am_kd σ := by rw [e14]
    exact s_retV j326 rfl h
  · replace h := h.1 hc2
    refine s_aload_n j128 rfl rfl ?_
    refine s_gfR j129 rfl ho1 ?_
    refine s_aload_n j132 rfl rfl ?_
    refine s_gfI j133 rfl ho1 ?_
    obtain ⟨ho3, h⟩ := h
    refine s_iaload j136 rfl ho3 ?_
    refine s_g j137 rfl rfl rfl rfl rfl rfl ?_
    refine s_ldc2 j138 rfl kc_ll_97 ?_
    refine s_ldc2 j141 rfl kc_ll_122 ?_
    refine s_stat j144 rfl rfl rfl rfl (by decide) (in_Rm_in _ _ _) (am_r8 rfl) (am_bB h (fun a5 σ4 h hx4 => ?_))
    replace h := h hx4
    refine s_ifn j147 rfl rfl am_cb_eq (fun hc6 => ?_) (fun hc6 => ?_)
    · replace h := h.2 hc6
      refine s_aload_n j318 rfl rfl ?_
      refine s_aload_n j319 rfl rfl ?_
      refine s_gfI j320 rfl (am_is_ext hx4 ho1) ?_
      refine s_pfI j323 rfl (am_is_ext hx4 ho1) (fun σ10 e11 => ?_)
      replace h := h σ10 e11
      have ek12 : am_kd σ10 = am_kd σ4 := by rw [e11]
      exact s_retV j326 rfl h
    · replace h := h.1 hc6
      refine s_aload_n j150 rfl rfl ?_
      refine s_dup j151 rfl (am_cov _) ?_
      refine s_gfI j152 rfl (am_is_ext hx4 ho1) ?_
      refine s_iconst j155 rfl kc_ic_1 ?_
      refine s_g j156 rfl rfl rfl rfl rfl rfl ?_
      refine s_pfI j157 rfl (am_is_ext hx4 ho1) (fun σ7 e8 => ?_)
      replace h := h σ7 e8
      have ek9 : am_kd σ7 = am_kd σ4 := by rw [e8]
      refine s_goto j160 rfl rfl ?_
      exact h
theorem P_Ro_step_187 (nl : Bool) (Ln : Nat) (xs : Nat → Int32) : am_Jl (TT nl Ln xs) 276 [(187, .aload_n 0, 188, []), (188, .getfield 624, 191, [9, 13, 92, 0]), (191, .aload_n 0, 192, []), (192, .getfield 627, 195, [9, 13, 91, 0]), (195, .if_icmp .ge 123, 198, []), (198, .aload_n 0, 199, []), (199, .getfield 203, 202, [9, 13, 90, 2]), (202, .aload_n 0, 203, []), (203, .getfield 624, 206, [9, 13, 92, 0]), (206, .iaload, 207, []), (207, .i2l, 208, []), (208, .ldc2_w 640, 211, [6, 48]), (211, .ldc2_w 642, 214, [6, 57]), (214, .invokestatic 364, 217, [12, 209, 6, 3]), (217, .ifCond .eq 101, 220, []), (220, .aload_n 0, 221, []), (221, .aload_n 0, 222, []), (222, .getfield 624, 225, [9, 13, 92, 0]), (225, .aload_n 0, 226, []), (226, .getfield 630, 229, [9, 13, 93, 0]), (229, .isub, 230, []), (230, .bipush 9, 232, []), (232, .if_icmp .ge 29, 235, []), (235, .ldc2_w 647, 238, [6, 10]), (238, .aload_n 0, 239, []), (239, .getfield 644, 242, [9, 13, 96, 1]), (242, .lmul, 243, []), (243, .aload_n 0, 244, []), (244, .getfield 203, 247, [9, 13, 90, 2]), (247, .aload_n 0, 248, []), (248, .getfield 624, 251, [9, 13, 92, 0]), (251, .iaload, 252, []), (252, .i2l, 253, []), (253, .ladd, 254, []), (254, .ldc2_w 640, 257, [6, 48]), (257, .lsub, 258, []), (258, .goto 7, 261, []), (261, .aload_n 0, 262, []), (262, .getfield 644, 265, [9, 13, 96, 1]), (265, .putfield 644, 268, [9, 13, 96, 1]), (268, .aload_n 0, 269, []), (269, .dup, 270, []), (270, .getfield 624, 273, [9, 13, 92, 0]), (273, .iconst 1, 274, []), (274, .iadd, 275, []), (275, .putfield 624, 278, [9, 13, 92, 0]), (278, .goto (-91), 281, []), (318, .aload_n 0, 319, []), (319, .aload_n 0, 320, []), (320, .getfield 624, 323, [9, 13, 92, 0]), (323, .putfield 649, 326, [9, 13, 95, 0]), (326, .return_, 327, [0])] := dk_ck (by decide +kernel)
set_option maxRecDepth 4096 in
theorem w_Ro_step_187 {nl : Bool} {Ln : Nat} {xs : Nat → Int32} {d : Nat} {this : Nat} {x1 : Int32} {σ : am_S} {F : am_S → Prop} (h : (am_is σ (some this) 13) ∧ ((am_fI σ 13092 this) < (am_fI σ 13091 this) → (am_ar σ 1000 (am_fR σ 13090 this) (am_fI σ 13092 this)) ∧ k_Rm_in nl Ln xs d ((am_aI σ ((am_fR σ 13090 this).getD 0) (am_fI σ 13092 this).toNatClampNeg).toInt64) (48 : Int64) (57 : Int64) σ (fun a5 σ4 => am_ext σ σ4 → (a5 = true → ((((am_fI σ4 13092 this) - (am_fI σ4 13093 this)) < (9 : Int32)) → am_ar σ4 1000 (am_fR σ4 13090 this) (am_fI σ4 13092 this)) ∧ ∀ w10 : Int64, w10 = (if ((am_fI σ4 13092 this) - (am_fI σ4 13093 this)) < (9 : Int32) then ((((10 : Int64) * (am_fL σ4 13096 this)) + (am_aI σ4 ((am_fR σ4 13090 this).getD 0) (am_fI σ4 13092 this).toNatClampNeg).toInt64) - (48 : Int64)) else (am_fL σ4 13096 this)) → ∀ σ12, σ12 = am_sfL σ4 13096 this w10 → ∀ σ15, σ15 = am_sfI σ12 13092 this ((am_fI σ12 13092 this) + (1 : Int32)) → c_Ro_step_187 nl Ln xs (d + 1) this x1 σ15 F) ∧ (¬ (a5 = true) → ∀ σ18, σ18 = am_sfI σ4 13095 this (am_fI σ4 13092 this) → F σ18))) ∧ (¬ ((am_fI σ 13092 this) < (am_fI σ 13091 this)) → ∀ σ21, σ21 = am_sfI σ 13095 this (am_fI σ 13092 this) → F σ21)) : c_Ro_step_187 nl Ln xs (d + 1) this x1 σ F := by
  obtain ⟨j187, j188, j191, j192, j195, j198, j199, j202, j203, j206, j207, j208, j211, j214, j217, j220, j221, j222, j225, j226, j229, j230, j232, j235, j238, j239, j242, j243, j244, j247, j248, j251, j252, j253, j254, j257, j258, j261, j262, j265, j268, j269, j270, j273, j274, j275, j278, j318, j319, j320, j323, j326, -⟩ := P_Ro_step_187 nl Ln xs
  unfold c_Ro_step_187
  refine s_aload_n j187 rfl rfl ?_
  obtain ⟨ho1, h⟩ := h
  refine s_gfI j188 rfl ho1 ?_
  refine s_aload_n j191 rfl rfl ?_
  refine s_gfI j192 rfl ho1 ?_
  refine s_icn j195 rfl rfl am_cc_ge (fun hc2 => ?_) (fun hc2 => ?_)
  · replace h := h.2 hc2
    refine s_aload_n j318 rfl rfl ?_
    refine s_aload_n j319 rfl rfl ?_
    refine s_gfI j320 rfl ho1 ?_
    refine s_pfI j323 rfl ho1 (fun σ21 e22 => ?_)
    replace h := h σ21 e22
    have ek23 : am_kd σ21 = am_kd σ := by rw [e22]
    exact s_retV j326 rfl h
  · replace h := h.1 hc2
    refine s_aload_n j198 rfl rfl ?_
    refine s_gfR j199 rfl ho1 ?_
    refine s_aload_n j202 rfl rfl ?_
    refine s_gfI j203 rfl ho1 ?_
    obtain ⟨ho3, h⟩ := h
    refine s_iaload j206 rfl ho3 ?_
    refine s_g j207 rfl rfl rfl rfl rfl rfl ?_
    refine s_ldc2 j208 rfl kc_ll_48 ?_
    refine s_ldc2 j211 rfl kc_ll_57 ?_
    refine s_stat j214 rfl rfl rfl rfl (by decide) (in_Rm_in _ _ _) (am_r8 rfl) (am_bB h (fun a5 σ4 h hx4 => ?_))
    replace h := h hx4
    refine s_ifn j217 rfl rfl am_cb_eq (fun hc6 => ?_) (fun hc6 => ?_)
    · replace h := h.2 hc6
      refine s_aload_n j318 rfl rfl ?_
      refine s_aload_n j319 rfl rfl ?_
      refine s_gfI j320 rfl (am_is_ext hx4 ho1) ?_
      refine s_pfI j323 rfl (am_is_ext hx4 ho1) (fun σ18 e19 => ?_)
      replace h := h σ18 e19
      have ek20 : am_kd σ18 = am_kd σ4 := by rw [e19]
      exact s_retV j326 rfl h
    · replace h := h.1 hc6
      refine s_aload_n j220 rfl rfl ?_
      refine s_aload_n j221 rfl rfl ?_
      refine s_gfI j222 rfl (am_is_ext hx4 ho1) ?_
      refine s_aload_n j225 rfl rfl ?_
      refine s_gfI j226 rfl (am_is_ext hx4 ho1) ?_
      refine s_g j229 rfl rfl rfl rfl rfl rfl ?_
      refine s_bipush j230 rfl kc_bi_9 ?_
      obtain ⟨ho8, h⟩ := h
      have K9 : ∀ (w10 : Int64), w10 = (if ((am_fI σ4 13092 this) - (am_fI σ4 13093 this)) < (9 : Int32) then ((((10 : Int64) * (am_fL σ4 13096 this)) + (am_aI σ4 ((am_fR σ4 13090 this).getD 0) (am_fI σ4 13092 this).toNatClampNeg).toInt64) - (48 : Int64)) else (am_fL σ4 13096 this)) → am_C (TT nl Ln xs) (d + 1) 276 265 [some (am_ov (some this)), some (.int x1)] [.long w10, am_ov (some this)] σ4 (am_qV F) := by
        intro w10 hw11
        replace h := h w10 hw11
        refine s_pfL j265 rfl (am_is_ext hx4 ho1) (fun σ12 e13 => ?_)
        replace h := h σ12 e13
        have ek14 : am_kd σ12 = am_kd σ4 := by rw [e13]
        refine s_aload_n j268 rfl rfl ?_
        refine s_dup j269 rfl (am_cov _) ?_
        refine s_gfI j270 rfl (am_is_kd ek14 (am_is_ext hx4 ho1)) ?_
        refine s_iconst j273 rfl kc_ic_1 ?_
        refine s_g j274 rfl rfl rfl rfl rfl rfl ?_
        refine s_pfI j275 rfl (am_is_kd ek14 (am_is_ext hx4 ho1)) (fun σ15 e16 => ?_)
        replace h := h σ15 e16
        have ek17 : am_kd σ15 = am_kd σ12 := by rw [e16]
        refine s_goto j278 rfl rfl ?_
        exact h
      refine s_icn j232 rfl rfl am_cc_ge (fun hc7 => ?_) (fun hc7 => ?_)
      · refine s_aload_n j261 rfl rfl ?_
        refine s_gfL j262 rfl (am_is_ext hx4 ho1) ?_
        exact K9 _ (am_t2 hc7 rfl)
      · refine s_ldc2 j235 rfl kc_ll_10 ?_
        refine s_aload_n j238 rfl rfl ?_
        refine s_gfL j239 rfl (am_is_ext hx4 ho1) ?_
        refine s_g j242 rfl rfl rfl rfl rfl rfl ?_
        refine s_aload_n j243 rfl rfl ?_
        refine s_gfR j244 rfl (am_is_ext hx4 ho1) ?_
        refine s_aload_n j247 rfl rfl ?_
        refine s_gfI j248 rfl (am_is_ext hx4 ho1) ?_
        refine s_iaload j251 rfl (ho8 hc7) ?_
        refine s_g j252 rfl rfl rfl rfl rfl rfl ?_
        refine s_g j253 rfl rfl rfl rfl rfl rfl ?_
        refine s_ldc2 j254 rfl kc_ll_48 ?_
        refine s_g j257 rfl rfl rfl rfl rfl rfl ?_
        refine s_goto j258 rfl rfl ?_
        exact K9 _ (am_t1 hc7 rfl)
theorem P_Ro_wrong (nl : Bool) (Ln : Nat) (xs : Nat → Int32) : am_Jl (TT nl Ln xs) 277 [(0, .aload_n 0, 1, []), (1, .aload_n 0, 2, []), (2, .getfield 652, 5, [9, 13, 97, 0]), (5, .iconst (-1), 6, []), (6, .if_icmp .ne 7, 9, []), (9, .iload_n 1, 10, []), (10, .goto 7, 13, []), (13, .aload_n 0, 14, []), (14, .getfield 652, 17, [9, 13, 97, 0]), (17, .putfield 652, 20, [9, 13, 97, 0]), (20, .return_, 21, [0])] := dk_ck (by decide +kernel)
set_option maxRecDepth 4096 in
theorem w_Ro_wrong {nl : Bool} {Ln : Nat} {xs : Nat → Int32} {d : Nat} {this : Nat} {p0 : Int32} {σ : am_S} {F : am_S → Prop} (h : (am_is σ (some this) 13) ∧ ∀ w4 : Int32, w4 = (if (am_fI σ 13097 this) = (-1 : Int32) then p0 else (am_fI σ 13097 this)) → ∀ σ6, σ6 = am_sfI σ 13097 this w4 → F σ6) : k_Ro_wrong nl Ln xs (d + 1) this p0 σ F := by
  obtain ⟨j0, j1, j2, j5, j6, j9, j10, j13, j14, j17, j20, -⟩ := P_Ro_wrong nl Ln xs
  have elo : am_lo 2 [am_ov (some this), .int p0] = [some (am_ov (some this)), some (.int p0)] := by simp only [am_lo, am_in_ov, am_in_int, am_in_long, am_in_nil]; rfl
  unfold k_Ro_wrong
  rw [elo]
  refine s_aload_n j0 rfl rfl ?_
  refine s_aload_n j1 rfl rfl ?_
  obtain ⟨ho1, h⟩ := h
  refine s_gfI j2 rfl ho1 ?_
  refine s_iconst j5 rfl kc_ic_m1 ?_
  have K3 : ∀ (w4 : Int32), w4 = (if (am_fI σ 13097 this) = (-1 : Int32) then p0 else (am_fI σ 13097 this)) → am_C (TT nl Ln xs) (d + 1) 277 17 [some (am_ov (some this)), some (.int p0)] [.int w4, am_ov (some this)] σ (am_qV F) := by
    intro w4 hw5
    replace h := h w4 hw5
    refine s_pfI j17 rfl ho1 (fun σ6 e7 => ?_)
    replace h := h σ6 e7
    have ek8 : am_kd σ6 = am_kd σ := by rw [e7]
    exact s_retV j20 rfl h
  refine s_icn j6 rfl rfl am_cc_ne (fun hc2 => ?_) (fun hc2 => ?_)
  · refine s_aload_n j13 rfl rfl ?_
    refine s_gfI j14 rfl ho1 ?_
    exact K3 _ (am_t2 hc2 rfl)
  · refine s_iload_n j9 rfl rfl ?_
    refine s_goto j10 rfl rfl ?_
    exact K3 _ (am_t1 hc2 rfl)
theorem P_Ro_clause (nl : Bool) (Ln : Nat) (xs : Nat → Int32) : am_Jl (TT nl Ln xs) 278 [(0, .aload_n 0, 1, []), (1, .getfield 80, 4, [9, 13, 29, 2]), (4, .iload_n 1, 5, []), (5, .iconst 0, 6, []), (6, .iastore, 7, []), (7, .aload_n 0, 8, []), (8, .getfield 83, 11, [9, 13, 30, 2]), (11, .iload_n 1, 12, []), (12, .iconst (-1), 13, []), (13, .iastore, 14, []), (14, .aload_n 0, 15, []), (15, .ldc_w 720, 18, [5, 21]), (18, .invokevirtual 664, 21, [10, 279, 14, 4, 2]), (21, .istore_n 2, 22, []), (22, .iload_n 2, 23, []), (23, .ifCond .ne 13, 26, []), (26, .aload_n 0, 27, []), (27, .ldc_w 721, 30, [5, 9]), (30, .invokevirtual 664, 33, [10, 279, 14, 4, 2]), (33, .ifCond .eq 55, 36, []), (88, .aload_n 0, 89, []), (89, .ldc_w 725, 92, [5, 11]), (92, .invokevirtual 678, 95, [10, 281, 14, 3, 2]), (95, .ifCond .eq 14, 98, []), (98, .aload_n 0, 99, []), (99, .getfield 77, 102, [9, 13, 28, 2]), (102, .iload_n 1, 103, []), (103, .bipush 8, 105, []), (105, .iastore, 106, []), (106, .goto 83, 109, []), (109, .aload_n 0, 110, []), (110, .ldc_w 726, 113, [5, 31]), (113, .invokevirtual 678, 116, [10, 281, 14, 3, 2]), (116, .ifCond .eq 53, 119, []), (119, .aload_n 0, 120, []), (120, .ldc_w 728, 123, [5, 32]), (123, .invokevirtual 678, 126, [10, 281, 14, 3, 2]), (126, .istore_n 3, 127, []), (127, .aload_n 0, 128, []), (128, .getfield 77, 131, [9, 13, 28, 2]), (131, .iload_n 1, 132, []), (132, .iload_n 3, 133, []), (133, .ifCond .eq 8, 136, []), (136, .bipush 10, 138, []), (138, .goto 5, 141, []), (141, .bipush 11, 143, []), (169, .aload_n 0, 170, []), (170, .getfield 77, 173, [9, 13, 28, 2]), (173, .iload_n 1, 174, []), (174, .aload_n 0, 175, []), (175, .invokevirtual 731, 178, [10, 289, 14, 2, 1]), (178, .iastore, 179, []), (179, .aload_n 0, 180, []), (180, .getfield 80, 183, [9, 13, 29, 2]), (183, .iload_n 1, 184, []), (184, .aload_n 0, 185, []), (185, .invokevirtual 708, 188, [10, 288, 14, 2, 1]), (188, .iastore, 189, []), (189, .aload_n 0, 190, []), (190, .bipush 59, 192, []), (192, .invokevirtual 704, 195, [10, 287, 14, 2, 2]), (195, .return_, 196, [0])] := dk_ck (by decide +kernel)
set_option maxRecDepth 4096 in
theorem w_Ro_clause {nl : Bool} {Ln : Nat} {xs : Nat → Int32} {d : Nat} {this : Nat} {p0 : Int32} {σ : am_S} {F : am_S → Prop} (h : (am_is σ (some this) 13) ∧ (am_ar σ 1000 (am_fR σ 13029 this) p0) ∧ ∀ σ3, σ3 = am_saI σ ((am_fR σ 13029 this).getD 0) p0.toNatClampNeg (0 : Int32) → (am_ar σ3 1000 (am_fR σ3 13030 this) p0) ∧ ∀ σ7, σ7 = am_saI σ3 ((am_fR σ3 13030 this).getD 0) p0.toNatClampNeg (-1 : Int32) → k_Ro_isWord nl Ln xs d this (some 21) σ7 (fun a11 σ10 => am_ext σ7 σ10 → (a11 = true → c_Ro_clause_36 nl Ln xs (d + 1) this p0 (if a11 = true then (1 : Int32) else 0) σ10 F) ∧ (¬ (a11 = true) → k_Ro_isWord nl Ln xs d this (some 9) σ10 (fun a14 σ13 => am_ext σ10 σ13 → (a14 = true → c_Ro_clause_36 nl Ln xs (d + 1) this p0 (if a11 = true then (1 : Int32) else 0) σ13 F) ∧ (¬ (a14 = true) → k_Ro_takes nl Ln xs d this (some 11) σ13 (fun a17 σ16 => am_ext σ13 σ16 → (a17 = true → (am_ar σ16 1000 (am_fR σ16 13028 this) p0) ∧ ∀ σ20, σ20 = am_saI σ16 ((am_fR σ16 13028 this).getD 0) p0.toNatClampNeg (8 : Int32) → k_Ro_needs nl Ln xs d this (59 : Int32) σ20 (fun σ23 => am_ext σ20 σ23 → F σ23)) ∧ (¬ (a17 = true) → k_Ro_takes nl Ln xs d this (some 31) σ16 (fun a26 σ25 => am_ext σ16 σ25 → (a26 = true → k_Ro_takes nl Ln xs d this (some 32) σ25 (fun a29 σ28 => am_ext σ25 σ28 → ∀ w32 : Int32, w32 = (if a29 = true then (10 : Int32) else (11 : Int32)) → c_Ro_clause_143 nl Ln xs (d + 1) this p0 (if a11 = true then (1 : Int32) else 0) (if a29 = true then (1 : Int32) else 0) (am_fR σ28 13028 this) p0 w32 σ28 F)) ∧ (¬ (a26 = true) → k_Ro_numbered nl Ln xs d this σ25 (fun a35 σ34 => am_ext σ25 σ34 → (am_ar σ34 1000 (am_fR σ25 13028 this) p0) ∧ ∀ σ37, σ37 = am_saI σ34 ((am_fR σ25 13028 this).getD 0) p0.toNatClampNeg a35 → k_Ro_needsNumber nl Ln xs d this σ37 (fun a41 σ40 => am_ext σ37 σ40 → (am_ar σ40 1000 (am_fR σ37 13029 this) p0) ∧ ∀ σ43, σ43 = am_saI σ40 ((am_fR σ37 13029 this).getD 0) p0.toNatClampNeg a41 → k_Ro_needs nl Ln xs d this (59 : Int32) σ43 (fun σ46 => am_ext σ43 σ46 → F σ46)))))))))))) : k_Ro_clause nl Ln xs (d + 1) this p0 σ F := by
  obtain ⟨j0, j1, j4, j5, j6, j7, j8, j11, j12, j13, j14, j15, j18, j21, j22, j23, j26, j27, j30, j33, j88, j89, j92, j95, j98, j99, j102, j103, j105, j106, j109, j110, j113, j116, j119, j120, j123, j126, j127, j128, j131, j132, j133, j136, j138, j141, j169, j170, j173, j174, j175, j178, j179, j180, j183, j184, j185, j188, j189, j190, j192, j195, -⟩ := P_Ro_clause nl Ln xs
  have elo : am_lo 4 [am_ov (some this), .int p0] = [some (am_ov (some this)), some (.int p0), none, none] := by simp only [am_lo, am_in_ov, am_in_int, am_in_long, am_in_nil]; rfl
  unfold k_Ro_clause
  rw [elo]
  refine s_aload_n j0 rfl rfl ?_
  obtain ⟨ho1, h⟩ := h
  refine s_gfR j1 rfl ho1 ?_
  refine s_iload_n j4 rfl rfl ?_
  refine s_iconst j5 rfl kc_ic_0 ?_
  obtain ⟨ho2, h⟩ := h
  refine s_iastore j6 rfl ho2 (fun σ3 e4 => ?_)
  replace h := h σ3 e4
  have ek5 : am_kd σ3 = am_kd σ := by rw [e4]
  refine s_aload_n j7 rfl rfl ?_
  refine s_gfR j8 rfl (am_is_kd ek5 ho1) ?_
  refine s_iload_n j11 rfl rfl ?_
  refine s_iconst j12 rfl kc_ic_m1 ?_
  obtain ⟨ho6, h⟩ := h
  refine s_iastore j13 rfl ho6 (fun σ7 e8 => ?_)
  replace h := h σ7 e8
  have ek9 : am_kd σ7 = am_kd σ3 := by rw [e8]
  refine s_aload_n j14 rfl rfl ?_
  refine s_ldc_wS j15 rfl ?_
  refine s_virt j18 rfl rfl rfl rfl (am_is_kd ek9 (am_is_kd ek5 ho1)) (by decide) (in_Ro_isWord _ _) (am_r8 rfl) (am_bB h (fun a11 σ10 h hx10 => ?_))
  replace h := h hx10
  refine s_istore_n j21 rfl (n := 4) (L' := [some (am_ov (some this)), some (.int p0), some (.int (if a11 = true then (1 : Int32) else 0)), none]) rfl (by decide) rfl ?_
  refine s_iload_n j22 rfl rfl ?_
  refine s_if j23 rfl rfl am_cb_ne (fun hc12 => ?_) (fun hc12 => ?_)
  · replace h := h.1 hc12
    exact h
  · replace h := h.2 hc12
    refine s_aload_n j26 rfl rfl ?_
    refine s_ldc_wS j27 rfl ?_
    refine s_virt j30 rfl rfl rfl rfl (am_is_ext hx10 (am_is_kd ek9 (am_is_kd ek5 ho1))) (by decide) (in_Ro_isWord _ _) (am_r8 rfl) (am_bB h (fun a14 σ13 h hx13 => ?_))
    replace h := h hx13
    refine s_ifn j33 rfl rfl am_cb_eq (fun hc15 => ?_) (fun hc15 => ?_)
    · replace h := h.2 hc15
      refine s_aload_n j88 rfl rfl ?_
      refine s_ldc_wS j89 rfl ?_
      refine s_virt j92 rfl rfl rfl rfl (am_is_ext hx13 (am_is_ext hx10 (am_is_kd ek9 (am_is_kd ek5 ho1)))) (by decide) (in_Ro_takes _ _) (am_r8 rfl) (am_bB h (fun a17 σ16 h hx16 => ?_))
      replace h := h hx16
      refine s_ifn j95 rfl rfl am_cb_eq (fun hc18 => ?_) (fun hc18 => ?_)
      · replace h := h.2 hc18
        refine s_aload_n j109 rfl rfl ?_
        refine s_ldc_wS j110 rfl ?_
        refine s_virt j113 rfl rfl rfl rfl (am_is_ext hx16 (am_is_ext hx13 (am_is_ext hx10 (am_is_kd ek9 (am_is_kd ek5 ho1))))) (by decide) (in_Ro_takes _ _) (am_r8 rfl) (am_bB h (fun a26 σ25 h hx25 => ?_))
        replace h := h hx25
        refine s_ifn j116 rfl rfl am_cb_eq (fun hc27 => ?_) (fun hc27 => ?_)
        · replace h := h.2 hc27
          refine s_aload_n j169 rfl rfl ?_
          refine s_gfR j170 rfl (am_is_ext hx25 (am_is_ext hx16 (am_is_ext hx13 (am_is_ext hx10 (am_is_kd ek9 (am_is_kd ek5 ho1)))))) ?_
          refine s_iload_n j173 rfl rfl ?_
          refine s_aload_n j174 rfl rfl ?_
          refine s_virt j175 rfl rfl rfl rfl (am_is_ext hx25 (am_is_ext hx16 (am_is_ext hx13 (am_is_ext hx10 (am_is_kd ek9 (am_is_kd ek5 ho1)))))) (by decide) (in_Ro_numbered _) (am_r8 rfl) (am_bI h (fun a35 σ34 h hx34 => ?_))
          replace h := h hx34
          obtain ⟨ho36, h⟩ := h
          refine s_iastore j178 rfl ho36 (fun σ37 e38 => ?_)
          replace h := h σ37 e38
          have ek39 : am_kd σ37 = am_kd σ34 := by rw [e38]
          refine s_aload_n j179 rfl rfl ?_
          refine s_gfR j180 rfl (am_is_kd ek39 (am_is_ext hx34 (am_is_ext hx25 (am_is_ext hx16 (am_is_ext hx13 (am_is_ext hx10 (am_is_kd ek9 (am_is_kd ek5 ho1)))))))) ?_
          refine s_iload_n j183 rfl rfl ?_
          refine s_aload_n j184 rfl rfl ?_
          refine s_virt j185 rfl rfl rfl rfl (am_is_kd ek39 (am_is_ext hx34 (am_is_ext hx25 (am_is_ext hx16 (am_is_ext hx13 (am_is_ext hx10 (am_is_kd ek9 (am_is_kd ek5 ho1)))))))) (by decide) (in_Ro_needsNumber _) (am_r8 rfl) (am_bI h (fun a41 σ40 h hx40 => ?_))
          replace h := h hx40
          obtain ⟨ho42, h⟩ := h
          refine s_iastore j188 rfl ho42 (fun σ43 e44 => ?_)
          replace h := h σ43 e44
          have ek45 : am_kd σ43 = am_kd σ40 := by rw [e44]
          refine s_aload_n j189 rfl rfl ?_
          refine s_bipush j190 rfl kc_bi_59 ?_
          refine s_virt j192 rfl rfl rfl rfl (am_is_kd ek45 (am_is_ext hx40 (am_is_kd ek39 (am_is_ext hx34 (am_is_ext hx25 (am_is_ext hx16 (am_is_ext hx13 (am_is_ext hx10 (am_is_kd ek9 (am_is_kd ek5 ho1)))))))))) (by decide) (in_Ro_needs _ _) (am_r8 rfl) (am_bV h (fun σ46 h hx46 => ?_))
          replace h := h hx46
          exact s_retV j195 rfl h
        · replace h := h.1 hc27
          refine s_aload_n j119 rfl rfl ?_
          refine s_ldc_wS j120 rfl ?_
          refine s_virt j123 rfl rfl rfl rfl (am_is_ext hx25 (am_is_ext hx16 (am_is_ext hx13 (am_is_ext hx10 (am_is_kd ek9 (am_is_kd ek5 ho1)))))) (by decide) (in_Ro_takes _ _) (am_r8 rfl) (am_bB h (fun a29 σ28 h hx28 => ?_))
          replace h := h hx28
          refine s_istore_n j126 rfl (n := 4) (L' := [some (am_ov (some this)), some (.int p0), some (.int (if a11 = true then (1 : Int32) else 0)), some (.int (if a29 = true then (1 : Int32) else 0))]) rfl (by decide) rfl ?_
          refine s_aload_n j127 rfl rfl ?_
          refine s_gfR j128 rfl (am_is_ext hx28 (am_is_ext hx25 (am_is_ext hx16 (am_is_ext hx13 (am_is_ext hx10 (am_is_kd ek9 (am_is_kd ek5 ho1))))))) ?_
          refine s_iload_n j131 rfl rfl ?_
          refine s_iload_n j132 rfl rfl ?_
          have K31 : ∀ (w32 : Int32), w32 = (if a29 = true then (10 : Int32) else (11 : Int32)) → am_C (TT nl Ln xs) (d + 1) 278 143 [some (am_ov (some this)), some (.int p0), some (.int (if a11 = true then (1 : Int32) else 0)), some (.int (if a29 = true then (1 : Int32) else 0))] [.int w32, .int p0, am_ov (am_fR σ28 13028 this)] σ28 (am_qV F) := by
            intro w32 hw33
            replace h := h w32 hw33
            exact h
          refine s_ifn j133 rfl rfl am_cb_eq (fun hc30 => ?_) (fun hc30 => ?_)
          · refine s_bipush j141 rfl kc_bi_11 ?_
            exact K31 _ (am_t2 hc30 rfl)
          · refine s_bipush j136 rfl kc_bi_10 ?_
            refine s_goto j138 rfl rfl ?_
            exact K31 _ (am_t1 hc30 rfl)
      · replace h := h.1 hc18
        refine s_aload_n j98 rfl rfl ?_
        refine s_gfR j99 rfl (am_is_ext hx16 (am_is_ext hx13 (am_is_ext hx10 (am_is_kd ek9 (am_is_kd ek5 ho1))))) ?_
        refine s_iload_n j102 rfl rfl ?_
        refine s_bipush j103 rfl kc_bi_8 ?_
        obtain ⟨ho19, h⟩ := h
        refine s_iastore j105 rfl ho19 (fun σ20 e21 => ?_)
        replace h := h σ20 e21
        have ek22 : am_kd σ20 = am_kd σ16 := by rw [e21]
        refine s_goto j106 rfl rfl ?_
        refine s_aload_n j189 rfl rfl ?_
        refine s_bipush j190 rfl kc_bi_59 ?_
        refine s_virt j192 rfl rfl rfl rfl (am_is_kd ek22 (am_is_ext hx16 (am_is_ext hx13 (am_is_ext hx10 (am_is_kd ek9 (am_is_kd ek5 ho1)))))) (by decide) (in_Ro_needs _ _) (am_r8 rfl) (am_bV h (fun σ23 h hx23 => ?_))
        replace h := h hx23
        exact s_retV j195 rfl h
    · replace h := h.1 hc15
      exact h
theorem P_Ro_clause_36 (nl : Bool) (Ln : Nat) (xs : Nat → Int32) : am_Jl (TT nl Ln xs) 278 [(36, .aload_n 0, 37, []), (37, .invokevirtual 668, 40, [10, 276, 14, 2, 1]), (40, .aload_n 0, 41, []), (41, .getfield 77, 44, [9, 13, 28, 2]), (44, .iload_n 1, 45, []), (45, .iload_n 2, 46, []), (46, .ifCond .eq 7, 49, []), (49, .iconst 0, 50, []), (50, .goto 4, 53, []), (53, .iconst 1, 54, [])] := dk_ck (by decide +kernel)
set_option maxRecDepth 4096 in
theorem w_Ro_clause_36 {nl : Bool} {Ln : Nat} {xs : Nat → Int32} {d : Nat} {this : Nat} {x1 : Int32} {x2 : Int32} {σ : am_S} {F : am_S → Prop} (h : (am_is σ (some this) 13) ∧ k_Ro_step nl Ln xs d this σ (fun σ2 => am_ext σ σ2 → c_Ro_clause_54 nl Ln xs (d + 1) this x1 x2 (am_fR σ2 13028 this) x1 (if x2 = 0 then (1 : Int32) else 0) σ2 F)) : c_Ro_clause_36 nl Ln xs (d + 1) this x1 x2 σ F := by
  obtain ⟨j36, j37, j40, j41, j44, j45, j46, j49, j50, j53, -⟩ := P_Ro_clause_36 nl Ln xs
  unfold c_Ro_clause_36
  refine s_aload_n j36 rfl rfl ?_
  obtain ⟨ho1, h⟩ := h
  refine s_virt j37 rfl rfl rfl rfl ho1 (by decide) (in_Ro_step _) (am_r8 rfl) (am_bV h (fun σ2 h hx2 => ?_))
  replace h := h hx2
  refine s_aload_n j40 rfl rfl ?_
  refine s_gfR j41 rfl (am_is_ext hx2 ho1) ?_
  refine s_iload_n j44 rfl rfl ?_
  refine s_iload_n j45 rfl rfl ?_
  have K5 : ∀ (w6 : Int32), w6 = (if x2 = 0 then (1 : Int32) else 0) → am_C (TT nl Ln xs) (d + 1) 278 54 [some (am_ov (some this)), some (.int x1), some (.int x2), none] [.int w6, .int x1, am_ov (am_fR σ2 13028 this)] σ2 (am_qV F) := by
    intro w6 hw7
    subst hw7
    exact h
  refine s_if j46 rfl rfl am_cc_eq (fun hc4 => ?_) (fun hc4 => ?_)
  · refine s_iconst j53 rfl kc_ic_1 ?_
    exact K5 _ (am_e1 (Iff.trans Iff.rfl (am_p9 hc4)))
  · refine s_iconst j49 rfl kc_ic_0 ?_
    refine s_goto j50 rfl rfl ?_
    exact K5 _ (am_e0 (Iff.trans Iff.rfl (am_p10 hc4)))
theorem P_Ro_clause_54 (nl : Bool) (Ln : Nat) (xs : Nat → Int32) : am_Jl (TT nl Ln xs) 278 [(54, .iastore, 55, []), (55, .aload_n 0, 56, []), (56, .getfield 80, 59, [9, 13, 29, 2]), (59, .iload_n 1, 60, []), (60, .aload_n 0, 61, []), (61, .invokevirtual 717, 64, [10, 280, 14, 2, 1]), (64, .iastore, 65, []), (65, .aload_n 0, 66, []), (66, .ldc_w 723, 69, [5, 22]), (69, .invokevirtual 678, 72, [10, 281, 14, 3, 2]), (72, .ifCond .eq 117, 75, []), (75, .aload_n 0, 76, []), (76, .getfield 83, 79, [9, 13, 30, 2]), (79, .iload_n 1, 80, []), (80, .aload_n 0, 81, []), (81, .invokevirtual 701, 84, [10, 282, 14, 2, 1]), (84, .iastore, 85, []), (85, .goto 104, 88, []), (189, .aload_n 0, 190, []), (190, .bipush 59, 192, []), (192, .invokevirtual 704, 195, [10, 287, 14, 2, 2]), (195, .return_, 196, [0])] := dk_ck (by decide +kernel)
set_option maxRecDepth 4096 in
theorem w_Ro_clause_54 {nl : Bool} {Ln : Nat} {xs : Nat → Int32} {d : Nat} {this : Nat} {x1 : Int32} {x2 : Int32} {y0 : Option Nat} {y1 : Int32} {y2 : Int32} {σ : am_S} {F : am_S → Prop} (h : (am_ar σ 1000 y0 y1) ∧ ∀ σ2, σ2 = am_saI σ (y0.getD 0) y1.toNatClampNeg y2 → (am_is σ2 (some this) 13) ∧ k_Ro_needsKind nl Ln xs d this σ2 (fun a7 σ6 => am_ext σ2 σ6 → (am_ar σ6 1000 (am_fR σ2 13029 this) x1) ∧ ∀ σ9, σ9 = am_saI σ6 ((am_fR σ2 13029 this).getD 0) x1.toNatClampNeg a7 → k_Ro_takes nl Ln xs d this (some 22) σ9 (fun a13 σ12 => am_ext σ9 σ12 → (a13 = true → k_Ro_cond nl Ln xs d this σ12 (fun a16 σ15 => am_ext σ12 σ15 → (am_ar σ15 1000 (am_fR σ12 13030 this) x1) ∧ ∀ σ18, σ18 = am_saI σ15 ((am_fR σ12 13030 this).getD 0) x1.toNatClampNeg a16 → k_Ro_needs nl Ln xs d this (59 : Int32) σ18 (fun σ21 => am_ext σ18 σ21 → F σ21))) ∧ (¬ (a13 = true) → k_Ro_needs nl Ln xs d this (59 : Int32) σ12 (fun σ23 => am_ext σ12 σ23 → F σ23))))) : c_Ro_clause_54 nl Ln xs (d + 1) this x1 x2 y0 y1 y2 σ F := by
  obtain ⟨j54, j55, j56, j59, j60, j61, j64, j65, j66, j69, j72, j75, j76, j79, j80, j81, j84, j85, j189, j190, j192, j195, -⟩ := P_Ro_clause_54 nl Ln xs
  unfold c_Ro_clause_54
  obtain ⟨ho1, h⟩ := h
  refine s_iastore j54 rfl ho1 (fun σ2 e3 => ?_)
  replace h := h σ2 e3
  have ek4 : am_kd σ2 = am_kd σ := by rw [e3]
  refine s_aload_n j55 rfl rfl ?_
  obtain ⟨ho5, h⟩ := h
  refine s_gfR j56 rfl ho5 ?_
  refine s_iload_n j59 rfl rfl ?_
  refine s_aload_n j60 rfl rfl ?_
  refine s_virt j61 rfl rfl rfl rfl ho5 (by decide) (in_Ro_needsKind _) (am_r8 rfl) (am_bI h (fun a7 σ6 h hx6 => ?_))
  replace h := h hx6
  obtain ⟨ho8, h⟩ := h
  refine s_iastore j64 rfl ho8 (fun σ9 e10 => ?_)
  replace h := h σ9 e10
  have ek11 : am_kd σ9 = am_kd σ6 := by rw [e10]
  refine s_aload_n j65 rfl rfl ?_
  refine s_ldc_wS j66 rfl ?_
  refine s_virt j69 rfl rfl rfl rfl (am_is_kd ek11 (am_is_ext hx6 ho5)) (by decide) (in_Ro_takes _ _) (am_r8 rfl) (am_bB h (fun a13 σ12 h hx12 => ?_))
  replace h := h hx12
  refine s_ifn j72 rfl rfl am_cb_eq (fun hc14 => ?_) (fun hc14 => ?_)
  · replace h := h.2 hc14
    refine s_aload_n j189 rfl rfl ?_
    refine s_bipush j190 rfl kc_bi_59 ?_
    refine s_virt j192 rfl rfl rfl rfl (am_is_ext hx12 (am_is_kd ek11 (am_is_ext hx6 ho5))) (by decide) (in_Ro_needs _ _) (am_r8 rfl) (am_bV h (fun σ23 h hx23 => ?_))
    replace h := h hx23
    exact s_retV j195 rfl h
  · replace h := h.1 hc14
    refine s_aload_n j75 rfl rfl ?_
    refine s_gfR j76 rfl (am_is_ext hx12 (am_is_kd ek11 (am_is_ext hx6 ho5))) ?_
    refine s_iload_n j79 rfl rfl ?_
    refine s_aload_n j80 rfl rfl ?_
    refine s_virt j81 rfl rfl rfl rfl (am_is_ext hx12 (am_is_kd ek11 (am_is_ext hx6 ho5))) (by decide) (in_Ro_cond _) (am_r8 rfl) (am_bI h (fun a16 σ15 h hx15 => ?_))
    replace h := h hx15
    obtain ⟨ho17, h⟩ := h
    refine s_iastore j84 rfl ho17 (fun σ18 e19 => ?_)
    replace h := h σ18 e19
    have ek20 : am_kd σ18 = am_kd σ15 := by rw [e19]
    refine s_goto j85 rfl rfl ?_
    refine s_aload_n j189 rfl rfl ?_
    refine s_bipush j190 rfl kc_bi_59 ?_
    refine s_virt j192 rfl rfl rfl rfl (am_is_kd ek20 (am_is_ext hx15 (am_is_ext hx12 (am_is_kd ek11 (am_is_ext hx6 ho5))))) (by decide) (in_Ro_needs _ _) (am_r8 rfl) (am_bV h (fun σ21 h hx21 => ?_))
    replace h := h hx21
    exact s_retV j195 rfl h
theorem P_Ro_clause_143 (nl : Bool) (Ln : Nat) (xs : Nat → Int32) : am_Jl (TT nl Ln xs) 278 [(143, .iastore, 144, []), (144, .iload_n 3, 145, []), (145, .ifCond .ne 21, 148, []), (148, .aload_n 0, 149, []), (149, .ldc_w 730, 152, [5, 33]), (152, .invokevirtual 678, 155, [10, 281, 14, 3, 2]), (155, .ifCond .ne 11, 158, []), (158, .aload_n 0, 159, []), (159, .aload_n 0, 160, []), (160, .getfield 630, 163, [9, 13, 93, 0]), (163, .invokevirtual 671, 166, [10, 277, 14, 2, 2])] := dk_ck (by decide +kernel)
set_option maxRecDepth 4096 in
theorem w_Ro_clause_143 {nl : Bool} {Ln : Nat} {xs : Nat → Int32} {d : Nat} {this : Nat} {x1 : Int32} {x2 : Int32} {x3 : Int32} {y0 : Option Nat} {y1 : Int32} {y2 : Int32} {σ : am_S} {F : am_S → Prop} (h : (am_ar σ 1000 y0 y1) ∧ ∀ σ2, σ2 = am_saI σ (y0.getD 0) y1.toNatClampNeg y2 → (x3 = 0 → (am_is σ2 (some this) 13) ∧ k_Ro_takes nl Ln xs d this (some 33) σ2 (fun a8 σ7 => am_ext σ2 σ7 → (a8 = true → c_Ro_clause_166 nl Ln xs (d + 1) this x1 x2 x3 σ7 F) ∧ (¬ (a8 = true) → k_Ro_wrong nl Ln xs d this (am_fI σ7 13093 this) σ7 (fun σ10 => am_ext σ7 σ10 → c_Ro_clause_166 nl Ln xs (d + 1) this x1 x2 x3 σ10 F)))) ∧ (¬ (x3 = 0) → c_Ro_clause_166 nl Ln xs (d + 1) this x1 x2 x3 σ2 F)) : c_Ro_clause_143 nl Ln xs (d + 1) this x1 x2 x3 y0 y1 y2 σ F := by
  obtain ⟨j143, j144, j145, j148, j149, j152, j155, j158, j159, j160, j163, -⟩ := P_Ro_clause_143 nl Ln xs
  unfold c_Ro_clause_143
  obtain ⟨ho1, h⟩ := h
  refine s_iastore j143 rfl ho1 (fun σ2 e3 => ?_)
  replace h := h σ2 e3
  have ek4 : am_kd σ2 = am_kd σ := by rw [e3]
  refine s_iload_n j144 rfl rfl ?_
  refine s_ifn j145 rfl rfl am_cc_ne (fun hc5 => ?_) (fun hc5 => ?_)
  · replace h := h.2 hc5
    exact h
  · replace h := h.1 hc5
    refine s_aload_n j148 rfl rfl ?_
    refine s_ldc_wS j149 rfl ?_
    obtain ⟨ho6, h⟩ := h
    refine s_virt j152 rfl rfl rfl rfl ho6 (by decide) (in_Ro_takes _ _) (am_r8 rfl) (am_bB h (fun a8 σ7 h hx7 => ?_))
    replace h := h hx7
    refine s_if j155 rfl rfl am_cb_ne (fun hc9 => ?_) (fun hc9 => ?_)
    · replace h := h.1 hc9
      exact h
    · replace h := h.2 hc9
      refine s_aload_n j158 rfl rfl ?_
      refine s_aload_n j159 rfl rfl ?_
      refine s_gfI j160 rfl (am_is_ext hx7 ho6) ?_
      refine s_virt j163 rfl rfl rfl rfl (am_is_ext hx7 ho6) (by decide) (in_Ro_wrong _ _) (am_r8 rfl) (am_bV h (fun σ10 h hx10 => ?_))
      replace h := h hx10
      exact h
theorem P_Ro_clause_166 (nl : Bool) (Ln : Nat) (xs : Nat → Int32) : am_Jl (TT nl Ln xs) 278 [(166, .goto 23, 169, []), (189, .aload_n 0, 190, []), (190, .bipush 59, 192, []), (192, .invokevirtual 704, 195, [10, 287, 14, 2, 2]), (195, .return_, 196, [0])] := dk_ck (by decide +kernel)
set_option maxRecDepth 4096 in
theorem w_Ro_clause_166 {nl : Bool} {Ln : Nat} {xs : Nat → Int32} {d : Nat} {this : Nat} {x1 : Int32} {x2 : Int32} {x3 : Int32} {σ : am_S} {F : am_S → Prop} (h : (am_is σ (some this) 13) ∧ k_Ro_needs nl Ln xs d this (59 : Int32) σ (fun σ2 => am_ext σ σ2 → F σ2)) : c_Ro_clause_166 nl Ln xs (d + 1) this x1 x2 x3 σ F := by
  obtain ⟨j166, j189, j190, j192, j195, -⟩ := P_Ro_clause_166 nl Ln xs
  unfold c_Ro_clause_166
  refine s_goto j166 rfl rfl ?_
  refine s_aload_n j189 rfl rfl ?_
  refine s_bipush j190 rfl kc_bi_59 ?_
  obtain ⟨ho1, h⟩ := h
  refine s_virt j192 rfl rfl rfl rfl ho1 (by decide) (in_Ro_needs _ _) (am_r8 rfl) (am_bV h (fun σ2 h hx2 => ?_))
  replace h := h hx2
  exact s_retV j195 rfl h
theorem P_Ro_isWord (nl : Bool) (Ln : Nat) (xs : Nat → Int32) : am_Jl (TT nl Ln xs) 279 [(0, .aload_n 0, 1, []), (1, .getfield 633, 4, [9, 13, 94, 0]), (4, .iconst 1, 5, []), (5, .if_icmp .ne 23, 8, []), (8, .aload_n 0, 9, []), (9, .getfield 649, 12, [9, 13, 95, 0]), (12, .aload_n 0, 13, []), (13, .getfield 630, 16, [9, 13, 93, 0]), (16, .isub, 17, []), (17, .aload_n 1, 18, []), (18, .invokevirtual 655, 21, [10, 157, 0, 1, 1]), (21, .if_icmp .ne 7, 24, []), (24, .iconst 1, 25, []), (25, .goto 4, 28, []), (28, .iconst 0, 29, []), (29, .istore_n 2, 30, []), (30, .iconst 0, 31, []), (31, .istore_n 3, 32, [])] := dk_ck (by decide +kernel)
set_option maxRecDepth 4096 in
theorem w_Ro_isWord {nl : Bool} {Ln : Nat} {xs : Nat → Int32} {d : Nat} {this : Nat} {p0 : Option Nat} {σ : am_S} {F : Bool → am_S → Prop} (h : (am_is σ (some this) 13) ∧ ((am_fI σ 13094 this) = (1 : Int32) → (∃ n, p0 = some n) ∧ ((p0.getD 0) < 200 ∧ am_rk (am_tz (TT nl Ln xs)) (p0.getD 0) = 1) ∧ k_Str_length nl Ln xs d (p0.getD 0) σ (fun a6 σ5 => am_ext σ σ5 → c_Ro_isWord_32 nl Ln xs (d + 1) this p0 (if ((am_fI σ 13095 this) - (am_fI σ 13093 this)) = a6 then (1 : Int32) else 0) (0 : Int32) σ5 F)) ∧ (¬ ((am_fI σ 13094 this) = (1 : Int32)) → c_Ro_isWord_32 nl Ln xs (d + 1) this p0 (0 : Int32) (0 : Int32) σ F)) : k_Ro_isWord nl Ln xs (d + 1) this p0 σ F := by
  obtain ⟨j0, j1, j4, j5, j8, j9, j12, j13, j16, j17, j18, j21, j24, j25, j28, j29, j30, j31, -⟩ := P_Ro_isWord nl Ln xs
  have elo : am_lo 4 [am_ov (some this), am_ov p0] = [some (am_ov (some this)), some (am_ov p0), none, none] := by simp only [am_lo, am_in_ov, am_in_int, am_in_long, am_in_nil]; rfl
  unfold k_Ro_isWord
  rw [elo]
  refine s_aload_n j0 rfl rfl ?_
  obtain ⟨ho1, h⟩ := h
  refine s_gfI j1 rfl ho1 ?_
  refine s_iconst j4 rfl kc_ic_1 ?_
  refine s_icn j5 rfl rfl am_cc_ne (fun hc2 => ?_) (fun hc2 => ?_)
  · replace h := h.2 hc2
    refine s_iconst j28 rfl kc_ic_0 ?_
    refine s_istore_n j29 rfl (n := 4) (L' := [some (am_ov (some this)), some (am_ov p0), some (.int (0 : Int32)), none]) rfl (by decide) (am_st1_R [_] _ _ _ _) ?_
    refine s_iconst j30 rfl kc_ic_0 ?_
    refine s_istore_n j31 rfl (n := 4) (L' := [some (am_ov (some this)), some (am_ov p0), some (.int (0 : Int32)), some (.int (0 : Int32))]) rfl (by decide) rfl ?_
    exact h
  · replace h := h.1 hc2
    refine s_aload_n j8 rfl rfl ?_
    refine s_gfI j9 rfl ho1 ?_
    refine s_aload_n j12 rfl rfl ?_
    refine s_gfI j13 rfl ho1 ?_
    refine s_g j16 rfl rfl rfl rfl rfl rfl ?_
    refine s_aload_n j17 rfl rfl ?_
    obtain ⟨ho4, h⟩ := h
    obtain ⟨ho3, h⟩ := h
    refine s_virtS2 j18 rfl rfl rfl rfl ho4 ho3 (by decide) (in_Str_length _) (am_r8 rfl) (am_bI h (fun a6 σ5 h hx5 => ?_))
    replace h := h hx5
    have K8 : ∀ (w9 : Int32), w9 = (if ((am_fI σ 13095 this) - (am_fI σ 13093 this)) = a6 then (1 : Int32) else 0) → am_C (TT nl Ln xs) (d + 1) 279 29 [some (am_ov (some this)), some (am_ov p0), none, none] [.int w9] σ5 (am_qB F) := by
      intro w9 hw10
      subst hw10
      refine s_istore_n j29 rfl (n := 4) (L' := [some (am_ov (some this)), some (am_ov p0), some (.int (if ((am_fI σ 13095 this) - (am_fI σ 13093 this)) = a6 then (1 : Int32) else 0)), none]) rfl (by decide) (am_st1_R [_] _ _ _ _) ?_
      refine s_iconst j30 rfl kc_ic_0 ?_
      refine s_istore_n j31 rfl (n := 4) (L' := [some (am_ov (some this)), some (am_ov p0), some (.int (if ((am_fI σ 13095 this) - (am_fI σ 13093 this)) = a6 then (1 : Int32) else 0)), some (.int (0 : Int32))]) rfl (by decide) rfl ?_
      exact h
    refine s_icn j21 rfl rfl am_cc_ne (fun hc7 => ?_) (fun hc7 => ?_)
    · refine s_iconst j28 rfl kc_ic_0 ?_
      exact K8 _ (am_e0 (Iff.trans Iff.rfl (am_p10 hc7)))
    · refine s_iconst j24 rfl kc_ic_1 ?_
      refine s_goto j25 rfl rfl ?_
      exact K8 _ (am_e1 (Iff.trans Iff.rfl (am_p9 hc7)))
theorem P_Ro_isWord_32 (nl : Bool) (Ln : Nat) (xs : Nat → Int32) : am_Jl (TT nl Ln xs) 279 [(32, .iload_n 3, 33, []), (33, .aload_n 1, 34, []), (34, .invokevirtual 655, 37, [10, 157, 0, 1, 1]), (37, .if_icmp .ge 38, 40, []), (40, .iload_n 2, 41, []), (41, .ifCond .eq 34, 44, []), (44, .aload_n 0, 45, []), (45, .getfield 203, 48, [9, 13, 90, 2]), (48, .aload_n 0, 49, []), (49, .getfield 630, 52, [9, 13, 93, 0]), (52, .iload_n 3, 53, []), (53, .iadd, 54, []), (54, .iaload, 55, []), (55, .aload_n 1, 56, []), (56, .iload_n 3, 57, []), (57, .invokevirtual 660, 60, [10, 87, 0, 2, 2]), (60, .if_icmp .ne 7, 63, []), (63, .iconst 1, 64, []), (64, .goto 4, 67, []), (67, .iconst 0, 68, []), (68, .istore_n 2, 69, []), (69, .iinc 3 1, 72, []), (72, .goto (-40), 75, []), (75, .iload_n 2, 76, []), (76, .ireturn, 77, [4])] := dk_ck (by decide +kernel)
set_option maxRecDepth 4096 in
theorem w_Ro_isWord_32 {nl : Bool} {Ln : Nat} {xs : Nat → Int32} {d : Nat} {this : Nat} {x1 : Option Nat} {x2 : Int32} {x3 : Int32} {σ : am_S} {F : Bool → am_S → Prop} (h : (∃ n, x1 = some n) ∧ ((x1.getD 0) < 200 ∧ am_rk (am_tz (TT nl Ln xs)) (x1.getD 0) = 1) ∧ k_Str_length nl Ln xs d (x1.getD 0) σ (fun a4 σ3 => am_ext σ σ3 → (x3 < a4 → (x2 = 0 → (x2 = 0 ∨ x2 = 1) ∧ F (decide (x2 = 1)) σ3) ∧ (¬ (x2 = 0) → (am_is σ3 (some this) 13) ∧ (am_ar σ3 1000 (am_fR σ3 13090 this) ((am_fI σ3 13093 this) + x3)) ∧ (∃ n, x1 = some n) ∧ ((x1.getD 0) < 200 ∧ am_rk (am_tz (TT nl Ln xs)) (x1.getD 0) = 1) ∧ k_Str_charAt nl Ln xs d (x1.getD 0) x3 σ3 (fun a13 σ12 => am_ext σ3 σ12 → c_Ro_isWord_32 nl Ln xs (d + 1) this x1 (if (am_aI σ3 ((am_fR σ3 13090 this).getD 0) ((am_fI σ3 13093 this) + x3).toNatClampNeg) = a13 then (1 : Int32) else 0) (x3 + (1 : Int32)) σ12 F))) ∧ (¬ (x3 < a4) → (x2 = 0 ∨ x2 = 1) ∧ F (decide (x2 = 1)) σ3))) : c_Ro_isWord_32 nl Ln xs (d + 1) this x1 x2 x3 σ F := by
  obtain ⟨j32, j33, j34, j37, j40, j41, j44, j45, j48, j49, j52, j53, j54, j55, j56, j57, j60, j63, j64, j67, j68, j69, j72, j75, j76, -⟩ := P_Ro_isWord_32 nl Ln xs
  unfold c_Ro_isWord_32
  refine s_iload_n j32 rfl rfl ?_
  refine s_aload_n j33 rfl rfl ?_
  obtain ⟨ho2, h⟩ := h
  obtain ⟨ho1, h⟩ := h
  refine s_virtS2 j34 rfl rfl rfl rfl ho2 ho1 (by decide) (in_Str_length _) (am_r8 rfl) (am_bI h (fun a4 σ3 h hx3 => ?_))
  replace h := h hx3
  refine s_icn j37 rfl rfl am_cc_ge (fun hc5 => ?_) (fun hc5 => ?_)
  · replace h := h.2 hc5
    refine s_iload_n j75 rfl rfl ?_
    obtain ⟨ho18, h⟩ := h
    exact s_retZf j76 rfl ho18 h
  · replace h := h.1 hc5
    refine s_iload_n j40 rfl rfl ?_
    refine s_if j41 rfl rfl am_cc_eq (fun hc6 => ?_) (fun hc6 => ?_)
    · replace h := h.1 hc6
      refine s_iload_n j75 rfl rfl ?_
      obtain ⟨ho7, h⟩ := h
      exact s_retZf j76 rfl ho7 h
    · replace h := h.2 hc6
      refine s_aload_n j44 rfl rfl ?_
      obtain ⟨ho8, h⟩ := h
      refine s_gfR j45 rfl ho8 ?_
      refine s_aload_n j48 rfl rfl ?_
      refine s_gfI j49 rfl ho8 ?_
      refine s_iload_n j52 rfl rfl ?_
      refine s_g j53 rfl rfl rfl rfl rfl rfl ?_
      obtain ⟨ho9, h⟩ := h
      refine s_iaload j54 rfl ho9 ?_
      refine s_aload_n j55 rfl rfl ?_
      refine s_iload_n j56 rfl rfl ?_
      obtain ⟨ho11, h⟩ := h
      obtain ⟨ho10, h⟩ := h
      refine s_virtS2 j57 rfl rfl rfl rfl ho11 ho10 (by decide) (in_Str_charAt _ _) (am_r8 rfl) (am_bI h (fun a13 σ12 h hx12 => ?_))
      replace h := h hx12
      have K15 : ∀ (w16 : Int32), w16 = (if (am_aI σ3 ((am_fR σ3 13090 this).getD 0) ((am_fI σ3 13093 this) + x3).toNatClampNeg) = a13 then (1 : Int32) else 0) → am_C (TT nl Ln xs) (d + 1) 279 68 [some (am_ov (some this)), some (am_ov x1), some (.int x2), some (.int x3)] [.int w16] σ12 (am_qB F) := by
        intro w16 hw17
        subst hw17
        refine s_istore_n j68 rfl (n := 4) (L' := [some (am_ov (some this)), some (am_ov x1), some (.int (if (am_aI σ3 ((am_fR σ3 13090 this).getD 0) ((am_fI σ3 13093 this) + x3).toNatClampNeg) = a13 then (1 : Int32) else 0)), some (.int x3)]) rfl (by decide) (am_st1_R [_] _ _ _ _) ?_
        refine s_iinc (L' := [some (am_ov (some this)), some (am_ov x1), some (.int (if (am_aI σ3 ((am_fR σ3 13090 this).getD 0) ((am_fI σ3 13093 this) + x3).toNatClampNeg) = a13 then (1 : Int32) else 0)), some (.int (x3 + (1 : Int32)))]) j69 rfl rfl kc_ic_1 rfl ?_
        refine s_goto j72 rfl rfl ?_
        exact h
      refine s_icn j60 rfl rfl am_cc_ne (fun hc14 => ?_) (fun hc14 => ?_)
      · refine s_iconst j67 rfl kc_ic_0 ?_
        exact K15 _ (am_e0 (Iff.trans Iff.rfl (am_p10 hc14)))
      · refine s_iconst j63 rfl kc_ic_1 ?_
        refine s_goto j64 rfl rfl ?_
        exact K15 _ (am_e1 (Iff.trans Iff.rfl (am_p9 hc14)))
theorem P_Ro_needsKind (nl : Bool) (Ln : Nat) (xs : Nat → Int32) : am_Jl (TT nl Ln xs) 280 [(0, .iconst 0, 1, []), (1, .istore_n 1, 2, [])] := dk_ck (by decide +kernel)
set_option maxRecDepth 4096 in
theorem w_Ro_needsKind {nl : Bool} {Ln : Nat} {xs : Nat → Int32} {d : Nat} {this : Nat} {σ : am_S} {F : Int32 → am_S → Prop} (h : c_Ro_needsKind_2 nl Ln xs (d + 1) this (0 : Int32) σ F) : k_Ro_needsKind nl Ln xs (d + 1) this σ F := by
  obtain ⟨j0, j1, -⟩ := P_Ro_needsKind nl Ln xs
  have elo : am_lo 2 [am_ov (some this)] = [some (am_ov (some this)), none] := by simp only [am_lo, am_in_ov, am_in_int, am_in_long, am_in_nil]; rfl
  unfold k_Ro_needsKind
  rw [elo]
  refine s_iconst j0 rfl kc_ic_0 ?_
  refine s_istore_n j1 rfl (n := 2) (L' := [some (am_ov (some this)), some (.int (0 : Int32))]) rfl (by decide) (am_st1_R [] _ _ _ _) ?_
  exact h
theorem P_Ro_needsKind_2 (nl : Bool) (Ln : Nat) (xs : Nat → Int32) : am_Jl (TT nl Ln xs) 280 [(2, .iload_n 1, 3, []), (3, .bipush 6, 5, []), (5, .if_icmp .ge 27, 8, []), (8, .aload_n 0, 9, []), (9, .aload_n 0, 10, []), (10, .getfield 3, 13, [9, 13, 99, 2]), (13, .getfield 674, 16, [9, 12, 0, 2]), (16, .iload_n 1, 17, []), (17, .aaload, 18, []), (18, .invokevirtual 678, 21, [10, 281, 14, 3, 2]), (21, .ifCond .eq 5, 24, []), (24, .iload_n 1, 25, []), (25, .ireturn, 26, [1]), (26, .iinc 1 1, 29, []), (29, .goto (-27), 32, []), (32, .aload_n 0, 33, []), (33, .aload_n 0, 34, []), (34, .getfield 630, 37, [9, 13, 93, 0]), (37, .invokevirtual 671, 40, [10, 277, 14, 2, 2]), (40, .iconst 0, 41, []), (41, .ireturn, 42, [1])] := dk_ck (by decide +kernel)
set_option maxRecDepth 4096 in
theorem w_Ro_needsKind_2 {nl : Bool} {Ln : Nat} {xs : Nat → Int32} {d : Nat} {this : Nat} {x1 : Int32} {σ : am_S} {F : Int32 → am_S → Prop} (h : (x1 < (6 : Int32) → (am_is σ (some this) 13) ∧ (am_is σ (am_fR σ 13099 this) 12) ∧ (am_ar σ 2500 (am_fR σ 12000 ((am_fR σ 13099 this).getD 0)) x1) ∧ k_Ro_takes nl Ln xs d this (am_aR σ ((am_fR σ 12000 ((am_fR σ 13099 this).getD 0)).getD 0) x1.toNatClampNeg) σ (fun a6 σ5 => am_ext σ σ5 → (a6 = true → F x1 σ5) ∧ (¬ (a6 = true) → c_Ro_needsKind_2 nl Ln xs (d + 1) this (x1 + (1 : Int32)) σ5 F))) ∧ (¬ (x1 < (6 : Int32)) → (am_is σ (some this) 13) ∧ k_Ro_wrong nl Ln xs d this (am_fI σ 13093 this) σ (fun σ9 => am_ext σ σ9 → F (0 : Int32) σ9))) : c_Ro_needsKind_2 nl Ln xs (d + 1) this x1 σ F := by
  obtain ⟨j2, j3, j5, j8, j9, j10, j13, j16, j17, j18, j21, j24, j25, j26, j29, j32, j33, j34, j37, j40, j41, -⟩ := P_Ro_needsKind_2 nl Ln xs
  unfold c_Ro_needsKind_2
  refine s_iload_n j2 rfl rfl ?_
  refine s_bipush j3 rfl kc_bi_6 ?_
  refine s_icn j5 rfl rfl am_cc_ge (fun hc1 => ?_) (fun hc1 => ?_)
  · replace h := h.2 hc1
    refine s_aload_n j32 rfl rfl ?_
    refine s_aload_n j33 rfl rfl ?_
    obtain ⟨ho8, h⟩ := h
    refine s_gfI j34 rfl ho8 ?_
    refine s_virt j37 rfl rfl rfl rfl ho8 (by decide) (in_Ro_wrong _ _) (am_r8 rfl) (am_bV h (fun σ9 h hx9 => ?_))
    replace h := h hx9
    refine s_iconst j40 rfl kc_ic_0 ?_
    exact s_retI j41 rfl h
  · replace h := h.1 hc1
    refine s_aload_n j8 rfl rfl ?_
    refine s_aload_n j9 rfl rfl ?_
    obtain ⟨ho2, h⟩ := h
    refine s_gfR j10 rfl ho2 ?_
    obtain ⟨ho3, h⟩ := h
    refine s_gfR j13 rfl ho3 ?_
    refine s_iload_n j16 rfl rfl ?_
    obtain ⟨ho4, h⟩ := h
    refine s_aaload (k := 2500) (by decide) kq_2500 j17 rfl ho4 ?_
    refine s_virt j18 rfl rfl rfl rfl ho2 (by decide) (in_Ro_takes _ _) (am_r8 rfl) (am_bB h (fun a6 σ5 h hx5 => ?_))
    replace h := h hx5
    refine s_ifn j21 rfl rfl am_cb_eq (fun hc7 => ?_) (fun hc7 => ?_)
    · replace h := h.2 hc7
      refine s_iinc (L' := [some (am_ov (some this)), some (.int (x1 + (1 : Int32)))]) j26 rfl rfl kc_ic_1 (am_st1_R [] _ _ _ _) ?_
      refine s_goto j29 rfl rfl ?_
      exact h
    · replace h := h.1 hc7
      refine s_iload_n j24 rfl rfl ?_
      exact s_retI j25 rfl h
theorem P_Ro_takes (nl : Bool) (Ln : Nat) (xs : Nat → Int32) : am_Jl (TT nl Ln xs) 281 [(0, .aload_n 0, 1, []), (1, .getfield 652, 4, [9, 13, 97, 0]), (4, .iconst (-1), 5, []), (5, .if_icmp .ne 15, 8, []), (8, .aload_n 0, 9, []), (9, .aload_n 1, 10, []), (10, .invokevirtual 664, 13, [10, 279, 14, 4, 2]), (13, .ifCond .eq 7, 16, []), (16, .iconst 1, 17, []), (17, .goto 4, 20, []), (20, .iconst 0, 21, [])] := dk_ck (by decide +kernel)
set_option maxRecDepth 4096 in
theorem w_Ro_takes {nl : Bool} {Ln : Nat} {xs : Nat → Int32} {d : Nat} {this : Nat} {p0 : Option Nat} {σ : am_S} {F : Bool → am_S → Prop} (h : (am_is σ (some this) 13) ∧ ((am_fI σ 13097 this) = (-1 : Int32) → k_Ro_isWord nl Ln xs d this p0 σ (fun a4 σ3 => am_ext σ σ3 → c_Ro_takes_21 nl Ln xs (d + 1) this p0 (if a4 = true then (1 : Int32) else 0) σ3 F)) ∧ (¬ ((am_fI σ 13097 this) = (-1 : Int32)) → c_Ro_takes_20 nl Ln xs (d + 1) this p0 σ F)) : k_Ro_takes nl Ln xs (d + 1) this p0 σ F := by
  obtain ⟨j0, j1, j4, j5, j8, j9, j10, j13, j16, j17, j20, -⟩ := P_Ro_takes nl Ln xs
  have elo : am_lo 3 [am_ov (some this), am_ov p0] = [some (am_ov (some this)), some (am_ov p0), none] := by simp only [am_lo, am_in_ov, am_in_int, am_in_long, am_in_nil]; rfl
  unfold k_Ro_takes
  rw [elo]
  refine s_aload_n j0 rfl rfl ?_
  obtain ⟨ho1, h⟩ := h
  refine s_gfI j1 rfl ho1 ?_
  refine s_iconst j4 rfl kc_ic_m1 ?_
  refine s_icn j5 rfl rfl am_cc_ne (fun hc2 => ?_) (fun hc2 => ?_)
  · replace h := h.2 hc2
    exact h
  · replace h := h.1 hc2
    refine s_aload_n j8 rfl rfl ?_
    refine s_aload_n j9 rfl rfl ?_
    refine s_virt j10 rfl rfl rfl rfl ho1 (by decide) (in_Ro_isWord _ _) (am_r8 rfl) (am_bB h (fun a4 σ3 h hx3 => ?_))
    replace h := h hx3
    have K6 : ∀ (w7 : Int32), w7 = (if a4 = true then (1 : Int32) else 0) → am_C (TT nl Ln xs) (d + 1) 281 21 [some (am_ov (some this)), some (am_ov p0), none] [.int w7] σ3 (am_qB F) := by
      intro w7 hw8
      subst hw8
      exact h
    refine s_ifn j13 rfl rfl am_cb_eq (fun hc5 => ?_) (fun hc5 => ?_)
    · refine s_iconst j20 rfl kc_ic_0 ?_
      exact K6 _ (am_e0 (Iff.trans Iff.rfl (am_p10 hc5)))
    · refine s_iconst j16 rfl kc_ic_1 ?_
      refine s_goto j17 rfl rfl ?_
      exact K6 _ (am_e1 (Iff.trans Iff.rfl (am_p9 hc5)))
theorem P_Ro_takes_20 (nl : Bool) (Ln : Nat) (xs : Nat → Int32) : am_Jl (TT nl Ln xs) 281 [(20, .iconst 0, 21, [])] := dk_ck (by decide +kernel)
set_option maxRecDepth 4096 in
theorem w_Ro_takes_20 {nl : Bool} {Ln : Nat} {xs : Nat → Int32} {d : Nat} {this : Nat} {x1 : Option Nat} {σ : am_S} {F : Bool → am_S → Prop} (h : c_Ro_takes_21 nl Ln xs (d + 1) this x1 (0 : Int32) σ F) : c_Ro_takes_20 nl Ln xs (d + 1) this x1 σ F := by
  obtain ⟨j20, -⟩ := P_Ro_takes_20 nl Ln xs
  unfold c_Ro_takes_20
  refine s_iconst j20 rfl kc_ic_0 ?_
  exact h
theorem P_Ro_takes_21 (nl : Bool) (Ln : Nat) (xs : Nat → Int32) : am_Jl (TT nl Ln xs) 281 [(21, .istore_n 2, 22, []), (22, .iload_n 2, 23, []), (23, .ifCond .eq 7, 26, []), (26, .aload_n 0, 27, []), (27, .invokevirtual 668, 30, [10, 276, 14, 2, 1]), (30, .iload_n 2, 31, []), (31, .ireturn, 32, [4])] := dk_ck (by decide +kernel)
set_option maxRecDepth 4096 in
theorem w_Ro_takes_21 {nl : Bool} {Ln : Nat} {xs : Nat → Int32} {d : Nat} {this : Nat} {x1 : Option Nat} {y0 : Int32} {σ : am_S} {F : Bool → am_S → Prop} (h : (y0 = 0 → (y0 = 0 ∨ y0 = 1) ∧ F (decide (y0 = 1)) σ) ∧ (¬ (y0 = 0) → (am_is σ (some this) 13) ∧ k_Ro_step nl Ln xs d this σ (fun σ4 => am_ext σ σ4 → (y0 = 0 ∨ y0 = 1) ∧ F (decide (y0 = 1)) σ4))) : c_Ro_takes_21 nl Ln xs (d + 1) this x1 y0 σ F := by
  obtain ⟨j21, j22, j23, j26, j27, j30, j31, -⟩ := P_Ro_takes_21 nl Ln xs
  unfold c_Ro_takes_21
  refine s_istore_n j21 rfl (n := 3) (L' := [some (am_ov (some this)), some (am_ov x1), some (.int y0)]) rfl (by decide) (am_st1_R [_] _ _ _ _) ?_
  refine s_iload_n j22 rfl rfl ?_
  refine s_if j23 rfl rfl am_cc_eq (fun hc1 => ?_) (fun hc1 => ?_)
  · replace h := h.1 hc1
    refine s_iload_n j30 rfl rfl ?_
    obtain ⟨ho2, h⟩ := h
    exact s_retZf j31 rfl ho2 h
  · replace h := h.2 hc1
    refine s_aload_n j26 rfl rfl ?_
    obtain ⟨ho3, h⟩ := h
    refine s_virt j27 rfl rfl rfl rfl ho3 (by decide) (in_Ro_step _) (am_r8 rfl) (am_bV h (fun σ4 h hx4 => ?_))
    replace h := h hx4
    refine s_iload_n j30 rfl rfl ?_
    obtain ⟨ho6, h⟩ := h
    exact s_retZf j31 rfl ho6 h
theorem P_Ro_cond (nl : Bool) (Ln : Nat) (xs : Nat → Int32) : am_Jl (TT nl Ln xs) 282 [(0, .aload_n 0, 1, []), (1, .invokevirtual 684, 4, [10, 283, 14, 2, 1]), (4, .istore_n 1, 5, [])] := dk_ck (by decide +kernel)
set_option maxRecDepth 4096 in
theorem w_Ro_cond {nl : Bool} {Ln : Nat} {xs : Nat → Int32} {d : Nat} {this : Nat} {σ : am_S} {F : Int32 → am_S → Prop} (h : (am_is σ (some this) 13) ∧ k_Ro_both nl Ln xs d this σ (fun a3 σ2 => am_ext σ σ2 → c_Ro_cond_5 nl Ln xs (d + 1) this a3 σ2 F)) : k_Ro_cond nl Ln xs (d + 1) this σ F := by
  obtain ⟨j0, j1, j4, -⟩ := P_Ro_cond nl Ln xs
  have elo : am_lo 2 [am_ov (some this)] = [some (am_ov (some this)), none] := by simp only [am_lo, am_in_ov, am_in_int, am_in_long, am_in_nil]; rfl
  unfold k_Ro_cond
  rw [elo]
  refine s_aload_n j0 rfl rfl ?_
  obtain ⟨ho1, h⟩ := h
  refine s_virt j1 rfl rfl rfl rfl ho1 (by decide) (in_Ro_both _) (am_r8 rfl) (am_bI h (fun a3 σ2 h hx2 => ?_))
  replace h := h hx2
  refine s_istore_n j4 rfl (n := 2) (L' := [some (am_ov (some this)), some (.int a3)]) rfl (by decide) (am_st1_R [] _ _ _ _) ?_
  exact h
theorem P_Ro_cond_5 (nl : Bool) (Ln : Nat) (xs : Nat → Int32) : am_Jl (TT nl Ln xs) 282 [(5, .aload_n 0, 6, []), (6, .ldc_w 687, 9, [5, 30]), (9, .invokevirtual 678, 12, [10, 281, 14, 3, 2]), (12, .ifCond .eq 17, 15, []), (15, .aload_n 0, 16, []), (16, .iconst 0, 17, []), (17, .iload_n 1, 18, []), (18, .aload_n 0, 19, []), (19, .invokevirtual 684, 22, [10, 283, 14, 2, 1]), (22, .invokevirtual 689, 25, [10, 286, 14, 4, 4]), (25, .istore_n 1, 26, []), (26, .goto (-21), 29, []), (29, .iload_n 1, 30, []), (30, .ireturn, 31, [1])] := dk_ck (by decide +kernel)
set_option maxRecDepth 4096 in
theorem w_Ro_cond_5 {nl : Bool} {Ln : Nat} {xs : Nat → Int32} {d : Nat} {this : Nat} {x1 : Int32} {σ : am_S} {F : Int32 → am_S → Prop} (h : (am_is σ (some this) 13) ∧ k_Ro_takes nl Ln xs d this (some 30) σ (fun a3 σ2 => am_ext σ σ2 → (a3 = true → k_Ro_both nl Ln xs d this σ2 (fun a6 σ5 => am_ext σ2 σ5 → k_Ro_node nl Ln xs d this (0 : Int32) x1 a6 σ5 (fun a8 σ7 => am_ext σ5 σ7 → c_Ro_cond_5 nl Ln xs (d + 1) this a8 σ7 F))) ∧ (¬ (a3 = true) → F x1 σ2))) : c_Ro_cond_5 nl Ln xs (d + 1) this x1 σ F := by
  obtain ⟨j5, j6, j9, j12, j15, j16, j17, j18, j19, j22, j25, j26, j29, j30, -⟩ := P_Ro_cond_5 nl Ln xs
  unfold c_Ro_cond_5
  refine s_aload_n j5 rfl rfl ?_
  refine s_ldc_wS j6 rfl ?_
  obtain ⟨ho1, h⟩ := h
  refine s_virt j9 rfl rfl rfl rfl ho1 (by decide) (in_Ro_takes _ _) (am_r8 rfl) (am_bB h (fun a3 σ2 h hx2 => ?_))
  replace h := h hx2
  refine s_ifn j12 rfl rfl am_cb_eq (fun hc4 => ?_) (fun hc4 => ?_)
  · replace h := h.2 hc4
    refine s_iload_n j29 rfl rfl ?_
    exact s_retI j30 rfl h
  · replace h := h.1 hc4
    refine s_aload_n j15 rfl rfl ?_
    refine s_iconst j16 rfl kc_ic_0 ?_
    refine s_iload_n j17 rfl rfl ?_
    refine s_aload_n j18 rfl rfl ?_
    refine s_virt j19 rfl rfl rfl rfl (am_is_ext hx2 ho1) (by decide) (in_Ro_both _) (am_r8 rfl) (am_bI h (fun a6 σ5 h hx5 => ?_))
    replace h := h hx5
    refine s_virt j22 rfl rfl rfl rfl (am_is_ext hx5 (am_is_ext hx2 ho1)) (by decide) (in_Ro_node _ _ _ _) (am_r8 rfl) (am_bI h (fun a8 σ7 h hx7 => ?_))
    replace h := h hx7
    refine s_istore_n j25 rfl (n := 2) (L' := [some (am_ov (some this)), some (.int a8)]) rfl (by decide) (am_st1_R [] _ _ _ _) ?_
    refine s_goto j26 rfl rfl ?_
    exact h
theorem P_Ro_both (nl : Bool) (Ln : Nat) (xs : Nat → Int32) : am_Jl (TT nl Ln xs) 283 [(0, .aload_n 0, 1, []), (1, .invokevirtual 692, 4, [10, 284, 14, 2, 1]), (4, .istore_n 1, 5, [])] := dk_ck (by decide +kernel)
set_option maxRecDepth 4096 in
theorem w_Ro_both {nl : Bool} {Ln : Nat} {xs : Nat → Int32} {d : Nat} {this : Nat} {σ : am_S} {F : Int32 → am_S → Prop} (h : (am_is σ (some this) 13) ∧ k_Ro_not nl Ln xs d this σ (fun a3 σ2 => am_ext σ σ2 → c_Ro_both_5 nl Ln xs (d + 1) this a3 σ2 F)) : k_Ro_both nl Ln xs (d + 1) this σ F := by
  obtain ⟨j0, j1, j4, -⟩ := P_Ro_both nl Ln xs
  have elo : am_lo 2 [am_ov (some this)] = [some (am_ov (some this)), none] := by simp only [am_lo, am_in_ov, am_in_int, am_in_long, am_in_nil]; rfl
  unfold k_Ro_both
  rw [elo]
  refine s_aload_n j0 rfl rfl ?_
  obtain ⟨ho1, h⟩ := h
  refine s_virt j1 rfl rfl rfl rfl ho1 (by decide) (in_Ro_not _) (am_r8 rfl) (am_bI h (fun a3 σ2 h hx2 => ?_))
  replace h := h hx2
  refine s_istore_n j4 rfl (n := 2) (L' := [some (am_ov (some this)), some (.int a3)]) rfl (by decide) (am_st1_R [] _ _ _ _) ?_
  exact h
theorem P_Ro_both_5 (nl : Bool) (Ln : Nat) (xs : Nat → Int32) : am_Jl (TT nl Ln xs) 283 [(5, .aload_n 0, 6, []), (6, .ldc_w 695, 9, [5, 29]), (9, .invokevirtual 678, 12, [10, 281, 14, 3, 2]), (12, .ifCond .eq 17, 15, []), (15, .aload_n 0, 16, []), (16, .iconst 1, 17, []), (17, .iload_n 1, 18, []), (18, .aload_n 0, 19, []), (19, .invokevirtual 692, 22, [10, 284, 14, 2, 1]), (22, .invokevirtual 689, 25, [10, 286, 14, 4, 4]), (25, .istore_n 1, 26, []), (26, .goto (-21), 29, []), (29, .iload_n 1, 30, []), (30, .ireturn, 31, [1])] := dk_ck (by decide +kernel)
set_option maxRecDepth 4096 in
theorem w_Ro_both_5 {nl : Bool} {Ln : Nat} {xs : Nat → Int32} {d : Nat} {this : Nat} {x1 : Int32} {σ : am_S} {F : Int32 → am_S → Prop} (h : (am_is σ (some this) 13) ∧ k_Ro_takes nl Ln xs d this (some 29) σ (fun a3 σ2 => am_ext σ σ2 → (a3 = true → k_Ro_not nl Ln xs d this σ2 (fun a6 σ5 => am_ext σ2 σ5 → k_Ro_node nl Ln xs d this (1 : Int32) x1 a6 σ5 (fun a8 σ7 => am_ext σ5 σ7 → c_Ro_both_5 nl Ln xs (d + 1) this a8 σ7 F))) ∧ (¬ (a3 = true) → F x1 σ2))) : c_Ro_both_5 nl Ln xs (d + 1) this x1 σ F := by
  obtain ⟨j5, j6, j9, j12, j15, j16, j17, j18, j19, j22, j25, j26, j29, j30, -⟩ := P_Ro_both_5 nl Ln xs
  unfold c_Ro_both_5
  refine s_aload_n j5 rfl rfl ?_
  refine s_ldc_wS j6 rfl ?_
  obtain ⟨ho1, h⟩ := h
  refine s_virt j9 rfl rfl rfl rfl ho1 (by decide) (in_Ro_takes _ _) (am_r8 rfl) (am_bB h (fun a3 σ2 h hx2 => ?_))
  replace h := h hx2
  refine s_ifn j12 rfl rfl am_cb_eq (fun hc4 => ?_) (fun hc4 => ?_)
  · replace h := h.2 hc4
    refine s_iload_n j29 rfl rfl ?_
    exact s_retI j30 rfl h
  · replace h := h.1 hc4
    refine s_aload_n j15 rfl rfl ?_
    refine s_iconst j16 rfl kc_ic_1 ?_
    refine s_iload_n j17 rfl rfl ?_
    refine s_aload_n j18 rfl rfl ?_
    refine s_virt j19 rfl rfl rfl rfl (am_is_ext hx2 ho1) (by decide) (in_Ro_not _) (am_r8 rfl) (am_bI h (fun a6 σ5 h hx5 => ?_))
    replace h := h hx5
    refine s_virt j22 rfl rfl rfl rfl (am_is_ext hx5 (am_is_ext hx2 ho1)) (by decide) (in_Ro_node _ _ _ _) (am_r8 rfl) (am_bI h (fun a8 σ7 h hx7 => ?_))
    replace h := h hx7
    refine s_istore_n j25 rfl (n := 2) (L' := [some (am_ov (some this)), some (.int a8)]) rfl (by decide) (am_st1_R [] _ _ _ _) ?_
    refine s_goto j26 rfl rfl ?_
    exact h
theorem P_Ro_not (nl : Bool) (Ln : Nat) (xs : Nat → Int32) : am_Jl (TT nl Ln xs) 284 [(0, .aload_n 0, 1, []), (1, .getfield 652, 4, [9, 13, 97, 0]), (4, .iconst (-1), 5, []), (5, .if_icmp .eq 5, 8, []), (8, .iconst 0, 9, []), (9, .ireturn, 10, [1]), (10, .aload_n 0, 11, []), (11, .ldc_w 697, 14, [5, 23]), (14, .invokevirtual 664, 17, [10, 279, 14, 4, 2]), (17, .ifCond .eq 35, 20, []), (20, .aload_n 0, 21, []), (21, .invokevirtual 698, 24, [10, 285, 14, 1, 1]), (24, .ifCond .ne 5, 27, []), (27, .iconst 0, 28, []), (28, .ireturn, 29, [1]), (29, .aload_n 0, 30, []), (30, .invokevirtual 692, 33, [10, 284, 14, 2, 1]), (33, .istore_n 1, 34, []), (34, .aload_n 0, 35, []), (35, .dup, 36, []), (36, .getfield 681, 39, [9, 13, 98, 0]), (39, .iconst 1, 40, []), (40, .isub, 41, []), (41, .putfield 681, 44, [9, 13, 98, 0]), (44, .aload_n 0, 45, []), (45, .iconst 2, 46, []), (46, .iload_n 1, 47, []), (47, .iconst (-1), 48, []), (48, .invokevirtual 689, 51, [10, 286, 14, 4, 4]), (51, .ireturn, 52, [1]), (52, .aload_n 0, 53, []), (53, .getfield 633, 56, [9, 13, 94, 0]), (56, .bipush 40, 58, []), (58, .if_icmp .ne 35, 61, []), (61, .aload_n 0, 62, []), (62, .invokevirtual 698, 65, [10, 285, 14, 1, 1]), (65, .ifCond .ne 5, 68, []), (68, .iconst 0, 69, []), (69, .ireturn, 70, [1]), (70, .aload_n 0, 71, []), (71, .invokevirtual 701, 74, [10, 282, 14, 2, 1]), (74, .istore_n 1, 75, []), (75, .aload_n 0, 76, []), (76, .bipush 41, 78, []), (78, .invokevirtual 704, 81, [10, 287, 14, 2, 2]), (81, .aload_n 0, 82, []), (82, .dup, 83, []), (83, .getfield 681, 86, [9, 13, 98, 0]), (86, .iconst 1, 87, []), (87, .isub, 88, []), (88, .putfield 681, 91, [9, 13, 98, 0]), (91, .iload_n 1, 92, []), (92, .ireturn, 93, [1]), (93, .aload_n 0, 94, []), (94, .ldc_w 707, 97, [5, 24]), (97, .invokevirtual 678, 100, [10, 281, 14, 3, 2]), (100, .ifCond .eq 14, 103, []), (103, .aload_n 0, 104, []), (104, .iconst 3, 105, []), (105, .aload_n 0, 106, []), (106, .invokevirtual 708, 109, [10, 288, 14, 2, 1]), (109, .iconst (-1), 110, []), (110, .invokevirtual 689, 113, [10, 286, 14, 4, 4]), (113, .ireturn, 114, [1]), (114, .aload_n 0, 115, []), (115, .ldc_w 711, 118, [5, 25]), (118, .invokevirtual 678, 121, [10, 281, 14, 3, 2]), (121, .ifCond .eq 14, 124, []), (124, .aload_n 0, 125, []), (125, .iconst 4, 126, []), (126, .aload_n 0, 127, []), (127, .invokevirtual 708, 130, [10, 288, 14, 2, 1]), (130, .iconst (-1), 131, []), (131, .invokevirtual 689, 134, [10, 286, 14, 4, 4]), (134, .ireturn, 135, [1]), (135, .aload_n 0, 136, []), (136, .ldc_w 712, 139, [5, 26]), (139, .invokevirtual 678, 142, [10, 281, 14, 3, 2]), (142, .ifCond .eq 14, 145, []), (145, .aload_n 0, 146, []), (146, .iconst 5, 147, []), (147, .aload_n 0, 148, []), (148, .invokevirtual 708, 151, [10, 288, 14, 2, 1]), (151, .iconst (-1), 152, []), (152, .invokevirtual 689, 155, [10, 286, 14, 4, 4]), (155, .ireturn, 156, [1]), (156, .aload_n 0, 157, []), (157, .ldc_w 714, 160, [5, 27]), (160, .invokevirtual 678, 163, [10, 281, 14, 3, 2]), (163, .ifCond .eq 15, 166, []), (166, .aload_n 0, 167, []), (167, .bipush 6, 169, []), (169, .aload_n 0, 170, []), (170, .invokevirtual 708, 173, [10, 288, 14, 2, 1]), (173, .iconst (-1), 174, []), (174, .invokevirtual 689, 177, [10, 286, 14, 4, 4]), (177, .ireturn, 178, [1]), (178, .aload_n 0, 179, []), (179, .ldc_w 716, 182, [5, 28]), (182, .invokevirtual 678, 185, [10, 281, 14, 3, 2]), (185, .ifCond .eq 15, 188, []), (188, .aload_n 0, 189, []), (189, .bipush 7, 191, []), (191, .aload_n 0, 192, []), (192, .invokevirtual 717, 195, [10, 280, 14, 2, 1]), (195, .iconst (-1), 196, []), (196, .invokevirtual 689, 199, [10, 286, 14, 4, 4]), (199, .ireturn, 200, [1]), (200, .aload_n 0, 201, []), (201, .aload_n 0, 202, []), (202, .getfield 630, 205, [9, 13, 93, 0]), (205, .invokevirtual 671, 208, [10, 277, 14, 2, 2]), (208, .iconst 0, 209, []), (209, .ireturn, 210, [1])] := dk_ck (by decide +kernel)
set_option maxRecDepth 4096 in
theorem w_Ro_not {nl : Bool} {Ln : Nat} {xs : Nat → Int32} {d : Nat} {this : Nat} {σ : am_S} {F : Int32 → am_S → Prop} (h : (am_is σ (some this) 13) ∧ ((am_fI σ 13097 this) = (-1 : Int32) → k_Ro_isWord nl Ln xs d this (some 23) σ (fun a4 σ3 => am_ext σ σ3 → (a4 = true → k_Ro_opens nl Ln xs d this σ3 (fun a7 σ6 => am_ext σ3 σ6 → (a7 = true → k_Ro_not nl Ln xs d this σ6 (fun a10 σ9 => am_ext σ6 σ9 → ∀ σ11, σ11 = am_sfI σ9 13098 this ((am_fI σ9 13098 this) - (1 : Int32)) → k_Ro_node nl Ln xs d this (2 : Int32) a10 (-1 : Int32) σ11 (fun a15 σ14 => am_ext σ11 σ14 → F a15 σ14))) ∧ (¬ (a7 = true) → F (0 : Int32) σ6))) ∧ (¬ (a4 = true) → ((am_fI σ3 13094 this) = (40 : Int32) → k_Ro_opens nl Ln xs d this σ3 (fun a18 σ17 => am_ext σ3 σ17 → (a18 = true → k_Ro_cond nl Ln xs d this σ17 (fun a21 σ20 => am_ext σ17 σ20 → k_Ro_needs nl Ln xs d this (41 : Int32) σ20 (fun σ22 => am_ext σ20 σ22 → ∀ σ24, σ24 = am_sfI σ22 13098 this ((am_fI σ22 13098 this) - (1 : Int32)) → F a21 σ24))) ∧ (¬ (a18 = true) → F (0 : Int32) σ17))) ∧ (¬ ((am_fI σ3 13094 this) = (40 : Int32)) → k_Ro_takes nl Ln xs d this (some 24) σ3 (fun a28 σ27 => am_ext σ3 σ27 → (a28 = true → k_Ro_needsNumber nl Ln xs d this σ27 (fun a31 σ30 => am_ext σ27 σ30 → k_Ro_node nl Ln xs d this (3 : Int32) a31 (-1 : Int32) σ30 (fun a33 σ32 => am_ext σ30 σ32 → F a33 σ32))) ∧ (¬ (a28 = true) → k_Ro_takes nl Ln xs d this (some 25) σ27 (fun a35 σ34 => am_ext σ27 σ34 → (a35 = true → k_Ro_needsNumber nl Ln xs d this σ34 (fun a38 σ37 => am_ext σ34 σ37 → k_Ro_node nl Ln xs d this (4 : Int32) a38 (-1 : Int32) σ37 (fun a40 σ39 => am_ext σ37 σ39 → F a40 σ39))) ∧ (¬ (a35 = true) → k_Ro_takes nl Ln xs d this (some 26) σ34 (fun a42 σ41 => am_ext σ34 σ41 → (a42 = true → k_Ro_needsNumber nl Ln xs d this σ41 (fun a45 σ44 => am_ext σ41 σ44 → k_Ro_node nl Ln xs d this (5 : Int32) a45 (-1 : Int32) σ44 (fun a47 σ46 => am_ext σ44 σ46 → F a47 σ46))) ∧ (¬ (a42 = true) → k_Ro_takes nl Ln xs d this (some 27) σ41 (fun a49 σ48 => am_ext σ41 σ48 → (a49 = true → k_Ro_needsNumber nl Ln xs d this σ48 (fun a52 σ51 => am_ext σ48 σ51 → k_Ro_node nl Ln xs d this (6 : Int32) a52 (-1 : Int32) σ51 (fun a54 σ53 => am_ext σ51 σ53 → F a54 σ53))) ∧ (¬ (a49 = true) → k_Ro_takes nl Ln xs d this (some 28) σ48 (fun a56 σ55 => am_ext σ48 σ55 → (a56 = true → k_Ro_needsKind nl Ln xs d this σ55 (fun a59 σ58 => am_ext σ55 σ58 → k_Ro_node nl Ln xs d this (7 : Int32) a59 (-1 : Int32) σ58 (fun a61 σ60 => am_ext σ58 σ60 → F a61 σ60))) ∧ (¬ (a56 = true) → k_Ro_wrong nl Ln xs d this (am_fI σ55 13093 this) σ55 (fun σ62 => am_ext σ55 σ62 → F (0 : Int32) σ62))))))))))))))) ∧ (¬ ((am_fI σ 13097 this) = (-1 : Int32)) → F (0 : Int32) σ)) : k_Ro_not nl Ln xs (d + 1) this σ F := by
  obtain ⟨j0, j1, j4, j5, j8, j9, j10, j11, j14, j17, j20, j21, j24, j27, j28, j29, j30, j33, j34, j35, j36, j39, j40, j41, j44, j45, j46, j47, j48, j51, j52, j53, j56, j58, j61, j62, j65, j68, j69, j70, j71, j74, j75, j76, j78, j81, j82, j83, j86, j87, j88, j91, j92, j93, j94, j97, j100, j103, j104, j105, j106, j109, j110, j113, j114, j115, j118, j121, j124, j125, j126, j127, j130, j131, j134, j135, j136, j139, j142, j145, j146, j147, j148, j151, j152, j155, j156, j157, j160, j163, j166, j167, j169, j170, j173, j174, j177, j178, j179, j182, j185, j188, j189, j191, j192, j195, j196, j199, j200, j201, j202, j205, j208, j209, -⟩ := P_Ro_not nl Ln xs
  have elo : am_lo 2 [am_ov (some this)] = [some (am_ov (some this)), none] := by simp only [am_lo, am_in_ov, am_in_int, am_in_long, am_in_nil]; rfl
  unfold k_Ro_not
  rw [elo]
  refine s_aload_n j0 rfl rfl ?_
  obtain ⟨ho1, h⟩ := h
  refine s_gfI j1 rfl ho1 ?_
  refine s_iconst j4 rfl kc_ic_m1 ?_
  refine s_ic j5 rfl rfl am_cc_eq (fun hc2 => ?_) (fun hc2 => ?_)
  · replace h := h.1 hc2
    refine s_aload_n j10 rfl rfl ?_
    refine s_ldc_wS j11 rfl ?_
    refine s_virt j14 rfl rfl rfl rfl ho1 (by decide) (in_Ro_isWord _ _) (am_r8 rfl) (am_bB h (fun a4 σ3 h hx3 => ?_))
    replace h := h hx3
    refine s_ifn j17 rfl rfl am_cb_eq (fun hc5 => ?_) (fun hc5 => ?_)
    · replace h := h.2 hc5
      refine s_aload_n j52 rfl rfl ?_
      refine s_gfI j53 rfl (am_is_ext hx3 ho1) ?_
      refine s_bipush j56 rfl kc_bi_40 ?_
      refine s_icn j58 rfl rfl am_cc_ne (fun hc16 => ?_) (fun hc16 => ?_)
      · replace h := h.2 hc16
        refine s_aload_n j93 rfl rfl ?_
        refine s_ldc_wS j94 rfl ?_
        refine s_virt j97 rfl rfl rfl rfl (am_is_ext hx3 ho1) (by decide) (in_Ro_takes _ _) (am_r8 rfl) (am_bB h (fun a28 σ27 h hx27 => ?_))
        replace h := h hx27
        refine s_ifn j100 rfl rfl am_cb_eq (fun hc29 => ?_) (fun hc29 => ?_)
        · replace h := h.2 hc29
          refine s_aload_n j114 rfl rfl ?_
          refine s_ldc_wS j115 rfl ?_
          refine s_virt j118 rfl rfl rfl rfl (am_is_ext hx27 (am_is_ext hx3 ho1)) (by decide) (in_Ro_takes _ _) (am_r8 rfl) (am_bB h (fun a35 σ34 h hx34 => ?_))
          replace h := h hx34
          refine s_ifn j121 rfl rfl am_cb_eq (fun hc36 => ?_) (fun hc36 => ?_)
          · replace h := h.2 hc36
            refine s_aload_n j135 rfl rfl ?_
            refine s_ldc_wS j136 rfl ?_
            refine s_virt j139 rfl rfl rfl rfl (am_is_ext hx34 (am_is_ext hx27 (am_is_ext hx3 ho1))) (by decide) (in_Ro_takes _ _) (am_r8 rfl) (am_bB h (fun a42 σ41 h hx41 => ?_))
            replace h := h hx41
            refine s_ifn j142 rfl rfl am_cb_eq (fun hc43 => ?_) (fun hc43 => ?_)
            · replace h := h.2 hc43
              refine s_aload_n j156 rfl rfl ?_
              refine s_ldc_wS j157 rfl ?_
              refine s_virt j160 rfl rfl rfl rfl (am_is_ext hx41 (am_is_ext hx34 (am_is_ext hx27 (am_is_ext hx3 ho1)))) (by decide) (in_Ro_takes _ _) (am_r8 rfl) (am_bB h (fun a49 σ48 h hx48 => ?_))
              replace h := h hx48
              refine s_ifn j163 rfl rfl am_cb_eq (fun hc50 => ?_) (fun hc50 => ?_)
              · replace h := h.2 hc50
                refine s_aload_n j178 rfl rfl ?_
                refine s_ldc_wS j179 rfl ?_
                refine s_virt j182 rfl rfl rfl rfl (am_is_ext hx48 (am_is_ext hx41 (am_is_ext hx34 (am_is_ext hx27 (am_is_ext hx3 ho1))))) (by decide) (in_Ro_takes _ _) (am_r8 rfl) (am_bB h (fun a56 σ55 h hx55 => ?_))
                replace h := h hx55
                refine s_ifn j185 rfl rfl am_cb_eq (fun hc57 => ?_) (fun hc57 => ?_)
                · replace h := h.2 hc57
                  refine s_aload_n j200 rfl rfl ?_
                  refine s_aload_n j201 rfl rfl ?_
                  refine s_gfI j202 rfl (am_is_ext hx55 (am_is_ext hx48 (am_is_ext hx41 (am_is_ext hx34 (am_is_ext hx27 (am_is_ext hx3 ho1)))))) ?_
                  refine s_virt j205 rfl rfl rfl rfl (am_is_ext hx55 (am_is_ext hx48 (am_is_ext hx41 (am_is_ext hx34 (am_is_ext hx27 (am_is_ext hx3 ho1)))))) (by decide) (in_Ro_wrong _ _) (am_r8 rfl) (am_bV h (fun σ62 h hx62 => ?_))
                  replace h := h hx62
                  refine s_iconst j208 rfl kc_ic_0 ?_
                  exact s_retI j209 rfl h
                · replace h := h.1 hc57
                  refine s_aload_n j188 rfl rfl ?_
                  refine s_bipush j189 rfl kc_bi_7 ?_
                  refine s_aload_n j191 rfl rfl ?_
                  refine s_virt j192 rfl rfl rfl rfl (am_is_ext hx55 (am_is_ext hx48 (am_is_ext hx41 (am_is_ext hx34 (am_is_ext hx27 (am_is_ext hx3 ho1)))))) (by decide) (in_Ro_needsKind _) (am_r8 rfl) (am_bI h (fun a59 σ58 h hx58 => ?_))
                  replace h := h hx58
                  refine s_iconst j195 rfl kc_ic_m1 ?_
                  refine s_virt j196 rfl rfl rfl rfl (am_is_ext hx58 (am_is_ext hx55 (am_is_ext hx48 (am_is_ext hx41 (am_is_ext hx34 (am_is_ext hx27 (am_is_ext hx3 ho1))))))) (by decide) (in_Ro_node _ _ _ _) (am_r8 rfl) (am_bI h (fun a61 σ60 h hx60 => ?_))
                  replace h := h hx60
                  exact s_retI j199 rfl h
              · replace h := h.1 hc50
                refine s_aload_n j166 rfl rfl ?_
                refine s_bipush j167 rfl kc_bi_6 ?_
                refine s_aload_n j169 rfl rfl ?_
                refine s_virt j170 rfl rfl rfl rfl (am_is_ext hx48 (am_is_ext hx41 (am_is_ext hx34 (am_is_ext hx27 (am_is_ext hx3 ho1))))) (by decide) (in_Ro_needsNumber _) (am_r8 rfl) (am_bI h (fun a52 σ51 h hx51 => ?_))
                replace h := h hx51
                refine s_iconst j173 rfl kc_ic_m1 ?_
                refine s_virt j174 rfl rfl rfl rfl (am_is_ext hx51 (am_is_ext hx48 (am_is_ext hx41 (am_is_ext hx34 (am_is_ext hx27 (am_is_ext hx3 ho1)))))) (by decide) (in_Ro_node _ _ _ _) (am_r8 rfl) (am_bI h (fun a54 σ53 h hx53 => ?_))
                replace h := h hx53
                exact s_retI j177 rfl h
            · replace h := h.1 hc43
              refine s_aload_n j145 rfl rfl ?_
              refine s_iconst j146 rfl kc_ic_5 ?_
              refine s_aload_n j147 rfl rfl ?_
              refine s_virt j148 rfl rfl rfl rfl (am_is_ext hx41 (am_is_ext hx34 (am_is_ext hx27 (am_is_ext hx3 ho1)))) (by decide) (in_Ro_needsNumber _) (am_r8 rfl) (am_bI h (fun a45 σ44 h hx44 => ?_))
              replace h := h hx44
              refine s_iconst j151 rfl kc_ic_m1 ?_
              refine s_virt j152 rfl rfl rfl rfl (am_is_ext hx44 (am_is_ext hx41 (am_is_ext hx34 (am_is_ext hx27 (am_is_ext hx3 ho1))))) (by decide) (in_Ro_node _ _ _ _) (am_r8 rfl) (am_bI h (fun a47 σ46 h hx46 => ?_))
              replace h := h hx46
              exact s_retI j155 rfl h
          · replace h := h.1 hc36
            refine s_aload_n j124 rfl rfl ?_
            refine s_iconst j125 rfl kc_ic_4 ?_
            refine s_aload_n j126 rfl rfl ?_
            refine s_virt j127 rfl rfl rfl rfl (am_is_ext hx34 (am_is_ext hx27 (am_is_ext hx3 ho1))) (by decide) (in_Ro_needsNumber _) (am_r8 rfl) (am_bI h (fun a38 σ37 h hx37 => ?_))
            replace h := h hx37
            refine s_iconst j130 rfl kc_ic_m1 ?_
            refine s_virt j131 rfl rfl rfl rfl (am_is_ext hx37 (am_is_ext hx34 (am_is_ext hx27 (am_is_ext hx3 ho1)))) (by decide) (in_Ro_node _ _ _ _) (am_r8 rfl) (am_bI h (fun a40 σ39 h hx39 => ?_))
            replace h := h hx39
            exact s_retI j134 rfl h
        · replace h := h.1 hc29
          refine s_aload_n j103 rfl rfl ?_
          refine s_iconst j104 rfl kc_ic_3 ?_
          refine s_aload_n j105 rfl rfl ?_
          refine s_virt j106 rfl rfl rfl rfl (am_is_ext hx27 (am_is_ext hx3 ho1)) (by decide) (in_Ro_needsNumber _) (am_r8 rfl) (am_bI h (fun a31 σ30 h hx30 => ?_))
          replace h := h hx30
          refine s_iconst j109 rfl kc_ic_m1 ?_
          refine s_virt j110 rfl rfl rfl rfl (am_is_ext hx30 (am_is_ext hx27 (am_is_ext hx3 ho1))) (by decide) (in_Ro_node _ _ _ _) (am_r8 rfl) (am_bI h (fun a33 σ32 h hx32 => ?_))
          replace h := h hx32
          exact s_retI j113 rfl h
      · replace h := h.1 hc16
        refine s_aload_n j61 rfl rfl ?_
        refine s_virt j62 rfl rfl rfl rfl (am_is_ext hx3 ho1) (by decide) (in_Ro_opens _) (am_r8 rfl) (am_bB h (fun a18 σ17 h hx17 => ?_))
        replace h := h hx17
        refine s_if j65 rfl rfl am_cb_ne (fun hc19 => ?_) (fun hc19 => ?_)
        · replace h := h.1 hc19
          refine s_aload_n j70 rfl rfl ?_
          refine s_virt j71 rfl rfl rfl rfl (am_is_ext hx17 (am_is_ext hx3 ho1)) (by decide) (in_Ro_cond _) (am_r8 rfl) (am_bI h (fun a21 σ20 h hx20 => ?_))
          replace h := h hx20
          refine s_istore_n j74 rfl (n := 2) (L' := [some (am_ov (some this)), some (.int a21)]) rfl (by decide) (am_st1_R [] _ _ _ _) ?_
          refine s_aload_n j75 rfl rfl ?_
          refine s_bipush j76 rfl kc_bi_41 ?_
          refine s_virt j78 rfl rfl rfl rfl (am_is_ext hx20 (am_is_ext hx17 (am_is_ext hx3 ho1))) (by decide) (in_Ro_needs _ _) (am_r8 rfl) (am_bV h (fun σ22 h hx22 => ?_))
          replace h := h hx22
          refine s_aload_n j81 rfl rfl ?_
          refine s_dup j82 rfl (am_cov _) ?_
          refine s_gfI j83 rfl (am_is_ext hx22 (am_is_ext hx20 (am_is_ext hx17 (am_is_ext hx3 ho1)))) ?_
          refine s_iconst j86 rfl kc_ic_1 ?_
          refine s_g j87 rfl rfl rfl rfl rfl rfl ?_
          refine s_pfI j88 rfl (am_is_ext hx22 (am_is_ext hx20 (am_is_ext hx17 (am_is_ext hx3 ho1)))) (fun σ24 e25 => ?_)
          replace h := h σ24 e25
          have ek26 : am_kd σ24 = am_kd σ22 := by rw [e25]
          refine s_iload_n j91 rfl rfl ?_
          exact s_retI j92 rfl h
        · replace h := h.2 hc19
          refine s_iconst j68 rfl kc_ic_0 ?_
          exact s_retI j69 rfl h
    · replace h := h.1 hc5
      refine s_aload_n j20 rfl rfl ?_
      refine s_virt j21 rfl rfl rfl rfl (am_is_ext hx3 ho1) (by decide) (in_Ro_opens _) (am_r8 rfl) (am_bB h (fun a7 σ6 h hx6 => ?_))
      replace h := h hx6
      refine s_if j24 rfl rfl am_cb_ne (fun hc8 => ?_) (fun hc8 => ?_)
      · replace h := h.1 hc8
        refine s_aload_n j29 rfl rfl ?_
        refine s_virt j30 rfl rfl rfl rfl (am_is_ext hx6 (am_is_ext hx3 ho1)) (by decide) (in_Ro_not _) (am_r8 rfl) (am_bI h (fun a10 σ9 h hx9 => ?_))
        replace h := h hx9
        refine s_istore_n j33 rfl (n := 2) (L' := [some (am_ov (some this)), some (.int a10)]) rfl (by decide) (am_st1_R [] _ _ _ _) ?_
        refine s_aload_n j34 rfl rfl ?_
        refine s_dup j35 rfl (am_cov _) ?_
        refine s_gfI j36 rfl (am_is_ext hx9 (am_is_ext hx6 (am_is_ext hx3 ho1))) ?_
        refine s_iconst j39 rfl kc_ic_1 ?_
        refine s_g j40 rfl rfl rfl rfl rfl rfl ?_
        refine s_pfI j41 rfl (am_is_ext hx9 (am_is_ext hx6 (am_is_ext hx3 ho1))) (fun σ11 e12 => ?_)
        replace h := h σ11 e12
        have ek13 : am_kd σ11 = am_kd σ9 := by rw [e12]
        refine s_aload_n j44 rfl rfl ?_
        refine s_iconst j45 rfl kc_ic_2 ?_
        refine s_iload_n j46 rfl rfl ?_
        refine s_iconst j47 rfl kc_ic_m1 ?_
        refine s_virt j48 rfl rfl rfl rfl (am_is_kd ek13 (am_is_ext hx9 (am_is_ext hx6 (am_is_ext hx3 ho1)))) (by decide) (in_Ro_node _ _ _ _) (am_r8 rfl) (am_bI h (fun a15 σ14 h hx14 => ?_))
        replace h := h hx14
        exact s_retI j51 rfl h
      · replace h := h.2 hc8
        refine s_iconst j27 rfl kc_ic_0 ?_
        exact s_retI j28 rfl h
  · replace h := h.2 hc2
    refine s_iconst j8 rfl kc_ic_0 ?_
    exact s_retI j9 rfl h
