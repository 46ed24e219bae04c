/-! statements of methods, 18 (by wip/whole/gensteps.py) -/
theorem P_Rm_reads (nl : Bool) (Ln : Nat) (xs : Nat → Int32) : am_Jl (TT nl Ln xs) 350 [(0, .lconst 0, 1, []), (1, .lstore_n 2, 2, []), (2, .iconst 0, 3, []), (3, .istore 4, 5, []), (5, .iconst 1, 6, []), (6, .istore 5, 8, [])] := dk_ck (by decide +kernel)
set_option maxRecDepth 4096 in
theorem w_Rm_reads {nl : Bool} {Ln : Nat} {xs : Nat → Int32} {d : Nat} {this : Nat} {p0 : Int32} {σ : am_S} {F : Bool → am_S → Prop} (h : c_Rm_reads_8 nl Ln xs (d + 1) this p0 (0 : Int64) (0 : Int32) (1 : Int32) none none σ F) : k_Rm_reads nl Ln xs (d + 1) this p0 σ F := by
  obtain ⟨j0, j1, j2, j3, j5, j6, -⟩ := P_Rm_reads nl Ln xs
  have elo : am_lo 8 [am_ov (some this), .int p0] = [some (am_ov (some this)), some (.int p0), none, none, none, none, none, none] := by simp only [am_lo, am_in_ov, am_in_int, am_in_long, am_in_nil]; rfl
  unfold k_Rm_reads
  rw [elo]
  refine s_lconst j0 rfl rfl ?_
  refine s_lstore_n j1 rfl (n := 8) (L' := [some (am_ov (some this)), some (.int p0), some (.long (0 : Int64)), none, none, none, none, none]) rfl (by decide) rfl ?_
  refine s_iconst j2 rfl kc_ic_0 ?_
  refine s_istore j3 rfl (n := 8) (L' := [some (am_ov (some this)), some (.int p0), some (.long (0 : Int64)), none, some (.int (0 : Int32)), none, none, none]) rfl (by decide) rfl ?_
  refine s_iconst j5 rfl kc_ic_1 ?_
  refine s_istore j6 rfl (n := 8) (L' := [some (am_ov (some this)), some (.int p0), some (.long (0 : Int64)), none, some (.int (0 : Int32)), some (.int (1 : Int32)), none, none]) rfl (by decide) rfl ?_
  exact h
theorem P_Rm_reads_8 (nl : Bool) (Ln : Nat) (xs : Nat → Int32) : am_Jl (TT nl Ln xs) 350 [(8, .iload 5, 10, []), (10, .ifCond .eq 114, 13, []), (13, .aload_n 0, 14, []), (14, .getfield 353, 17, [9, 12, 19, 0]), (17, .iload_n 1, 18, []), (18, .if_icmp .lt 5, 21, []), (21, .iconst 0, 22, []), (22, .ireturn, 23, [4]), (23, .aload_n 0, 24, []), (24, .getfield 9, 27, [9, 12, 2, 2]), (27, .aload_n 0, 28, []), (28, .getfield 353, 31, [9, 12, 19, 0]), (31, .iaload, 32, []), (32, .bipush 127, 34, []), (34, .iand, 35, []), (35, .i2l, 36, []), (36, .lstore 6, 38, []), (38, .aload_n 0, 39, []), (39, .getfield 9, 42, [9, 12, 2, 2]), (42, .aload_n 0, 43, []), (43, .getfield 353, 46, [9, 12, 19, 0]), (46, .iaload, 47, []), (47, .sipush 128, 50, []), (50, .if_icmp .lt 7, 53, []), (53, .iconst 1, 54, []), (54, .goto 4, 57, []), (57, .iconst 0, 58, []), (124, .aload_n 0, 125, []), (125, .lload_n 2, 126, []), (126, .lconst 1, 127, []), (127, .land, 128, []), (128, .lconst 0, 129, []), (129, .lcmp, 130, []), (130, .ifCond .ne 9, 133, []), (133, .lload_n 2, 134, []), (134, .iconst 1, 135, []), (135, .lushr, 136, []), (136, .goto 9, 139, []), (139, .lload_n 2, 140, []), (140, .iconst 1, 141, []), (141, .lushr, 142, []), (142, .lneg, 143, []), (143, .lconst 1, 144, []), (144, .lsub, 145, []), (145, .putfield 356, 148, [9, 12, 20, 1]), (148, .iconst 1, 149, []), (149, .ireturn, 150, [4])] := dk_ck (by decide +kernel)
set_option maxRecDepth 4096 in
theorem w_Rm_reads_8 {nl : Bool} {Ln : Nat} {xs : Nat → Int32} {d : Nat} {this : Nat} {x1 : Int32} {x2 : Int64} {x4 : Int32} {x5 : Int32} {x6 : Option Value} {x7 : Option Value} {σ : am_S} {F : Bool → am_S → Prop} (h : (x5 = 0 → ∀ w4 : Int64, w4 = (if (x2 &&& (1 : Int64)) = (0 : Int64) then ((x2.toUInt64 >>> ((1 : Int32).toInt64.toUInt64 &&& Int64.toUInt64 63)).toInt64) else ((-((x2.toUInt64 >>> ((1 : Int32).toInt64.toUInt64 &&& Int64.toUInt64 63)).toInt64)) - (1 : Int64))) → (am_is σ (some this) 12) ∧ ∀ σ7, σ7 = am_sfL σ 12020 this w4 → F true σ7) ∧ (¬ (x5 = 0) → (am_is σ (some this) 12) ∧ ((am_fI σ 12019 this) < x1 → (am_ar σ 1000 (am_fR σ 12002 this) (am_fI σ 12019 this)) ∧ ∀ v13 : Int64, v13 = ((am_aI σ ((am_fR σ 12002 this).getD 0) (am_fI σ 12019 this).toNatClampNeg) &&& (127 : Int32)).toInt64 → (am_ar σ 1000 (am_fR σ 12002 this) (am_fI σ 12019 this)) ∧ c_Rm_reads_58 nl Ln xs (d + 1) this x1 x2 x4 x5 v13 (if ¬ ((am_aI σ ((am_fR σ 12002 this).getD 0) (am_fI σ 12019 this).toNatClampNeg) < (128 : Int32)) then (1 : Int32) else 0) σ F) ∧ (¬ ((am_fI σ 12019 this) < x1) → F false σ))) : c_Rm_reads_8 nl Ln xs (d + 1) this x1 x2 x4 x5 x6 x7 σ F := by
  obtain ⟨j8, j10, j13, j14, j17, j18, j21, j22, j23, j24, j27, j28, j31, j32, j34, j35, j36, j38, j39, j42, j43, j46, j47, j50, j53, j54, j57, j124, j125, j126, j127, j128, j129, j130, j133, j134, j135, j136, j139, j140, j141, j142, j143, j144, j145, j148, j149, -⟩ := P_Rm_reads_8 nl Ln xs
  unfold c_Rm_reads_8
  refine s_iload j8 rfl rfl ?_
  refine s_if j10 rfl rfl am_cc_eq (fun hc1 => ?_) (fun hc1 => ?_)
  · replace h := h.1 hc1
    refine s_aload_n j124 rfl rfl ?_
    refine s_lload_n j125 rfl rfl ?_
    refine s_lconst j126 rfl rfl ?_
    refine s_g j127 rfl rfl rfl rfl rfl rfl ?_
    refine s_lconst j128 rfl rfl ?_
    refine s_g j129 rfl rfl rfl rfl rfl rfl ?_
    have K3 : ∀ (w4 : Int64), w4 = (if (x2 &&& (1 : Int64)) = (0 : Int64) then ((x2.toUInt64 >>> ((1 : Int32).toInt64.toUInt64 &&& Int64.toUInt64 63)).toInt64) else ((-((x2.toUInt64 >>> ((1 : Int32).toInt64.toUInt64 &&& Int64.toUInt64 63)).toInt64)) - (1 : Int64))) → am_C (TT nl Ln xs) (d + 1) 350 145 [some (am_ov (some this)), some (.int x1), some (.long x2), none, some (.int x4), some (.int x5), x6, x7] [.long w4, am_ov (some this)] σ (am_qB F) := by
      intro w4 hw5
      replace h := h w4 hw5
      obtain ⟨ho6, h⟩ := h
      refine s_pfL j145 rfl ho6 (fun σ7 e8 => ?_)
      replace h := h σ7 e8
      have ek9 : am_kd σ7 = am_kd σ := by rw [e8]
      refine s_iconst j148 rfl kc_ic_1 ?_
      exact s_retZ1 j149 rfl h
    refine s_ifn j130 rfl rfl am_cl_ne (fun hc2 => ?_) (fun hc2 => ?_)
    · refine s_lload_n j139 rfl rfl ?_
      refine s_iconst j140 rfl kc_ic_1 ?_
      refine s_g j141 rfl rfl rfl rfl rfl rfl ?_
      refine s_g j142 rfl rfl rfl rfl rfl rfl ?_
      refine s_lconst j143 rfl rfl ?_
      refine s_g j144 rfl rfl rfl rfl rfl rfl ?_
      exact K3 _ (am_t2 hc2 rfl)
    · refine s_lload_n j133 rfl rfl ?_
      refine s_iconst j134 rfl kc_ic_1 ?_
      refine s_g j135 rfl rfl rfl rfl rfl rfl ?_
      refine s_goto j136 rfl rfl ?_
      exact K3 _ (am_t1 hc2 rfl)
  · replace h := h.2 hc1
    refine s_aload_n j13 rfl rfl ?_
    obtain ⟨ho10, h⟩ := h
    refine s_gfI j14 rfl ho10 ?_
    refine s_iload_n j17 rfl rfl ?_
    refine s_ic j18 rfl rfl am_cc_lt (fun hc11 => ?_) (fun hc11 => ?_)
    · replace h := h.1 hc11
      refine s_aload_n j23 rfl rfl ?_
      refine s_gfR j24 rfl ho10 ?_
      refine s_aload_n j27 rfl rfl ?_
      refine s_gfI j28 rfl ho10 ?_
      obtain ⟨ho12, h⟩ := h
      refine s_iaload j31 rfl ho12 ?_
      refine s_bipush j32 rfl kc_bi_127 ?_
      refine s_g j34 rfl rfl rfl rfl rfl rfl ?_
      refine s_g j35 rfl rfl rfl rfl rfl rfl ?_
      refine s_lstoreV j36 rfl (n := 8) (L' := fun w => [some (am_ov (some this)), some (.int x1), some (.long x2), none, some (.int x4), some (.int x5), some (.long w), none]) rfl (by decide) (fun _ => rfl) (fun v13 hv14 => ?_)
      replace h := h v13 hv14
      refine s_aload_n j38 rfl rfl ?_
      refine s_gfR j39 rfl ho10 ?_
      refine s_aload_n j42 rfl rfl ?_
      refine s_gfI j43 rfl ho10 ?_
      obtain ⟨ho15, h⟩ := h
      refine s_iaload j46 rfl ho15 ?_
      refine s_sipush j47 rfl kc_si_128 ?_
      have K17 : ∀ (w18 : Int32), w18 = (if ¬ ((am_aI σ ((am_fR σ 12002 this).getD 0) (am_fI σ 12019 this).toNatClampNeg) < (128 : Int32)) then (1 : Int32) else 0) → am_C (TT nl Ln xs) (d + 1) 350 58 [some (am_ov (some this)), some (.int x1), some (.long x2), none, some (.int x4), some (.int x5), some (.long v13), none] [.int w18] σ (am_qB F) := by
        intro w18 hw19
        subst hw19
        exact h
      refine s_ic j50 rfl rfl am_cc_lt (fun hc16 => ?_) (fun hc16 => ?_)
      · refine s_iconst j57 rfl kc_ic_0 ?_
        exact K17 _ (am_e0 (Iff.trans Iff.rfl (am_p11 hc16)))
      · refine s_iconst j53 rfl kc_ic_1 ?_
        refine s_goto j54 rfl rfl ?_
        exact K17 _ (am_e1 (Iff.trans Iff.rfl (am_p12 hc16)))
    · replace h := h.2 hc11
      refine s_iconst j21 rfl kc_ic_0 ?_
      exact s_retZ0 j22 rfl h
theorem P_Rm_reads_58 (nl : Bool) (Ln : Nat) (xs : Nat → Int32) : am_Jl (TT nl Ln xs) 350 [(58, .istore 5, 60, []), (60, .aload_n 0, 61, []), (61, .dup, 62, []), (62, .getfield 353, 65, [9, 12, 19, 0]), (65, .iconst 1, 66, []), (66, .iadd, 67, []), (67, .putfield 353, 70, [9, 12, 19, 0]), (70, .iload 4, 72, []), (72, .bipush 63, 74, []), (74, .if_icmp .gt 34, 77, []), (77, .iload 4, 79, []), (79, .bipush 63, 81, []), (81, .if_icmp .ne 10, 84, []), (84, .lload 6, 86, []), (86, .lconst 1, 87, []), (87, .lcmp, 88, []), (88, .ifCond .gt 20, 91, []), (108, .iconst 0, 109, []), (109, .ireturn, 110, [4])] := dk_ck (by decide +kernel)
set_option maxRecDepth 4096 in
theorem w_Rm_reads_58 {nl : Bool} {Ln : Nat} {xs : Nat → Int32} {d : Nat} {this : Nat} {x1 : Int32} {x2 : Int64} {x4 : Int32} {x5 : Int32} {x6 : Int64} {y0 : Int32} {σ : am_S} {F : Bool → am_S → Prop} (h : (am_is σ (some this) 12) ∧ ∀ σ2, σ2 = am_sfI σ 12019 this ((am_fI σ 12019 this) + (1 : Int32)) → ((63 : Int32) < x4 → F false σ2) ∧ (¬ ((63 : Int32) < x4) → (x4 = (63 : Int32) → ((1 : Int64) < x6 → F false σ2) ∧ (¬ ((1 : Int64) < x6) → c_Rm_reads_91 nl Ln xs (d + 1) this x1 x2 x4 y0 x6 σ2 F)) ∧ (¬ (x4 = (63 : Int32)) → c_Rm_reads_91 nl Ln xs (d + 1) this x1 x2 x4 y0 x6 σ2 F))) : c_Rm_reads_58 nl Ln xs (d + 1) this x1 x2 x4 x5 x6 y0 σ F := by
  obtain ⟨j58, j60, j61, j62, j65, j66, j67, j70, j72, j74, j77, j79, j81, j84, j86, j87, j88, j108, j109, -⟩ := P_Rm_reads_58 nl Ln xs
  unfold c_Rm_reads_58
  refine s_istore j58 rfl (n := 8) (L' := [some (am_ov (some this)), some (.int x1), some (.long x2), none, some (.int x4), some (.int y0), some (.long x6), none]) rfl (by decide) rfl ?_
  refine s_aload_n j60 rfl rfl ?_
  refine s_dup j61 rfl (am_cov _) ?_
  obtain ⟨ho1, h⟩ := h
  refine s_gfI j62 rfl ho1 ?_
  refine s_iconst j65 rfl kc_ic_1 ?_
  refine s_g j66 rfl rfl rfl rfl rfl rfl ?_
  refine s_pfI j67 rfl ho1 (fun σ2 e3 => ?_)
  replace h := h σ2 e3
  have ek4 : am_kd σ2 = am_kd σ := by rw [e3]
  refine s_iload j70 rfl rfl ?_
  refine s_bipush j72 rfl kc_bi_63 ?_
  refine s_ic j74 rfl rfl am_cc_gt (fun hc5 => ?_) (fun hc5 => ?_)
  · replace h := h.1 hc5
    refine s_iconst j108 rfl kc_ic_0 ?_
    exact s_retZ0 j109 rfl h
  · replace h := h.2 hc5
    refine s_iload j77 rfl rfl ?_
    refine s_bipush j79 rfl kc_bi_63 ?_
    refine s_icn j81 rfl rfl am_cc_ne (fun hc6 => ?_) (fun hc6 => ?_)
    · replace h := h.2 hc6
      exact h
    · replace h := h.1 hc6
      refine s_lload j84 rfl rfl ?_
      refine s_lconst j86 rfl rfl ?_
      refine s_g j87 rfl rfl rfl rfl rfl rfl ?_
      refine s_if j88 rfl rfl am_cl_gt (fun hc7 => ?_) (fun hc7 => ?_)
      · replace h := h.1 hc7
        refine s_iconst j108 rfl kc_ic_0 ?_
        exact s_retZ0 j109 rfl h
      · replace h := h.2 hc7
        exact h
theorem P_Rm_reads_91 (nl : Bool) (Ln : Nat) (xs : Nat → Int32) : am_Jl (TT nl Ln xs) 350 [(91, .iload 5, 93, []), (93, .ifCond .ne 17, 96, []), (96, .lload 6, 98, []), (98, .lconst 0, 99, []), (99, .lcmp, 100, []), (100, .ifCond .ne 10, 103, []), (103, .iload 4, 105, []), (105, .ifCond .le 5, 108, []), (108, .iconst 0, 109, []), (109, .ireturn, 110, [4]), (110, .lload_n 2, 111, []), (111, .lload 6, 113, []), (113, .iload 4, 115, []), (115, .lshl, 116, []), (116, .lor, 117, []), (117, .lstore_n 2, 118, []), (118, .iinc 4 7, 121, []), (121, .goto (-113), 124, [])] := dk_ck (by decide +kernel)
set_option maxRecDepth 4096 in
theorem w_Rm_reads_91 {nl : Bool} {Ln : Nat} {xs : Nat → Int32} {d : Nat} {this : Nat} {x1 : Int32} {x2 : Int64} {x4 : Int32} {x5 : Int32} {x6 : Int64} {σ : am_S} {F : Bool → am_S → Prop} (h : (x5 = 0 → (x6 = (0 : Int64) → (0 < x4 → F false σ) ∧ (¬ (0 < x4) → ∀ v4 : Int64, v4 = (x2 ||| (x6 <<< (x4.toInt64 &&& 63))) → c_Rm_reads_8 nl Ln xs (d + 1) this x1 v4 (x4 + (7 : Int32)) x5 (some (.long x6)) none σ F)) ∧ (¬ (x6 = (0 : Int64)) → ∀ v6 : Int64, v6 = (x2 ||| (x6 <<< (x4.toInt64 &&& 63))) → c_Rm_reads_8 nl Ln xs (d + 1) this x1 v6 (x4 + (7 : Int32)) x5 (some (.long x6)) none σ F)) ∧ (¬ (x5 = 0) → ∀ v8 : Int64, v8 = (x2 ||| (x6 <<< (x4.toInt64 &&& 63))) → c_Rm_reads_8 nl Ln xs (d + 1) this x1 v8 (x4 + (7 : Int32)) x5 (some (.long x6)) none σ F)) : c_Rm_reads_91 nl Ln xs (d + 1) this x1 x2 x4 x5 x6 σ F := by
  obtain ⟨j91, j93, j96, j98, j99, j100, j103, j105, j108, j109, j110, j111, j113, j115, j116, j117, j118, j121, -⟩ := P_Rm_reads_91 nl Ln xs
  unfold c_Rm_reads_91
  refine s_iload j91 rfl rfl ?_
  refine s_ifn j93 rfl rfl am_cc_ne (fun hc1 => ?_) (fun hc1 => ?_)
  · replace h := h.2 hc1
    refine s_lload_n j110 rfl rfl ?_
    refine s_lload j111 rfl rfl ?_
    refine s_iload j113 rfl rfl ?_
    refine s_g j115 rfl rfl rfl rfl rfl rfl ?_
    refine s_g j116 rfl rfl rfl rfl rfl rfl ?_
    refine s_lstore_nV j117 rfl (n := 8) (L' := fun w => [some (am_ov (some this)), some (.int x1), some (.long w), none, some (.int x4), some (.int x5), some (.long x6), none]) rfl (by decide) (fun _ => rfl) (fun v8 hv9 => ?_)
    replace h := h v8 hv9
    refine s_iinc (L' := [some (am_ov (some this)), some (.int x1), some (.long v8), none, some (.int (x4 + (7 : Int32))), some (.int x5), some (.long x6), none]) j118 rfl rfl kc_ic_7 rfl ?_
    refine s_goto j121 rfl rfl ?_
    exact h
  · replace h := h.1 hc1
    refine s_lload j96 rfl rfl ?_
    refine s_lconst j98 rfl rfl ?_
    refine s_g j99 rfl rfl rfl rfl rfl rfl ?_
    refine s_ifn j100 rfl rfl am_cl_ne (fun hc2 => ?_) (fun hc2 => ?_)
    · replace h := h.2 hc2
      refine s_lload_n j110 rfl rfl ?_
      refine s_lload j111 rfl rfl ?_
      refine s_iload j113 rfl rfl ?_
      refine s_g j115 rfl rfl rfl rfl rfl rfl ?_
      refine s_g j116 rfl rfl rfl rfl rfl rfl ?_
      refine s_lstore_nV j117 rfl (n := 8) (L' := fun w => [some (am_ov (some this)), some (.int x1), some (.long w), none, some (.int x4), some (.int x5), some (.long x6), none]) rfl (by decide) (fun _ => rfl) (fun v6 hv7 => ?_)
      replace h := h v6 hv7
      refine s_iinc (L' := [some (am_ov (some this)), some (.int x1), some (.long v6), none, some (.int (x4 + (7 : Int32))), some (.int x5), some (.long x6), none]) j118 rfl rfl kc_ic_7 rfl ?_
      refine s_goto j121 rfl rfl ?_
      exact h
    · replace h := h.1 hc2
      refine s_iload j103 rfl rfl ?_
      refine s_ifn j105 rfl rfl am_cc_le (fun hc3 => ?_) (fun hc3 => ?_)
      · replace h := h.2 hc3
        refine s_lload_n j110 rfl rfl ?_
        refine s_lload j111 rfl rfl ?_
        refine s_iload j113 rfl rfl ?_
        refine s_g j115 rfl rfl rfl rfl rfl rfl ?_
        refine s_g j116 rfl rfl rfl rfl rfl rfl ?_
        refine s_lstore_nV j117 rfl (n := 8) (L' := fun w => [some (am_ov (some this)), some (.int x1), some (.long w), none, some (.int x4), some (.int x5), some (.long x6), none]) rfl (by decide) (fun _ => rfl) (fun v4 hv5 => ?_)
        replace h := h v4 hv5
        refine s_iinc (L' := [some (am_ov (some this)), some (.int x1), some (.long v4), none, some (.int (x4 + (7 : Int32))), some (.int x5), some (.long x6), none]) j118 rfl rfl kc_ic_7 rfl ?_
        refine s_goto j121 rfl rfl ?_
        exact h
      · replace h := h.1 hc3
        refine s_iconst j108 rfl kc_ic_0 ?_
        exact s_retZ0 j109 rfl h
theorem P_Rm_isLong (nl : Bool) (Ln : Nat) (xs : Nat → Int32) : am_Jl (TT nl Ln xs) 351 [(0, .iload_n 0, 1, []), (1, .iconst 5, 2, []), (2, .if_icmp .ne 8, 5, []), (5, .iload_n 1, 6, []), (6, .iconst 2, 7, []), (7, .if_icmp .eq 65, 10, []), (72, .iconst 1, 73, []), (73, .goto 4, 76, []), (77, .ireturn, 78, [4])] := dk_ck (by decide +kernel)
set_option maxRecDepth 4096 in
theorem w_Rm_isLong {nl : Bool} {Ln : Nat} {xs : Nat → Int32} {d : Nat} {p0 : Int32} {p1 : Int32} {σ : am_S} {F : Bool → am_S → Prop} (h : (p0 = (5 : Int32) → (p1 = (2 : Int32) → F true σ) ∧ (¬ (p1 = (2 : Int32)) → c_Rm_isLong_10 nl Ln xs (d + 1) p0 p1 σ F)) ∧ (¬ (p0 = (5 : Int32)) → c_Rm_isLong_10 nl Ln xs (d + 1) p0 p1 σ F)) : k_Rm_isLong nl Ln xs (d + 1) p0 p1 σ F := by
  obtain ⟨j0, j1, j2, j5, j6, j7, j72, j73, j77, -⟩ := P_Rm_isLong nl Ln xs
  have elo : am_lo 2 [.int p0, .int p1] = [some (.int p0), some (.int p1)] := by simp only [am_lo, am_in_ov, am_in_int, am_in_long, am_in_nil]; rfl
  unfold k_Rm_isLong
  rw [elo]
  refine s_iload_n j0 rfl rfl ?_
  refine s_iconst j1 rfl kc_ic_5 ?_
  refine s_icn j2 rfl rfl am_cc_ne (fun hc1 => ?_) (fun hc1 => ?_)
  · replace h := h.2 hc1
    exact h
  · replace h := h.1 hc1
    refine s_iload_n j5 rfl rfl ?_
    refine s_iconst j6 rfl kc_ic_2 ?_
    refine s_ic j7 rfl rfl am_cc_eq (fun hc2 => ?_) (fun hc2 => ?_)
    · replace h := h.1 hc2
      refine s_iconst j72 rfl kc_ic_1 ?_
      refine s_goto j73 rfl rfl ?_
      exact s_retZ1 j77 rfl h
    · replace h := h.2 hc2
      exact h
theorem P_Rm_isLong_10 (nl : Bool) (Ln : Nat) (xs : Nat → Int32) : am_Jl (TT nl Ln xs) 351 [(10, .iload_n 0, 11, []), (11, .bipush 10, 13, []), (13, .if_icmp .ne 8, 16, []), (16, .iload_n 1, 17, []), (17, .iconst 2, 18, []), (18, .if_icmp .ge 54, 21, []), (72, .iconst 1, 73, []), (73, .goto 4, 76, []), (77, .ireturn, 78, [4])] := dk_ck (by decide +kernel)
set_option maxRecDepth 4096 in
theorem w_Rm_isLong_10 {nl : Bool} {Ln : Nat} {xs : Nat → Int32} {d : Nat} {x0 : Int32} {x1 : Int32} {σ : am_S} {F : Bool → am_S → Prop} (h : (x0 = (10 : Int32) → (x1 < (2 : Int32) → c_Rm_isLong_21 nl Ln xs (d + 1) x0 x1 σ F) ∧ (¬ (x1 < (2 : Int32)) → F true σ)) ∧ (¬ (x0 = (10 : Int32)) → c_Rm_isLong_21 nl Ln xs (d + 1) x0 x1 σ F)) : c_Rm_isLong_10 nl Ln xs (d + 1) x0 x1 σ F := by
  obtain ⟨j10, j11, j13, j16, j17, j18, j72, j73, j77, -⟩ := P_Rm_isLong_10 nl Ln xs
  unfold c_Rm_isLong_10
  refine s_iload_n j10 rfl rfl ?_
  refine s_bipush j11 rfl kc_bi_10 ?_
  refine s_icn j13 rfl rfl am_cc_ne (fun hc1 => ?_) (fun hc1 => ?_)
  · replace h := h.2 hc1
    exact h
  · replace h := h.1 hc1
    refine s_iload_n j16 rfl rfl ?_
    refine s_iconst j17 rfl kc_ic_2 ?_
    refine s_icn j18 rfl rfl am_cc_ge (fun hc2 => ?_) (fun hc2 => ?_)
    · replace h := h.2 hc2
      refine s_iconst j72 rfl kc_ic_1 ?_
      refine s_goto j73 rfl rfl ?_
      exact s_retZ1 j77 rfl h
    · replace h := h.1 hc2
      exact h
theorem P_Rm_isLong_21 (nl : Bool) (Ln : Nat) (xs : Nat → Int32) : am_Jl (TT nl Ln xs) 351 [(21, .iload_n 0, 22, []), (22, .bipush 12, 24, []), (24, .if_icmp .eq 9, 27, []), (27, .iload_n 0, 28, []), (28, .bipush 17, 30, []), (30, .if_icmp .ne 8, 33, [])] := dk_ck (by decide +kernel)
set_option maxRecDepth 4096 in
theorem w_Rm_isLong_21 {nl : Bool} {Ln : Nat} {xs : Nat → Int32} {d : Nat} {x0 : Int32} {x1 : Int32} {σ : am_S} {F : Bool → am_S → Prop} (h : (x0 = (12 : Int32) → c_Rm_isLong_33 nl Ln xs (d + 1) x0 x1 σ F) ∧ (¬ (x0 = (12 : Int32)) → (x0 = (17 : Int32) → c_Rm_isLong_33 nl Ln xs (d + 1) x0 x1 σ F) ∧ (¬ (x0 = (17 : Int32)) → c_Rm_isLong_38 nl Ln xs (d + 1) x0 x1 σ F))) : c_Rm_isLong_21 nl Ln xs (d + 1) x0 x1 σ F := by
  obtain ⟨j21, j22, j24, j27, j28, j30, -⟩ := P_Rm_isLong_21 nl Ln xs
  unfold c_Rm_isLong_21
  refine s_iload_n j21 rfl rfl ?_
  refine s_bipush j22 rfl kc_bi_12 ?_
  refine s_ic j24 rfl rfl am_cc_eq (fun hc1 => ?_) (fun hc1 => ?_)
  · replace h := h.1 hc1
    exact h
  · replace h := h.2 hc1
    refine s_iload_n j27 rfl rfl ?_
    refine s_bipush j28 rfl kc_bi_17 ?_
    refine s_icn j30 rfl rfl am_cc_ne (fun hc2 => ?_) (fun hc2 => ?_)
    · replace h := h.2 hc2
      exact h
    · replace h := h.1 hc2
      exact h
theorem P_Rm_isLong_33 (nl : Bool) (Ln : Nat) (xs : Nat → Int32) : am_Jl (TT nl Ln xs) 351 [(33, .iload_n 1, 34, []), (34, .iconst 3, 35, []), (35, .if_icmp .eq 37, 38, []), (72, .iconst 1, 73, []), (73, .goto 4, 76, []), (77, .ireturn, 78, [4])] := dk_ck (by decide +kernel)
set_option maxRecDepth 4096 in
theorem w_Rm_isLong_33 {nl : Bool} {Ln : Nat} {xs : Nat → Int32} {d : Nat} {x0 : Int32} {x1 : Int32} {σ : am_S} {F : Bool → am_S → Prop} (h : (x1 = (3 : Int32) → F true σ) ∧ (¬ (x1 = (3 : Int32)) → c_Rm_isLong_38 nl Ln xs (d + 1) x0 x1 σ F)) : c_Rm_isLong_33 nl Ln xs (d + 1) x0 x1 σ F := by
  obtain ⟨j33, j34, j35, j72, j73, j77, -⟩ := P_Rm_isLong_33 nl Ln xs
  unfold c_Rm_isLong_33
  refine s_iload_n j33 rfl rfl ?_
  refine s_iconst j34 rfl kc_ic_3 ?_
  refine s_ic j35 rfl rfl am_cc_eq (fun hc1 => ?_) (fun hc1 => ?_)
  · replace h := h.1 hc1
    refine s_iconst j72 rfl kc_ic_1 ?_
    refine s_goto j73 rfl rfl ?_
    exact s_retZ1 j77 rfl h
  · replace h := h.2 hc1
    exact h
theorem P_Rm_isLong_38 (nl : Bool) (Ln : Nat) (xs : Nat → Int32) : am_Jl (TT nl Ln xs) 351 [(38, .iload_n 0, 39, []), (39, .bipush 13, 41, []), (41, .if_icmp .eq 15, 44, []), (44, .iload_n 0, 45, []), (45, .bipush 18, 47, []), (47, .if_icmp .eq 9, 50, []), (50, .iload_n 0, 51, []), (51, .bipush 19, 53, []), (53, .if_icmp .ne 8, 56, []), (56, .iload_n 1, 57, []), (57, .iconst 2, 58, []), (58, .if_icmp .eq 14, 61, []), (61, .iload_n 0, 62, []), (62, .bipush 16, 64, []), (64, .if_icmp .ne 12, 67, []), (67, .iload_n 1, 68, []), (68, .iconst 4, 69, []), (69, .if_icmp .ne 7, 72, []), (72, .iconst 1, 73, []), (73, .goto 4, 76, []), (76, .iconst 0, 77, []), (77, .ireturn, 78, [4])] := dk_ck (by decide +kernel)
set_option maxRecDepth 4096 in
theorem w_Rm_isLong_38 {nl : Bool} {Ln : Nat} {xs : Nat → Int32} {d : Nat} {x0 : Int32} {x1 : Int32} {σ : am_S} {F : Bool → am_S → Prop} (h : (x0 = (13 : Int32) → c_Rm_isLong_56 nl Ln xs (d + 1) x0 x1 σ F) ∧ (¬ (x0 = (13 : Int32)) → (x0 = (18 : Int32) → c_Rm_isLong_56 nl Ln xs (d + 1) x0 x1 σ F) ∧ (¬ (x0 = (18 : Int32)) → F (decide (((x0 = (19 : Int32)) ∧ ((x1 = (2 : Int32)) ∨ ((x0 = (16 : Int32)) ∧ (x1 = (4 : Int32))))) ∨ (¬ (x0 = (19 : Int32)) ∧ ((x0 = (16 : Int32)) ∧ (x1 = (4 : Int32)))))) σ))) : c_Rm_isLong_38 nl Ln xs (d + 1) x0 x1 σ F := by
  obtain ⟨j38, j39, j41, j44, j45, j47, j50, j51, j53, j56, j57, j58, j61, j62, j64, j67, j68, j69, j72, j73, j76, j77, -⟩ := P_Rm_isLong_38 nl Ln xs
  unfold c_Rm_isLong_38
  refine s_iload_n j38 rfl rfl ?_
  refine s_bipush j39 rfl kc_bi_13 ?_
  refine s_ic j41 rfl rfl am_cc_eq (fun hc1 => ?_) (fun hc1 => ?_)
  · replace h := h.1 hc1
    exact h
  · replace h := h.2 hc1
    refine s_iload_n j44 rfl rfl ?_
    refine s_bipush j45 rfl kc_bi_18 ?_
    refine s_ic j47 rfl rfl am_cc_eq (fun hc2 => ?_) (fun hc2 => ?_)
    · replace h := h.1 hc2
      exact h
    · replace h := h.2 hc2
      refine s_iload_n j50 rfl rfl ?_
      refine s_bipush j51 rfl kc_bi_19 ?_
      have K9 : ∀ (w10 : Int32), w10 = (if ((x0 = (19 : Int32)) ∧ ((x1 = (2 : Int32)) ∨ ((x0 = (16 : Int32)) ∧ (x1 = (4 : Int32))))) ∨ (¬ (x0 = (19 : Int32)) ∧ ((x0 = (16 : Int32)) ∧ (x1 = (4 : Int32)))) then (1 : Int32) else 0) → am_C (TT nl Ln xs) (d + 1) 351 77 [some (.int x0), some (.int x1)] [.int w10] σ (am_qB F) := by
        intro w10 hw11
        subst hw11
        exact s_retZ j77 rfl h
      refine s_icn j53 rfl rfl am_cc_ne (fun hc3 => ?_) (fun hc3 => ?_)
      · refine s_iload_n j61 rfl rfl ?_
        refine s_bipush j62 rfl kc_bi_16 ?_
        refine s_icn j64 rfl rfl am_cc_ne (fun hc7 => ?_) (fun hc7 => ?_)
        · refine s_iconst j76 rfl kc_ic_0 ?_
          exact K9 _ (am_e0 (am_p14 hc3 (Iff.trans Iff.rfl (am_p2 hc7))))
        · refine s_iload_n j67 rfl rfl ?_
          refine s_iconst j68 rfl kc_ic_4 ?_
          refine s_icn j69 rfl rfl am_cc_ne (fun hc8 => ?_) (fun hc8 => ?_)
          · refine s_iconst j76 rfl kc_ic_0 ?_
            exact K9 _ (am_e0 (am_p14 hc3 (am_p1 hc7 (Iff.trans Iff.rfl (am_p10 hc8)))))
          · refine s_iconst j72 rfl kc_ic_1 ?_
            refine s_goto j73 rfl rfl ?_
            exact K9 _ (am_e1 (am_p14 hc3 (am_p1 hc7 (Iff.trans Iff.rfl (am_p9 hc8)))))
      · refine s_iload_n j56 rfl rfl ?_
        refine s_iconst j57 rfl kc_ic_2 ?_
        refine s_ic j58 rfl rfl am_cc_eq (fun hc4 => ?_) (fun hc4 => ?_)
        · refine s_iconst j72 rfl kc_ic_1 ?_
          refine s_goto j73 rfl rfl ?_
          exact K9 _ (am_e1 (am_p13 hc3 (Iff.trans Iff.rfl (am_p3 hc4))))
        · refine s_iload_n j61 rfl rfl ?_
          refine s_bipush j62 rfl kc_bi_16 ?_
          refine s_icn j64 rfl rfl am_cc_ne (fun hc5 => ?_) (fun hc5 => ?_)
          · refine s_iconst j76 rfl kc_ic_0 ?_
            exact K9 _ (am_e0 (am_p13 hc3 (am_p4 hc4 (Iff.trans Iff.rfl (am_p2 hc5)))))
          · refine s_iload_n j67 rfl rfl ?_
            refine s_iconst j68 rfl kc_ic_4 ?_
            refine s_icn j69 rfl rfl am_cc_ne (fun hc6 => ?_) (fun hc6 => ?_)
            · refine s_iconst j76 rfl kc_ic_0 ?_
              exact K9 _ (am_e0 (am_p13 hc3 (am_p4 hc4 (am_p1 hc5 (Iff.trans Iff.rfl (am_p10 hc6))))))
            · refine s_iconst j72 rfl kc_ic_1 ?_
              refine s_goto j73 rfl rfl ?_
              exact K9 _ (am_e1 (am_p13 hc3 (am_p4 hc4 (am_p1 hc5 (Iff.trans Iff.rfl (am_p9 hc6))))))
theorem P_Rm_isLong_56 (nl : Bool) (Ln : Nat) (xs : Nat → Int32) : am_Jl (TT nl Ln xs) 351 [(56, .iload_n 1, 57, []), (57, .iconst 2, 58, []), (58, .if_icmp .eq 14, 61, []), (61, .iload_n 0, 62, []), (62, .bipush 16, 64, []), (64, .if_icmp .ne 12, 67, []), (67, .iload_n 1, 68, []), (68, .iconst 4, 69, []), (69, .if_icmp .ne 7, 72, []), (72, .iconst 1, 73, []), (73, .goto 4, 76, []), (76, .iconst 0, 77, []), (77, .ireturn, 78, [4])] := dk_ck (by decide +kernel)
set_option maxRecDepth 4096 in
theorem w_Rm_isLong_56 {nl : Bool} {Ln : Nat} {xs : Nat → Int32} {d : Nat} {x0 : Int32} {x1 : Int32} {σ : am_S} {F : Bool → am_S → Prop} (h : F (decide ((x1 = (2 : Int32)) ∨ ((x0 = (16 : Int32)) ∧ (x1 = (4 : Int32))))) σ) : c_Rm_isLong_56 nl Ln xs (d + 1) x0 x1 σ F := by
  obtain ⟨j56, j57, j58, j61, j62, j64, j67, j68, j69, j72, j73, j76, j77, -⟩ := P_Rm_isLong_56 nl Ln xs
  unfold c_Rm_isLong_56
  refine s_iload_n j56 rfl rfl ?_
  refine s_iconst j57 rfl kc_ic_2 ?_
  have K4 : ∀ (w5 : Int32), w5 = (if (x1 = (2 : Int32)) ∨ ((x0 = (16 : Int32)) ∧ (x1 = (4 : Int32))) then (1 : Int32) else 0) → am_C (TT nl Ln xs) (d + 1) 351 77 [some (.int x0), some (.int x1)] [.int w5] σ (am_qB F) := by
    intro w5 hw6
    subst hw6
    exact s_retZ j77 rfl h
  refine s_ic j58 rfl rfl am_cc_eq (fun hc1 => ?_) (fun hc1 => ?_)
  · refine s_iconst j72 rfl kc_ic_1 ?_
    refine s_goto j73 rfl rfl ?_
    exact K4 _ (am_e1 (Iff.trans Iff.rfl (am_p3 hc1)))
  · refine s_iload_n j61 rfl rfl ?_
    refine s_bipush j62 rfl kc_bi_16 ?_
    refine s_icn j64 rfl rfl am_cc_ne (fun hc2 => ?_) (fun hc2 => ?_)
    · refine s_iconst j76 rfl kc_ic_0 ?_
      exact K4 _ (am_e0 (am_p4 hc1 (Iff.trans Iff.rfl (am_p2 hc2))))
    · refine s_iload_n j67 rfl rfl ?_
      refine s_iconst j68 rfl kc_ic_4 ?_
      refine s_icn j69 rfl rfl am_cc_ne (fun hc3 => ?_) (fun hc3 => ?_)
      · refine s_iconst j76 rfl kc_ic_0 ?_
        exact K4 _ (am_e0 (am_p4 hc1 (am_p1 hc2 (Iff.trans Iff.rfl (am_p10 hc3)))))
      · refine s_iconst j72 rfl kc_ic_1 ?_
        refine s_goto j73 rfl rfl ?_
        exact K4 _ (am_e1 (am_p4 hc1 (am_p1 hc2 (Iff.trans Iff.rfl (am_p9 hc3)))))
theorem P_Law_law (nl : Bool) (Ln : Nat) (xs : Nat → Int32) : am_Jl (TT nl Ln xs) 352 [(0, .new 7, 3, [2, 0, 11]), (3, .dup, 4, []), (4, .invokespecial 9, 7, [11, 0, 1, 1, 1]), (7, .astore_n 1, 8, []), (8, .new 10, 11, [2, 12, 21]), (11, .dup, 12, []), (12, .invokespecial 12, 15, [11, 197, 13, 1, 1]), (15, .astore_n 2, 16, []), (16, .iconst 0, 17, []), (17, .istore_n 3, 18, [])] := dk_ck (by decide +kernel)
set_option maxRecDepth 4096 in
theorem w_Law_law {nl : Bool} {Ln : Nat} {xs : Nat → Int32} {d : Nat}  {σ : am_S} {F : Bool → am_S → Prop} (h : ∀ σ1, σ1 = am_new σ 1 0 11 → am_ext σ σ1 → am_fz σ1 (am_nx σ) → k_Co_init nl Ln xs d (am_nx σ) σ1 (fun σ3 => am_ext σ1 σ3 → ∀ v5 : Option Nat, v5 = some (am_nx σ) → ∀ σ7, σ7 = am_new σ3 13 0 21 → am_ext σ3 σ7 → am_fz σ7 (am_nx σ3) → k_Rm_init nl Ln xs d (am_nx σ3) σ7 (fun σ9 => am_ext σ7 σ9 → ∀ v11 : Option Nat, v11 = some (am_nx σ3) → c_Law_law_18 nl Ln xs (d + 1) v5 v11 (0 : Int32) σ9 F))) : am_C (TT nl Ln xs) (d + 1) 352 0 [some (am_ov (some 999)), none, none, none] [] σ (am_qB F) := by
  obtain ⟨j0, j3, j4, j7, j8, j11, j12, j15, j16, j17, -⟩ := P_Law_law nl Ln xs
  refine s_new j0 rfl (fun σ1 e2 e2x e2z => ?_)
  replace h := h σ1 e2 e2x e2z
  refine s_dup j3 rfl (am_cov _) ?_
  refine s_spec j4 rfl rfl rfl rfl (by decide) (in_Co_init _) (am_r8 rfl) (am_bV h (fun σ3 h hx3 => ?_))
  replace h := h hx3
  refine s_astore_nV j7 rfl (n := 4) (L' := fun w => [some (am_ov (some 999)), some (am_ov w), none, none]) rfl (by decide) (fun _ => am_st1_R [] _ _ _ _) (fun v5 hv6 => ?_)
  replace h := h v5 hv6
  refine s_new j8 rfl (fun σ7 e8 e8x e8z => ?_)
  replace h := h σ7 e8 e8x e8z
  refine s_dup j11 rfl (am_cov _) ?_
  refine s_spec j12 rfl rfl rfl rfl (by decide) (in_Rm_init _) (am_r8 rfl) (am_bV h (fun σ9 h hx9 => ?_))
  replace h := h hx9
  refine s_astore_nV j15 rfl (n := 4) (L' := fun w => [some (am_ov (some 999)), some (am_ov v5), some (am_ov w), none]) rfl (by decide) (fun _ => am_st1_R [_] _ _ _ _) (fun v11 hv12 => ?_)
  replace h := h v11 hv12
  refine s_iconst j16 rfl kc_ic_0 ?_
  refine s_istore_n j17 rfl (n := 4) (L' := [some (am_ov (some 999)), some (am_ov v5), some (am_ov v11), some (.int (0 : Int32))]) rfl (by decide) (am_st1_R [_, _] _ _ _ _) ?_
  exact h
theorem P_Law_law_18 (nl : Bool) (Ln : Nat) (xs : Nat → Int32) : am_Jl (TT nl Ln xs) 352 [(18, .iload_n 3, 19, []), (19, .aload_n 0, 20, []), (20, .arraylength, 21, []), (21, .bipush 8, 23, []), (23, .isub, 24, []), (24, .if_icmp .gt 1903, 27, []), (27, .aload_n 0, 28, []), (28, .iload_n 3, 29, []), (29, .iaload, 30, []), (30, .bipush 63, 32, []), (32, .iand, 33, []), (33, .tableswitch 1888 0 39 #[175, 188, 221, 274, 317, 390, 453, 476, 509, 542, 575, 690, 743, 826, 899, 932, 975, 1082, 1165, 1238, 1311, 1324, 1337, 1350, 1394, 1407, 1440, 1464, 1487, 1500, 1533, 1556, 1600, 1644, 1688, 1742, 1806, 1819, 1832, 1865], 208, []), (1921, .iinc 3 8, 1924, []), (1924, .goto (-1906), 1927, []), (1927, .iconst 1, 1928, []), (1928, .ireturn, 1929, [4])] := dk_ck (by decide +kernel)
set_option maxRecDepth 4096 in
theorem w_Law_law_18 {nl : Bool} {Ln : Nat} {xs : Nat → Int32} {d : Nat} {x1 : Option Nat} {x2 : Option Nat} {x3 : Int32} {σ : am_S} {F : Bool → am_S → Prop} (h : ((am_kd σ 999).1 = 0) ∧ (((Int32.ofNat Ln) - (8 : Int32)) < x3 → F true σ) ∧ (¬ (((Int32.ofNat Ln) - (8 : Int32)) < x3) → ((am_kd σ 999).1 = 0) ∧ (0 ≤ x3.toInt) ∧ (x3.toInt < am_rl (am_tz (TT nl Ln xs)) 999) ∧ (((am_rv (am_tz (TT nl Ln xs)) 999 x3.toNatClampNeg) &&& (63 : Int32)) = (0 : Int32) → c_Law_law_208 nl Ln xs (d + 1) x1 x2 x3 σ F) ∧ (((am_rv (am_tz (TT nl Ln xs)) 999 x3.toNatClampNeg) &&& (63 : Int32)) = (1 : Int32) → c_Law_law_221 nl Ln xs (d + 1) x1 x2 x3 σ F) ∧ (((am_rv (am_tz (TT nl Ln xs)) 999 x3.toNatClampNeg) &&& (63 : Int32)) = (2 : Int32) → c_Law_law_254 nl Ln xs (d + 1) x1 x2 x3 σ F) ∧ (((am_rv (am_tz (TT nl Ln xs)) 999 x3.toNatClampNeg) &&& (63 : Int32)) = (3 : Int32) → c_Law_law_307 nl Ln xs (d + 1) x1 x2 x3 σ F) ∧ (((am_rv (am_tz (TT nl Ln xs)) 999 x3.toNatClampNeg) &&& (63 : Int32)) = (4 : Int32) → c_Law_law_350 nl Ln xs (d + 1) x1 x2 x3 σ F) ∧ (((am_rv (am_tz (TT nl Ln xs)) 999 x3.toNatClampNeg) &&& (63 : Int32)) = (5 : Int32) → c_Law_law_423 nl Ln xs (d + 1) x1 x2 x3 σ F) ∧ (((am_rv (am_tz (TT nl Ln xs)) 999 x3.toNatClampNeg) &&& (63 : Int32)) = (6 : Int32) → c_Law_law_486 nl Ln xs (d + 1) x1 x2 x3 σ F) ∧ (((am_rv (am_tz (TT nl Ln xs)) 999 x3.toNatClampNeg) &&& (63 : Int32)) = (7 : Int32) → c_Law_law_509 nl Ln xs (d + 1) x1 x2 x3 σ F) ∧ (((am_rv (am_tz (TT nl Ln xs)) 999 x3.toNatClampNeg) &&& (63 : Int32)) = (8 : Int32) → c_Law_law_542 nl Ln xs (d + 1) x1 x2 x3 σ F) ∧ (((am_rv (am_tz (TT nl Ln xs)) 999 x3.toNatClampNeg) &&& (63 : Int32)) = (9 : Int32) → c_Law_law_575 nl Ln xs (d + 1) x1 x2 x3 σ F) ∧ (((am_rv (am_tz (TT nl Ln xs)) 999 x3.toNatClampNeg) &&& (63 : Int32)) = (10 : Int32) → c_Law_law_608 nl Ln xs (d + 1) x1 x2 x3 σ F) ∧ (((am_rv (am_tz (TT nl Ln xs)) 999 x3.toNatClampNeg) &&& (63 : Int32)) = (11 : Int32) → c_Law_law_723 nl Ln xs (d + 1) x1 x2 x3 σ F) ∧ (((am_rv (am_tz (TT nl Ln xs)) 999 x3.toNatClampNeg) &&& (63 : Int32)) = (12 : Int32) → c_Law_law_776 nl Ln xs (d + 1) x1 x2 x3 σ F) ∧ (((am_rv (am_tz (TT nl Ln xs)) 999 x3.toNatClampNeg) &&& (63 : Int32)) = (13 : Int32) → c_Law_law_859 nl Ln xs (d + 1) x1 x2 x3 σ F) ∧ (((am_rv (am_tz (TT nl Ln xs)) 999 x3.toNatClampNeg) &&& (63 : Int32)) = (14 : Int32) → c_Law_law_932 nl Ln xs (d + 1) x1 x2 x3 σ F) ∧ (((am_rv (am_tz (TT nl Ln xs)) 999 x3.toNatClampNeg) &&& (63 : Int32)) = (15 : Int32) → c_Law_law_965 nl Ln xs (d + 1) x1 x2 x3 σ F) ∧ (((am_rv (am_tz (TT nl Ln xs)) 999 x3.toNatClampNeg) &&& (63 : Int32)) = (16 : Int32) → c_Law_law_1008 nl Ln xs (d + 1) x1 x2 x3 σ F) ∧ (((am_rv (am_tz (TT nl Ln xs)) 999 x3.toNatClampNeg) &&& (63 : Int32)) = (17 : Int32) → c_Law_law_1115 nl Ln xs (d + 1) x1 x2 x3 σ F) ∧ (((am_rv (am_tz (TT nl Ln xs)) 999 x3.toNatClampNeg) &&& (63 : Int32)) = (18 : Int32) → c_Law_law_1198 nl Ln xs (d + 1) x1 x2 x3 σ F) ∧ (((am_rv (am_tz (TT nl Ln xs)) 999 x3.toNatClampNeg) &&& (63 : Int32)) = (19 : Int32) → c_Law_law_1271 nl Ln xs (d + 1) x1 x2 x3 σ F) ∧ (((am_rv (am_tz (TT nl Ln xs)) 999 x3.toNatClampNeg) &&& (63 : Int32)) = (20 : Int32) → c_Law_law_1344 nl Ln xs (d + 1) x1 x2 x3 σ F) ∧ (((am_rv (am_tz (TT nl Ln xs)) 999 x3.toNatClampNeg) &&& (63 : Int32)) = (21 : Int32) → c_Law_law_1357 nl Ln xs (d + 1) x1 x2 x3 σ F) ∧ (((am_rv (am_tz (TT nl Ln xs)) 999 x3.toNatClampNeg) &&& (63 : Int32)) = (22 : Int32) → c_Law_law_1370 nl Ln xs (d + 1) x1 x2 x3 σ F) ∧ (((am_rv (am_tz (TT nl Ln xs)) 999 x3.toNatClampNeg) &&& (63 : Int32)) = (23 : Int32) → c_Law_law_1383 nl Ln xs (d + 1) x1 x2 x3 σ F) ∧ (((am_rv (am_tz (TT nl Ln xs)) 999 x3.toNatClampNeg) &&& (63 : Int32)) = (24 : Int32) → c_Law_law_1427 nl Ln xs (d + 1) x1 x2 x3 σ F) ∧ (((am_rv (am_tz (TT nl Ln xs)) 999 x3.toNatClampNeg) &&& (63 : Int32)) = (25 : Int32) → c_Law_law_1440 nl Ln xs (d + 1) x1 x2 x3 σ F) ∧ (((am_rv (am_tz (TT nl Ln xs)) 999 x3.toNatClampNeg) &&& (63 : Int32)) = (26 : Int32) → c_Law_law_1473 nl Ln xs (d + 1) x1 x2 x3 σ F) ∧ (((am_rv (am_tz (TT nl Ln xs)) 999 x3.toNatClampNeg) &&& (63 : Int32)) = (27 : Int32) → c_Law_law_1497 nl Ln xs (d + 1) x1 x2 x3 σ F) ∧ (((am_rv (am_tz (TT nl Ln xs)) 999 x3.toNatClampNeg) &&& (63 : Int32)) = (28 : Int32) → c_Law_law_1520 nl Ln xs (d + 1) x1 x2 x3 σ F) ∧ (((am_rv (am_tz (TT nl Ln xs)) 999 x3.toNatClampNeg) &&& (63 : Int32)) = (29 : Int32) → c_Law_law_1533 nl Ln xs (d + 1) x1 x2 x3 σ F) ∧ (((am_rv (am_tz (TT nl Ln xs)) 999 x3.toNatClampNeg) &&& (63 : Int32)) = (30 : Int32) → c_Law_law_1566 nl Ln xs (d + 1) x1 x2 x3 σ F) ∧ (((am_rv (am_tz (TT nl Ln xs)) 999 x3.toNatClampNeg) &&& (63 : Int32)) = (31 : Int32) → c_Law_law_1589 nl Ln xs (d + 1) x1 x2 x3 σ F) ∧ (((am_rv (am_tz (TT nl Ln xs)) 999 x3.toNatClampNeg) &&& (63 : Int32)) = (32 : Int32) → c_Law_law_1633 nl Ln xs (d + 1) x1 x2 x3 σ F) ∧ (((am_rv (am_tz (TT nl Ln xs)) 999 x3.toNatClampNeg) &&& (63 : Int32)) = (33 : Int32) → c_Law_law_1677 nl Ln xs (d + 1) x1 x2 x3 σ F) ∧ (((am_rv (am_tz (TT nl Ln xs)) 999 x3.toNatClampNeg) &&& (63 : Int32)) = (34 : Int32) → c_Law_law_1721 nl Ln xs (d + 1) x1 x2 x3 σ F) ∧ (((am_rv (am_tz (TT nl Ln xs)) 999 x3.toNatClampNeg) &&& (63 : Int32)) = (35 : Int32) → c_Law_law_1775 nl Ln xs (d + 1) x1 x2 x3 σ F) ∧ (((am_rv (am_tz (TT nl Ln xs)) 999 x3.toNatClampNeg) &&& (63 : Int32)) = (36 : Int32) → c_Law_law_1839 nl Ln xs (d + 1) x1 x2 x3 σ F) ∧ (((am_rv (am_tz (TT nl Ln xs)) 999 x3.toNatClampNeg) &&& (63 : Int32)) = (37 : Int32) → c_Law_law_1852 nl Ln xs (d + 1) x1 x2 x3 σ F) ∧ (((am_rv (am_tz (TT nl Ln xs)) 999 x3.toNatClampNeg) &&& (63 : Int32)) = (38 : Int32) → c_Law_law_1865 nl Ln xs (d + 1) x1 x2 x3 σ F) ∧ (((am_rv (am_tz (TT nl Ln xs)) 999 x3.toNatClampNeg) &&& (63 : Int32)) = (39 : Int32) → c_Law_law_1898 nl Ln xs (d + 1) x1 x2 x3 σ F) ∧ ((((am_rv (am_tz (TT nl Ln xs)) 999 x3.toNatClampNeg) &&& (63 : Int32)).toInt < 0 ∨ 39 < ((am_rv (am_tz (TT nl Ln xs)) 999 x3.toNatClampNeg) &&& (63 : Int32)).toInt) → c_Law_law_18 nl Ln xs (d + 1) x1 x2 (x3 + (8 : Int32)) σ F))) : c_Law_law_18 nl Ln xs (d + 1) x1 x2 x3 σ F := by
  obtain ⟨j18, j19, j20, j21, j23, j24, j27, j28, j29, j30, j32, j33, j1921, j1924, j1927, j1928, -⟩ := P_Law_law_18 nl Ln xs
  unfold c_Law_law_18
  refine s_iload_n j18 rfl rfl ?_
  refine s_aload_n j19 rfl rfl ?_
  obtain ⟨ho1, h⟩ := h
  refine s_lenR (v := Int32.ofNat Ln) j20 rfl (by decide) ho1 (Or.inl rfl) rfl ?_
  refine s_bipush j21 rfl kc_bi_8 ?_
  refine s_g j23 rfl rfl rfl rfl rfl rfl ?_
  refine s_ic j24 rfl rfl am_cc_gt (fun hc2 => ?_) (fun hc2 => ?_)
  · replace h := h.1 hc2
    refine s_iconst j1927 rfl kc_ic_1 ?_
    exact s_retZ1 j1928 rfl h
  · replace h := h.2 hc2
    refine s_aload_n j27 rfl rfl ?_
    refine s_iload_n j28 rfl rfl ?_
    obtain ⟨ho3, h⟩ := h
    obtain ⟨ho4, h⟩ := h
    obtain ⟨ho5, h⟩ := h
    refine s_ialoadR j29 rfl (by decide) ho3 rfl ho4 ho5 ?_
    refine s_bipush j30 rfl kc_bi_63 ?_
    refine s_g j32 rfl rfl rfl rfl rfl rfl ?_
    by_cases hr6 : ((am_rv (am_tz (TT nl Ln xs)) 999 x3.toNatClampNeg) &&& (63 : Int32)).toInt < 0 ∨ 39 < ((am_rv (am_tz (TT nl Ln xs)) 999 x3.toNatClampNeg) &&& (63 : Int32)).toInt
    · refine s_tsw j33 (t := 1921) ((am_sw_out hr6).trans rfl) ?_
      replace h := h.2.2.2.2.2.2.2.2.2.2.2.2.2.2.2.2.2.2.2.2.2.2.2.2.2.2.2.2.2.2.2.2.2.2.2.2.2.2.2.2 hr6
      refine s_iinc (L' := [some (am_ov (some 999)), some (am_ov x1), some (am_ov x2), some (.int (x3 + (8 : Int32)))]) j1921 rfl rfl kc_ic_8 (am_st1_R [_, _] _ _ _ _) ?_
      refine s_goto j1924 rfl rfl ?_
      exact h
    · obtain ⟨k7, hk8, hv9⟩ := am_sw_in hr6
      have hk82 : k7 < 40 := by omega
      clear hk8
      match k7, hk82, hv9 with
      | 0, _, hv9 =>
        have hs : ((am_rv (am_tz (TT nl Ln xs)) 999 x3.toNatClampNeg) &&& (63 : Int32)) = (0 : Int32) := am_te hv9 (by decide)
        refine s_tsw j33 (t := 208) (by show am_sw 33 1888 0 39 #[175, 188, 221, 274, 317, 390, 453, 476, 509, 542, 575, 690, 743, 826, 899, 932, 975, 1082, 1165, 1238, 1311, 1324, 1337, 1350, 1394, 1407, 1440, 1464, 1487, 1500, 1533, 1556, 1600, 1644, 1688, 1742, 1806, 1819, 1832, 1865] ((am_rv (am_tz (TT nl Ln xs)) 999 x3.toNatClampNeg) &&& (63 : Int32)).toInt = _; rw [hv9]; rfl) ?_
        replace h := h.1 hs
        exact h
      | 1, _, hv9 =>
        have hs : ((am_rv (am_tz (TT nl Ln xs)) 999 x3.toNatClampNeg) &&& (63 : Int32)) = (1 : Int32) := am_te hv9 (by decide)
        refine s_tsw j33 (t := 221) (by show am_sw 33 1888 0 39 #[175, 188, 221, 274, 317, 390, 453, 476, 509, 542, 575, 690, 743, 826, 899, 932, 975, 1082, 1165, 1238, 1311, 1324, 1337, 1350, 1394, 1407, 1440, 1464, 1487, 1500, 1533, 1556, 1600, 1644, 1688, 1742, 1806, 1819, 1832, 1865] ((am_rv (am_tz (TT nl Ln xs)) 999 x3.toNatClampNeg) &&& (63 : Int32)).toInt = _; rw [hv9]; rfl) ?_
        replace h := h.2.1 hs
        exact h
      | 2, _, hv9 =>
        have hs : ((am_rv (am_tz (TT nl Ln xs)) 999 x3.toNatClampNeg) &&& (63 : Int32)) = (2 : Int32) := am_te hv9 (by decide)
        refine s_tsw j33 (t := 254) (by show am_sw 33 1888 0 39 #[175, 188, 221, 274, 317, 390, 453, 476, 509, 542, 575, 690, 743, 826, 899, 932, 975, 1082, 1165, 1238, 1311, 1324, 1337, 1350, 1394, 1407, 1440, 1464, 1487, 1500, 1533, 1556, 1600, 1644, 1688, 1742, 1806, 1819, 1832, 1865] ((am_rv (am_tz (TT nl Ln xs)) 999 x3.toNatClampNeg) &&& (63 : Int32)).toInt = _; rw [hv9]; rfl) ?_
        replace h := h.2.2.1 hs
        exact h
      | 3, _, hv9 =>
        have hs : ((am_rv (am_tz (TT nl Ln xs)) 999 x3.toNatClampNeg) &&& (63 : Int32)) = (3 : Int32) := am_te hv9 (by decide)
        refine s_tsw j33 (t := 307) (by show am_sw 33 1888 0 39 #[175, 188, 221, 274, 317, 390, 453, 476, 509, 542, 575, 690, 743, 826, 899, 932, 975, 1082, 1165, 1238, 1311, 1324, 1337, 1350, 1394, 1407, 1440, 1464, 1487, 1500, 1533, 1556, 1600, 1644, 1688, 1742, 1806, 1819, 1832, 1865] ((am_rv (am_tz (TT nl Ln xs)) 999 x3.toNatClampNeg) &&& (63 : Int32)).toInt = _; rw [hv9]; rfl) ?_
        replace h := h.2.2.2.1 hs
        exact h
      | 4, _, hv9 =>
        have hs : ((am_rv (am_tz (TT nl Ln xs)) 999 x3.toNatClampNeg) &&& (63 : Int32)) = (4 : Int32) := am_te hv9 (by decide)
        refine s_tsw j33 (t := 350) (by show am_sw 33 1888 0 39 #[175, 188, 221, 274, 317, 390, 453, 476, 509, 542, 575, 690, 743, 826, 899, 932, 975, 1082, 1165, 1238, 1311, 1324, 1337, 1350, 1394, 1407, 1440, 1464, 1487, 1500, 1533, 1556, 1600, 1644, 1688, 1742, 1806, 1819, 1832, 1865] ((am_rv (am_tz (TT nl Ln xs)) 999 x3.toNatClampNeg) &&& (63 : Int32)).toInt = _; rw [hv9]; rfl) ?_
        replace h := h.2.2.2.2.1 hs
        exact h
      | 5, _, hv9 =>
        have hs : ((am_rv (am_tz (TT nl Ln xs)) 999 x3.toNatClampNeg) &&& (63 : Int32)) = (5 : Int32) := am_te hv9 (by decide)
        refine s_tsw j33 (t := 423) (by show am_sw 33 1888 0 39 #[175, 188, 221, 274, 317, 390, 453, 476, 509, 542, 575, 690, 743, 826, 899, 932, 975, 1082, 1165, 1238, 1311, 1324, 1337, 1350, 1394, 1407, 1440, 1464, 1487, 1500, 1533, 1556, 1600, 1644, 1688, 1742, 1806, 1819, 1832, 1865] ((am_rv (am_tz (TT nl Ln xs)) 999 x3.toNatClampNeg) &&& (63 : Int32)).toInt = _; rw [hv9]; rfl) ?_
        replace h := h.2.2.2.2.2.1 hs
        exact h
      | 6, _, hv9 =>
        have hs : ((am_rv (am_tz (TT nl Ln xs)) 999 x3.toNatClampNeg) &&& (63 : Int32)) = (6 : Int32) := am_te hv9 (by decide)
        refine s_tsw j33 (t := 486) (by show am_sw 33 1888 0 39 #[175, 188, 221, 274, 317, 390, 453, 476, 509, 542, 575, 690, 743, 826, 899, 932, 975, 1082, 1165, 1238, 1311, 1324, 1337, 1350, 1394, 1407, 1440, 1464, 1487, 1500, 1533, 1556, 1600, 1644, 1688, 1742, 1806, 1819, 1832, 1865] ((am_rv (am_tz (TT nl Ln xs)) 999 x3.toNatClampNeg) &&& (63 : Int32)).toInt = _; rw [hv9]; rfl) ?_
        replace h := h.2.2.2.2.2.2.1 hs
        exact h
      | 7, _, hv9 =>
        have hs : ((am_rv (am_tz (TT nl Ln xs)) 999 x3.toNatClampNeg) &&& (63 : Int32)) = (7 : Int32) := am_te hv9 (by decide)
        refine s_tsw j33 (t := 509) (by show am_sw 33 1888 0 39 #[175, 188, 221, 274, 317, 390, 453, 476, 509, 542, 575, 690, 743, 826, 899, 932, 975, 1082, 1165, 1238, 1311, 1324, 1337, 1350, 1394, 1407, 1440, 1464, 1487, 1500, 1533, 1556, 1600, 1644, 1688, 1742, 1806, 1819, 1832, 1865] ((am_rv (am_tz (TT nl Ln xs)) 999 x3.toNatClampNeg) &&& (63 : Int32)).toInt = _; rw [hv9]; rfl) ?_
        replace h := h.2.2.2.2.2.2.2.1 hs
        exact h
      | 8, _, hv9 =>
        have hs : ((am_rv (am_tz (TT nl Ln xs)) 999 x3.toNatClampNeg) &&& (63 : Int32)) = (8 : Int32) := am_te hv9 (by decide)
        refine s_tsw j33 (t := 542) (by show am_sw 33 1888 0 39 #[175, 188, 221, 274, 317, 390, 453, 476, 509, 542, 575, 690, 743, 826, 899, 932, 975, 1082, 1165, 1238, 1311, 1324, 1337, 1350, 1394, 1407, 1440, 1464, 1487, 1500, 1533, 1556, 1600, 1644, 1688, 1742, 1806, 1819, 1832, 1865] ((am_rv (am_tz (TT nl Ln xs)) 999 x3.toNatClampNeg) &&& (63 : Int32)).toInt = _; rw [hv9]; rfl) ?_
        replace h := h.2.2.2.2.2.2.2.2.1 hs
        exact h
      | 9, _, hv9 =>
        have hs : ((am_rv (am_tz (TT nl Ln xs)) 999 x3.toNatClampNeg) &&& (63 : Int32)) = (9 : Int32) := am_te hv9 (by decide)
        refine s_tsw j33 (t := 575) (by show am_sw 33 1888 0 39 #[175, 188, 221, 274, 317, 390, 453, 476, 509, 542, 575, 690, 743, 826, 899, 932, 975, 1082, 1165, 1238, 1311, 1324, 1337, 1350, 1394, 1407, 1440, 1464, 1487, 1500, 1533, 1556, 1600, 1644, 1688, 1742, 1806, 1819, 1832, 1865] ((am_rv (am_tz (TT nl Ln xs)) 999 x3.toNatClampNeg) &&& (63 : Int32)).toInt = _; rw [hv9]; rfl) ?_
        replace h := h.2.2.2.2.2.2.2.2.2.1 hs
        exact h
      | 10, _, hv9 =>
        have hs : ((am_rv (am_tz (TT nl Ln xs)) 999 x3.toNatClampNeg) &&& (63 : Int32)) = (10 : Int32) := am_te hv9 (by decide)
        refine s_tsw j33 (t := 608) (by show am_sw 33 1888 0 39 #[175, 188, 221, 274, 317, 390, 453, 476, 509, 542, 575, 690, 743, 826, 899, 932, 975, 1082, 1165, 1238, 1311, 1324, 1337, 1350, 1394, 1407, 1440, 1464, 1487, 1500, 1533, 1556, 1600, 1644, 1688, 1742, 1806, 1819, 1832, 1865] ((am_rv (am_tz (TT nl Ln xs)) 999 x3.toNatClampNeg) &&& (63 : Int32)).toInt = _; rw [hv9]; rfl) ?_
        replace h := h.2.2.2.2.2.2.2.2.2.2.1 hs
        exact h
      | 11, _, hv9 =>
        have hs : ((am_rv (am_tz (TT nl Ln xs)) 999 x3.toNatClampNeg) &&& (63 : Int32)) = (11 : Int32) := am_te hv9 (by decide)
        refine s_tsw j33 (t := 723) (by show am_sw 33 1888 0 39 #[175, 188, 221, 274, 317, 390, 453, 476, 509, 542, 575, 690, 743, 826, 899, 932, 975, 1082, 1165, 1238, 1311, 1324, 1337, 1350, 1394, 1407, 1440, 1464, 1487, 1500, 1533, 1556, 1600, 1644, 1688, 1742, 1806, 1819, 1832, 1865] ((am_rv (am_tz (TT nl Ln xs)) 999 x3.toNatClampNeg) &&& (63 : Int32)).toInt = _; rw [hv9]; rfl) ?_
        replace h := h.2.2.2.2.2.2.2.2.2.2.2.1 hs
        exact h
      | 12, _, hv9 =>
        have hs : ((am_rv (am_tz (TT nl Ln xs)) 999 x3.toNatClampNeg) &&& (63 : Int32)) = (12 : Int32) := am_te hv9 (by decide)
        refine s_tsw j33 (t := 776) (by show am_sw 33 1888 0 39 #[175, 188, 221, 274, 317, 390, 453, 476, 509, 542, 575, 690, 743, 826, 899, 932, 975, 1082, 1165, 1238, 1311, 1324, 1337, 1350, 1394, 1407, 1440, 1464, 1487, 1500, 1533, 1556, 1600, 1644, 1688, 1742, 1806, 1819, 1832, 1865] ((am_rv (am_tz (TT nl Ln xs)) 999 x3.toNatClampNeg) &&& (63 : Int32)).toInt = _; rw [hv9]; rfl) ?_
        replace h := h.2.2.2.2.2.2.2.2.2.2.2.2.1 hs
        exact h
      | 13, _, hv9 =>
        have hs : ((am_rv (am_tz (TT nl Ln xs)) 999 x3.toNatClampNeg) &&& (63 : Int32)) = (13 : Int32) := am_te hv9 (by decide)
        refine s_tsw j33 (t := 859) (by show am_sw 33 1888 0 39 #[175, 188, 221, 274, 317, 390, 453, 476, 509, 542, 575, 690, 743, 826, 899, 932, 975, 1082, 1165, 1238, 1311, 1324, 1337, 1350, 1394, 1407, 1440, 1464, 1487, 1500, 1533, 1556, 1600, 1644, 1688, 1742, 1806, 1819, 1832, 1865] ((am_rv (am_tz (TT nl Ln xs)) 999 x3.toNatClampNeg) &&& (63 : Int32)).toInt = _; rw [hv9]; rfl) ?_
        replace h := h.2.2.2.2.2.2.2.2.2.2.2.2.2.1 hs
        exact h
      | 14, _, hv9 =>
        have hs : ((am_rv (am_tz (TT nl Ln xs)) 999 x3.toNatClampNeg) &&& (63 : Int32)) = (14 : Int32) := am_te hv9 (by decide)
        refine s_tsw j33 (t := 932) (by show am_sw 33 1888 0 39 #[175, 188, 221, 274, 317, 390, 453, 476, 509, 542, 575, 690, 743, 826, 899, 932, 975, 1082, 1165, 1238, 1311, 1324, 1337, 1350, 1394, 1407, 1440, 1464, 1487, 1500, 1533, 1556, 1600, 1644, 1688, 1742, 1806, 1819, 1832, 1865] ((am_rv (am_tz (TT nl Ln xs)) 999 x3.toNatClampNeg) &&& (63 : Int32)).toInt = _; rw [hv9]; rfl) ?_
        replace h := h.2.2.2.2.2.2.2.2.2.2.2.2.2.2.1 hs
        exact h
      | 15, _, hv9 =>
        have hs : ((am_rv (am_tz (TT nl Ln xs)) 999 x3.toNatClampNeg) &&& (63 : Int32)) = (15 : Int32) := am_te hv9 (by decide)
        refine s_tsw j33 (t := 965) (by show am_sw 33 1888 0 39 #[175, 188, 221, 274, 317, 390, 453, 476, 509, 542, 575, 690, 743, 826, 899, 932, 975, 1082, 1165, 1238, 1311, 1324, 1337, 1350, 1394, 1407, 1440, 1464, 1487, 1500, 1533, 1556, 1600, 1644, 1688, 1742, 1806, 1819, 1832, 1865] ((am_rv (am_tz (TT nl Ln xs)) 999 x3.toNatClampNeg) &&& (63 : Int32)).toInt = _; rw [hv9]; rfl) ?_
        replace h := h.2.2.2.2.2.2.2.2.2.2.2.2.2.2.2.1 hs
        exact h
      | 16, _, hv9 =>
        have hs : ((am_rv (am_tz (TT nl Ln xs)) 999 x3.toNatClampNeg) &&& (63 : Int32)) = (16 : Int32) := am_te hv9 (by decide)
        refine s_tsw j33 (t := 1008) (by show am_sw 33 1888 0 39 #[175, 188, 221, 274, 317, 390, 453, 476, 509, 542, 575, 690, 743, 826, 899, 932, 975, 1082, 1165, 1238, 1311, 1324, 1337, 1350, 1394, 1407, 1440, 1464, 1487, 1500, 1533, 1556, 1600, 1644, 1688, 1742, 1806, 1819, 1832, 1865] ((am_rv (am_tz (TT nl Ln xs)) 999 x3.toNatClampNeg) &&& (63 : Int32)).toInt = _; rw [hv9]; rfl) ?_
        replace h := h.2.2.2.2.2.2.2.2.2.2.2.2.2.2.2.2.1 hs
        exact h
      | 17, _, hv9 =>
        have hs : ((am_rv (am_tz (TT nl Ln xs)) 999 x3.toNatClampNeg) &&& (63 : Int32)) = (17 : Int32) := am_te hv9 (by decide)
        refine s_tsw j33 (t := 1115) (by show am_sw 33 1888 0 39 #[175, 188, 221, 274, 317, 390, 453, 476, 509, 542, 575, 690, 743, 826, 899, 932, 975, 1082, 1165, 1238, 1311, 1324, 1337, 1350, 1394, 1407, 1440, 1464, 1487, 1500, 1533, 1556, 1600, 1644, 1688, 1742, 1806, 1819, 1832, 1865] ((am_rv (am_tz (TT nl Ln xs)) 999 x3.toNatClampNeg) &&& (63 : Int32)).toInt = _; rw [hv9]; rfl) ?_
        replace h := h.2.2.2.2.2.2.2.2.2.2.2.2.2.2.2.2.2.1 hs
        exact h
      | 18, _, hv9 =>
        have hs : ((am_rv (am_tz (TT nl Ln xs)) 999 x3.toNatClampNeg) &&& (63 : Int32)) = (18 : Int32) := am_te hv9 (by decide)
        refine s_tsw j33 (t := 1198) (by show am_sw 33 1888 0 39 #[175, 188, 221, 274, 317, 390, 453, 476, 509, 542, 575, 690, 743, 826, 899, 932, 975, 1082, 1165, 1238, 1311, 1324, 1337, 1350, 1394, 1407, 1440, 1464, 1487, 1500, 1533, 1556, 1600, 1644, 1688, 1742, 1806, 1819, 1832, 1865] ((am_rv (am_tz (TT nl Ln xs)) 999 x3.toNatClampNeg) &&& (63 : Int32)).toInt = _; rw [hv9]; rfl) ?_
        replace h := h.2.2.2.2.2.2.2.2.2.2.2.2.2.2.2.2.2.2.1 hs
        exact h
      | 19, _, hv9 =>
        have hs : ((am_rv (am_tz (TT nl Ln xs)) 999 x3.toNatClampNeg) &&& (63 : Int32)) = (19 : Int32) := am_te hv9 (by decide)
        refine s_tsw j33 (t := 1271) (by show am_sw 33 1888 0 39 #[175, 188, 221, 274, 317, 390, 453, 476, 509, 542, 575, 690, 743, 826, 899, 932, 975, 1082, 1165, 1238, 1311, 1324, 1337, 1350, 1394, 1407, 1440, 1464, 1487, 1500, 1533, 1556, 1600, 1644, 1688, 1742, 1806, 1819, 1832, 1865] ((am_rv (am_tz (TT nl Ln xs)) 999 x3.toNatClampNeg) &&& (63 : Int32)).toInt = _; rw [hv9]; rfl) ?_
        replace h := h.2.2.2.2.2.2.2.2.2.2.2.2.2.2.2.2.2.2.2.1 hs
        exact h
      | 20, _, hv9 =>
        have hs : ((am_rv (am_tz (TT nl Ln xs)) 999 x3.toNatClampNeg) &&& (63 : Int32)) = (20 : Int32) := am_te hv9 (by decide)
        refine s_tsw j33 (t := 1344) (by show am_sw 33 1888 0 39 #[175, 188, 221, 274, 317, 390, 453, 476, 509, 542, 575, 690, 743, 826, 899, 932, 975, 1082, 1165, 1238, 1311, 1324, 1337, 1350, 1394, 1407, 1440, 1464, 1487, 1500, 1533, 1556, 1600, 1644, 1688, 1742, 1806, 1819, 1832, 1865] ((am_rv (am_tz (TT nl Ln xs)) 999 x3.toNatClampNeg) &&& (63 : Int32)).toInt = _; rw [hv9]; rfl) ?_
        replace h := h.2.2.2.2.2.2.2.2.2.2.2.2.2.2.2.2.2.2.2.2.1 hs
        exact h
      | 21, _, hv9 =>
        have hs : ((am_rv (am_tz (TT nl Ln xs)) 999 x3.toNatClampNeg) &&& (63 : Int32)) = (21 : Int32) := am_te hv9 (by decide)
        refine s_tsw j33 (t := 1357) (by show am_sw 33 1888 0 39 #[175, 188, 221, 274, 317, 390, 453, 476, 509, 542, 575, 690, 743, 826, 899, 932, 975, 1082, 1165, 1238, 1311, 1324, 1337, 1350, 1394, 1407, 1440, 1464, 1487, 1500, 1533, 1556, 1600, 1644, 1688, 1742, 1806, 1819, 1832, 1865] ((am_rv (am_tz (TT nl Ln xs)) 999 x3.toNatClampNeg) &&& (63 : Int32)).toInt = _; rw [hv9]; rfl) ?_
        replace h := h.2.2.2.2.2.2.2.2.2.2.2.2.2.2.2.2.2.2.2.2.2.1 hs
        exact h
      | 22, _, hv9 =>
        have hs : ((am_rv (am_tz (TT nl Ln xs)) 999 x3.toNatClampNeg) &&& (63 : Int32)) = (22 : Int32) := am_te hv9 (by decide)
        refine s_tsw j33 (t := 1370) (by show am_sw 33 1888 0 39 #[175, 188, 221, 274, 317, 390, 453, 476, 509, 542, 575, 690, 743, 826, 899, 932, 975, 1082, 1165, 1238, 1311, 1324, 1337, 1350, 1394, 1407, 1440, 1464, 1487, 1500, 1533, 1556, 1600, 1644, 1688, 1742, 1806, 1819, 1832, 1865] ((am_rv (am_tz (TT nl Ln xs)) 999 x3.toNatClampNeg) &&& (63 : Int32)).toInt = _; rw [hv9]; rfl) ?_
        replace h := h.2.2.2.2.2.2.2.2.2.2.2.2.2.2.2.2.2.2.2.2.2.2.1 hs
        exact h
      | 23, _, hv9 =>
        have hs : ((am_rv (am_tz (TT nl Ln xs)) 999 x3.toNatClampNeg) &&& (63 : Int32)) = (23 : Int32) := am_te hv9 (by decide)
        refine s_tsw j33 (t := 1383) (by show am_sw 33 1888 0 39 #[175, 188, 221, 274, 317, 390, 453, 476, 509, 542, 575, 690, 743, 826, 899, 932, 975, 1082, 1165, 1238, 1311, 1324, 1337, 1350, 1394, 1407, 1440, 1464, 1487, 1500, 1533, 1556, 1600, 1644, 1688, 1742, 1806, 1819, 1832, 1865] ((am_rv (am_tz (TT nl Ln xs)) 999 x3.toNatClampNeg) &&& (63 : Int32)).toInt = _; rw [hv9]; rfl) ?_
        replace h := h.2.2.2.2.2.2.2.2.2.2.2.2.2.2.2.2.2.2.2.2.2.2.2.1 hs
        exact h
      | 24, _, hv9 =>
        have hs : ((am_rv (am_tz (TT nl Ln xs)) 999 x3.toNatClampNeg) &&& (63 : Int32)) = (24 : Int32) := am_te hv9 (by decide)
        refine s_tsw j33 (t := 1427) (by show am_sw 33 1888 0 39 #[175, 188, 221, 274, 317, 390, 453, 476, 509, 542, 575, 690, 743, 826, 899, 932, 975, 1082, 1165, 1238, 1311, 1324, 1337, 1350, 1394, 1407, 1440, 1464, 1487, 1500, 1533, 1556, 1600, 1644, 1688, 1742, 1806, 1819, 1832, 1865] ((am_rv (am_tz (TT nl Ln xs)) 999 x3.toNatClampNeg) &&& (63 : Int32)).toInt = _; rw [hv9]; rfl) ?_
        replace h := h.2.2.2.2.2.2.2.2.2.2.2.2.2.2.2.2.2.2.2.2.2.2.2.2.1 hs
        exact h
      | 25, _, hv9 =>
        have hs : ((am_rv (am_tz (TT nl Ln xs)) 999 x3.toNatClampNeg) &&& (63 : Int32)) = (25 : Int32) := am_te hv9 (by decide)
        refine s_tsw j33 (t := 1440) (by show am_sw 33 1888 0 39 #[175, 188, 221, 274, 317, 390, 453, 476, 509, 542, 575, 690, 743, 826, 899, 932, 975, 1082, 1165, 1238, 1311, 1324, 1337, 1350, 1394, 1407, 1440, 1464, 1487, 1500, 1533, 1556, 1600, 1644, 1688, 1742, 1806, 1819, 1832, 1865] ((am_rv (am_tz (TT nl Ln xs)) 999 x3.toNatClampNeg) &&& (63 : Int32)).toInt = _; rw [hv9]; rfl) ?_
        replace h := h.2.2.2.2.2.2.2.2.2.2.2.2.2.2.2.2.2.2.2.2.2.2.2.2.2.1 hs
        exact h
      | 26, _, hv9 =>
        have hs : ((am_rv (am_tz (TT nl Ln xs)) 999 x3.toNatClampNeg) &&& (63 : Int32)) = (26 : Int32) := am_te hv9 (by decide)
        refine s_tsw j33 (t := 1473) (by show am_sw 33 1888 0 39 #[175, 188, 221, 274, 317, 390, 453, 476, 509, 542, 575, 690, 743, 826, 899, 932, 975, 1082, 1165, 1238, 1311, 1324, 1337, 1350, 1394, 1407, 1440, 1464, 1487, 1500, 1533, 1556, 1600, 1644, 1688, 1742, 1806, 1819, 1832, 1865] ((am_rv (am_tz (TT nl Ln xs)) 999 x3.toNatClampNeg) &&& (63 : Int32)).toInt = _; rw [hv9]; rfl) ?_
        replace h := h.2.2.2.2.2.2.2.2.2.2.2.2.2.2.2.2.2.2.2.2.2.2.2.2.2.2.1 hs
        exact h
      | 27, _, hv9 =>
        have hs : ((am_rv (am_tz (TT nl Ln xs)) 999 x3.toNatClampNeg) &&& (63 : Int32)) = (27 : Int32) := am_te hv9 (by decide)
        refine s_tsw j33 (t := 1497) (by show am_sw 33 1888 0 39 #[175, 188, 221, 274, 317, 390, 453, 476, 509, 542, 575, 690, 743, 826, 899, 932, 975, 1082, 1165, 1238, 1311, 1324, 1337, 1350, 1394, 1407, 1440, 1464, 1487, 1500, 1533, 1556, 1600, 1644, 1688, 1742, 1806, 1819, 1832, 1865] ((am_rv (am_tz (TT nl Ln xs)) 999 x3.toNatClampNeg) &&& (63 : Int32)).toInt = _; rw [hv9]; rfl) ?_
        replace h := h.2.2.2.2.2.2.2.2.2.2.2.2.2.2.2.2.2.2.2.2.2.2.2.2.2.2.2.1 hs
        exact h
      | 28, _, hv9 =>
        have hs : ((am_rv (am_tz (TT nl Ln xs)) 999 x3.toNatClampNeg) &&& (63 : Int32)) = (28 : Int32) := am_te hv9 (by decide)
        refine s_tsw j33 (t := 1520) (by show am_sw 33 1888 0 39 #[175, 188, 221, 274, 317, 390, 453, 476, 509, 542, 575, 690, 743, 826, 899, 932, 975, 1082, 1165, 1238, 1311, 1324, 1337, 1350, 1394, 1407, 1440, 1464, 1487, 1500, 1533, 1556, 1600, 1644, 1688, 1742, 1806, 1819, 1832, 1865] ((am_rv (am_tz (TT nl Ln xs)) 999 x3.toNatClampNeg) &&& (63 : Int32)).toInt = _; rw [hv9]; rfl) ?_
        replace h := h.2.2.2.2.2.2.2.2.2.2.2.2.2.2.2.2.2.2.2.2.2.2.2.2.2.2.2.2.1 hs
        exact h
      | 29, _, hv9 =>
        have hs : ((am_rv (am_tz (TT nl Ln xs)) 999 x3.toNatClampNeg) &&& (63 : Int32)) = (29 : Int32) := am_te hv9 (by decide)
        refine s_tsw j33 (t := 1533) (by show am_sw 33 1888 0 39 #[175, 188, 221, 274, 317, 390, 453, 476, 509, 542, 575, 690, 743, 826, 899, 932, 975, 1082, 1165, 1238, 1311, 1324, 1337, 1350, 1394, 1407, 1440, 1464, 1487, 1500, 1533, 1556, 1600, 1644, 1688, 1742, 1806, 1819, 1832, 1865] ((am_rv (am_tz (TT nl Ln xs)) 999 x3.toNatClampNeg) &&& (63 : Int32)).toInt = _; rw [hv9]; rfl) ?_
        replace h := h.2.2.2.2.2.2.2.2.2.2.2.2.2.2.2.2.2.2.2.2.2.2.2.2.2.2.2.2.2.1 hs
        exact h
      | 30, _, hv9 =>
        have hs : ((am_rv (am_tz (TT nl Ln xs)) 999 x3.toNatClampNeg) &&& (63 : Int32)) = (30 : Int32) := am_te hv9 (by decide)
        refine s_tsw j33 (t := 1566) (by show am_sw 33 1888 0 39 #[175, 188, 221, 274, 317, 390, 453, 476, 509, 542, 575, 690, 743, 826, 899, 932, 975, 1082, 1165, 1238, 1311, 1324, 1337, 1350, 1394, 1407, 1440, 1464, 1487, 1500, 1533, 1556, 1600, 1644, 1688, 1742, 1806, 1819, 1832, 1865] ((am_rv (am_tz (TT nl Ln xs)) 999 x3.toNatClampNeg) &&& (63 : Int32)).toInt = _; rw [hv9]; rfl) ?_
        replace h := h.2.2.2.2.2.2.2.2.2.2.2.2.2.2.2.2.2.2.2.2.2.2.2.2.2.2.2.2.2.2.1 hs
        exact h
      | 31, _, hv9 =>
        have hs : ((am_rv (am_tz (TT nl Ln xs)) 999 x3.toNatClampNeg) &&& (63 : Int32)) = (31 : Int32) := am_te hv9 (by decide)
        refine s_tsw j33 (t := 1589) (by show am_sw 33 1888 0 39 #[175, 188, 221, 274, 317, 390, 453, 476, 509, 542, 575, 690, 743, 826, 899, 932, 975, 1082, 1165, 1238, 1311, 1324, 1337, 1350, 1394, 1407, 1440, 1464, 1487, 1500, 1533, 1556, 1600, 1644, 1688, 1742, 1806, 1819, 1832, 1865] ((am_rv (am_tz (TT nl Ln xs)) 999 x3.toNatClampNeg) &&& (63 : Int32)).toInt = _; rw [hv9]; rfl) ?_
        replace h := h.2.2.2.2.2.2.2.2.2.2.2.2.2.2.2.2.2.2.2.2.2.2.2.2.2.2.2.2.2.2.2.1 hs
        exact h
      | 32, _, hv9 =>
        have hs : ((am_rv (am_tz (TT nl Ln xs)) 999 x3.toNatClampNeg) &&& (63 : Int32)) = (32 : Int32) := am_te hv9 (by decide)
        refine s_tsw j33 (t := 1633) (by show am_sw 33 1888 0 39 #[175, 188, 221, 274, 317, 390, 453, 476, 509, 542, 575, 690, 743, 826, 899, 932, 975, 1082, 1165, 1238, 1311, 1324, 1337, 1350, 1394, 1407, 1440, 1464, 1487, 1500, 1533, 1556, 1600, 1644, 1688, 1742, 1806, 1819, 1832, 1865] ((am_rv (am_tz (TT nl Ln xs)) 999 x3.toNatClampNeg) &&& (63 : Int32)).toInt = _; rw [hv9]; rfl) ?_
        replace h := h.2.2.2.2.2.2.2.2.2.2.2.2.2.2.2.2.2.2.2.2.2.2.2.2.2.2.2.2.2.2.2.2.1 hs
        exact h
      | 33, _, hv9 =>
        have hs : ((am_rv (am_tz (TT nl Ln xs)) 999 x3.toNatClampNeg) &&& (63 : Int32)) = (33 : Int32) := am_te hv9 (by decide)
        refine s_tsw j33 (t := 1677) (by show am_sw 33 1888 0 39 #[175, 188, 221, 274, 317, 390, 453, 476, 509, 542, 575, 690, 743, 826, 899, 932, 975, 1082, 1165, 1238, 1311, 1324, 1337, 1350, 1394, 1407, 1440, 1464, 1487, 1500, 1533, 1556, 1600, 1644, 1688, 1742, 1806, 1819, 1832, 1865] ((am_rv (am_tz (TT nl Ln xs)) 999 x3.toNatClampNeg) &&& (63 : Int32)).toInt = _; rw [hv9]; rfl) ?_
        replace h := h.2.2.2.2.2.2.2.2.2.2.2.2.2.2.2.2.2.2.2.2.2.2.2.2.2.2.2.2.2.2.2.2.2.1 hs
        exact h
      | 34, _, hv9 =>
        have hs : ((am_rv (am_tz (TT nl Ln xs)) 999 x3.toNatClampNeg) &&& (63 : Int32)) = (34 : Int32) := am_te hv9 (by decide)
        refine s_tsw j33 (t := 1721) (by show am_sw 33 1888 0 39 #[175, 188, 221, 274, 317, 390, 453, 476, 509, 542, 575, 690, 743, 826, 899, 932, 975, 1082, 1165, 1238, 1311, 1324, 1337, 1350, 1394, 1407, 1440, 1464, 1487, 1500, 1533, 1556, 1600, 1644, 1688, 1742, 1806, 1819, 1832, 1865] ((am_rv (am_tz (TT nl Ln xs)) 999 x3.toNatClampNeg) &&& (63 : Int32)).toInt = _; rw [hv9]; rfl) ?_
        replace h := h.2.2.2.2.2.2.2.2.2.2.2.2.2.2.2.2.2.2.2.2.2.2.2.2.2.2.2.2.2.2.2.2.2.2.1 hs
        exact h
      | 35, _, hv9 =>
        have hs : ((am_rv (am_tz (TT nl Ln xs)) 999 x3.toNatClampNeg) &&& (63 : Int32)) = (35 : Int32) := am_te hv9 (by decide)
        refine s_tsw j33 (t := 1775) (by show am_sw 33 1888 0 39 #[175, 188, 221, 274, 317, 390, 453, 476, 509, 542, 575, 690, 743, 826, 899, 932, 975, 1082, 1165, 1238, 1311, 1324, 1337, 1350, 1394, 1407, 1440, 1464, 1487, 1500, 1533, 1556, 1600, 1644, 1688, 1742, 1806, 1819, 1832, 1865] ((am_rv (am_tz (TT nl Ln xs)) 999 x3.toNatClampNeg) &&& (63 : Int32)).toInt = _; rw [hv9]; rfl) ?_
        replace h := h.2.2.2.2.2.2.2.2.2.2.2.2.2.2.2.2.2.2.2.2.2.2.2.2.2.2.2.2.2.2.2.2.2.2.2.1 hs
        exact h
      | 36, _, hv9 =>
        have hs : ((am_rv (am_tz (TT nl Ln xs)) 999 x3.toNatClampNeg) &&& (63 : Int32)) = (36 : Int32) := am_te hv9 (by decide)
        refine s_tsw j33 (t := 1839) (by show am_sw 33 1888 0 39 #[175, 188, 221, 274, 317, 390, 453, 476, 509, 542, 575, 690, 743, 826, 899, 932, 975, 1082, 1165, 1238, 1311, 1324, 1337, 1350, 1394, 1407, 1440, 1464, 1487, 1500, 1533, 1556, 1600, 1644, 1688, 1742, 1806, 1819, 1832, 1865] ((am_rv (am_tz (TT nl Ln xs)) 999 x3.toNatClampNeg) &&& (63 : Int32)).toInt = _; rw [hv9]; rfl) ?_
        replace h := h.2.2.2.2.2.2.2.2.2.2.2.2.2.2.2.2.2.2.2.2.2.2.2.2.2.2.2.2.2.2.2.2.2.2.2.2.1 hs
        exact h
      | 37, _, hv9 =>
        have hs : ((am_rv (am_tz (TT nl Ln xs)) 999 x3.toNatClampNeg) &&& (63 : Int32)) = (37 : Int32) := am_te hv9 (by decide)
        refine s_tsw j33 (t := 1852) (by show am_sw 33 1888 0 39 #[175, 188, 221, 274, 317, 390, 453, 476, 509, 542, 575, 690, 743, 826, 899, 932, 975, 1082, 1165, 1238, 1311, 1324, 1337, 1350, 1394, 1407, 1440, 1464, 1487, 1500, 1533, 1556, 1600, 1644, 1688, 1742, 1806, 1819, 1832, 1865] ((am_rv (am_tz (TT nl Ln xs)) 999 x3.toNatClampNeg) &&& (63 : Int32)).toInt = _; rw [hv9]; rfl) ?_
        replace h := h.2.2.2.2.2.2.2.2.2.2.2.2.2.2.2.2.2.2.2.2.2.2.2.2.2.2.2.2.2.2.2.2.2.2.2.2.2.1 hs
        exact h
      | 38, _, hv9 =>
        have hs : ((am_rv (am_tz (TT nl Ln xs)) 999 x3.toNatClampNeg) &&& (63 : Int32)) = (38 : Int32) := am_te hv9 (by decide)
        refine s_tsw j33 (t := 1865) (by show am_sw 33 1888 0 39 #[175, 188, 221, 274, 317, 390, 453, 476, 509, 542, 575, 690, 743, 826, 899, 932, 975, 1082, 1165, 1238, 1311, 1324, 1337, 1350, 1394, 1407, 1440, 1464, 1487, 1500, 1533, 1556, 1600, 1644, 1688, 1742, 1806, 1819, 1832, 1865] ((am_rv (am_tz (TT nl Ln xs)) 999 x3.toNatClampNeg) &&& (63 : Int32)).toInt = _; rw [hv9]; rfl) ?_
        replace h := h.2.2.2.2.2.2.2.2.2.2.2.2.2.2.2.2.2.2.2.2.2.2.2.2.2.2.2.2.2.2.2.2.2.2.2.2.2.2.1 hs
        exact h
      | 39, _, hv9 =>
        have hs : ((am_rv (am_tz (TT nl Ln xs)) 999 x3.toNatClampNeg) &&& (63 : Int32)) = (39 : Int32) := am_te hv9 (by decide)
        refine s_tsw j33 (t := 1898) (by show am_sw 33 1888 0 39 #[175, 188, 221, 274, 317, 390, 453, 476, 509, 542, 575, 690, 743, 826, 899, 932, 975, 1082, 1165, 1238, 1311, 1324, 1337, 1350, 1394, 1407, 1440, 1464, 1487, 1500, 1533, 1556, 1600, 1644, 1688, 1742, 1806, 1819, 1832, 1865] ((am_rv (am_tz (TT nl Ln xs)) 999 x3.toNatClampNeg) &&& (63 : Int32)).toInt = _; rw [hv9]; rfl) ?_
        replace h := h.2.2.2.2.2.2.2.2.2.2.2.2.2.2.2.2.2.2.2.2.2.2.2.2.2.2.2.2.2.2.2.2.2.2.2.2.2.2.2.1 hs
        exact h
      | n + 40, hk82, _ => exact absurd hk82 (by omega)
theorem P_Law_law_208 (nl : Bool) (Ln : Nat) (xs : Nat → Int32) : am_Jl (TT nl Ln xs) 352 [(208, .aload_n 1, 209, []), (209, .invokevirtual 13, 212, [10, 7, 1, 1, 1]), (212, .aload_n 2, 213, []), (213, .invokevirtual 17, 216, [10, 199, 13, 1, 1]), (216, .if_icmp .eq 1705, 219, []), (219, .iconst 0, 220, []), (220, .ireturn, 221, [4]), (1921, .iinc 3 8, 1924, []), (1924, .goto (-1906), 1927, [])] := dk_ck (by decide +kernel)
set_option maxRecDepth 4096 in
theorem w_Law_law_208 {nl : Bool} {Ln : Nat} {xs : Nat → Int32} {d : Nat} {x1 : Option Nat} {x2 : Option Nat} {x3 : Int32} {σ : am_S} {F : Bool → am_S → Prop} (h : (am_is σ x1 0) ∧ k_Co_person nl Ln xs d (x1.getD 0) σ (fun a3 σ2 => am_ext σ σ2 → (am_is σ2 x2 12) ∧ k_Rm_person nl Ln xs d (x2.getD 0) σ2 (fun a6 σ5 => am_ext σ2 σ5 → (a3 = a6 → c_Law_law_18 nl Ln xs (d + 1) x1 x2 (x3 + (8 : Int32)) σ5 F) ∧ (¬ (a3 = a6) → F false σ5)))) : c_Law_law_208 nl Ln xs (d + 1) x1 x2 x3 σ F := by
  obtain ⟨j208, j209, j212, j213, j216, j219, j220, j1921, j1924, -⟩ := P_Law_law_208 nl Ln xs
  unfold c_Law_law_208
  refine s_aload_n j208 rfl rfl ?_
  obtain ⟨ho1, h⟩ := h
  refine s_virt j209 rfl rfl rfl rfl ho1 (by decide) (in_Co_person _) (am_r8 rfl) (am_bI h (fun a3 σ2 h hx2 => ?_))
  replace h := h hx2
  refine s_aload_n j212 rfl rfl ?_
  obtain ⟨ho4, h⟩ := h
  refine s_virt j213 rfl rfl rfl rfl ho4 (by decide) (in_Rm_person _) (am_r8 rfl) (am_bI h (fun a6 σ5 h hx5 => ?_))
  replace h := h hx5
  refine s_ic j216 rfl rfl am_cc_eq (fun hc7 => ?_) (fun hc7 => ?_)
  · replace h := h.1 hc7
    refine s_iinc (L' := [some (am_ov (some 999)), some (am_ov x1), some (am_ov x2), some (.int (x3 + (8 : Int32)))]) j1921 rfl rfl kc_ic_8 (am_st1_R [_, _] _ _ _ _) ?_
    refine s_goto j1924 rfl rfl ?_
    exact h
  · replace h := h.2 hc7
    refine s_iconst j219 rfl kc_ic_0 ?_
    exact s_retZ0 j220 rfl h
theorem P_Law_law_221 (nl : Bool) (Ln : Nat) (xs : Nat → Int32) : am_Jl (TT nl Ln xs) 352 [(221, .aload_n 1, 222, []), (222, .aload_n 0, 223, []), (223, .iload_n 3, 224, []), (224, .iconst 1, 225, []), (225, .iadd, 226, []), (226, .iaload, 227, []), (227, .aload_n 0, 228, []), (228, .iload_n 3, 229, []), (229, .iconst 2, 230, []), (230, .iadd, 231, []), (231, .iaload, 232, []), (232, .invokevirtual 18, 235, [10, 127, 1, 3, 3]), (235, .aload_n 2, 236, []), (236, .aload_n 0, 237, []), (237, .iload_n 3, 238, []), (238, .iconst 1, 239, []), (239, .iadd, 240, []), (240, .iaload, 241, []), (241, .aload_n 0, 242, []), (242, .iload_n 3, 243, []), (243, .iconst 2, 244, []), (244, .iadd, 245, []), (245, .iaload, 246, []), (246, .invokevirtual 22, 249, [10, 300, 13, 3, 3]), (249, .if_icmp .eq 1672, 252, []), (252, .iconst 0, 253, []), (253, .ireturn, 254, [4]), (1921, .iinc 3 8, 1924, []), (1924, .goto (-1906), 1927, [])] := dk_ck (by decide +kernel)
set_option maxRecDepth 4096 in
theorem w_Law_law_221 {nl : Bool} {Ln : Nat} {xs : Nat → Int32} {d : Nat} {x1 : Option Nat} {x2 : Option Nat} {x3 : Int32} {σ : am_S} {F : Bool → am_S → Prop} (h : ((am_kd σ 999).1 = 0) ∧ (0 ≤ (x3 + (1 : Int32)).toInt) ∧ ((x3 + (1 : Int32)).toInt < am_rl (am_tz (TT nl Ln xs)) 999) ∧ ((am_kd σ 999).1 = 0) ∧ (0 ≤ (x3 + (2 : Int32)).toInt) ∧ ((x3 + (2 : Int32)).toInt < am_rl (am_tz (TT nl Ln xs)) 999) ∧ (am_is σ x1 0) ∧ k_Co_rank nl Ln xs d (x1.getD 0) (am_rv (am_tz (TT nl Ln xs)) 999 (x3 + (1 : Int32)).toNatClampNeg) (am_rv (am_tz (TT nl Ln xs)) 999 (x3 + (2 : Int32)).toNatClampNeg) σ (fun a9 σ8 => am_ext σ σ8 → ((am_kd σ8 999).1 = 0) ∧ (0 ≤ (x3 + (1 : Int32)).toInt) ∧ ((x3 + (1 : Int32)).toInt < am_rl (am_tz (TT nl Ln xs)) 999) ∧ ((am_kd σ8 999).1 = 0) ∧ (0 ≤ (x3 + (2 : Int32)).toInt) ∧ ((x3 + (2 : Int32)).toInt < am_rl (am_tz (TT nl Ln xs)) 999) ∧ (am_is σ8 x2 12) ∧ k_Rm_rank nl Ln xs d (x2.getD 0) (am_rv (am_tz (TT nl Ln xs)) 999 (x3 + (1 : Int32)).toNatClampNeg) (am_rv (am_tz (TT nl Ln xs)) 999 (x3 + (2 : Int32)).toNatClampNeg) σ8 (fun a18 σ17 => am_ext σ8 σ17 → (a9 = a18 → c_Law_law_18 nl Ln xs (d + 1) x1 x2 (x3 + (8 : Int32)) σ17 F) ∧ (¬ (a9 = a18) → F false σ17)))) : c_Law_law_221 nl Ln xs (d + 1) x1 x2 x3 σ F := by
  obtain ⟨j221, j222, j223, j224, j225, j226, j227, j228, j229, j230, j231, j232, j235, j236, j237, j238, j239, j240, j241, j242, j243, j244, j245, j246, j249, j252, j253, j1921, j1924, -⟩ := P_Law_law_221 nl Ln xs
  unfold c_Law_law_221
  refine s_aload_n j221 rfl rfl ?_
  refine s_aload_n j222 rfl rfl ?_
  refine s_iload_n j223 rfl rfl ?_
  refine s_iconst j224 rfl kc_ic_1 ?_
  refine s_g j225 rfl rfl rfl rfl rfl rfl ?_
  obtain ⟨ho1, h⟩ := h
  obtain ⟨ho2, h⟩ := h
  obtain ⟨ho3, h⟩ := h
  refine s_ialoadR j226 rfl (by decide) ho1 rfl ho2 ho3 ?_
  refine s_aload_n j227 rfl rfl ?_
  refine s_iload_n j228 rfl rfl ?_
  refine s_iconst j229 rfl kc_ic_2 ?_
  refine s_g j230 rfl rfl rfl rfl rfl rfl ?_
  obtain ⟨ho4, h⟩ := h
  obtain ⟨ho5, h⟩ := h
  obtain ⟨ho6, h⟩ := h
  refine s_ialoadR j231 rfl (by decide) ho4 rfl ho5 ho6 ?_
  obtain ⟨ho7, h⟩ := h
  refine s_virt j232 rfl rfl rfl rfl ho7 (by decide) (in_Co_rank _ _ _) (am_r8 rfl) (am_bI h (fun a9 σ8 h hx8 => ?_))
  replace h := h hx8
  refine s_aload_n j235 rfl rfl ?_
  refine s_aload_n j236 rfl rfl ?_
  refine s_iload_n j237 rfl rfl ?_
  refine s_iconst j238 rfl kc_ic_1 ?_
  refine s_g j239 rfl rfl rfl rfl rfl rfl ?_
  obtain ⟨ho10, h⟩ := h
  obtain ⟨ho11, h⟩ := h
  obtain ⟨ho12, h⟩ := h
  refine s_ialoadR j240 rfl (by decide) ho10 rfl ho11 ho12 ?_
  refine s_aload_n j241 rfl rfl ?_
  refine s_iload_n j242 rfl rfl ?_
  refine s_iconst j243 rfl kc_ic_2 ?_
  refine s_g j244 rfl rfl rfl rfl rfl rfl ?_
  obtain ⟨ho13, h⟩ := h
  obtain ⟨ho14, h⟩ := h
  obtain ⟨ho15, h⟩ := h
  refine s_ialoadR j245 rfl (by decide) ho13 rfl ho14 ho15 ?_
  obtain ⟨ho16, h⟩ := h
  refine s_virt j246 rfl rfl rfl rfl ho16 (by decide) (in_Rm_rank _ _ _) (am_r8 rfl) (am_bI h (fun a18 σ17 h hx17 => ?_))
  replace h := h hx17
  refine s_ic j249 rfl rfl am_cc_eq (fun hc19 => ?_) (fun hc19 => ?_)
  · replace h := h.1 hc19
    refine s_iinc (L' := [some (am_ov (some 999)), some (am_ov x1), some (am_ov x2), some (.int (x3 + (8 : Int32)))]) j1921 rfl rfl kc_ic_8 (am_st1_R [_, _] _ _ _ _) ?_
    refine s_goto j1924 rfl rfl ?_
    exact h
  · replace h := h.2 hc19
    refine s_iconst j252 rfl kc_ic_0 ?_
    exact s_retZ0 j253 rfl h
theorem P_Law_law_254 (nl : Bool) (Ln : Nat) (xs : Nat → Int32) : am_Jl (TT nl Ln xs) 352 [(254, .aload_n 1, 255, []), (255, .aload_n 0, 256, []), (256, .iload_n 3, 257, []), (257, .iconst 1, 258, []), (258, .iadd, 259, []), (259, .iaload, 260, []), (260, .aload_n 0, 261, []), (261, .iload_n 3, 262, []), (262, .iconst 2, 263, []), (263, .iadd, 264, []), (264, .iaload, 265, []), (265, .aload_n 0, 266, []), (266, .iload_n 3, 267, []), (267, .iconst 3, 268, []), (268, .iadd, 269, []), (269, .iaload, 270, []), (270, .aload_n 0, 271, []), (271, .iload_n 3, 272, []), (272, .iconst 4, 273, []), (273, .iadd, 274, []), (274, .iaload, 275, []), (275, .invokevirtual 23, 278, [10, 128, 1, 5, 5]), (278, .aload_n 2, 279, []), (279, .aload_n 0, 280, []), (280, .iload_n 3, 281, []), (281, .iconst 1, 282, []), (282, .iadd, 283, []), (283, .iaload, 284, []), (284, .aload_n 0, 285, []), (285, .iload_n 3, 286, []), (286, .iconst 2, 287, []), (287, .iadd, 288, []), (288, .iaload, 289, []), (289, .aload_n 0, 290, []), (290, .iload_n 3, 291, []), (291, .iconst 3, 292, []), (292, .iadd, 293, []), (293, .iaload, 294, []), (294, .aload_n 0, 295, []), (295, .iload_n 3, 296, []), (296, .iconst 4, 297, []), (297, .iadd, 298, []), (298, .iaload, 299, []), (299, .invokevirtual 27, 302, [10, 301, 13, 5, 5]), (302, .if_icmp .eq 1619, 305, []), (305, .iconst 0, 306, []), (306, .ireturn, 307, [4]), (1921, .iinc 3 8, 1924, []), (1924, .goto (-1906), 1927, [])] := dk_ck (by decide +kernel)
set_option maxRecDepth 4096 in
theorem w_Law_law_254 {nl : Bool} {Ln : Nat} {xs : Nat → Int32} {d : Nat} {x1 : Option Nat} {x2 : Option Nat} {x3 : Int32} {σ : am_S} {F : Bool → am_S → Prop} (h : ((am_kd σ 999).1 = 0) ∧ (0 ≤ (x3 + (1 : Int32)).toInt) ∧ ((x3 + (1 : Int32)).toInt < am_rl (am_tz (TT nl Ln xs)) 999) ∧ ((am_kd σ 999).1 = 0) ∧ (0 ≤ (x3 + (2 : Int32)).toInt) ∧ ((x3 + (2 : Int32)).toInt < am_rl (am_tz (TT nl Ln xs)) 999) ∧ ((am_kd σ 999).1 = 0) ∧ (0 ≤ (x3 + (3 : Int32)).toInt) ∧ ((x3 + (3 : Int32)).toInt < am_rl (am_tz (TT nl Ln xs)) 999) ∧ ((am_kd σ 999).1 = 0) ∧ (0 ≤ (x3 + (4 : Int32)).toInt) ∧ ((x3 + (4 : Int32)).toInt < am_rl (am_tz (TT nl Ln xs)) 999) ∧ (am_is σ x1 0) ∧ k_Co_policy nl Ln xs d (x1.getD 0) (am_rv (am_tz (TT nl Ln xs)) 999 (x3 + (1 : Int32)).toNatClampNeg) (am_rv (am_tz (TT nl Ln xs)) 999 (x3 + (2 : Int32)).toNatClampNeg) (am_rv (am_tz (TT nl Ln xs)) 999 (x3 + (3 : Int32)).toNatClampNeg) (am_rv (am_tz (TT nl Ln xs)) 999 (x3 + (4 : Int32)).toNatClampNeg) σ (fun a15 σ14 => am_ext σ σ14 → ((am_kd σ14 999).1 = 0) ∧ (0 ≤ (x3 + (1 : Int32)).toInt) ∧ ((x3 + (1 : Int32)).toInt < am_rl (am_tz (TT nl Ln xs)) 999) ∧ ((am_kd σ14 999).1 = 0) ∧ (0 ≤ (x3 + (2 : Int32)).toInt) ∧ ((x3 + (2 : Int32)).toInt < am_rl (am_tz (TT nl Ln xs)) 999) ∧ ((am_kd σ14 999).1 = 0) ∧ (0 ≤ (x3 + (3 : Int32)).toInt) ∧ ((x3 + (3 : Int32)).toInt < am_rl (am_tz (TT nl Ln xs)) 999) ∧ ((am_kd σ14 999).1 = 0) ∧ (0 ≤ (x3 + (4 : Int32)).toInt) ∧ ((x3 + (4 : Int32)).toInt < am_rl (am_tz (TT nl Ln xs)) 999) ∧ (am_is σ14 x2 12) ∧ k_Rm_policy nl Ln xs d (x2.getD 0) (am_rv (am_tz (TT nl Ln xs)) 999 (x3 + (1 : Int32)).toNatClampNeg) (am_rv (am_tz (TT nl Ln xs)) 999 (x3 + (2 : Int32)).toNatClampNeg) (am_rv (am_tz (TT nl Ln xs)) 999 (x3 + (3 : Int32)).toNatClampNeg) (am_rv (am_tz (TT nl Ln xs)) 999 (x3 + (4 : Int32)).toNatClampNeg) σ14 (fun a30 σ29 => am_ext σ14 σ29 → (a15 = a30 → c_Law_law_18 nl Ln xs (d + 1) x1 x2 (x3 + (8 : Int32)) σ29 F) ∧ (¬ (a15 = a30) → F false σ29)))) : c_Law_law_254 nl Ln xs (d + 1) x1 x2 x3 σ F := by
  obtain ⟨j254, j255, j256, j257, j258, j259, j260, j261, j262, j263, j264, j265, j266, j267, j268, j269, j270, j271, j272, j273, j274, j275, j278, j279, j280, j281, j282, j283, j284, j285, j286, j287, j288, j289, j290, j291, j292, j293, j294, j295, j296, j297, j298, j299, j302, j305, j306, j1921, j1924, -⟩ := P_Law_law_254 nl Ln xs
  unfold c_Law_law_254
  refine s_aload_n j254 rfl rfl ?_
  refine s_aload_n j255 rfl rfl ?_
  refine s_iload_n j256 rfl rfl ?_
  refine s_iconst j257 rfl kc_ic_1 ?_
  refine s_g j258 rfl rfl rfl rfl rfl rfl ?_
  obtain ⟨ho1, h⟩ := h
  obtain ⟨ho2, h⟩ := h
  obtain ⟨ho3, h⟩ := h
  refine s_ialoadR j259 rfl (by decide) ho1 rfl ho2 ho3 ?_
  refine s_aload_n j260 rfl rfl ?_
  refine s_iload_n j261 rfl rfl ?_
  refine s_iconst j262 rfl kc_ic_2 ?_
  refine s_g j263 rfl rfl rfl rfl rfl rfl ?_
  obtain ⟨ho4, h⟩ := h
  obtain ⟨ho5, h⟩ := h
  obtain ⟨ho6, h⟩ := h
  refine s_ialoadR j264 rfl (by decide) ho4 rfl ho5 ho6 ?_
  refine s_aload_n j265 rfl rfl ?_
  refine s_iload_n j266 rfl rfl ?_
  refine s_iconst j267 rfl kc_ic_3 ?_
  refine s_g j268 rfl rfl rfl rfl rfl rfl ?_
  obtain ⟨ho7, h⟩ := h
  obtain ⟨ho8, h⟩ := h
  obtain ⟨ho9, h⟩ := h
  refine s_ialoadR j269 rfl (by decide) ho7 rfl ho8 ho9 ?_
  refine s_aload_n j270 rfl rfl ?_
  refine s_iload_n j271 rfl rfl ?_
  refine s_iconst j272 rfl kc_ic_4 ?_
  refine s_g j273 rfl rfl rfl rfl rfl rfl ?_
  obtain ⟨ho10, h⟩ := h
  obtain ⟨ho11, h⟩ := h
  obtain ⟨ho12, h⟩ := h
  refine s_ialoadR j274 rfl (by decide) ho10 rfl ho11 ho12 ?_
  obtain ⟨ho13, h⟩ := h
  refine s_virt j275 rfl rfl rfl rfl ho13 (by decide) (in_Co_policy _ _ _ _ _) (am_r8 rfl) (am_bI h (fun a15 σ14 h hx14 => ?_))
  replace h := h hx14
  refine s_aload_n j278 rfl rfl ?_
  refine s_aload_n j279 rfl rfl ?_
  refine s_iload_n j280 rfl rfl ?_
  refine s_iconst j281 rfl kc_ic_1 ?_
  refine s_g j282 rfl rfl rfl rfl rfl rfl ?_
  obtain ⟨ho16, h⟩ := h
  obtain ⟨ho17, h⟩ := h
  obtain ⟨ho18, h⟩ := h
  refine s_ialoadR j283 rfl (by decide) ho16 rfl ho17 ho18 ?_
  refine s_aload_n j284 rfl rfl ?_
  refine s_iload_n j285 rfl rfl ?_
  refine s_iconst j286 rfl kc_ic_2 ?_
  refine s_g j287 rfl rfl rfl rfl rfl rfl ?_
  obtain ⟨ho19, h⟩ := h
  obtain ⟨ho20, h⟩ := h
  obtain ⟨ho21, h⟩ := h
  refine s_ialoadR j288 rfl (by decide) ho19 rfl ho20 ho21 ?_
  refine s_aload_n j289 rfl rfl ?_
  refine s_iload_n j290 rfl rfl ?_
  refine s_iconst j291 rfl kc_ic_3 ?_
  refine s_g j292 rfl rfl rfl rfl rfl rfl ?_
  obtain ⟨ho22, h⟩ := h
  obtain ⟨ho23, h⟩ := h
  obtain ⟨ho24, h⟩ := h
  refine s_ialoadR j293 rfl (by decide) ho22 rfl ho23 ho24 ?_
  refine s_aload_n j294 rfl rfl ?_
  refine s_iload_n j295 rfl rfl ?_
  refine s_iconst j296 rfl kc_ic_4 ?_
  refine s_g j297 rfl rfl rfl rfl rfl rfl ?_
  obtain ⟨ho25, h⟩ := h
  obtain ⟨ho26, h⟩ := h
  obtain ⟨ho27, h⟩ := h
  refine s_ialoadR j298 rfl (by decide) ho25 rfl ho26 ho27 ?_
  obtain ⟨ho28, h⟩ := h
  refine s_virt j299 rfl rfl rfl rfl ho28 (by decide) (in_Rm_policy _ _ _ _ _) (am_r8 rfl) (am_bI h (fun a30 σ29 h hx29 => ?_))
  replace h := h hx29
  refine s_ic j302 rfl rfl am_cc_eq (fun hc31 => ?_) (fun hc31 => ?_)
  · replace h := h.1 hc31
    refine s_iinc (L' := [some (am_ov (some 999)), some (am_ov x1), some (am_ov x2), some (.int (x3 + (8 : Int32)))]) j1921 rfl rfl kc_ic_8 (am_st1_R [_, _] _ _ _ _) ?_
    refine s_goto j1924 rfl rfl ?_
    exact h
  · replace h := h.2 hc31
    refine s_iconst j305 rfl kc_ic_0 ?_
    exact s_retZ0 j306 rfl h
theorem P_Law_law_307 (nl : Bool) (Ln : Nat) (xs : Nat → Int32) : am_Jl (TT nl Ln xs) 352 [(307, .aload_n 1, 308, []), (308, .aload_n 0, 309, []), (309, .iload_n 3, 310, []), (310, .iconst 1, 311, []), (311, .iadd, 312, []), (312, .iaload, 313, []), (313, .aload_n 0, 314, []), (314, .iload_n 3, 315, []), (315, .iconst 2, 316, []), (316, .iadd, 317, []), (317, .iaload, 318, []), (318, .aload_n 0, 319, []), (319, .iload_n 3, 320, []), (320, .iconst 3, 321, []), (321, .iadd, 322, []), (322, .iaload, 323, []), (323, .invokevirtual 28, 326, [10, 129, 1, 4, 4]), (326, .aload_n 2, 327, []), (327, .aload_n 0, 328, []), (328, .iload_n 3, 329, []), (329, .iconst 1, 330, []), (330, .iadd, 331, []), (331, .iaload, 332, []), (332, .aload_n 0, 333, []), (333, .iload_n 3, 334, []), (334, .iconst 2, 335, []), (335, .iadd, 336, []), (336, .iaload, 337, []), (337, .aload_n 0, 338, []), (338, .iload_n 3, 339, []), (339, .iconst 3, 340, []), (340, .iadd, 341, []), (341, .iaload, 342, []), (342, .invokevirtual 32, 345, [10, 302, 13, 4, 4]), (345, .if_icmp .eq 1576, 348, []), (348, .iconst 0, 349, []), (349, .ireturn, 350, [4]), (1921, .iinc 3 8, 1924, []), (1924, .goto (-1906), 1927, [])] := dk_ck (by decide +kernel)
set_option maxRecDepth 4096 in
theorem w_Law_law_307 {nl : Bool} {Ln : Nat} {xs : Nat → Int32} {d : Nat} {x1 : Option Nat} {x2 : Option Nat} {x3 : Int32} {σ : am_S} {F : Bool → am_S → Prop} (h : ((am_kd σ 999).1 = 0) ∧ (0 ≤ (x3 + (1 : Int32)).toInt) ∧ ((x3 + (1 : Int32)).toInt < am_rl (am_tz (TT nl Ln xs)) 999) ∧ ((am_kd σ 999).1 = 0) ∧ (0 ≤ (x3 + (2 : Int32)).toInt) ∧ ((x3 + (2 : Int32)).toInt < am_rl (am_tz (TT nl Ln xs)) 999) ∧ ((am_kd σ 999).1 = 0) ∧ (0 ≤ (x3 + (3 : Int32)).toInt) ∧ ((x3 + (3 : Int32)).toInt < am_rl (am_tz (TT nl Ln xs)) 999) ∧ (am_is σ x1 0) ∧ k_Co_bundle nl Ln xs d (x1.getD 0) (am_rv (am_tz (TT nl Ln xs)) 999 (x3 + (1 : Int32)).toNatClampNeg) (am_rv (am_tz (TT nl Ln xs)) 999 (x3 + (2 : Int32)).toNatClampNeg) (am_rv (am_tz (TT nl Ln xs)) 999 (x3 + (3 : Int32)).toNatClampNeg) σ (fun a12 σ11 => am_ext σ σ11 → ((am_kd σ11 999).1 = 0) ∧ (0 ≤ (x3 + (1 : Int32)).toInt) ∧ ((x3 + (1 : Int32)).toInt < am_rl (am_tz (TT nl Ln xs)) 999) ∧ ((am_kd σ11 999).1 = 0) ∧ (0 ≤ (x3 + (2 : Int32)).toInt) ∧ ((x3 + (2 : Int32)).toInt < am_rl (am_tz (TT nl Ln xs)) 999) ∧ ((am_kd σ11 999).1 = 0) ∧ (0 ≤ (x3 + (3 : Int32)).toInt) ∧ ((x3 + (3 : Int32)).toInt < am_rl (am_tz (TT nl Ln xs)) 999) ∧ (am_is σ11 x2 12) ∧ k_Rm_bundle nl Ln xs d (x2.getD 0) (am_rv (am_tz (TT nl Ln xs)) 999 (x3 + (1 : Int32)).toNatClampNeg) (am_rv (am_tz (TT nl Ln xs)) 999 (x3 + (2 : Int32)).toNatClampNeg) (am_rv (am_tz (TT nl Ln xs)) 999 (x3 + (3 : Int32)).toNatClampNeg) σ11 (fun a24 σ23 => am_ext σ11 σ23 → (a12 = a24 → c_Law_law_18 nl Ln xs (d + 1) x1 x2 (x3 + (8 : Int32)) σ23 F) ∧ (¬ (a12 = a24) → F false σ23)))) : c_Law_law_307 nl Ln xs (d + 1) x1 x2 x3 σ F := by
  obtain ⟨j307, j308, j309, j310, j311, j312, j313, j314, j315, j316, j317, j318, j319, j320, j321, j322, j323, j326, j327, j328, j329, j330, j331, j332, j333, j334, j335, j336, j337, j338, j339, j340, j341, j342, j345, j348, j349, j1921, j1924, -⟩ := P_Law_law_307 nl Ln xs
  unfold c_Law_law_307
  refine s_aload_n j307 rfl rfl ?_
  refine s_aload_n j308 rfl rfl ?_
  refine s_iload_n j309 rfl rfl ?_
  refine s_iconst j310 rfl kc_ic_1 ?_
  refine s_g j311 rfl rfl rfl rfl rfl rfl ?_
  obtain ⟨ho1, h⟩ := h
  obtain ⟨ho2, h⟩ := h
  obtain ⟨ho3, h⟩ := h
  refine s_ialoadR j312 rfl (by decide) ho1 rfl ho2 ho3 ?_
  refine s_aload_n j313 rfl rfl ?_
  refine s_iload_n j314 rfl rfl ?_
  refine s_iconst j315 rfl kc_ic_2 ?_
  refine s_g j316 rfl rfl rfl rfl rfl rfl ?_
  obtain ⟨ho4, h⟩ := h
  obtain ⟨ho5, h⟩ := h
  obtain ⟨ho6, h⟩ := h
  refine s_ialoadR j317 rfl (by decide) ho4 rfl ho5 ho6 ?_
  refine s_aload_n j318 rfl rfl ?_
  refine s_iload_n j319 rfl rfl ?_
  refine s_iconst j320 rfl kc_ic_3 ?_
  refine s_g j321 rfl rfl rfl rfl rfl rfl ?_
  obtain ⟨ho7, h⟩ := h
  obtain ⟨ho8, h⟩ := h
  obtain ⟨ho9, h⟩ := h
  refine s_ialoadR j322 rfl (by decide) ho7 rfl ho8 ho9 ?_
  obtain ⟨ho10, h⟩ := h
  refine s_virt j323 rfl rfl rfl rfl ho10 (by decide) (in_Co_bundle _ _ _ _) (am_r8 rfl) (am_bI h (fun a12 σ11 h hx11 => ?_))
  replace h := h hx11
  refine s_aload_n j326 rfl rfl ?_
  refine s_aload_n j327 rfl rfl ?_
  refine s_iload_n j328 rfl rfl ?_
  refine s_iconst j329 rfl kc_ic_1 ?_
  refine s_g j330 rfl rfl rfl rfl rfl rfl ?_
  obtain ⟨ho13, h⟩ := h
  obtain ⟨ho14, h⟩ := h
  obtain ⟨ho15, h⟩ := h
  refine s_ialoadR j331 rfl (by decide) ho13 rfl ho14 ho15 ?_
  refine s_aload_n j332 rfl rfl ?_
  refine s_iload_n j333 rfl rfl ?_
  refine s_iconst j334 rfl kc_ic_2 ?_
  refine s_g j335 rfl rfl rfl rfl rfl rfl ?_
  obtain ⟨ho16, h⟩ := h
  obtain ⟨ho17, h⟩ := h
  obtain ⟨ho18, h⟩ := h
  refine s_ialoadR j336 rfl (by decide) ho16 rfl ho17 ho18 ?_
  refine s_aload_n j337 rfl rfl ?_
  refine s_iload_n j338 rfl rfl ?_
  refine s_iconst j339 rfl kc_ic_3 ?_
  refine s_g j340 rfl rfl rfl rfl rfl rfl ?_
  obtain ⟨ho19, h⟩ := h
  obtain ⟨ho20, h⟩ := h
  obtain ⟨ho21, h⟩ := h
  refine s_ialoadR j341 rfl (by decide) ho19 rfl ho20 ho21 ?_
  obtain ⟨ho22, h⟩ := h
  refine s_virt j342 rfl rfl rfl rfl ho22 (by decide) (in_Rm_bundle _ _ _ _) (am_r8 rfl) (am_bI h (fun a24 σ23 h hx23 => ?_))
  replace h := h hx23
  refine s_ic j345 rfl rfl am_cc_eq (fun hc25 => ?_) (fun hc25 => ?_)
  · replace h := h.1 hc25
    refine s_iinc (L' := [some (am_ov (some 999)), some (am_ov x1), some (am_ov x2), some (.int (x3 + (8 : Int32)))]) j1921 rfl rfl kc_ic_8 (am_st1_R [_, _] _ _ _ _) ?_
    refine s_goto j1924 rfl rfl ?_
    exact h
  · replace h := h.2 hc25
    refine s_iconst j348 rfl kc_ic_0 ?_
    exact s_retZ0 j349 rfl h
theorem P_Law_law_350 (nl : Bool) (Ln : Nat) (xs : Nat → Int32) : am_Jl (TT nl Ln xs) 352 [(350, .aload_n 1, 351, []), (351, .aload_n 0, 352, []), (352, .iload_n 3, 353, []), (353, .iconst 1, 354, []), (354, .iadd, 355, []), (355, .iaload, 356, []), (356, .aload_n 0, 357, []), (357, .iload_n 3, 358, []), (358, .iconst 2, 359, []), (359, .iadd, 360, []), (360, .iaload, 361, []), (361, .aload_n 0, 362, []), (362, .iload_n 3, 363, []), (363, .iconst 3, 364, []), (364, .iadd, 365, []), (365, .iaload, 366, []), (366, .i2l, 367, []), (367, .bipush 32, 369, []), (369, .lshl, 370, []), (370, .aload_n 0, 371, []), (371, .iload_n 3, 372, []), (372, .iconst 4, 373, []), (373, .iadd, 374, []), (374, .iaload, 375, []), (375, .i2l, 376, []), (376, .ldc2_w 33, 379, [6, 4294967295]), (379, .land, 380, []), (380, .lor, 381, []), (381, .invokevirtual 35, 384, [10, 130, 1, 5, 4]), (384, .aload_n 2, 385, []), (385, .aload_n 0, 386, []), (386, .iload_n 3, 387, []), (387, .iconst 1, 388, []), (388, .iadd, 389, []), (389, .iaload, 390, []), (390, .aload_n 0, 391, []), (391, .iload_n 3, 392, []), (392, .iconst 2, 393, []), (393, .iadd, 394, []), (394, .iaload, 395, []), (395, .aload_n 0, 396, []), (396, .iload_n 3, 397, []), (397, .iconst 3, 398, []), (398, .iadd, 399, []), (399, .iaload, 400, []), (400, .i2l, 401, []), (401, .bipush 32, 403, []), (403, .lshl, 404, []), (404, .aload_n 0, 405, []), (405, .iload_n 3, 406, []), (406, .iconst 4, 407, []), (407, .iadd, 408, []), (408, .iaload, 409, []), (409, .i2l, 410, []), (410, .ldc2_w 33, 413, [6, 4294967295]), (413, .land, 414, []), (414, .lor, 415, []), (415, .invokevirtual 39, 418, [10, 303, 13, 5, 4]), (418, .if_icmp .eq 1503, 421, []), (421, .iconst 0, 422, []), (422, .ireturn, 423, [4]), (1921, .iinc 3 8, 1924, []), (1924, .goto (-1906), 1927, [])] := dk_ck (by decide +kernel)
set_option maxRecDepth 4096 in
theorem w_Law_law_350 {nl : Bool} {Ln : Nat} {xs : Nat → Int32} {d : Nat} {x1 : Option Nat} {x2 : Option Nat} {x3 : Int32} {σ : am_S} {F : Bool → am_S → Prop} (h : ((am_kd σ 999).1 = 0) ∧ (0 ≤ (x3 + (1 : Int32)).toInt) ∧ ((x3 + (1 : Int32)).toInt < am_rl (am_tz (TT nl Ln xs)) 999) ∧ ((am_kd σ 999).1 = 0) ∧ (0 ≤ (x3 + (2 : Int32)).toInt) ∧ ((x3 + (2 : Int32)).toInt < am_rl (am_tz (TT nl Ln xs)) 999) ∧ ((am_kd σ 999).1 = 0) ∧ (0 ≤ (x3 + (3 : Int32)).toInt) ∧ ((x3 + (3 : Int32)).toInt < am_rl (am_tz (TT nl Ln xs)) 999) ∧ ((am_kd σ 999).1 = 0) ∧ (0 ≤ (x3 + (4 : Int32)).toInt) ∧ ((x3 + (4 : Int32)).toInt < am_rl (am_tz (TT nl Ln xs)) 999) ∧ (am_is σ x1 0) ∧ k_Co_period nl Ln xs d (x1.getD 0) (am_rv (am_tz (TT nl Ln xs)) 999 (x3 + (1 : Int32)).toNatClampNeg) (am_rv (am_tz (TT nl Ln xs)) 999 (x3 + (2 : Int32)).toNatClampNeg) (((am_rv (am_tz (TT nl Ln xs)) 999 (x3 + (3 : Int32)).toNatClampNeg).toInt64 <<< ((32 : Int32).toInt64 &&& 63)) ||| ((am_rv (am_tz (TT nl Ln xs)) 999 (x3 + (4 : Int32)).toNatClampNeg).toInt64 &&& (4294967295 : Int64))) σ (fun a15 σ14 => am_ext σ σ14 → ((am_kd σ14 999).1 = 0) ∧ (0 ≤ (x3 + (1 : Int32)).toInt) ∧ ((x3 + (1 : Int32)).toInt < am_rl (am_tz (TT nl Ln xs)) 999) ∧ ((am_kd σ14 999).1 = 0) ∧ (0 ≤ (x3 + (2 : Int32)).toInt) ∧ ((x3 + (2 : Int32)).toInt < am_rl (am_tz (TT nl Ln xs)) 999) ∧ ((am_kd σ14 999).1 = 0) ∧ (0 ≤ (x3 + (3 : Int32)).toInt) ∧ ((x3 + (3 : Int32)).toInt < am_rl (am_tz (TT nl Ln xs)) 999) ∧ ((am_kd σ14 999).1 = 0) ∧ (0 ≤ (x3 + (4 : Int32)).toInt) ∧ ((x3 + (4 : Int32)).toInt < am_rl (am_tz (TT nl Ln xs)) 999) ∧ (am_is σ14 x2 12) ∧ k_Rm_period nl Ln xs d (x2.getD 0) (am_rv (am_tz (TT nl Ln xs)) 999 (x3 + (1 : Int32)).toNatClampNeg) (am_rv (am_tz (TT nl Ln xs)) 999 (x3 + (2 : Int32)).toNatClampNeg) (((am_rv (am_tz (TT nl Ln xs)) 999 (x3 + (3 : Int32)).toNatClampNeg).toInt64 <<< ((32 : Int32).toInt64 &&& 63)) ||| ((am_rv (am_tz (TT nl Ln xs)) 999 (x3 + (4 : Int32)).toNatClampNeg).toInt64 &&& (4294967295 : Int64))) σ14 (fun a30 σ29 => am_ext σ14 σ29 → (a15 = a30 → c_Law_law_18 nl Ln xs (d + 1) x1 x2 (x3 + (8 : Int32)) σ29 F) ∧ (¬ (a15 = a30) → F false σ29)))) : c_Law_law_350 nl Ln xs (d + 1) x1 x2 x3 σ F := by
  obtain ⟨j350, j351, j352, j353, j354, j355, j356, j357, j358, j359, j360, j361, j362, j363, j364, j365, j366, j367, j369, j370, j371, j372, j373, j374, j375, j376, j379, j380, j381, j384, j385, j386, j387, j388, j389, j390, j391, j392, j393, j394, j395, j396, j397, j398, j399, j400, j401, j403, j404, j405, j406, j407, j408, j409, j410, j413, j414, j415, j418, j421, j422, j1921, j1924, -⟩ := P_Law_law_350 nl Ln xs
  unfold c_Law_law_350
  refine s_aload_n j350 rfl rfl ?_
  refine s_aload_n j351 rfl rfl ?_
  refine s_iload_n j352 rfl rfl ?_
  refine s_iconst j353 rfl kc_ic_1 ?_
  refine s_g j354 rfl rfl rfl rfl rfl rfl ?_
  obtain ⟨ho1, h⟩ := h
  obtain ⟨ho2, h⟩ := h
  obtain ⟨ho3, h⟩ := h
  refine s_ialoadR j355 rfl (by decide) ho1 rfl ho2 ho3 ?_
  refine s_aload_n j356 rfl rfl ?_
  refine s_iload_n j357 rfl rfl ?_
  refine s_iconst j358 rfl kc_ic_2 ?_
  refine s_g j359 rfl rfl rfl rfl rfl rfl ?_
  obtain ⟨ho4, h⟩ := h
  obtain ⟨ho5, h⟩ := h
  obtain ⟨ho6, h⟩ := h
  refine s_ialoadR j360 rfl (by decide) ho4 rfl ho5 ho6 ?_
  refine s_aload_n j361 rfl rfl ?_
  refine s_iload_n j362 rfl rfl ?_
  refine s_iconst j363 rfl kc_ic_3 ?_
  refine s_g j364 rfl rfl rfl rfl rfl rfl ?_
  obtain ⟨ho7, h⟩ := h
  obtain ⟨ho8, h⟩ := h
  obtain ⟨ho9, h⟩ := h
  refine s_ialoadR j365 rfl (by decide) ho7 rfl ho8 ho9 ?_
  refine s_g j366 rfl rfl rfl rfl rfl rfl ?_
  refine s_bipush j367 rfl kc_bi_32 ?_
  refine s_g j369 rfl rfl rfl rfl rfl rfl ?_
  refine s_aload_n j370 rfl rfl ?_
  refine s_iload_n j371 rfl rfl ?_
  refine s_iconst j372 rfl kc_ic_4 ?_
  refine s_g j373 rfl rfl rfl rfl rfl rfl ?_
  obtain ⟨ho10, h⟩ := h
  obtain ⟨ho11, h⟩ := h
  obtain ⟨ho12, h⟩ := h
  refine s_ialoadR j374 rfl (by decide) ho10 rfl ho11 ho12 ?_
  refine s_g j375 rfl rfl rfl rfl rfl rfl ?_
  refine s_ldc2 j376 rfl kc_ll_4294967295 ?_
  refine s_g j379 rfl rfl rfl rfl rfl rfl ?_
  refine s_g j380 rfl rfl rfl rfl rfl rfl ?_
  obtain ⟨ho13, h⟩ := h
  refine s_virt j381 rfl rfl rfl rfl ho13 (by decide) (in_Co_period _ _ _ _) (am_r8 rfl) (am_bI h (fun a15 σ14 h hx14 => ?_))
  replace h := h hx14
  refine s_aload_n j384 rfl rfl ?_
  refine s_aload_n j385 rfl rfl ?_
  refine s_iload_n j386 rfl rfl ?_
  refine s_iconst j387 rfl kc_ic_1 ?_
  refine s_g j388 rfl rfl rfl rfl rfl rfl ?_
  obtain ⟨ho16, h⟩ := h
  obtain ⟨ho17, h⟩ := h
  obtain ⟨ho18, h⟩ := h
  refine s_ialoadR j389 rfl (by decide) ho16 rfl ho17 ho18 ?_
  refine s_aload_n j390 rfl rfl ?_
  refine s_iload_n j391 rfl rfl ?_
  refine s_iconst j392 rfl kc_ic_2 ?_
  refine s_g j393 rfl rfl rfl rfl rfl rfl ?_
  obtain ⟨ho19, h⟩ := h
  obtain ⟨ho20, h⟩ := h
  obtain ⟨ho21, h⟩ := h
  refine s_ialoadR j394 rfl (by decide) ho19 rfl ho20 ho21 ?_
  refine s_aload_n j395 rfl rfl ?_
  refine s_iload_n j396 rfl rfl ?_
  refine s_iconst j397 rfl kc_ic_3 ?_
  refine s_g j398 rfl rfl rfl rfl rfl rfl ?_
  obtain ⟨ho22, h⟩ := h
  obtain ⟨ho23, h⟩ := h
  obtain ⟨ho24, h⟩ := h
  refine s_ialoadR j399 rfl (by decide) ho22 rfl ho23 ho24 ?_
  refine s_g j400 rfl rfl rfl rfl rfl rfl ?_
  refine s_bipush j401 rfl kc_bi_32 ?_
  refine s_g j403 rfl rfl rfl rfl rfl rfl ?_
  refine s_aload_n j404 rfl rfl ?_
  refine s_iload_n j405 rfl rfl ?_
  refine s_iconst j406 rfl kc_ic_4 ?_
  refine s_g j407 rfl rfl rfl rfl rfl rfl ?_
  obtain ⟨ho25, h⟩ := h
  obtain ⟨ho26, h⟩ := h
  obtain ⟨ho27, h⟩ := h
  refine s_ialoadR j408 rfl (by decide) ho25 rfl ho26 ho27 ?_
  refine s_g j409 rfl rfl rfl rfl rfl rfl ?_
  refine s_ldc2 j410 rfl kc_ll_4294967295 ?_
  refine s_g j413 rfl rfl rfl rfl rfl rfl ?_
  refine s_g j414 rfl rfl rfl rfl rfl rfl ?_
  obtain ⟨ho28, h⟩ := h
  refine s_virt j415 rfl rfl rfl rfl ho28 (by decide) (in_Rm_period _ _ _ _) (am_r8 rfl) (am_bI h (fun a30 σ29 h hx29 => ?_))
  replace h := h hx29
  refine s_ic j418 rfl rfl am_cc_eq (fun hc31 => ?_) (fun hc31 => ?_)
  · replace h := h.1 hc31
    refine s_iinc (L' := [some (am_ov (some 999)), some (am_ov x1), some (am_ov x2), some (.int (x3 + (8 : Int32)))]) j1921 rfl rfl kc_ic_8 (am_st1_R [_, _] _ _ _ _) ?_
    refine s_goto j1924 rfl rfl ?_
    exact h
  · replace h := h.2 hc31
    refine s_iconst j421 rfl kc_ic_0 ?_
    exact s_retZ0 j422 rfl h
theorem P_Law_law_423 (nl : Bool) (Ln : Nat) (xs : Nat → Int32) : am_Jl (TT nl Ln xs) 352 [(423, .aload_n 1, 424, []), (424, .aload_n 0, 425, []), (425, .iload_n 3, 426, []), (426, .iconst 1, 427, []), (427, .iadd, 428, []), (428, .iaload, 429, []), (429, .i2l, 430, []), (430, .bipush 32, 432, []), (432, .lshl, 433, []), (433, .aload_n 0, 434, []), (434, .iload_n 3, 435, []), (435, .iconst 2, 436, []), (436, .iadd, 437, []), (437, .iaload, 438, []), (438, .i2l, 439, []), (439, .ldc2_w 33, 442, [6, 4294967295]), (442, .land, 443, []), (443, .lor, 444, []), (444, .aload_n 0, 445, []), (445, .iload_n 3, 446, []), (446, .iconst 3, 447, []), (447, .iadd, 448, []), (448, .iaload, 449, []), (449, .invokevirtual 40, 452, [10, 131, 1, 5, 3]), (452, .aload_n 2, 453, []), (453, .aload_n 0, 454, []), (454, .iload_n 3, 455, []), (455, .iconst 1, 456, []), (456, .iadd, 457, []), (457, .iaload, 458, []), (458, .i2l, 459, []), (459, .bipush 32, 461, []), (461, .lshl, 462, []), (462, .aload_n 0, 463, []), (463, .iload_n 3, 464, []), (464, .iconst 2, 465, []), (465, .iadd, 466, []), (466, .iaload, 467, []), (467, .i2l, 468, []), (468, .ldc2_w 33, 471, [6, 4294967295]), (471, .land, 472, []), (472, .lor, 473, []), (473, .aload_n 0, 474, []), (474, .iload_n 3, 475, []), (475, .iconst 3, 476, []), (476, .iadd, 477, []), (477, .iaload, 478, []), (478, .invokevirtual 44, 481, [10, 304, 13, 5, 3]), (481, .if_icmp .eq 1440, 484, []), (484, .iconst 0, 485, []), (485, .ireturn, 486, [4]), (1921, .iinc 3 8, 1924, []), (1924, .goto (-1906), 1927, [])] := dk_ck (by decide +kernel)
set_option maxRecDepth 4096 in
theorem w_Law_law_423 {nl : Bool} {Ln : Nat} {xs : Nat → Int32} {d : Nat} {x1 : Option Nat} {x2 : Option Nat} {x3 : Int32} {σ : am_S} {F : Bool → am_S → Prop} (h : ((am_kd σ 999).1 = 0) ∧ (0 ≤ (x3 + (1 : Int32)).toInt) ∧ ((x3 + (1 : Int32)).toInt < am_rl (am_tz (TT nl Ln xs)) 999) ∧ ((am_kd σ 999).1 = 0) ∧ (0 ≤ (x3 + (2 : Int32)).toInt) ∧ ((x3 + (2 : Int32)).toInt < am_rl (am_tz (TT nl Ln xs)) 999) ∧ ((am_kd σ 999).1 = 0) ∧ (0 ≤ (x3 + (3 : Int32)).toInt) ∧ ((x3 + (3 : Int32)).toInt < am_rl (am_tz (TT nl Ln xs)) 999) ∧ (am_is σ x1 0) ∧ k_Co_type nl Ln xs d (x1.getD 0) (((am_rv (am_tz (TT nl Ln xs)) 999 (x3 + (1 : Int32)).toNatClampNeg).toInt64 <<< ((32 : Int32).toInt64 &&& 63)) ||| ((am_rv (am_tz (TT nl Ln xs)) 999 (x3 + (2 : Int32)).toNatClampNeg).toInt64 &&& (4294967295 : Int64))) (am_rv (am_tz (TT nl Ln xs)) 999 (x3 + (3 : Int32)).toNatClampNeg) σ (fun a12 σ11 => am_ext σ σ11 → ((am_kd σ11 999).1 = 0) ∧ (0 ≤ (x3 + (1 : Int32)).toInt) ∧ ((x3 + (1 : Int32)).toInt < am_rl (am_tz (TT nl Ln xs)) 999) ∧ ((am_kd σ11 999).1 = 0) ∧ (0 ≤ (x3 + (2 : Int32)).toInt) ∧ ((x3 + (2 : Int32)).toInt < am_rl (am_tz (TT nl Ln xs)) 999) ∧ ((am_kd σ11 999).1 = 0) ∧ (0 ≤ (x3 + (3 : Int32)).toInt) ∧ ((x3 + (3 : Int32)).toInt < am_rl (am_tz (TT nl Ln xs)) 999) ∧ (am_is σ11 x2 12) ∧ k_Rm_type nl Ln xs d (x2.getD 0) (((am_rv (am_tz (TT nl Ln xs)) 999 (x3 + (1 : Int32)).toNatClampNeg).toInt64 <<< ((32 : Int32).toInt64 &&& 63)) ||| ((am_rv (am_tz (TT nl Ln xs)) 999 (x3 + (2 : Int32)).toNatClampNeg).toInt64 &&& (4294967295 : Int64))) (am_rv (am_tz (TT nl Ln xs)) 999 (x3 + (3 : Int32)).toNatClampNeg) σ11 (fun a24 σ23 => am_ext σ11 σ23 → (a12 = a24 → c_Law_law_18 nl Ln xs (d + 1) x1 x2 (x3 + (8 : Int32)) σ23 F) ∧ (¬ (a12 = a24) → F false σ23)))) : c_Law_law_423 nl Ln xs (d + 1) x1 x2 x3 σ F := by
  obtain ⟨j423, j424, j425, j426, j427, j428, j429, j430, j432, j433, j434, j435, j436, j437, j438, j439, j442, j443, j444, j445, j446, j447, j448, j449, j452, j453, j454, j455, j456, j457, j458, j459, j461, j462, j463, j464, j465, j466, j467, j468, j471, j472, j473, j474, j475, j476, j477, j478, j481, j484, j485, j1921, j1924, -⟩ := P_Law_law_423 nl Ln xs
  unfold c_Law_law_423
  refine s_aload_n j423 rfl rfl ?_
  refine s_aload_n j424 rfl rfl ?_
  refine s_iload_n j425 rfl rfl ?_
  refine s_iconst j426 rfl kc_ic_1 ?_
  refine s_g j427 rfl rfl rfl rfl rfl rfl ?_
  obtain ⟨ho1, h⟩ := h
  obtain ⟨ho2, h⟩ := h
  obtain ⟨ho3, h⟩ := h
  refine s_ialoadR j428 rfl (by decide) ho1 rfl ho2 ho3 ?_
  refine s_g j429 rfl rfl rfl rfl rfl rfl ?_
  refine s_bipush j430 rfl kc_bi_32 ?_
  refine s_g j432 rfl rfl rfl rfl rfl rfl ?_
  refine s_aload_n j433 rfl rfl ?_
  refine s_iload_n j434 rfl rfl ?_
  refine s_iconst j435 rfl kc_ic_2 ?_
  refine s_g j436 rfl rfl rfl rfl rfl rfl ?_
  obtain ⟨ho4, h⟩ := h
  obtain ⟨ho5, h⟩ := h
  obtain ⟨ho6, h⟩ := h
  refine s_ialoadR j437 rfl (by decide) ho4 rfl ho5 ho6 ?_
  refine s_g j438 rfl rfl rfl rfl rfl rfl ?_
  refine s_ldc2 j439 rfl kc_ll_4294967295 ?_
  refine s_g j442 rfl rfl rfl rfl rfl rfl ?_
  refine s_g j443 rfl rfl rfl rfl rfl rfl ?_
  refine s_aload_n j444 rfl rfl ?_
  refine s_iload_n j445 rfl rfl ?_
  refine s_iconst j446 rfl kc_ic_3 ?_
  refine s_g j447 rfl rfl rfl rfl rfl rfl ?_
  obtain ⟨ho7, h⟩ := h
  obtain ⟨ho8, h⟩ := h
  obtain ⟨ho9, h⟩ := h
  refine s_ialoadR j448 rfl (by decide) ho7 rfl ho8 ho9 ?_
  obtain ⟨ho10, h⟩ := h
  refine s_virt j449 rfl rfl rfl rfl ho10 (by decide) (in_Co_type _ _ _) (am_r8 rfl) (am_bI h (fun a12 σ11 h hx11 => ?_))
  replace h := h hx11
  refine s_aload_n j452 rfl rfl ?_
  refine s_aload_n j453 rfl rfl ?_
  refine s_iload_n j454 rfl rfl ?_
  refine s_iconst j455 rfl kc_ic_1 ?_
  refine s_g j456 rfl rfl rfl rfl rfl rfl ?_
  obtain ⟨ho13, h⟩ := h
  obtain ⟨ho14, h⟩ := h
  obtain ⟨ho15, h⟩ := h
  refine s_ialoadR j457 rfl (by decide) ho13 rfl ho14 ho15 ?_
  refine s_g j458 rfl rfl rfl rfl rfl rfl ?_
  refine s_bipush j459 rfl kc_bi_32 ?_
  refine s_g j461 rfl rfl rfl rfl rfl rfl ?_
  refine s_aload_n j462 rfl rfl ?_
  refine s_iload_n j463 rfl rfl ?_
  refine s_iconst j464 rfl kc_ic_2 ?_
  refine s_g j465 rfl rfl rfl rfl rfl rfl ?_
  obtain ⟨ho16, h⟩ := h
  obtain ⟨ho17, h⟩ := h
  obtain ⟨ho18, h⟩ := h
  refine s_ialoadR j466 rfl (by decide) ho16 rfl ho17 ho18 ?_
  refine s_g j467 rfl rfl rfl rfl rfl rfl ?_
  refine s_ldc2 j468 rfl kc_ll_4294967295 ?_
  refine s_g j471 rfl rfl rfl rfl rfl rfl ?_
  refine s_g j472 rfl rfl rfl rfl rfl rfl ?_
  refine s_aload_n j473 rfl rfl ?_
  refine s_iload_n j474 rfl rfl ?_
  refine s_iconst j475 rfl kc_ic_3 ?_
  refine s_g j476 rfl rfl rfl rfl rfl rfl ?_
  obtain ⟨ho19, h⟩ := h
  obtain ⟨ho20, h⟩ := h
  obtain ⟨ho21, h⟩ := h
  refine s_ialoadR j477 rfl (by decide) ho19 rfl ho20 ho21 ?_
  obtain ⟨ho22, h⟩ := h
  refine s_virt j478 rfl rfl rfl rfl ho22 (by decide) (in_Rm_type _ _ _) (am_r8 rfl) (am_bI h (fun a24 σ23 h hx23 => ?_))
  replace h := h hx23
  refine s_ic j481 rfl rfl am_cc_eq (fun hc25 => ?_) (fun hc25 => ?_)
  · replace h := h.1 hc25
    refine s_iinc (L' := [some (am_ov (some 999)), some (am_ov x1), some (am_ov x2), some (.int (x3 + (8 : Int32)))]) j1921 rfl rfl kc_ic_8 (am_st1_R [_, _] _ _ _ _) ?_
    refine s_goto j1924 rfl rfl ?_
    exact h
  · replace h := h.2 hc25
    refine s_iconst j484 rfl kc_ic_0 ?_
    exact s_retZ0 j485 rfl h
theorem P_Law_law_486 (nl : Bool) (Ln : Nat) (xs : Nat → Int32) : am_Jl (TT nl Ln xs) 352 [(486, .aload_n 1, 487, []), (487, .aload_n 0, 488, []), (488, .iload_n 3, 489, []), (489, .iconst 1, 490, []), (490, .iadd, 491, []), (491, .iaload, 492, []), (492, .invokevirtual 45, 495, [10, 133, 1, 3, 2]), (495, .aload_n 2, 496, []), (496, .aload_n 0, 497, []), (497, .iload_n 3, 498, []), (498, .iconst 1, 499, []), (499, .iadd, 500, []), (500, .iaload, 501, []), (501, .invokevirtual 49, 504, [10, 305, 13, 3, 2]), (504, .if_icmp .eq 1417, 507, []), (507, .iconst 0, 508, []), (508, .ireturn, 509, [4]), (1921, .iinc 3 8, 1924, []), (1924, .goto (-1906), 1927, [])] := dk_ck (by decide +kernel)
set_option maxRecDepth 4096 in
theorem w_Law_law_486 {nl : Bool} {Ln : Nat} {xs : Nat → Int32} {d : Nat} {x1 : Option Nat} {x2 : Option Nat} {x3 : Int32} {σ : am_S} {F : Bool → am_S → Prop} (h : ((am_kd σ 999).1 = 0) ∧ (0 ≤ (x3 + (1 : Int32)).toInt) ∧ ((x3 + (1 : Int32)).toInt < am_rl (am_tz (TT nl Ln xs)) 999) ∧ (am_is σ x1 0) ∧ k_Co_clauses nl Ln xs d (x1.getD 0) (am_rv (am_tz (TT nl Ln xs)) 999 (x3 + (1 : Int32)).toNatClampNeg) σ (fun a6 σ5 => am_ext σ σ5 → ((am_kd σ5 999).1 = 0) ∧ (0 ≤ (x3 + (1 : Int32)).toInt) ∧ ((x3 + (1 : Int32)).toInt < am_rl (am_tz (TT nl Ln xs)) 999) ∧ (am_is σ5 x2 12) ∧ k_Rm_clauses nl Ln xs d (x2.getD 0) (am_rv (am_tz (TT nl Ln xs)) 999 (x3 + (1 : Int32)).toNatClampNeg) σ5 (fun a12 σ11 => am_ext σ5 σ11 → (a6 = a12 → c_Law_law_18 nl Ln xs (d + 1) x1 x2 (x3 + (8 : Int32)) σ11 F) ∧ (¬ (a6 = a12) → F false σ11)))) : c_Law_law_486 nl Ln xs (d + 1) x1 x2 x3 σ F := by
  obtain ⟨j486, j487, j488, j489, j490, j491, j492, j495, j496, j497, j498, j499, j500, j501, j504, j507, j508, j1921, j1924, -⟩ := P_Law_law_486 nl Ln xs
  unfold c_Law_law_486
  refine s_aload_n j486 rfl rfl ?_
  refine s_aload_n j487 rfl rfl ?_
  refine s_iload_n j488 rfl rfl ?_
  refine s_iconst j489 rfl kc_ic_1 ?_
  refine s_g j490 rfl rfl rfl rfl rfl rfl ?_
  obtain ⟨ho1, h⟩ := h
  obtain ⟨ho2, h⟩ := h
  obtain ⟨ho3, h⟩ := h
  refine s_ialoadR j491 rfl (by decide) ho1 rfl ho2 ho3 ?_
  obtain ⟨ho4, h⟩ := h
  refine s_virt j492 rfl rfl rfl rfl ho4 (by decide) (in_Co_clauses _ _) (am_r8 rfl) (am_bI h (fun a6 σ5 h hx5 => ?_))
  replace h := h hx5
  refine s_aload_n j495 rfl rfl ?_
  refine s_aload_n j496 rfl rfl ?_
  refine s_iload_n j497 rfl rfl ?_
  refine s_iconst j498 rfl kc_ic_1 ?_
  refine s_g j499 rfl rfl rfl rfl rfl rfl ?_
  obtain ⟨ho7, h⟩ := h
  obtain ⟨ho8, h⟩ := h
  obtain ⟨ho9, h⟩ := h
  refine s_ialoadR j500 rfl (by decide) ho7 rfl ho8 ho9 ?_
  obtain ⟨ho10, h⟩ := h
  refine s_virt j501 rfl rfl rfl rfl ho10 (by decide) (in_Rm_clauses _ _) (am_r8 rfl) (am_bI h (fun a12 σ11 h hx11 => ?_))
  replace h := h hx11
  refine s_ic j504 rfl rfl am_cc_eq (fun hc13 => ?_) (fun hc13 => ?_)
  · replace h := h.1 hc13
    refine s_iinc (L' := [some (am_ov (some 999)), some (am_ov x1), some (am_ov x2), some (.int (x3 + (8 : Int32)))]) j1921 rfl rfl kc_ic_8 (am_st1_R [_, _] _ _ _ _) ?_
    refine s_goto j1924 rfl rfl ?_
    exact h
  · replace h := h.2 hc13
    refine s_iconst j507 rfl kc_ic_0 ?_
    exact s_retZ0 j508 rfl h
theorem P_Law_law_509 (nl : Bool) (Ln : Nat) (xs : Nat → Int32) : am_Jl (TT nl Ln xs) 352 [(509, .aload_n 1, 510, []), (510, .aload_n 0, 511, []), (511, .iload_n 3, 512, []), (512, .iconst 1, 513, []), (513, .iadd, 514, []), (514, .iaload, 515, []), (515, .aload_n 0, 516, []), (516, .iload_n 3, 517, []), (517, .iconst 2, 518, []), (518, .iadd, 519, []), (519, .iaload, 520, []), (520, .invokevirtual 50, 523, [10, 134, 1, 3, 3]), (523, .aload_n 2, 524, []), (524, .aload_n 0, 525, []), (525, .iload_n 3, 526, []), (526, .iconst 1, 527, []), (527, .iadd, 528, []), (528, .iaload, 529, []), (529, .aload_n 0, 530, []), (530, .iload_n 3, 531, []), (531, .iconst 2, 532, []), (532, .iadd, 533, []), (533, .iaload, 534, []), (534, .invokevirtual 53, 537, [10, 306, 13, 3, 3]), (537, .if_icmp .eq 1384, 540, []), (540, .iconst 0, 541, []), (541, .ireturn, 542, [4]), (1921, .iinc 3 8, 1924, []), (1924, .goto (-1906), 1927, [])] := dk_ck (by decide +kernel)
set_option maxRecDepth 4096 in
theorem w_Law_law_509 {nl : Bool} {Ln : Nat} {xs : Nat → Int32} {d : Nat} {x1 : Option Nat} {x2 : Option Nat} {x3 : Int32} {σ : am_S} {F : Bool → am_S → Prop} (h : ((am_kd σ 999).1 = 0) ∧ (0 ≤ (x3 + (1 : Int32)).toInt) ∧ ((x3 + (1 : Int32)).toInt < am_rl (am_tz (TT nl Ln xs)) 999) ∧ ((am_kd σ 999).1 = 0) ∧ (0 ≤ (x3 + (2 : Int32)).toInt) ∧ ((x3 + (2 : Int32)).toInt < am_rl (am_tz (TT nl Ln xs)) 999) ∧ (am_is σ x1 0) ∧ k_Co_shareRule nl Ln xs d (x1.getD 0) (am_rv (am_tz (TT nl Ln xs)) 999 (x3 + (1 : Int32)).toNatClampNeg) (am_rv (am_tz (TT nl Ln xs)) 999 (x3 + (2 : Int32)).toNatClampNeg) σ (fun a9 σ8 => am_ext σ σ8 → ((am_kd σ8 999).1 = 0) ∧ (0 ≤ (x3 + (1 : Int32)).toInt) ∧ ((x3 + (1 : Int32)).toInt < am_rl (am_tz (TT nl Ln xs)) 999) ∧ ((am_kd σ8 999).1 = 0) ∧ (0 ≤ (x3 + (2 : Int32)).toInt) ∧ ((x3 + (2 : Int32)).toInt < am_rl (am_tz (TT nl Ln xs)) 999) ∧ (am_is σ8 x2 12) ∧ k_Rm_shareRule nl Ln xs d (x2.getD 0) (am_rv (am_tz (TT nl Ln xs)) 999 (x3 + (1 : Int32)).toNatClampNeg) (am_rv (am_tz (TT nl Ln xs)) 999 (x3 + (2 : Int32)).toNatClampNeg) σ8 (fun a18 σ17 => am_ext σ8 σ17 → (a9 = a18 → c_Law_law_18 nl Ln xs (d + 1) x1 x2 (x3 + (8 : Int32)) σ17 F) ∧ (¬ (a9 = a18) → F false σ17)))) : c_Law_law_509 nl Ln xs (d + 1) x1 x2 x3 σ F := by
  obtain ⟨j509, j510, j511, j512, j513, j514, j515, j516, j517, j518, j519, j520, j523, j524, j525, j526, j527, j528, j529, j530, j531, j532, j533, j534, j537, j540, j541, j1921, j1924, -⟩ := P_Law_law_509 nl Ln xs
  unfold c_Law_law_509
  refine s_aload_n j509 rfl rfl ?_
  refine s_aload_n j510 rfl rfl ?_
  refine s_iload_n j511 rfl rfl ?_
  refine s_iconst j512 rfl kc_ic_1 ?_
  refine s_g j513 rfl rfl rfl rfl rfl rfl ?_
  obtain ⟨ho1, h⟩ := h
  obtain ⟨ho2, h⟩ := h
  obtain ⟨ho3, h⟩ := h
  refine s_ialoadR j514 rfl (by decide) ho1 rfl ho2 ho3 ?_
  refine s_aload_n j515 rfl rfl ?_
  refine s_iload_n j516 rfl rfl ?_
  refine s_iconst j517 rfl kc_ic_2 ?_
  refine s_g j518 rfl rfl rfl rfl rfl rfl ?_
  obtain ⟨ho4, h⟩ := h
  obtain ⟨ho5, h⟩ := h
  obtain ⟨ho6, h⟩ := h
  refine s_ialoadR j519 rfl (by decide) ho4 rfl ho5 ho6 ?_
  obtain ⟨ho7, h⟩ := h
  refine s_virt j520 rfl rfl rfl rfl ho7 (by decide) (in_Co_shareRule _ _ _) (am_r8 rfl) (am_bI h (fun a9 σ8 h hx8 => ?_))
  replace h := h hx8
  refine s_aload_n j523 rfl rfl ?_
  refine s_aload_n j524 rfl rfl ?_
  refine s_iload_n j525 rfl rfl ?_
  refine s_iconst j526 rfl kc_ic_1 ?_
  refine s_g j527 rfl rfl rfl rfl rfl rfl ?_
  obtain ⟨ho10, h⟩ := h
  obtain ⟨ho11, h⟩ := h
  obtain ⟨ho12, h⟩ := h
  refine s_ialoadR j528 rfl (by decide) ho10 rfl ho11 ho12 ?_
  refine s_aload_n j529 rfl rfl ?_
  refine s_iload_n j530 rfl rfl ?_
  refine s_iconst j531 rfl kc_ic_2 ?_
  refine s_g j532 rfl rfl rfl rfl rfl rfl ?_
  obtain ⟨ho13, h⟩ := h
  obtain ⟨ho14, h⟩ := h
  obtain ⟨ho15, h⟩ := h
  refine s_ialoadR j533 rfl (by decide) ho13 rfl ho14 ho15 ?_
  obtain ⟨ho16, h⟩ := h
  refine s_virt j534 rfl rfl rfl rfl ho16 (by decide) (in_Rm_shareRule _ _ _) (am_r8 rfl) (am_bI h (fun a18 σ17 h hx17 => ?_))
  replace h := h hx17
  refine s_ic j537 rfl rfl am_cc_eq (fun hc19 => ?_) (fun hc19 => ?_)
  · replace h := h.1 hc19
    refine s_iinc (L' := [some (am_ov (some 999)), some (am_ov x1), some (am_ov x2), some (.int (x3 + (8 : Int32)))]) j1921 rfl rfl kc_ic_8 (am_st1_R [_, _] _ _ _ _) ?_
    refine s_goto j1924 rfl rfl ?_
    exact h
  · replace h := h.2 hc19
    refine s_iconst j540 rfl kc_ic_0 ?_
    exact s_retZ0 j541 rfl h
theorem P_Law_law_542 (nl : Bool) (Ln : Nat) (xs : Nat → Int32) : am_Jl (TT nl Ln xs) 352 [(542, .aload_n 1, 543, []), (543, .aload_n 0, 544, []), (544, .iload_n 3, 545, []), (545, .iconst 1, 546, []), (546, .iadd, 547, []), (547, .iaload, 548, []), (548, .aload_n 0, 549, []), (549, .iload_n 3, 550, []), (550, .iconst 2, 551, []), (551, .iadd, 552, []), (552, .iaload, 553, []), (553, .invokevirtual 54, 556, [10, 135, 1, 3, 3]), (556, .aload_n 2, 557, []), (557, .aload_n 0, 558, []), (558, .iload_n 3, 559, []), (559, .iconst 1, 560, []), (560, .iadd, 561, []), (561, .iaload, 562, []), (562, .aload_n 0, 563, []), (563, .iload_n 3, 564, []), (564, .iconst 2, 565, []), (565, .iadd, 566, []), (566, .iaload, 567, []), (567, .invokevirtual 57, 570, [10, 307, 13, 3, 3]), (570, .if_icmp .eq 1351, 573, []), (573, .iconst 0, 574, []), (574, .ireturn, 575, [4]), (1921, .iinc 3 8, 1924, []), (1924, .goto (-1906), 1927, [])] := dk_ck (by decide +kernel)
set_option maxRecDepth 4096 in
theorem w_Law_law_542 {nl : Bool} {Ln : Nat} {xs : Nat → Int32} {d : Nat} {x1 : Option Nat} {x2 : Option Nat} {x3 : Int32} {σ : am_S} {F : Bool → am_S → Prop} (h : ((am_kd σ 999).1 = 0) ∧ (0 ≤ (x3 + (1 : Int32)).toInt) ∧ ((x3 + (1 : Int32)).toInt < am_rl (am_tz (TT nl Ln xs)) 999) ∧ ((am_kd σ 999).1 = 0) ∧ (0 ≤ (x3 + (2 : Int32)).toInt) ∧ ((x3 + (2 : Int32)).toInt < am_rl (am_tz (TT nl Ln xs)) 999) ∧ (am_is σ x1 0) ∧ k_Co_loss nl Ln xs d (x1.getD 0) (am_rv (am_tz (TT nl Ln xs)) 999 (x3 + (1 : Int32)).toNatClampNeg) (am_rv (am_tz (TT nl Ln xs)) 999 (x3 + (2 : Int32)).toNatClampNeg) σ (fun a9 σ8 => am_ext σ σ8 → ((am_kd σ8 999).1 = 0) ∧ (0 ≤ (x3 + (1 : Int32)).toInt) ∧ ((x3 + (1 : Int32)).toInt < am_rl (am_tz (TT nl Ln xs)) 999) ∧ ((am_kd σ8 999).1 = 0) ∧ (0 ≤ (x3 + (2 : Int32)).toInt) ∧ ((x3 + (2 : Int32)).toInt < am_rl (am_tz (TT nl Ln xs)) 999) ∧ (am_is σ8 x2 12) ∧ k_Rm_loss nl Ln xs d (x2.getD 0) (am_rv (am_tz (TT nl Ln xs)) 999 (x3 + (1 : Int32)).toNatClampNeg) (am_rv (am_tz (TT nl Ln xs)) 999 (x3 + (2 : Int32)).toNatClampNeg) σ8 (fun a18 σ17 => am_ext σ8 σ17 → (a9 = a18 → c_Law_law_18 nl Ln xs (d + 1) x1 x2 (x3 + (8 : Int32)) σ17 F) ∧ (¬ (a9 = a18) → F false σ17)))) : c_Law_law_542 nl Ln xs (d + 1) x1 x2 x3 σ F := by
  obtain ⟨j542, j543, j544, j545, j546, j547, j548, j549, j550, j551, j552, j553, j556, j557, j558, j559, j560, j561, j562, j563, j564, j565, j566, j567, j570, j573, j574, j1921, j1924, -⟩ := P_Law_law_542 nl Ln xs
  unfold c_Law_law_542
  refine s_aload_n j542 rfl rfl ?_
  refine s_aload_n j543 rfl rfl ?_
  refine s_iload_n j544 rfl rfl ?_
  refine s_iconst j545 rfl kc_ic_1 ?_
  refine s_g j546 rfl rfl rfl rfl rfl rfl ?_
  obtain ⟨ho1, h⟩ := h
  obtain ⟨ho2, h⟩ := h
  obtain ⟨ho3, h⟩ := h
  refine s_ialoadR j547 rfl (by decide) ho1 rfl ho2 ho3 ?_
  refine s_aload_n j548 rfl rfl ?_
  refine s_iload_n j549 rfl rfl ?_
  refine s_iconst j550 rfl kc_ic_2 ?_
  refine s_g j551 rfl rfl rfl rfl rfl rfl ?_
  obtain ⟨ho4, h⟩ := h
  obtain ⟨ho5, h⟩ := h
  obtain ⟨ho6, h⟩ := h
  refine s_ialoadR j552 rfl (by decide) ho4 rfl ho5 ho6 ?_
  obtain ⟨ho7, h⟩ := h
  refine s_virt j553 rfl rfl rfl rfl ho7 (by decide) (in_Co_loss _ _ _) (am_r8 rfl) (am_bI h (fun a9 σ8 h hx8 => ?_))
  replace h := h hx8
  refine s_aload_n j556 rfl rfl ?_
  refine s_aload_n j557 rfl rfl ?_
  refine s_iload_n j558 rfl rfl ?_
  refine s_iconst j559 rfl kc_ic_1 ?_
  refine s_g j560 rfl rfl rfl rfl rfl rfl ?_
  obtain ⟨ho10, h⟩ := h
  obtain ⟨ho11, h⟩ := h
  obtain ⟨ho12, h⟩ := h
  refine s_ialoadR j561 rfl (by decide) ho10 rfl ho11 ho12 ?_
  refine s_aload_n j562 rfl rfl ?_
  refine s_iload_n j563 rfl rfl ?_
  refine s_iconst j564 rfl kc_ic_2 ?_
  refine s_g j565 rfl rfl rfl rfl rfl rfl ?_
  obtain ⟨ho13, h⟩ := h
  obtain ⟨ho14, h⟩ := h
  obtain ⟨ho15, h⟩ := h
  refine s_ialoadR j566 rfl (by decide) ho13 rfl ho14 ho15 ?_
  obtain ⟨ho16, h⟩ := h
  refine s_virt j567 rfl rfl rfl rfl ho16 (by decide) (in_Rm_loss _ _ _) (am_r8 rfl) (am_bI h (fun a18 σ17 h hx17 => ?_))
  replace h := h hx17
  refine s_ic j570 rfl rfl am_cc_eq (fun hc19 => ?_) (fun hc19 => ?_)
  · replace h := h.1 hc19
    refine s_iinc (L' := [some (am_ov (some 999)), some (am_ov x1), some (am_ov x2), some (.int (x3 + (8 : Int32)))]) j1921 rfl rfl kc_ic_8 (am_st1_R [_, _] _ _ _ _) ?_
    refine s_goto j1924 rfl rfl ?_
    exact h
  · replace h := h.2 hc19
    refine s_iconst j573 rfl kc_ic_0 ?_
    exact s_retZ0 j574 rfl h
theorem P_Law_law_575 (nl : Bool) (Ln : Nat) (xs : Nat → Int32) : am_Jl (TT nl Ln xs) 352 [(575, .aload_n 1, 576, []), (576, .aload_n 0, 577, []), (577, .iload_n 3, 578, []), (578, .iconst 1, 579, []), (579, .iadd, 580, []), (580, .iaload, 581, []), (581, .aload_n 0, 582, []), (582, .iload_n 3, 583, []), (583, .iconst 2, 584, []), (584, .iadd, 585, []), (585, .iaload, 586, []), (586, .invokevirtual 58, 589, [10, 136, 1, 3, 3]), (589, .aload_n 2, 590, []), (590, .aload_n 0, 591, []), (591, .iload_n 3, 592, []), (592, .iconst 1, 593, []), (593, .iadd, 594, []), (594, .iaload, 595, []), (595, .aload_n 0, 596, []), (596, .iload_n 3, 597, []), (597, .iconst 2, 598, []), (598, .iadd, 599, []), (599, .iaload, 600, []), (600, .invokevirtual 61, 603, [10, 308, 13, 3, 3]), (603, .if_icmp .eq 1318, 606, []), (606, .iconst 0, 607, []), (607, .ireturn, 608, [4]), (1921, .iinc 3 8, 1924, []), (1924, .goto (-1906), 1927, [])] := dk_ck (by decide +kernel)
set_option maxRecDepth 4096 in
theorem w_Law_law_575 {nl : Bool} {Ln : Nat} {xs : Nat → Int32} {d : Nat} {x1 : Option Nat} {x2 : Option Nat} {x3 : Int32} {σ : am_S} {F : Bool → am_S → Prop} (h : ((am_kd σ 999).1 = 0) ∧ (0 ≤ (x3 + (1 : Int32)).toInt) ∧ ((x3 + (1 : Int32)).toInt < am_rl (am_tz (TT nl Ln xs)) 999) ∧ ((am_kd σ 999).1 = 0) ∧ (0 ≤ (x3 + (2 : Int32)).toInt) ∧ ((x3 + (2 : Int32)).toInt < am_rl (am_tz (TT nl Ln xs)) 999) ∧ (am_is σ x1 0) ∧ k_Co_part nl Ln xs d (x1.getD 0) (am_rv (am_tz (TT nl Ln xs)) 999 (x3 + (1 : Int32)).toNatClampNeg) (am_rv (am_tz (TT nl Ln xs)) 999 (x3 + (2 : Int32)).toNatClampNeg) σ (fun a9 σ8 => am_ext σ σ8 → ((am_kd σ8 999).1 = 0) ∧ (0 ≤ (x3 + (1 : Int32)).toInt) ∧ ((x3 + (1 : Int32)).toInt < am_rl (am_tz (TT nl Ln xs)) 999) ∧ ((am_kd σ8 999).1 = 0) ∧ (0 ≤ (x3 + (2 : Int32)).toInt) ∧ ((x3 + (2 : Int32)).toInt < am_rl (am_tz (TT nl Ln xs)) 999) ∧ (am_is σ8 x2 12) ∧ k_Rm_part nl Ln xs d (x2.getD 0) (am_rv (am_tz (TT nl Ln xs)) 999 (x3 + (1 : Int32)).toNatClampNeg) (am_rv (am_tz (TT nl Ln xs)) 999 (x3 + (2 : Int32)).toNatClampNeg) σ8 (fun a18 σ17 => am_ext σ8 σ17 → (a9 = a18 → c_Law_law_18 nl Ln xs (d + 1) x1 x2 (x3 + (8 : Int32)) σ17 F) ∧ (¬ (a9 = a18) → F false σ17)))) : c_Law_law_575 nl Ln xs (d + 1) x1 x2 x3 σ F := by
  obtain ⟨j575, j576, j577, j578, j579, j580, j581, j582, j583, j584, j585, j586, j589, j590, j591, j592, j593, j594, j595, j596, j597, j598, j599, j600, j603, j606, j607, j1921, j1924, -⟩ := P_Law_law_575 nl Ln xs
  unfold c_Law_law_575
  refine s_aload_n j575 rfl rfl ?_
  refine s_aload_n j576 rfl rfl ?_
  refine s_iload_n j577 rfl rfl ?_
  refine s_iconst j578 rfl kc_ic_1 ?_
  refine s_g j579 rfl rfl rfl rfl rfl rfl ?_
  obtain ⟨ho1, h⟩ := h
  obtain ⟨ho2, h⟩ := h
  obtain ⟨ho3, h⟩ := h
  refine s_ialoadR j580 rfl (by decide) ho1 rfl ho2 ho3 ?_
  refine s_aload_n j581 rfl rfl ?_
  refine s_iload_n j582 rfl rfl ?_
  refine s_iconst j583 rfl kc_ic_2 ?_
  refine s_g j584 rfl rfl rfl rfl rfl rfl ?_
  obtain ⟨ho4, h⟩ := h
  obtain ⟨ho5, h⟩ := h
  obtain ⟨ho6, h⟩ := h
  refine s_ialoadR j585 rfl (by decide) ho4 rfl ho5 ho6 ?_
  obtain ⟨ho7, h⟩ := h
  refine s_virt j586 rfl rfl rfl rfl ho7 (by decide) (in_Co_part _ _ _) (am_r8 rfl) (am_bI h (fun a9 σ8 h hx8 => ?_))
  replace h := h hx8
  refine s_aload_n j589 rfl rfl ?_
  refine s_aload_n j590 rfl rfl ?_
  refine s_iload_n j591 rfl rfl ?_
  refine s_iconst j592 rfl kc_ic_1 ?_
  refine s_g j593 rfl rfl rfl rfl rfl rfl ?_
  obtain ⟨ho10, h⟩ := h
  obtain ⟨ho11, h⟩ := h
  obtain ⟨ho12, h⟩ := h
  refine s_ialoadR j594 rfl (by decide) ho10 rfl ho11 ho12 ?_
  refine s_aload_n j595 rfl rfl ?_
  refine s_iload_n j596 rfl rfl ?_
  refine s_iconst j597 rfl kc_ic_2 ?_
  refine s_g j598 rfl rfl rfl rfl rfl rfl ?_
  obtain ⟨ho13, h⟩ := h
  obtain ⟨ho14, h⟩ := h
  obtain ⟨ho15, h⟩ := h
  refine s_ialoadR j599 rfl (by decide) ho13 rfl ho14 ho15 ?_
  obtain ⟨ho16, h⟩ := h
  refine s_virt j600 rfl rfl rfl rfl ho16 (by decide) (in_Rm_part _ _ _) (am_r8 rfl) (am_bI h (fun a18 σ17 h hx17 => ?_))
  replace h := h hx17
  refine s_ic j603 rfl rfl am_cc_eq (fun hc19 => ?_) (fun hc19 => ?_)
  · replace h := h.1 hc19
    refine s_iinc (L' := [some (am_ov (some 999)), some (am_ov x1), some (am_ov x2), some (.int (x3 + (8 : Int32)))]) j1921 rfl rfl kc_ic_8 (am_st1_R [_, _] _ _ _ _) ?_
    refine s_goto j1924 rfl rfl ?_
    exact h
  · replace h := h.2 hc19
    refine s_iconst j606 rfl kc_ic_0 ?_
    exact s_retZ0 j607 rfl h
theorem P_Law_law_608 (nl : Bool) (Ln : Nat) (xs : Nat → Int32) : am_Jl (TT nl Ln xs) 352 [(608, .aload_n 1, 609, []), (609, .aload_n 0, 610, []), (610, .iload_n 3, 611, []), (611, .iconst 1, 612, []), (612, .iadd, 613, []), (613, .iaload, 614, []), (614, .aload_n 0, 615, []), (615, .iload_n 3, 616, []), (616, .iconst 2, 617, []), (617, .iadd, 618, []), (618, .iaload, 619, []), (619, .aload_n 0, 620, []), (620, .iload_n 3, 621, []), (621, .iconst 3, 622, []), (622, .iadd, 623, []), (623, .iaload, 624, []), (624, .i2l, 625, []), (625, .bipush 32, 627, []), (627, .lshl, 628, []), (628, .aload_n 0, 629, []), (629, .iload_n 3, 630, []), (630, .iconst 4, 631, []), (631, .iadd, 632, []), (632, .iaload, 633, []), (633, .i2l, 634, []), (634, .ldc2_w 33, 637, [6, 4294967295]), (637, .land, 638, []), (638, .lor, 639, []), (639, .aload_n 0, 640, []), (640, .iload_n 3, 641, []), (641, .iconst 5, 642, []), (642, .iadd, 643, []), (643, .iaload, 644, []), (644, .i2l, 645, []), (645, .bipush 32, 647, []), (647, .lshl, 648, []), (648, .aload_n 0, 649, []), (649, .iload_n 3, 650, []), (650, .bipush 6, 652, []), (652, .iadd, 653, []), (653, .iaload, 654, []), (654, .i2l, 655, []), (655, .ldc2_w 33, 658, [6, 4294967295]), (658, .land, 659, []), (659, .lor, 660, []), (660, .invokevirtual 62, 663, [10, 137, 1, 7, 5]), (663, .aload_n 2, 664, []), (664, .aload_n 0, 665, []), (665, .iload_n 3, 666, []), (666, .iconst 1, 667, []), (667, .iadd, 668, []), (668, .iaload, 669, []), (669, .aload_n 0, 670, []), (670, .iload_n 3, 671, []), (671, .iconst 2, 672, []), (672, .iadd, 673, []), (673, .iaload, 674, []), (674, .aload_n 0, 675, []), (675, .iload_n 3, 676, []), (676, .iconst 3, 677, []), (677, .iadd, 678, []), (678, .iaload, 679, []), (679, .i2l, 680, []), (680, .bipush 32, 682, []), (682, .lshl, 683, []), (683, .aload_n 0, 684, []), (684, .iload_n 3, 685, []), (685, .iconst 4, 686, []), (686, .iadd, 687, []), (687, .iaload, 688, []), (688, .i2l, 689, []), (689, .ldc2_w 33, 692, [6, 4294967295]), (692, .land, 693, []), (693, .lor, 694, []), (694, .aload_n 0, 695, []), (695, .iload_n 3, 696, []), (696, .iconst 5, 697, []), (697, .iadd, 698, []), (698, .iaload, 699, []), (699, .i2l, 700, []), (700, .bipush 32, 702, []), (702, .lshl, 703, []), (703, .aload_n 0, 704, []), (704, .iload_n 3, 705, []), (705, .bipush 6, 707, []), (707, .iadd, 708, []), (708, .iaload, 709, []), (709, .i2l, 710, []), (710, .ldc2_w 33, 713, [6, 4294967295]), (713, .land, 714, []), (714, .lor, 715, []), (715, .invokevirtual 66, 718, [10, 309, 13, 7, 5]), (718, .if_icmp .eq 1203, 721, []), (721, .iconst 0, 722, []), (722, .ireturn, 723, [4]), (1921, .iinc 3 8, 1924, []), (1924, .goto (-1906), 1927, [])] := dk_ck (by decide +kernel)
set_option maxRecDepth 4096 in
theorem w_Law_law_608 {nl : Bool} {Ln : Nat} {xs : Nat → Int32} {d : Nat} {x1 : Option Nat} {x2 : Option Nat} {x3 : Int32} {σ : am_S} {F : Bool → am_S → Prop} (h : ((am_kd σ 999).1 = 0) ∧ (0 ≤ (x3 + (1 : Int32)).toInt) ∧ ((x3 + (1 : Int32)).toInt < am_rl (am_tz (TT nl Ln xs)) 999) ∧ ((am_kd σ 999).1 = 0) ∧ (0 ≤ (x3 + (2 : Int32)).toInt) ∧ ((x3 + (2 : Int32)).toInt < am_rl (am_tz (TT nl Ln xs)) 999) ∧ ((am_kd σ 999).1 = 0) ∧ (0 ≤ (x3 + (3 : Int32)).toInt) ∧ ((x3 + (3 : Int32)).toInt < am_rl (am_tz (TT nl Ln xs)) 999) ∧ ((am_kd σ 999).1 = 0) ∧ (0 ≤ (x3 + (4 : Int32)).toInt) ∧ ((x3 + (4 : Int32)).toInt < am_rl (am_tz (TT nl Ln xs)) 999) ∧ ((am_kd σ 999).1 = 0) ∧ (0 ≤ (x3 + (5 : Int32)).toInt) ∧ ((x3 + (5 : Int32)).toInt < am_rl (am_tz (TT nl Ln xs)) 999) ∧ ((am_kd σ 999).1 = 0) ∧ (0 ≤ (x3 + (6 : Int32)).toInt) ∧ ((x3 + (6 : Int32)).toInt < am_rl (am_tz (TT nl Ln xs)) 999) ∧ (am_is σ x1 0) ∧ k_Co_item nl Ln xs d (x1.getD 0) (am_rv (am_tz (TT nl Ln xs)) 999 (x3 + (1 : Int32)).toNatClampNeg) (am_rv (am_tz (TT nl Ln xs)) 999 (x3 + (2 : Int32)).toNatClampNeg) (((am_rv (am_tz (TT nl Ln xs)) 999 (x3 + (3 : Int32)).toNatClampNeg).toInt64 <<< ((32 : Int32).toInt64 &&& 63)) ||| ((am_rv (am_tz (TT nl Ln xs)) 999 (x3 + (4 : Int32)).toNatClampNeg).toInt64 &&& (4294967295 : Int64))) (((am_rv (am_tz (TT nl Ln xs)) 999 (x3 + (5 : Int32)).toNatClampNeg).toInt64 <<< ((32 : Int32).toInt64 &&& 63)) ||| ((am_rv (am_tz (TT nl Ln xs)) 999 (x3 + (6 : Int32)).toNatClampNeg).toInt64 &&& (4294967295 : Int64))) σ (fun a21 σ20 => am_ext σ σ20 → ((am_kd σ20 999).1 = 0) ∧ (0 ≤ (x3 + (1 : Int32)).toInt) ∧ ((x3 + (1 : Int32)).toInt < am_rl (am_tz (TT nl Ln xs)) 999) ∧ ((am_kd σ20 999).1 = 0) ∧ (0 ≤ (x3 + (2 : Int32)).toInt) ∧ ((x3 + (2 : Int32)).toInt < am_rl (am_tz (TT nl Ln xs)) 999) ∧ ((am_kd σ20 999).1 = 0) ∧ (0 ≤ (x3 + (3 : Int32)).toInt) ∧ ((x3 + (3 : Int32)).toInt < am_rl (am_tz (TT nl Ln xs)) 999) ∧ ((am_kd σ20 999).1 = 0) ∧ (0 ≤ (x3 + (4 : Int32)).toInt) ∧ ((x3 + (4 : Int32)).toInt < am_rl (am_tz (TT nl Ln xs)) 999) ∧ ((am_kd σ20 999).1 = 0) ∧ (0 ≤ (x3 + (5 : Int32)).toInt) ∧ ((x3 + (5 : Int32)).toInt < am_rl (am_tz (TT nl Ln xs)) 999) ∧ ((am_kd σ20 999).1 = 0) ∧ (0 ≤ (x3 + (6 : Int32)).toInt) ∧ ((x3 + (6 : Int32)).toInt < am_rl (am_tz (TT nl Ln xs)) 999) ∧ (am_is σ20 x2 12) ∧ k_Rm_item nl Ln xs d (x2.getD 0) (am_rv (am_tz (TT nl Ln xs)) 999 (x3 + (1 : Int32)).toNatClampNeg) (am_rv (am_tz (TT nl Ln xs)) 999 (x3 + (2 : Int32)).toNatClampNeg) (((am_rv (am_tz (TT nl Ln xs)) 999 (x3 + (3 : Int32)).toNatClampNeg).toInt64 <<< ((32 : Int32).toInt64 &&& 63)) ||| ((am_rv (am_tz (TT nl Ln xs)) 999 (x3 + (4 : Int32)).toNatClampNeg).toInt64 &&& (4294967295 : Int64))) (((am_rv (am_tz (TT nl Ln xs)) 999 (x3 + (5 : Int32)).toNatClampNeg).toInt64 <<< ((32 : Int32).toInt64 &&& 63)) ||| ((am_rv (am_tz (TT nl Ln xs)) 999 (x3 + (6 : Int32)).toNatClampNeg).toInt64 &&& (4294967295 : Int64))) σ20 (fun a42 σ41 => am_ext σ20 σ41 → (a21 = a42 → c_Law_law_18 nl Ln xs (d + 1) x1 x2 (x3 + (8 : Int32)) σ41 F) ∧ (¬ (a21 = a42) → F false σ41)))) : c_Law_law_608 nl Ln xs (d + 1) x1 x2 x3 σ F := by
  obtain ⟨j608, j609, j610, j611, j612, j613, j614, j615, j616, j617, j618, j619, j620, j621, j622, j623, j624, j625, j627, j628, j629, j630, j631, j632, j633, j634, j637, j638, j639, j640, j641, j642, j643, j644, j645, j647, j648, j649, j650, j652, j653, j654, j655, j658, j659, j660, j663, j664, j665, j666, j667, j668, j669, j670, j671, j672, j673, j674, j675, j676, j677, j678, j679, j680, j682, j683, j684, j685, j686, j687, j688, j689, j692, j693, j694, j695, j696, j697, j698, j699, j700, j702, j703, j704, j705, j707, j708, j709, j710, j713, j714, j715, j718, j721, j722, j1921, j1924, -⟩ := P_Law_law_608 nl Ln xs
  unfold c_Law_law_608
  refine s_aload_n j608 rfl rfl ?_
  refine s_aload_n j609 rfl rfl ?_
  refine s_iload_n j610 rfl rfl ?_
  refine s_iconst j611 rfl kc_ic_1 ?_
  refine s_g j612 rfl rfl rfl rfl rfl rfl ?_
  obtain ⟨ho1, h⟩ := h
  obtain ⟨ho2, h⟩ := h
  obtain ⟨ho3, h⟩ := h
  refine s_ialoadR j613 rfl (by decide) ho1 rfl ho2 ho3 ?_
  refine s_aload_n j614 rfl rfl ?_
  refine s_iload_n j615 rfl rfl ?_
  refine s_iconst j616 rfl kc_ic_2 ?_
  refine s_g j617 rfl rfl rfl rfl rfl rfl ?_
  obtain ⟨ho4, h⟩ := h
  obtain ⟨ho5, h⟩ := h
  obtain ⟨ho6, h⟩ := h
  refine s_ialoadR j618 rfl (by decide) ho4 rfl ho5 ho6 ?_
  refine s_aload_n j619 rfl rfl ?_
  refine s_iload_n j620 rfl rfl ?_
  refine s_iconst j621 rfl kc_ic_3 ?_
  refine s_g j622 rfl rfl rfl rfl rfl rfl ?_
  obtain ⟨ho7, h⟩ := h
  obtain ⟨ho8, h⟩ := h
  obtain ⟨ho9, h⟩ := h
  refine s_ialoadR j623 rfl (by decide) ho7 rfl ho8 ho9 ?_
  refine s_g j624 rfl rfl rfl rfl rfl rfl ?_
  refine s_bipush j625 rfl kc_bi_32 ?_
  refine s_g j627 rfl rfl rfl rfl rfl rfl ?_
  refine s_aload_n j628 rfl rfl ?_
  refine s_iload_n j629 rfl rfl ?_
  refine s_iconst j630 rfl kc_ic_4 ?_
  refine s_g j631 rfl rfl rfl rfl rfl rfl ?_
  obtain ⟨ho10, h⟩ := h
  obtain ⟨ho11, h⟩ := h
  obtain ⟨ho12, h⟩ := h
  refine s_ialoadR j632 rfl (by decide) ho10 rfl ho11 ho12 ?_
  refine s_g j633 rfl rfl rfl rfl rfl rfl ?_
  refine s_ldc2 j634 rfl kc_ll_4294967295 ?_
  refine s_g j637 rfl rfl rfl rfl rfl rfl ?_
  refine s_g j638 rfl rfl rfl rfl rfl rfl ?_
  refine s_aload_n j639 rfl rfl ?_
  refine s_iload_n j640 rfl rfl ?_
  refine s_iconst j641 rfl kc_ic_5 ?_
  refine s_g j642 rfl rfl rfl rfl rfl rfl ?_
  obtain ⟨ho13, h⟩ := h
  obtain ⟨ho14, h⟩ := h
  obtain ⟨ho15, h⟩ := h
  refine s_ialoadR j643 rfl (by decide) ho13 rfl ho14 ho15 ?_
  refine s_g j644 rfl rfl rfl rfl rfl rfl ?_
  refine s_bipush j645 rfl kc_bi_32 ?_
  refine s_g j647 rfl rfl rfl rfl rfl rfl ?_
  refine s_aload_n j648 rfl rfl ?_
  refine s_iload_n j649 rfl rfl ?_
  refine s_bipush j650 rfl kc_bi_6 ?_
  refine s_g j652 rfl rfl rfl rfl rfl rfl ?_
  obtain ⟨ho16, h⟩ := h
  obtain ⟨ho17, h⟩ := h
  obtain ⟨ho18, h⟩ := h
  refine s_ialoadR j653 rfl (by decide) ho16 rfl ho17 ho18 ?_
  refine s_g j654 rfl rfl rfl rfl rfl rfl ?_
  refine s_ldc2 j655 rfl kc_ll_4294967295 ?_
  refine s_g j658 rfl rfl rfl rfl rfl rfl ?_
  refine s_g j659 rfl rfl rfl rfl rfl rfl ?_
  obtain ⟨ho19, h⟩ := h
  refine s_virt j660 rfl rfl rfl rfl ho19 (by decide) (in_Co_item _ _ _ _ _) (am_r8 rfl) (am_bI h (fun a21 σ20 h hx20 => ?_))
  replace h := h hx20
  refine s_aload_n j663 rfl rfl ?_
  refine s_aload_n j664 rfl rfl ?_
  refine s_iload_n j665 rfl rfl ?_
  refine s_iconst j666 rfl kc_ic_1 ?_
  refine s_g j667 rfl rfl rfl rfl rfl rfl ?_
  obtain ⟨ho22, h⟩ := h
  obtain ⟨ho23, h⟩ := h
  obtain ⟨ho24, h⟩ := h
  refine s_ialoadR j668 rfl (by decide) ho22 rfl ho23 ho24 ?_
  refine s_aload_n j669 rfl rfl ?_
  refine s_iload_n j670 rfl rfl ?_
  refine s_iconst j671 rfl kc_ic_2 ?_
  refine s_g j672 rfl rfl rfl rfl rfl rfl ?_
  obtain ⟨ho25, h⟩ := h
  obtain ⟨ho26, h⟩ := h
  obtain ⟨ho27, h⟩ := h
  refine s_ialoadR j673 rfl (by decide) ho25 rfl ho26 ho27 ?_
  refine s_aload_n j674 rfl rfl ?_
  refine s_iload_n j675 rfl rfl ?_
  refine s_iconst j676 rfl kc_ic_3 ?_
  refine s_g j677 rfl rfl rfl rfl rfl rfl ?_
  obtain ⟨ho28, h⟩ := h
  obtain ⟨ho29, h⟩ := h
  obtain ⟨ho30, h⟩ := h
  refine s_ialoadR j678 rfl (by decide) ho28 rfl ho29 ho30 ?_
  refine s_g j679 rfl rfl rfl rfl rfl rfl ?_
  refine s_bipush j680 rfl kc_bi_32 ?_
  refine s_g j682 rfl rfl rfl rfl rfl rfl ?_
  refine s_aload_n j683 rfl rfl ?_
  refine s_iload_n j684 rfl rfl ?_
  refine s_iconst j685 rfl kc_ic_4 ?_
  refine s_g j686 rfl rfl rfl rfl rfl rfl ?_
  obtain ⟨ho31, h⟩ := h
  obtain ⟨ho32, h⟩ := h
  obtain ⟨ho33, h⟩ := h
  refine s_ialoadR j687 rfl (by decide) ho31 rfl ho32 ho33 ?_
  refine s_g j688 rfl rfl rfl rfl rfl rfl ?_
  refine s_ldc2 j689 rfl kc_ll_4294967295 ?_
  refine s_g j692 rfl rfl rfl rfl rfl rfl ?_
  refine s_g j693 rfl rfl rfl rfl rfl rfl ?_
  refine s_aload_n j694 rfl rfl ?_
  refine s_iload_n j695 rfl rfl ?_
  refine s_iconst j696 rfl kc_ic_5 ?_
  refine s_g j697 rfl rfl rfl rfl rfl rfl ?_
  obtain ⟨ho34, h⟩ := h
  obtain ⟨ho35, h⟩ := h
  obtain ⟨ho36, h⟩ := h
  refine s_ialoadR j698 rfl (by decide) ho34 rfl ho35 ho36 ?_
  refine s_g j699 rfl rfl rfl rfl rfl rfl ?_
  refine s_bipush j700 rfl kc_bi_32 ?_
  refine s_g j702 rfl rfl rfl rfl rfl rfl ?_
  refine s_aload_n j703 rfl rfl ?_
  refine s_iload_n j704 rfl rfl ?_
  refine s_bipush j705 rfl kc_bi_6 ?_
  refine s_g j707 rfl rfl rfl rfl rfl rfl ?_
  obtain ⟨ho37, h⟩ := h
  obtain ⟨ho38, h⟩ := h
  obtain ⟨ho39, h⟩ := h
  refine s_ialoadR j708 rfl (by decide) ho37 rfl ho38 ho39 ?_
  refine s_g j709 rfl rfl rfl rfl rfl rfl ?_
  refine s_ldc2 j710 rfl kc_ll_4294967295 ?_
  refine s_g j713 rfl rfl rfl rfl rfl rfl ?_
  refine s_g j714 rfl rfl rfl rfl rfl rfl ?_
  obtain ⟨ho40, h⟩ := h
  refine s_virt j715 rfl rfl rfl rfl ho40 (by decide) (in_Rm_item _ _ _ _ _) (am_r8 rfl) (am_bI h (fun a42 σ41 h hx41 => ?_))
  replace h := h hx41
  refine s_ic j718 rfl rfl am_cc_eq (fun hc43 => ?_) (fun hc43 => ?_)
  · replace h := h.1 hc43
    refine s_iinc (L' := [some (am_ov (some 999)), some (am_ov x1), some (am_ov x2), some (.int (x3 + (8 : Int32)))]) j1921 rfl rfl kc_ic_8 (am_st1_R [_, _] _ _ _ _) ?_
    refine s_goto j1924 rfl rfl ?_
    exact h
  · replace h := h.2 hc43
    refine s_iconst j721 rfl kc_ic_0 ?_
    exact s_retZ0 j722 rfl h
theorem P_Law_law_723 (nl : Bool) (Ln : Nat) (xs : Nat → Int32) : am_Jl (TT nl Ln xs) 352 [(723, .aload_n 1, 724, []), (724, .aload_n 0, 725, []), (725, .iload_n 3, 726, []), (726, .iconst 1, 727, []), (727, .iadd, 728, []), (728, .iaload, 729, []), (729, .aload_n 0, 730, []), (730, .iload_n 3, 731, []), (731, .iconst 2, 732, []), (732, .iadd, 733, []), (733, .iaload, 734, []), (734, .aload_n 0, 735, []), (735, .iload_n 3, 736, []), (736, .iconst 3, 737, []), (737, .iadd, 738, []), (738, .iaload, 739, []), (739, .aload_n 0, 740, []), (740, .iload_n 3, 741, []), (741, .iconst 4, 742, []), (742, .iadd, 743, []), (743, .iaload, 744, []), (744, .invokevirtual 67, 747, [10, 138, 1, 5, 5]), (747, .aload_n 2, 748, []), (748, .aload_n 0, 749, []), (749, .iload_n 3, 750, []), (750, .iconst 1, 751, []), (751, .iadd, 752, []), (752, .iaload, 753, []), (753, .aload_n 0, 754, []), (754, .iload_n 3, 755, []), (755, .iconst 2, 756, []), (756, .iadd, 757, []), (757, .iaload, 758, []), (758, .aload_n 0, 759, []), (759, .iload_n 3, 760, []), (760, .iconst 3, 761, []), (761, .iadd, 762, []), (762, .iaload, 763, []), (763, .aload_n 0, 764, []), (764, .iload_n 3, 765, []), (765, .iconst 4, 766, []), (766, .iadd, 767, []), (767, .iaload, 768, []), (768, .invokevirtual 70, 771, [10, 310, 13, 5, 5]), (771, .if_icmp .eq 1150, 774, []), (774, .iconst 0, 775, []), (775, .ireturn, 776, [4]), (1921, .iinc 3 8, 1924, []), (1924, .goto (-1906), 1927, [])] := dk_ck (by decide +kernel)
set_option maxRecDepth 4096 in
theorem w_Law_law_723 {nl : Bool} {Ln : Nat} {xs : Nat → Int32} {d : Nat} {x1 : Option Nat} {x2 : Option Nat} {x3 : Int32} {σ : am_S} {F : Bool → am_S → Prop} (h : ((am_kd σ 999).1 = 0) ∧ (0 ≤ (x3 + (1 : Int32)).toInt) ∧ ((x3 + (1 : Int32)).toInt < am_rl (am_tz (TT nl Ln xs)) 999) ∧ ((am_kd σ 999).1 = 0) ∧ (0 ≤ (x3 + (2 : Int32)).toInt) ∧ ((x3 + (2 : Int32)).toInt < am_rl (am_tz (TT nl Ln xs)) 999) ∧ ((am_kd σ 999).1 = 0) ∧ (0 ≤ (x3 + (3 : Int32)).toInt) ∧ ((x3 + (3 : Int32)).toInt < am_rl (am_tz (TT nl Ln xs)) 999) ∧ ((am_kd σ 999).1 = 0) ∧ (0 ≤ (x3 + (4 : Int32)).toInt) ∧ ((x3 + (4 : Int32)).toInt < am_rl (am_tz (TT nl Ln xs)) 999) ∧ (am_is σ x1 0) ∧ k_Co_notify nl Ln xs d (x1.getD 0) (am_rv (am_tz (TT nl Ln xs)) 999 (x3 + (1 : Int32)).toNatClampNeg) (am_rv (am_tz (TT nl Ln xs)) 999 (x3 + (2 : Int32)).toNatClampNeg) (am_rv (am_tz (TT nl Ln xs)) 999 (x3 + (3 : Int32)).toNatClampNeg) (am_rv (am_tz (TT nl Ln xs)) 999 (x3 + (4 : Int32)).toNatClampNeg) σ (fun a15 σ14 => am_ext σ σ14 → ((am_kd σ14 999).1 = 0) ∧ (0 ≤ (x3 + (1 : Int32)).toInt) ∧ ((x3 + (1 : Int32)).toInt < am_rl (am_tz (TT nl Ln xs)) 999) ∧ ((am_kd σ14 999).1 = 0) ∧ (0 ≤ (x3 + (2 : Int32)).toInt) ∧ ((x3 + (2 : Int32)).toInt < am_rl (am_tz (TT nl Ln xs)) 999) ∧ ((am_kd σ14 999).1 = 0) ∧ (0 ≤ (x3 + (3 : Int32)).toInt) ∧ ((x3 + (3 : Int32)).toInt < am_rl (am_tz (TT nl Ln xs)) 999) ∧ ((am_kd σ14 999).1 = 0) ∧ (0 ≤ (x3 + (4 : Int32)).toInt) ∧ ((x3 + (4 : Int32)).toInt < am_rl (am_tz (TT nl Ln xs)) 999) ∧ (am_is σ14 x2 12) ∧ k_Rm_notify nl Ln xs d (x2.getD 0) (am_rv (am_tz (TT nl Ln xs)) 999 (x3 + (1 : Int32)).toNatClampNeg) (am_rv (am_tz (TT nl Ln xs)) 999 (x3 + (2 : Int32)).toNatClampNeg) (am_rv (am_tz (TT nl Ln xs)) 999 (x3 + (3 : Int32)).toNatClampNeg) (am_rv (am_tz (TT nl Ln xs)) 999 (x3 + (4 : Int32)).toNatClampNeg) σ14 (fun a30 σ29 => am_ext σ14 σ29 → (a15 = a30 → c_Law_law_18 nl Ln xs (d + 1) x1 x2 (x3 + (8 : Int32)) σ29 F) ∧ (¬ (a15 = a30) → F false σ29)))) : c_Law_law_723 nl Ln xs (d + 1) x1 x2 x3 σ F := by
  obtain ⟨j723, j724, j725, j726, j727, j728, j729, j730, j731, j732, j733, j734, j735, j736, j737, j738, j739, j740, j741, j742, j743, j744, j747, j748, j749, j750, j751, j752, j753, j754, j755, j756, j757, j758, j759, j760, j761, j762, j763, j764, j765, j766, j767, j768, j771, j774, j775, j1921, j1924, -⟩ := P_Law_law_723 nl Ln xs
  unfold c_Law_law_723
  refine s_aload_n j723 rfl rfl ?_
  refine s_aload_n j724 rfl rfl ?_
  refine s_iload_n j725 rfl rfl ?_
  refine s_iconst j726 rfl kc_ic_1 ?_
  refine s_g j727 rfl rfl rfl rfl rfl rfl ?_
  obtain ⟨ho1, h⟩ := h
  obtain ⟨ho2, h⟩ := h
  obtain ⟨ho3, h⟩ := h
  refine s_ialoadR j728 rfl (by decide) ho1 rfl ho2 ho3 ?_
  refine s_aload_n j729 rfl rfl ?_
  refine s_iload_n j730 rfl rfl ?_
  refine s_iconst j731 rfl kc_ic_2 ?_
  refine s_g j732 rfl rfl rfl rfl rfl rfl ?_
  obtain ⟨ho4, h⟩ := h
  obtain ⟨ho5, h⟩ := h
  obtain ⟨ho6, h⟩ := h
  refine s_ialoadR j733 rfl (by decide) ho4 rfl ho5 ho6 ?_
  refine s_aload_n j734 rfl rfl ?_
  refine s_iload_n j735 rfl rfl ?_
  refine s_iconst j736 rfl kc_ic_3 ?_
  refine s_g j737 rfl rfl rfl rfl rfl rfl ?_
  obtain ⟨ho7, h⟩ := h
  obtain ⟨ho8, h⟩ := h
  obtain ⟨ho9, h⟩ := h
  refine s_ialoadR j738 rfl (by decide) ho7 rfl ho8 ho9 ?_
  refine s_aload_n j739 rfl rfl ?_
  refine s_iload_n j740 rfl rfl ?_
  refine s_iconst j741 rfl kc_ic_4 ?_
  refine s_g j742 rfl rfl rfl rfl rfl rfl ?_
  obtain ⟨ho10, h⟩ := h
  obtain ⟨ho11, h⟩ := h
  obtain ⟨ho12, h⟩ := h
  refine s_ialoadR j743 rfl (by decide) ho10 rfl ho11 ho12 ?_
  obtain ⟨ho13, h⟩ := h
  refine s_virt j744 rfl rfl rfl rfl ho13 (by decide) (in_Co_notify _ _ _ _ _) (am_r8 rfl) (am_bI h (fun a15 σ14 h hx14 => ?_))
  replace h := h hx14
  refine s_aload_n j747 rfl rfl ?_
  refine s_aload_n j748 rfl rfl ?_
  refine s_iload_n j749 rfl rfl ?_
  refine s_iconst j750 rfl kc_ic_1 ?_
  refine s_g j751 rfl rfl rfl rfl rfl rfl ?_
  obtain ⟨ho16, h⟩ := h
  obtain ⟨ho17, h⟩ := h
  obtain ⟨ho18, h⟩ := h
  refine s_ialoadR j752 rfl (by decide) ho16 rfl ho17 ho18 ?_
  refine s_aload_n j753 rfl rfl ?_
  refine s_iload_n j754 rfl rfl ?_
  refine s_iconst j755 rfl kc_ic_2 ?_
  refine s_g j756 rfl rfl rfl rfl rfl rfl ?_
  obtain ⟨ho19, h⟩ := h
  obtain ⟨ho20, h⟩ := h
  obtain ⟨ho21, h⟩ := h
  refine s_ialoadR j757 rfl (by decide) ho19 rfl ho20 ho21 ?_
  refine s_aload_n j758 rfl rfl ?_
  refine s_iload_n j759 rfl rfl ?_
  refine s_iconst j760 rfl kc_ic_3 ?_
  refine s_g j761 rfl rfl rfl rfl rfl rfl ?_
  obtain ⟨ho22, h⟩ := h
  obtain ⟨ho23, h⟩ := h
  obtain ⟨ho24, h⟩ := h
  refine s_ialoadR j762 rfl (by decide) ho22 rfl ho23 ho24 ?_
  refine s_aload_n j763 rfl rfl ?_
  refine s_iload_n j764 rfl rfl ?_
  refine s_iconst j765 rfl kc_ic_4 ?_
  refine s_g j766 rfl rfl rfl rfl rfl rfl ?_
  obtain ⟨ho25, h⟩ := h
  obtain ⟨ho26, h⟩ := h
  obtain ⟨ho27, h⟩ := h
  refine s_ialoadR j767 rfl (by decide) ho25 rfl ho26 ho27 ?_
  obtain ⟨ho28, h⟩ := h
  refine s_virt j768 rfl rfl rfl rfl ho28 (by decide) (in_Rm_notify _ _ _ _ _) (am_r8 rfl) (am_bI h (fun a30 σ29 h hx29 => ?_))
  replace h := h hx29
  refine s_ic j771 rfl rfl am_cc_eq (fun hc31 => ?_) (fun hc31 => ?_)
  · replace h := h.1 hc31
    refine s_iinc (L' := [some (am_ov (some 999)), some (am_ov x1), some (am_ov x2), some (.int (x3 + (8 : Int32)))]) j1921 rfl rfl kc_ic_8 (am_st1_R [_, _] _ _ _ _) ?_
    refine s_goto j1924 rfl rfl ?_
    exact h
  · replace h := h.2 hc31
    refine s_iconst j774 rfl kc_ic_0 ?_
    exact s_retZ0 j775 rfl h
theorem P_Law_law_776 (nl : Bool) (Ln : Nat) (xs : Nat → Int32) : am_Jl (TT nl Ln xs) 352 [(776, .aload_n 1, 777, []), (777, .aload_n 0, 778, []), (778, .iload_n 3, 779, []), (779, .iconst 1, 780, []), (780, .iadd, 781, []), (781, .iaload, 782, []), (782, .aload_n 0, 783, []), (783, .iload_n 3, 784, []), (784, .iconst 2, 785, []), (785, .iadd, 786, []), (786, .iaload, 787, []), (787, .aload_n 0, 788, []), (788, .iload_n 3, 789, []), (789, .iconst 3, 790, []), (790, .iadd, 791, []), (791, .iaload, 792, []), (792, .aload_n 0, 793, []), (793, .iload_n 3, 794, []), (794, .iconst 4, 795, []), (795, .iadd, 796, []), (796, .iaload, 797, []), (797, .i2l, 798, []), (798, .bipush 32, 800, []), (800, .lshl, 801, []), (801, .aload_n 0, 802, []), (802, .iload_n 3, 803, []), (803, .iconst 5, 804, []), (804, .iadd, 805, []), (805, .iaload, 806, []), (806, .i2l, 807, []), (807, .ldc2_w 33, 810, [6, 4294967295]), (810, .land, 811, []), (811, .lor, 812, []), (812, .invokevirtual 71, 815, [10, 139, 1, 6, 5]), (815, .aload_n 2, 816, []), (816, .aload_n 0, 817, []), (817, .iload_n 3, 818, []), (818, .iconst 1, 819, []), (819, .iadd, 820, []), (820, .iaload, 821, []), (821, .aload_n 0, 822, []), (822, .iload_n 3, 823, []), (823, .iconst 2, 824, []), (824, .iadd, 825, []), (825, .iaload, 826, []), (826, .aload_n 0, 827, []), (827, .iload_n 3, 828, []), (828, .iconst 3, 829, []), (829, .iadd, 830, []), (830, .iaload, 831, []), (831, .aload_n 0, 832, []), (832, .iload_n 3, 833, []), (833, .iconst 4, 834, []), (834, .iadd, 835, []), (835, .iaload, 836, []), (836, .i2l, 837, []), (837, .bipush 32, 839, []), (839, .lshl, 840, []), (840, .aload_n 0, 841, []), (841, .iload_n 3, 842, []), (842, .iconst 5, 843, []), (843, .iadd, 844, []), (844, .iaload, 845, []), (845, .i2l, 846, []), (846, .ldc2_w 33, 849, [6, 4294967295]), (849, .land, 850, []), (850, .lor, 851, []), (851, .invokevirtual 75, 854, [10, 311, 13, 6, 5]), (854, .if_icmp .eq 1067, 857, []), (857, .iconst 0, 858, []), (858, .ireturn, 859, [4]), (1921, .iinc 3 8, 1924, []), (1924, .goto (-1906), 1927, [])] := dk_ck (by decide +kernel)
set_option maxRecDepth 4096 in
theorem w_Law_law_776 {nl : Bool} {Ln : Nat} {xs : Nat → Int32} {d : Nat} {x1 : Option Nat} {x2 : Option Nat} {x3 : Int32} {σ : am_S} {F : Bool → am_S → Prop} (h : ((am_kd σ 999).1 = 0) ∧ (0 ≤ (x3 + (1 : Int32)).toInt) ∧ ((x3 + (1 : Int32)).toInt < am_rl (am_tz (TT nl Ln xs)) 999) ∧ ((am_kd σ 999).1 = 0) ∧ (0 ≤ (x3 + (2 : Int32)).toInt) ∧ ((x3 + (2 : Int32)).toInt < am_rl (am_tz (TT nl Ln xs)) 999) ∧ ((am_kd σ 999).1 = 0) ∧ (0 ≤ (x3 + (3 : Int32)).toInt) ∧ ((x3 + (3 : Int32)).toInt < am_rl (am_tz (TT nl Ln xs)) 999) ∧ ((am_kd σ 999).1 = 0) ∧ (0 ≤ (x3 + (4 : Int32)).toInt) ∧ ((x3 + (4 : Int32)).toInt < am_rl (am_tz (TT nl Ln xs)) 999) ∧ ((am_kd σ 999).1 = 0) ∧ (0 ≤ (x3 + (5 : Int32)).toInt) ∧ ((x3 + (5 : Int32)).toInt < am_rl (am_tz (TT nl Ln xs)) 999) ∧ (am_is σ x1 0) ∧ k_Co_reserve nl Ln xs d (x1.getD 0) (am_rv (am_tz (TT nl Ln xs)) 999 (x3 + (1 : Int32)).toNatClampNeg) (am_rv (am_tz (TT nl Ln xs)) 999 (x3 + (2 : Int32)).toNatClampNeg) (am_rv (am_tz (TT nl Ln xs)) 999 (x3 + (3 : Int32)).toNatClampNeg) (((am_rv (am_tz (TT nl Ln xs)) 999 (x3 + (4 : Int32)).toNatClampNeg).toInt64 <<< ((32 : Int32).toInt64 &&& 63)) ||| ((am_rv (am_tz (TT nl Ln xs)) 999 (x3 + (5 : Int32)).toNatClampNeg).toInt64 &&& (4294967295 : Int64))) σ (fun a18 σ17 => am_ext σ σ17 → ((am_kd σ17 999).1 = 0) ∧ (0 ≤ (x3 + (1 : Int32)).toInt) ∧ ((x3 + (1 : Int32)).toInt < am_rl (am_tz (TT nl Ln xs)) 999) ∧ ((am_kd σ17 999).1 = 0) ∧ (0 ≤ (x3 + (2 : Int32)).toInt) ∧ ((x3 + (2 : Int32)).toInt < am_rl (am_tz (TT nl Ln xs)) 999) ∧ ((am_kd σ17 999).1 = 0) ∧ (0 ≤ (x3 + (3 : Int32)).toInt) ∧ ((x3 + (3 : Int32)).toInt < am_rl (am_tz (TT nl Ln xs)) 999) ∧ ((am_kd σ17 999).1 = 0) ∧ (0 ≤ (x3 + (4 : Int32)).toInt) ∧ ((x3 + (4 : Int32)).toInt < am_rl (am_tz (TT nl Ln xs)) 999) ∧ ((am_kd σ17 999).1 = 0) ∧ (0 ≤ (x3 + (5 : Int32)).toInt) ∧ ((x3 + (5 : Int32)).toInt < am_rl (am_tz (TT nl Ln xs)) 999) ∧ (am_is σ17 x2 12) ∧ k_Rm_reserve nl Ln xs d (x2.getD 0) (am_rv (am_tz (TT nl Ln xs)) 999 (x3 + (1 : Int32)).toNatClampNeg) (am_rv (am_tz (TT nl Ln xs)) 999 (x3 + (2 : Int32)).toNatClampNeg) (am_rv (am_tz (TT nl Ln xs)) 999 (x3 + (3 : Int32)).toNatClampNeg) (((am_rv (am_tz (TT nl Ln xs)) 999 (x3 + (4 : Int32)).toNatClampNeg).toInt64 <<< ((32 : Int32).toInt64 &&& 63)) ||| ((am_rv (am_tz (TT nl Ln xs)) 999 (x3 + (5 : Int32)).toNatClampNeg).toInt64 &&& (4294967295 : Int64))) σ17 (fun a36 σ35 => am_ext σ17 σ35 → (a18 = a36 → c_Law_law_18 nl Ln xs (d + 1) x1 x2 (x3 + (8 : Int32)) σ35 F) ∧ (¬ (a18 = a36) → F false σ35)))) : c_Law_law_776 nl Ln xs (d + 1) x1 x2 x3 σ F := by
  obtain ⟨j776, j777, j778, j779, j780, j781, j782, j783, j784, j785, j786, j787, j788, j789, j790, j791, j792, j793, j794, j795, j796, j797, j798, j800, j801, j802, j803, j804, j805, j806, j807, j810, j811, j812, j815, j816, j817, j818, j819, j820, j821, j822, j823, j824, j825, j826, j827, j828, j829, j830, j831, j832, j833, j834, j835, j836, j837, j839, j840, j841, j842, j843, j844, j845, j846, j849, j850, j851, j854, j857, j858, j1921, j1924, -⟩ := P_Law_law_776 nl Ln xs
  unfold c_Law_law_776
  refine s_aload_n j776 rfl rfl ?_
  refine s_aload_n j777 rfl rfl ?_
  refine s_iload_n j778 rfl rfl ?_
  refine s_iconst j779 rfl kc_ic_1 ?_
  refine s_g j780 rfl rfl rfl rfl rfl rfl ?_
  obtain ⟨ho1, h⟩ := h
  obtain ⟨ho2, h⟩ := h
  obtain ⟨ho3, h⟩ := h
  refine s_ialoadR j781 rfl (by decide) ho1 rfl ho2 ho3 ?_
  refine s_aload_n j782 rfl rfl ?_
  refine s_iload_n j783 rfl rfl ?_
  refine s_iconst j784 rfl kc_ic_2 ?_
  refine s_g j785 rfl rfl rfl rfl rfl rfl ?_
  obtain ⟨ho4, h⟩ := h
  obtain ⟨ho5, h⟩ := h
  obtain ⟨ho6, h⟩ := h
  refine s_ialoadR j786 rfl (by decide) ho4 rfl ho5 ho6 ?_
  refine s_aload_n j787 rfl rfl ?_
  refine s_iload_n j788 rfl rfl ?_
  refine s_iconst j789 rfl kc_ic_3 ?_
  refine s_g j790 rfl rfl rfl rfl rfl rfl ?_
  obtain ⟨ho7, h⟩ := h
  obtain ⟨ho8, h⟩ := h
  obtain ⟨ho9, h⟩ := h
  refine s_ialoadR j791 rfl (by decide) ho7 rfl ho8 ho9 ?_
  refine s_aload_n j792 rfl rfl ?_
  refine s_iload_n j793 rfl rfl ?_
  refine s_iconst j794 rfl kc_ic_4 ?_
  refine s_g j795 rfl rfl rfl rfl rfl rfl ?_
  obtain ⟨ho10, h⟩ := h
  obtain ⟨ho11, h⟩ := h
  obtain ⟨ho12, h⟩ := h
  refine s_ialoadR j796 rfl (by decide) ho10 rfl ho11 ho12 ?_
  refine s_g j797 rfl rfl rfl rfl rfl rfl ?_
  refine s_bipush j798 rfl kc_bi_32 ?_
  refine s_g j800 rfl rfl rfl rfl rfl rfl ?_
  refine s_aload_n j801 rfl rfl ?_
  refine s_iload_n j802 rfl rfl ?_
  refine s_iconst j803 rfl kc_ic_5 ?_
  refine s_g j804 rfl rfl rfl rfl rfl rfl ?_
  obtain ⟨ho13, h⟩ := h
  obtain ⟨ho14, h⟩ := h
  obtain ⟨ho15, h⟩ := h
  refine s_ialoadR j805 rfl (by decide) ho13 rfl ho14 ho15 ?_
  refine s_g j806 rfl rfl rfl rfl rfl rfl ?_
  refine s_ldc2 j807 rfl kc_ll_4294967295 ?_
  refine s_g j810 rfl rfl rfl rfl rfl rfl ?_
  refine s_g j811 rfl rfl rfl rfl rfl rfl ?_
  obtain ⟨ho16, h⟩ := h
  refine s_virt j812 rfl rfl rfl rfl ho16 (by decide) (in_Co_reserve _ _ _ _ _) (am_r8 rfl) (am_bI h (fun a18 σ17 h hx17 => ?_))
  replace h := h hx17
  refine s_aload_n j815 rfl rfl ?_
  refine s_aload_n j816 rfl rfl ?_
  refine s_iload_n j817 rfl rfl ?_
  refine s_iconst j818 rfl kc_ic_1 ?_
  refine s_g j819 rfl rfl rfl rfl rfl rfl ?_
  obtain ⟨ho19, h⟩ := h
  obtain ⟨ho20, h⟩ := h
  obtain ⟨ho21, h⟩ := h
  refine s_ialoadR j820 rfl (by decide) ho19 rfl ho20 ho21 ?_
  refine s_aload_n j821 rfl rfl ?_
  refine s_iload_n j822 rfl rfl ?_
  refine s_iconst j823 rfl kc_ic_2 ?_
  refine s_g j824 rfl rfl rfl rfl rfl rfl ?_
  obtain ⟨ho22, h⟩ := h
  obtain ⟨ho23, h⟩ := h
  obtain ⟨ho24, h⟩ := h
  refine s_ialoadR j825 rfl (by decide) ho22 rfl ho23 ho24 ?_
  refine s_aload_n j826 rfl rfl ?_
  refine s_iload_n j827 rfl rfl ?_
  refine s_iconst j828 rfl kc_ic_3 ?_
  refine s_g j829 rfl rfl rfl rfl rfl rfl ?_
  obtain ⟨ho25, h⟩ := h
  obtain ⟨ho26, h⟩ := h
  obtain ⟨ho27, h⟩ := h
  refine s_ialoadR j830 rfl (by decide) ho25 rfl ho26 ho27 ?_
  refine s_aload_n j831 rfl rfl ?_
  refine s_iload_n j832 rfl rfl ?_
  refine s_iconst j833 rfl kc_ic_4 ?_
  refine s_g j834 rfl rfl rfl rfl rfl rfl ?_
  obtain ⟨ho28, h⟩ := h
  obtain ⟨ho29, h⟩ := h
  obtain ⟨ho30, h⟩ := h
  refine s_ialoadR j835 rfl (by decide) ho28 rfl ho29 ho30 ?_
  refine s_g j836 rfl rfl rfl rfl rfl rfl ?_
  refine s_bipush j837 rfl kc_bi_32 ?_
  refine s_g j839 rfl rfl rfl rfl rfl rfl ?_
  refine s_aload_n j840 rfl rfl ?_
  refine s_iload_n j841 rfl rfl ?_
  refine s_iconst j842 rfl kc_ic_5 ?_
  refine s_g j843 rfl rfl rfl rfl rfl rfl ?_
  obtain ⟨ho31, h⟩ := h
  obtain ⟨ho32, h⟩ := h
  obtain ⟨ho33, h⟩ := h
  refine s_ialoadR j844 rfl (by decide) ho31 rfl ho32 ho33 ?_
  refine s_g j845 rfl rfl rfl rfl rfl rfl ?_
  refine s_ldc2 j846 rfl kc_ll_4294967295 ?_
  refine s_g j849 rfl rfl rfl rfl rfl rfl ?_
  refine s_g j850 rfl rfl rfl rfl rfl rfl ?_
  obtain ⟨ho34, h⟩ := h
  refine s_virt j851 rfl rfl rfl rfl ho34 (by decide) (in_Rm_reserve _ _ _ _ _) (am_r8 rfl) (am_bI h (fun a36 σ35 h hx35 => ?_))
  replace h := h hx35
  refine s_ic j854 rfl rfl am_cc_eq (fun hc37 => ?_) (fun hc37 => ?_)
  · replace h := h.1 hc37
    refine s_iinc (L' := [some (am_ov (some 999)), some (am_ov x1), some (am_ov x2), some (.int (x3 + (8 : Int32)))]) j1921 rfl rfl kc_ic_8 (am_st1_R [_, _] _ _ _ _) ?_
    refine s_goto j1924 rfl rfl ?_
    exact h
  · replace h := h.2 hc37
    refine s_iconst j857 rfl kc_ic_0 ?_
    exact s_retZ0 j858 rfl h
theorem P_Law_law_859 (nl : Bool) (Ln : Nat) (xs : Nat → Int32) : am_Jl (TT nl Ln xs) 352 [(859, .aload_n 1, 860, []), (860, .aload_n 0, 861, []), (861, .iload_n 3, 862, []), (862, .iconst 1, 863, []), (863, .iadd, 864, []), (864, .iaload, 865, []), (865, .aload_n 0, 866, []), (866, .iload_n 3, 867, []), (867, .iconst 2, 868, []), (868, .iadd, 869, []), (869, .iaload, 870, []), (870, .aload_n 0, 871, []), (871, .iload_n 3, 872, []), (872, .iconst 3, 873, []), (873, .iadd, 874, []), (874, .iaload, 875, []), (875, .i2l, 876, []), (876, .bipush 32, 878, []), (878, .lshl, 879, []), (879, .aload_n 0, 880, []), (880, .iload_n 3, 881, []), (881, .iconst 4, 882, []), (882, .iadd, 883, []), (883, .iaload, 884, []), (884, .i2l, 885, []), (885, .ldc2_w 33, 888, [6, 4294967295]), (888, .land, 889, []), (889, .lor, 890, []), (890, .invokevirtual 76, 893, [10, 140, 1, 5, 4]), (893, .aload_n 2, 894, []), (894, .aload_n 0, 895, []), (895, .iload_n 3, 896, []), (896, .iconst 1, 897, []), (897, .iadd, 898, []), (898, .iaload, 899, []), (899, .aload_n 0, 900, []), (900, .iload_n 3, 901, []), (901, .iconst 2, 902, []), (902, .iadd, 903, []), (903, .iaload, 904, []), (904, .aload_n 0, 905, []), (905, .iload_n 3, 906, []), (906, .iconst 3, 907, []), (907, .iadd, 908, []), (908, .iaload, 909, []), (909, .i2l, 910, []), (910, .bipush 32, 912, []), (912, .lshl, 913, []), (913, .aload_n 0, 914, []), (914, .iload_n 3, 915, []), (915, .iconst 4, 916, []), (916, .iadd, 917, []), (917, .iaload, 918, []), (918, .i2l, 919, []), (919, .ldc2_w 33, 922, [6, 4294967295]), (922, .land, 923, []), (923, .lor, 924, []), (924, .invokevirtual 79, 927, [10, 312, 13, 5, 4]), (927, .if_icmp .eq 994, 930, []), (930, .iconst 0, 931, []), (931, .ireturn, 932, [4]), (1921, .iinc 3 8, 1924, []), (1924, .goto (-1906), 1927, [])] := dk_ck (by decide +kernel)
set_option maxRecDepth 4096 in
theorem w_Law_law_859 {nl : Bool} {Ln : Nat} {xs : Nat → Int32} {d : Nat} {x1 : Option Nat} {x2 : Option Nat} {x3 : Int32} {σ : am_S} {F : Bool → am_S → Prop} (h : ((am_kd σ 999).1 = 0) ∧ (0 ≤ (x3 + (1 : Int32)).toInt) ∧ ((x3 + (1 : Int32)).toInt < am_rl (am_tz (TT nl Ln xs)) 999) ∧ ((am_kd σ 999).1 = 0) ∧ (0 ≤ (x3 + (2 : Int32)).toInt) ∧ ((x3 + (2 : Int32)).toInt < am_rl (am_tz (TT nl Ln xs)) 999) ∧ ((am_kd σ 999).1 = 0) ∧ (0 ≤ (x3 + (3 : Int32)).toInt) ∧ ((x3 + (3 : Int32)).toInt < am_rl (am_tz (TT nl Ln xs)) 999) ∧ ((am_kd σ 999).1 = 0) ∧ (0 ≤ (x3 + (4 : Int32)).toInt) ∧ ((x3 + (4 : Int32)).toInt < am_rl (am_tz (TT nl Ln xs)) 999) ∧ (am_is σ x1 0) ∧ k_Co_pay nl Ln xs d (x1.getD 0) (am_rv (am_tz (TT nl Ln xs)) 999 (x3 + (1 : Int32)).toNatClampNeg) (am_rv (am_tz (TT nl Ln xs)) 999 (x3 + (2 : Int32)).toNatClampNeg) (((am_rv (am_tz (TT nl Ln xs)) 999 (x3 + (3 : Int32)).toNatClampNeg).toInt64 <<< ((32 : Int32).toInt64 &&& 63)) ||| ((am_rv (am_tz (TT nl Ln xs)) 999 (x3 + (4 : Int32)).toNatClampNeg).toInt64 &&& (4294967295 : Int64))) σ (fun a15 σ14 => am_ext σ σ14 → ((am_kd σ14 999).1 = 0) ∧ (0 ≤ (x3 + (1 : Int32)).toInt) ∧ ((x3 + (1 : Int32)).toInt < am_rl (am_tz (TT nl Ln xs)) 999) ∧ ((am_kd σ14 999).1 = 0) ∧ (0 ≤ (x3 + (2 : Int32)).toInt) ∧ ((x3 + (2 : Int32)).toInt < am_rl (am_tz (TT nl Ln xs)) 999) ∧ ((am_kd σ14 999).1 = 0) ∧ (0 ≤ (x3 + (3 : Int32)).toInt) ∧ ((x3 + (3 : Int32)).toInt < am_rl (am_tz (TT nl Ln xs)) 999) ∧ ((am_kd σ14 999).1 = 0) ∧ (0 ≤ (x3 + (4 : Int32)).toInt) ∧ ((x3 + (4 : Int32)).toInt < am_rl (am_tz (TT nl Ln xs)) 999) ∧ (am_is σ14 x2 12) ∧ k_Rm_pay nl Ln xs d (x2.getD 0) (am_rv (am_tz (TT nl Ln xs)) 999 (x3 + (1 : Int32)).toNatClampNeg) (am_rv (am_tz (TT nl Ln xs)) 999 (x3 + (2 : Int32)).toNatClampNeg) (((am_rv (am_tz (TT nl Ln xs)) 999 (x3 + (3 : Int32)).toNatClampNeg).toInt64 <<< ((32 : Int32).toInt64 &&& 63)) ||| ((am_rv (am_tz (TT nl Ln xs)) 999 (x3 + (4 : Int32)).toNatClampNeg).toInt64 &&& (4294967295 : Int64))) σ14 (fun a30 σ29 => am_ext σ14 σ29 → (a15 = a30 → c_Law_law_18 nl Ln xs (d + 1) x1 x2 (x3 + (8 : Int32)) σ29 F) ∧ (¬ (a15 = a30) → F false σ29)))) : c_Law_law_859 nl Ln xs (d + 1) x1 x2 x3 σ F := by
  obtain ⟨j859, j860, j861, j862, j863, j864, j865, j866, j867, j868, j869, j870, j871, j872, j873, j874, j875, j876, j878, j879, j880, j881, j882, j883, j884, j885, j888, j889, j890, j893, j894, j895, j896, j897, j898, j899, j900, j901, j902, j903, j904, j905, j906, j907, j908, j909, j910, j912, j913, j914, j915, j916, j917, j918, j919, j922, j923, j924, j927, j930, j931, j1921, j1924, -⟩ := P_Law_law_859 nl Ln xs
  unfold c_Law_law_859
  refine s_aload_n j859 rfl rfl ?_
  refine s_aload_n j860 rfl rfl ?_
  refine s_iload_n j861 rfl rfl ?_
  refine s_iconst j862 rfl kc_ic_1 ?_
  refine s_g j863 rfl rfl rfl rfl rfl rfl ?_
  obtain ⟨ho1, h⟩ := h
  obtain ⟨ho2, h⟩ := h
  obtain ⟨ho3, h⟩ := h
  refine s_ialoadR j864 rfl (by decide) ho1 rfl ho2 ho3 ?_
  refine s_aload_n j865 rfl rfl ?_
  refine s_iload_n j866 rfl rfl ?_
  refine s_iconst j867 rfl kc_ic_2 ?_
  refine s_g j868 rfl rfl rfl rfl rfl rfl ?_
  obtain ⟨ho4, h⟩ := h
  obtain ⟨ho5, h⟩ := h
  obtain ⟨ho6, h⟩ := h
  refine s_ialoadR j869 rfl (by decide) ho4 rfl ho5 ho6 ?_
  refine s_aload_n j870 rfl rfl ?_
  refine s_iload_n j871 rfl rfl ?_
  refine s_iconst j872 rfl kc_ic_3 ?_
  refine s_g j873 rfl rfl rfl rfl rfl rfl ?_
  obtain ⟨ho7, h⟩ := h
  obtain ⟨ho8, h⟩ := h
  obtain ⟨ho9, h⟩ := h
  refine s_ialoadR j874 rfl (by decide) ho7 rfl ho8 ho9 ?_
  refine s_g j875 rfl rfl rfl rfl rfl rfl ?_
  refine s_bipush j876 rfl kc_bi_32 ?_
  refine s_g j878 rfl rfl rfl rfl rfl rfl ?_
  refine s_aload_n j879 rfl rfl ?_
  refine s_iload_n j880 rfl rfl ?_
  refine s_iconst j881 rfl kc_ic_4 ?_
  refine s_g j882 rfl rfl rfl rfl rfl rfl ?_
  obtain ⟨ho10, h⟩ := h
  obtain ⟨ho11, h⟩ := h
  obtain ⟨ho12, h⟩ := h
  refine s_ialoadR j883 rfl (by decide) ho10 rfl ho11 ho12 ?_
  refine s_g j884 rfl rfl rfl rfl rfl rfl ?_
  refine s_ldc2 j885 rfl kc_ll_4294967295 ?_
  refine s_g j888 rfl rfl rfl rfl rfl rfl ?_
  refine s_g j889 rfl rfl rfl rfl rfl rfl ?_
  obtain ⟨ho13, h⟩ := h
  refine s_virt j890 rfl rfl rfl rfl ho13 (by decide) (in_Co_pay _ _ _ _) (am_r8 rfl) (am_bI h (fun a15 σ14 h hx14 => ?_))
  replace h := h hx14
  refine s_aload_n j893 rfl rfl ?_
  refine s_aload_n j894 rfl rfl ?_
  refine s_iload_n j895 rfl rfl ?_
  refine s_iconst j896 rfl kc_ic_1 ?_
  refine s_g j897 rfl rfl rfl rfl rfl rfl ?_
  obtain ⟨ho16, h⟩ := h
  obtain ⟨ho17, h⟩ := h
  obtain ⟨ho18, h⟩ := h
  refine s_ialoadR j898 rfl (by decide) ho16 rfl ho17 ho18 ?_
  refine s_aload_n j899 rfl rfl ?_
  refine s_iload_n j900 rfl rfl ?_
  refine s_iconst j901 rfl kc_ic_2 ?_
  refine s_g j902 rfl rfl rfl rfl rfl rfl ?_
  obtain ⟨ho19, h⟩ := h
  obtain ⟨ho20, h⟩ := h
  obtain ⟨ho21, h⟩ := h
  refine s_ialoadR j903 rfl (by decide) ho19 rfl ho20 ho21 ?_
  refine s_aload_n j904 rfl rfl ?_
  refine s_iload_n j905 rfl rfl ?_
  refine s_iconst j906 rfl kc_ic_3 ?_
  refine s_g j907 rfl rfl rfl rfl rfl rfl ?_
  obtain ⟨ho22, h⟩ := h
  obtain ⟨ho23, h⟩ := h
  obtain ⟨ho24, h⟩ := h
  refine s_ialoadR j908 rfl (by decide) ho22 rfl ho23 ho24 ?_
  refine s_g j909 rfl rfl rfl rfl rfl rfl ?_
  refine s_bipush j910 rfl kc_bi_32 ?_
  refine s_g j912 rfl rfl rfl rfl rfl rfl ?_
  refine s_aload_n j913 rfl rfl ?_
  refine s_iload_n j914 rfl rfl ?_
  refine s_iconst j915 rfl kc_ic_4 ?_
  refine s_g j916 rfl rfl rfl rfl rfl rfl ?_
  obtain ⟨ho25, h⟩ := h
  obtain ⟨ho26, h⟩ := h
  obtain ⟨ho27, h⟩ := h
  refine s_ialoadR j917 rfl (by decide) ho25 rfl ho26 ho27 ?_
  refine s_g j918 rfl rfl rfl rfl rfl rfl ?_
  refine s_ldc2 j919 rfl kc_ll_4294967295 ?_
  refine s_g j922 rfl rfl rfl rfl rfl rfl ?_
  refine s_g j923 rfl rfl rfl rfl rfl rfl ?_
  obtain ⟨ho28, h⟩ := h
  refine s_virt j924 rfl rfl rfl rfl ho28 (by decide) (in_Rm_pay _ _ _ _) (am_r8 rfl) (am_bI h (fun a30 σ29 h hx29 => ?_))
  replace h := h hx29
  refine s_ic j927 rfl rfl am_cc_eq (fun hc31 => ?_) (fun hc31 => ?_)
  · replace h := h.1 hc31
    refine s_iinc (L' := [some (am_ov (some 999)), some (am_ov x1), some (am_ov x2), some (.int (x3 + (8 : Int32)))]) j1921 rfl rfl kc_ic_8 (am_st1_R [_, _] _ _ _ _) ?_
    refine s_goto j1924 rfl rfl ?_
    exact h
  · replace h := h.2 hc31
    refine s_iconst j930 rfl kc_ic_0 ?_
    exact s_retZ0 j931 rfl h
theorem P_Law_law_932 (nl : Bool) (Ln : Nat) (xs : Nat → Int32) : am_Jl (TT nl Ln xs) 352 [(932, .aload_n 1, 933, []), (933, .aload_n 0, 934, []), (934, .iload_n 3, 935, []), (935, .iconst 1, 936, []), (936, .iadd, 937, []), (937, .iaload, 938, []), (938, .aload_n 0, 939, []), (939, .iload_n 3, 940, []), (940, .iconst 2, 941, []), (941, .iadd, 942, []), (942, .iaload, 943, []), (943, .invokevirtual 80, 946, [10, 141, 1, 3, 3]), (946, .aload_n 2, 947, []), (947, .aload_n 0, 948, []), (948, .iload_n 3, 949, []), (949, .iconst 1, 950, []), (950, .iadd, 951, []), (951, .iaload, 952, []), (952, .aload_n 0, 953, []), (953, .iload_n 3, 954, []), (954, .iconst 2, 955, []), (955, .iadd, 956, []), (956, .iaload, 957, []), (957, .invokevirtual 83, 960, [10, 313, 13, 3, 3]), (960, .if_icmp .eq 961, 963, []), (963, .iconst 0, 964, []), (964, .ireturn, 965, [4]), (1921, .iinc 3 8, 1924, []), (1924, .goto (-1906), 1927, [])] := dk_ck (by decide +kernel)
set_option maxRecDepth 4096 in
theorem w_Law_law_932 {nl : Bool} {Ln : Nat} {xs : Nat → Int32} {d : Nat} {x1 : Option Nat} {x2 : Option Nat} {x3 : Int32} {σ : am_S} {F : Bool → am_S → Prop} (h : ((am_kd σ 999).1 = 0) ∧ (0 ≤ (x3 + (1 : Int32)).toInt) ∧ ((x3 + (1 : Int32)).toInt < am_rl (am_tz (TT nl Ln xs)) 999) ∧ ((am_kd σ 999).1 = 0) ∧ (0 ≤ (x3 + (2 : Int32)).toInt) ∧ ((x3 + (2 : Int32)).toInt < am_rl (am_tz (TT nl Ln xs)) 999) ∧ (am_is σ x1 0) ∧ k_Co_close nl Ln xs d (x1.getD 0) (am_rv (am_tz (TT nl Ln xs)) 999 (x3 + (1 : Int32)).toNatClampNeg) (am_rv (am_tz (TT nl Ln xs)) 999 (x3 + (2 : Int32)).toNatClampNeg) σ (fun a9 σ8 => am_ext σ σ8 → ((am_kd σ8 999).1 = 0) ∧ (0 ≤ (x3 + (1 : Int32)).toInt) ∧ ((x3 + (1 : Int32)).toInt < am_rl (am_tz (TT nl Ln xs)) 999) ∧ ((am_kd σ8 999).1 = 0) ∧ (0 ≤ (x3 + (2 : Int32)).toInt) ∧ ((x3 + (2 : Int32)).toInt < am_rl (am_tz (TT nl Ln xs)) 999) ∧ (am_is σ8 x2 12) ∧ k_Rm_close nl Ln xs d (x2.getD 0) (am_rv (am_tz (TT nl Ln xs)) 999 (x3 + (1 : Int32)).toNatClampNeg) (am_rv (am_tz (TT nl Ln xs)) 999 (x3 + (2 : Int32)).toNatClampNeg) σ8 (fun a18 σ17 => am_ext σ8 σ17 → (a9 = a18 → c_Law_law_18 nl Ln xs (d + 1) x1 x2 (x3 + (8 : Int32)) σ17 F) ∧ (¬ (a9 = a18) → F false σ17)))) : c_Law_law_932 nl Ln xs (d + 1) x1 x2 x3 σ F := by
  obtain ⟨j932, j933, j934, j935, j936, j937, j938, j939, j940, j941, j942, j943, j946, j947, j948, j949, j950, j951, j952, j953, j954, j955, j956, j957, j960, j963, j964, j1921, j1924, -⟩ := P_Law_law_932 nl Ln xs
  unfold c_Law_law_932
  refine s_aload_n j932 rfl rfl ?_
  refine s_aload_n j933 rfl rfl ?_
  refine s_iload_n j934 rfl rfl ?_
  refine s_iconst j935 rfl kc_ic_1 ?_
  refine s_g j936 rfl rfl rfl rfl rfl rfl ?_
  obtain ⟨ho1, h⟩ := h
  obtain ⟨ho2, h⟩ := h
  obtain ⟨ho3, h⟩ := h
  refine s_ialoadR j937 rfl (by decide) ho1 rfl ho2 ho3 ?_
  refine s_aload_n j938 rfl rfl ?_
  refine s_iload_n j939 rfl rfl ?_
  refine s_iconst j940 rfl kc_ic_2 ?_
  refine s_g j941 rfl rfl rfl rfl rfl rfl ?_
  obtain ⟨ho4, h⟩ := h
  obtain ⟨ho5, h⟩ := h
  obtain ⟨ho6, h⟩ := h
  refine s_ialoadR j942 rfl (by decide) ho4 rfl ho5 ho6 ?_
  obtain ⟨ho7, h⟩ := h
  refine s_virt j943 rfl rfl rfl rfl ho7 (by decide) (in_Co_close _ _ _) (am_r8 rfl) (am_bI h (fun a9 σ8 h hx8 => ?_))
  replace h := h hx8
  refine s_aload_n j946 rfl rfl ?_
  refine s_aload_n j947 rfl rfl ?_
  refine s_iload_n j948 rfl rfl ?_
  refine s_iconst j949 rfl kc_ic_1 ?_
  refine s_g j950 rfl rfl rfl rfl rfl rfl ?_
  obtain ⟨ho10, h⟩ := h
  obtain ⟨ho11, h⟩ := h
  obtain ⟨ho12, h⟩ := h
  refine s_ialoadR j951 rfl (by decide) ho10 rfl ho11 ho12 ?_
  refine s_aload_n j952 rfl rfl ?_
  refine s_iload_n j953 rfl rfl ?_
  refine s_iconst j954 rfl kc_ic_2 ?_
  refine s_g j955 rfl rfl rfl rfl rfl rfl ?_
  obtain ⟨ho13, h⟩ := h
  obtain ⟨ho14, h⟩ := h
  obtain ⟨ho15, h⟩ := h
  refine s_ialoadR j956 rfl (by decide) ho13 rfl ho14 ho15 ?_
  obtain ⟨ho16, h⟩ := h
  refine s_virt j957 rfl rfl rfl rfl ho16 (by decide) (in_Rm_close _ _ _) (am_r8 rfl) (am_bI h (fun a18 σ17 h hx17 => ?_))
  replace h := h hx17
  refine s_ic j960 rfl rfl am_cc_eq (fun hc19 => ?_) (fun hc19 => ?_)
  · replace h := h.1 hc19
    refine s_iinc (L' := [some (am_ov (some 999)), some (am_ov x1), some (am_ov x2), some (.int (x3 + (8 : Int32)))]) j1921 rfl rfl kc_ic_8 (am_st1_R [_, _] _ _ _ _) ?_
    refine s_goto j1924 rfl rfl ?_
    exact h
  · replace h := h.2 hc19
    refine s_iconst j963 rfl kc_ic_0 ?_
    exact s_retZ0 j964 rfl h
theorem P_Law_law_965 (nl : Bool) (Ln : Nat) (xs : Nat → Int32) : am_Jl (TT nl Ln xs) 352 [(965, .aload_n 1, 966, []), (966, .aload_n 0, 967, []), (967, .iload_n 3, 968, []), (968, .iconst 1, 969, []), (969, .iadd, 970, []), (970, .iaload, 971, []), (971, .aload_n 0, 972, []), (972, .iload_n 3, 973, []), (973, .iconst 2, 974, []), (974, .iadd, 975, []), (975, .iaload, 976, []), (976, .aload_n 0, 977, []), (977, .iload_n 3, 978, []), (978, .iconst 3, 979, []), (979, .iadd, 980, []), (980, .iaload, 981, []), (981, .invokevirtual 84, 984, [10, 142, 1, 4, 4]), (984, .aload_n 2, 985, []), (985, .aload_n 0, 986, []), (986, .iload_n 3, 987, []), (987, .iconst 1, 988, []), (988, .iadd, 989, []), (989, .iaload, 990, []), (990, .aload_n 0, 991, []), (991, .iload_n 3, 992, []), (992, .iconst 2, 993, []), (993, .iadd, 994, []), (994, .iaload, 995, []), (995, .aload_n 0, 996, []), (996, .iload_n 3, 997, []), (997, .iconst 3, 998, []), (998, .iadd, 999, []), (999, .iaload, 1000, []), (1000, .invokevirtual 87, 1003, [10, 314, 13, 4, 4]), (1003, .if_icmp .eq 918, 1006, []), (1006, .iconst 0, 1007, []), (1007, .ireturn, 1008, [4]), (1921, .iinc 3 8, 1924, []), (1924, .goto (-1906), 1927, [])] := dk_ck (by decide +kernel)
set_option maxRecDepth 4096 in
theorem w_Law_law_965 {nl : Bool} {Ln : Nat} {xs : Nat → Int32} {d : Nat} {x1 : Option Nat} {x2 : Option Nat} {x3 : Int32} {σ : am_S} {F : Bool → am_S → Prop} (h : ((am_kd σ 999).1 = 0) ∧ (0 ≤ (x3 + (1 : Int32)).toInt) ∧ ((x3 + (1 : Int32)).toInt < am_rl (am_tz (TT nl Ln xs)) 999) ∧ ((am_kd σ 999).1 = 0) ∧ (0 ≤ (x3 + (2 : Int32)).toInt) ∧ ((x3 + (2 : Int32)).toInt < am_rl (am_tz (TT nl Ln xs)) 999) ∧ ((am_kd σ 999).1 = 0) ∧ (0 ≤ (x3 + (3 : Int32)).toInt) ∧ ((x3 + (3 : Int32)).toInt < am_rl (am_tz (TT nl Ln xs)) 999) ∧ (am_is σ x1 0) ∧ k_Co_reopen nl Ln xs d (x1.getD 0) (am_rv (am_tz (TT nl Ln xs)) 999 (x3 + (1 : Int32)).toNatClampNeg) (am_rv (am_tz (TT nl Ln xs)) 999 (x3 + (2 : Int32)).toNatClampNeg) (am_rv (am_tz (TT nl Ln xs)) 999 (x3 + (3 : Int32)).toNatClampNeg) σ (fun a12 σ11 => am_ext σ σ11 → ((am_kd σ11 999).1 = 0) ∧ (0 ≤ (x3 + (1 : Int32)).toInt) ∧ ((x3 + (1 : Int32)).toInt < am_rl (am_tz (TT nl Ln xs)) 999) ∧ ((am_kd σ11 999).1 = 0) ∧ (0 ≤ (x3 + (2 : Int32)).toInt) ∧ ((x3 + (2 : Int32)).toInt < am_rl (am_tz (TT nl Ln xs)) 999) ∧ ((am_kd σ11 999).1 = 0) ∧ (0 ≤ (x3 + (3 : Int32)).toInt) ∧ ((x3 + (3 : Int32)).toInt < am_rl (am_tz (TT nl Ln xs)) 999) ∧ (am_is σ11 x2 12) ∧ k_Rm_reopen nl Ln xs d (x2.getD 0) (am_rv (am_tz (TT nl Ln xs)) 999 (x3 + (1 : Int32)).toNatClampNeg) (am_rv (am_tz (TT nl Ln xs)) 999 (x3 + (2 : Int32)).toNatClampNeg) (am_rv (am_tz (TT nl Ln xs)) 999 (x3 + (3 : Int32)).toNatClampNeg) σ11 (fun a24 σ23 => am_ext σ11 σ23 → (a12 = a24 → c_Law_law_18 nl Ln xs (d + 1) x1 x2 (x3 + (8 : Int32)) σ23 F) ∧ (¬ (a12 = a24) → F false σ23)))) : c_Law_law_965 nl Ln xs (d + 1) x1 x2 x3 σ F := by
  obtain ⟨j965, j966, j967, j968, j969, j970, j971, j972, j973, j974, j975, j976, j977, j978, j979, j980, j981, j984, j985, j986, j987, j988, j989, j990, j991, j992, j993, j994, j995, j996, j997, j998, j999, j1000, j1003, j1006, j1007, j1921, j1924, -⟩ := P_Law_law_965 nl Ln xs
  unfold c_Law_law_965
  refine s_aload_n j965 rfl rfl ?_
  refine s_aload_n j966 rfl rfl ?_
  refine s_iload_n j967 rfl rfl ?_
  refine s_iconst j968 rfl kc_ic_1 ?_
  refine s_g j969 rfl rfl rfl rfl rfl rfl ?_
  obtain ⟨ho1, h⟩ := h
  obtain ⟨ho2, h⟩ := h
  obtain ⟨ho3, h⟩ := h
  refine s_ialoadR j970 rfl (by decide) ho1 rfl ho2 ho3 ?_
  refine s_aload_n j971 rfl rfl ?_
  refine s_iload_n j972 rfl rfl ?_
  refine s_iconst j973 rfl kc_ic_2 ?_
  refine s_g j974 rfl rfl rfl rfl rfl rfl ?_
  obtain ⟨ho4, h⟩ := h
  obtain ⟨ho5, h⟩ := h
  obtain ⟨ho6, h⟩ := h
  refine s_ialoadR j975 rfl (by decide) ho4 rfl ho5 ho6 ?_
  refine s_aload_n j976 rfl rfl ?_
  refine s_iload_n j977 rfl rfl ?_
  refine s_iconst j978 rfl kc_ic_3 ?_
  refine s_g j979 rfl rfl rfl rfl rfl rfl ?_
  obtain ⟨ho7, h⟩ := h
  obtain ⟨ho8, h⟩ := h
  obtain ⟨ho9, h⟩ := h
  refine s_ialoadR j980 rfl (by decide) ho7 rfl ho8 ho9 ?_
  obtain ⟨ho10, h⟩ := h
  refine s_virt j981 rfl rfl rfl rfl ho10 (by decide) (in_Co_reopen _ _ _ _) (am_r8 rfl) (am_bI h (fun a12 σ11 h hx11 => ?_))
  replace h := h hx11
  refine s_aload_n j984 rfl rfl ?_
  refine s_aload_n j985 rfl rfl ?_
  refine s_iload_n j986 rfl rfl ?_
  refine s_iconst j987 rfl kc_ic_1 ?_
  refine s_g j988 rfl rfl rfl rfl rfl rfl ?_
  obtain ⟨ho13, h⟩ := h
  obtain ⟨ho14, h⟩ := h
  obtain ⟨ho15, h⟩ := h
  refine s_ialoadR j989 rfl (by decide) ho13 rfl ho14 ho15 ?_
  refine s_aload_n j990 rfl rfl ?_
  refine s_iload_n j991 rfl rfl ?_
  refine s_iconst j992 rfl kc_ic_2 ?_
  refine s_g j993 rfl rfl rfl rfl rfl rfl ?_
  obtain ⟨ho16, h⟩ := h
  obtain ⟨ho17, h⟩ := h
  obtain ⟨ho18, h⟩ := h
  refine s_ialoadR j994 rfl (by decide) ho16 rfl ho17 ho18 ?_
  refine s_aload_n j995 rfl rfl ?_
  refine s_iload_n j996 rfl rfl ?_
  refine s_iconst j997 rfl kc_ic_3 ?_
  refine s_g j998 rfl rfl rfl rfl rfl rfl ?_
  obtain ⟨ho19, h⟩ := h
  obtain ⟨ho20, h⟩ := h
  obtain ⟨ho21, h⟩ := h
  refine s_ialoadR j999 rfl (by decide) ho19 rfl ho20 ho21 ?_
  obtain ⟨ho22, h⟩ := h
  refine s_virt j1000 rfl rfl rfl rfl ho22 (by decide) (in_Rm_reopen _ _ _ _) (am_r8 rfl) (am_bI h (fun a24 σ23 h hx23 => ?_))
  replace h := h hx23
  refine s_ic j1003 rfl rfl am_cc_eq (fun hc25 => ?_) (fun hc25 => ?_)
  · replace h := h.1 hc25
    refine s_iinc (L' := [some (am_ov (some 999)), some (am_ov x1), some (am_ov x2), some (.int (x3 + (8 : Int32)))]) j1921 rfl rfl kc_ic_8 (am_st1_R [_, _] _ _ _ _) ?_
    refine s_goto j1924 rfl rfl ?_
    exact h
  · replace h := h.2 hc25
    refine s_iconst j1006 rfl kc_ic_0 ?_
    exact s_retZ0 j1007 rfl h
theorem P_Law_law_1008 (nl : Bool) (Ln : Nat) (xs : Nat → Int32) : am_Jl (TT nl Ln xs) 352 [(1008, .aload_n 1, 1009, []), (1009, .aload_n 0, 1010, []), (1010, .iload_n 3, 1011, []), (1011, .iconst 1, 1012, []), (1012, .iadd, 1013, []), (1013, .iaload, 1014, []), (1014, .aload_n 0, 1015, []), (1015, .iload_n 3, 1016, []), (1016, .iconst 2, 1017, []), (1017, .iadd, 1018, []), (1018, .iaload, 1019, []), (1019, .aload_n 0, 1020, []), (1020, .iload_n 3, 1021, []), (1021, .iconst 3, 1022, []), (1022, .iadd, 1023, []), (1023, .iaload, 1024, []), (1024, .aload_n 0, 1025, []), (1025, .iload_n 3, 1026, []), (1026, .iconst 4, 1027, []), (1027, .iadd, 1028, []), (1028, .iaload, 1029, []), (1029, .aload_n 0, 1030, []), (1030, .iload_n 3, 1031, []), (1031, .iconst 5, 1032, []), (1032, .iadd, 1033, []), (1033, .iaload, 1034, []), (1034, .i2l, 1035, []), (1035, .bipush 32, 1037, []), (1037, .lshl, 1038, []), (1038, .aload_n 0, 1039, []), (1039, .iload_n 3, 1040, []), (1040, .bipush 6, 1042, []), (1042, .iadd, 1043, []), (1043, .iaload, 1044, []), (1044, .i2l, 1045, []), (1045, .ldc2_w 33, 1048, [6, 4294967295]), (1048, .land, 1049, []), (1049, .lor, 1050, []), (1050, .aload_n 0, 1051, []), (1051, .iload_n 3, 1052, []), (1052, .bipush 7, 1054, []), (1054, .iadd, 1055, []), (1055, .iaload, 1056, []), (1056, .invokevirtual 88, 1059, [10, 143, 1, 8, 7]), (1059, .aload_n 2, 1060, []), (1060, .aload_n 0, 1061, []), (1061, .iload_n 3, 1062, []), (1062, .iconst 1, 1063, []), (1063, .iadd, 1064, []), (1064, .iaload, 1065, []), (1065, .aload_n 0, 1066, []), (1066, .iload_n 3, 1067, []), (1067, .iconst 2, 1068, []), (1068, .iadd, 1069, []), (1069, .iaload, 1070, []), (1070, .aload_n 0, 1071, []), (1071, .iload_n 3, 1072, []), (1072, .iconst 3, 1073, []), (1073, .iadd, 1074, []), (1074, .iaload, 1075, []), (1075, .aload_n 0, 1076, []), (1076, .iload_n 3, 1077, []), (1077, .iconst 4, 1078, []), (1078, .iadd, 1079, []), (1079, .iaload, 1080, []), (1080, .aload_n 0, 1081, []), (1081, .iload_n 3, 1082, []), (1082, .iconst 5, 1083, []), (1083, .iadd, 1084, []), (1084, .iaload, 1085, []), (1085, .i2l, 1086, []), (1086, .bipush 32, 1088, []), (1088, .lshl, 1089, []), (1089, .aload_n 0, 1090, []), (1090, .iload_n 3, 1091, []), (1091, .bipush 6, 1093, []), (1093, .iadd, 1094, []), (1094, .iaload, 1095, []), (1095, .i2l, 1096, []), (1096, .ldc2_w 33, 1099, [6, 4294967295]), (1099, .land, 1100, []), (1100, .lor, 1101, []), (1101, .aload_n 0, 1102, []), (1102, .iload_n 3, 1103, []), (1103, .bipush 7, 1105, []), (1105, .iadd, 1106, []), (1106, .iaload, 1107, []), (1107, .invokevirtual 92, 1110, [10, 315, 13, 8, 7]), (1110, .if_icmp .eq 811, 1113, []), (1113, .iconst 0, 1114, []), (1114, .ireturn, 1115, [4]), (1921, .iinc 3 8, 1924, []), (1924, .goto (-1906), 1927, [])] := dk_ck (by decide +kernel)
set_option maxRecDepth 4096 in
theorem w_Law_law_1008 {nl : Bool} {Ln : Nat} {xs : Nat → Int32} {d : Nat} {x1 : Option Nat} {x2 : Option Nat} {x3 : Int32} {σ : am_S} {F : Bool → am_S → Prop} (h : ((am_kd σ 999).1 = 0) ∧ (0 ≤ (x3 + (1 : Int32)).toInt) ∧ ((x3 + (1 : Int32)).toInt < am_rl (am_tz (TT nl Ln xs)) 999) ∧ ((am_kd σ 999).1 = 0) ∧ (0 ≤ (x3 + (2 : Int32)).toInt) ∧ ((x3 + (2 : Int32)).toInt < am_rl (am_tz (TT nl Ln xs)) 999) ∧ ((am_kd σ 999).1 = 0) ∧ (0 ≤ (x3 + (3 : Int32)).toInt) ∧ ((x3 + (3 : Int32)).toInt < am_rl (am_tz (TT nl Ln xs)) 999) ∧ ((am_kd σ 999).1 = 0) ∧ (0 ≤ (x3 + (4 : Int32)).toInt) ∧ ((x3 + (4 : Int32)).toInt < am_rl (am_tz (TT nl Ln xs)) 999) ∧ ((am_kd σ 999).1 = 0) ∧ (0 ≤ (x3 + (5 : Int32)).toInt) ∧ ((x3 + (5 : Int32)).toInt < am_rl (am_tz (TT nl Ln xs)) 999) ∧ ((am_kd σ 999).1 = 0) ∧ (0 ≤ (x3 + (6 : Int32)).toInt) ∧ ((x3 + (6 : Int32)).toInt < am_rl (am_tz (TT nl Ln xs)) 999) ∧ ((am_kd σ 999).1 = 0) ∧ (0 ≤ (x3 + (7 : Int32)).toInt) ∧ ((x3 + (7 : Int32)).toInt < am_rl (am_tz (TT nl Ln xs)) 999) ∧ (am_is σ x1 0) ∧ k_Co_correct nl Ln xs d (x1.getD 0) (am_rv (am_tz (TT nl Ln xs)) 999 (x3 + (1 : Int32)).toNatClampNeg) (am_rv (am_tz (TT nl Ln xs)) 999 (x3 + (2 : Int32)).toNatClampNeg) (am_rv (am_tz (TT nl Ln xs)) 999 (x3 + (3 : Int32)).toNatClampNeg) (am_rv (am_tz (TT nl Ln xs)) 999 (x3 + (4 : Int32)).toNatClampNeg) (((am_rv (am_tz (TT nl Ln xs)) 999 (x3 + (5 : Int32)).toNatClampNeg).toInt64 <<< ((32 : Int32).toInt64 &&& 63)) ||| ((am_rv (am_tz (TT nl Ln xs)) 999 (x3 + (6 : Int32)).toNatClampNeg).toInt64 &&& (4294967295 : Int64))) (am_rv (am_tz (TT nl Ln xs)) 999 (x3 + (7 : Int32)).toNatClampNeg) σ (fun a24 σ23 => am_ext σ σ23 → ((am_kd σ23 999).1 = 0) ∧ (0 ≤ (x3 + (1 : Int32)).toInt) ∧ ((x3 + (1 : Int32)).toInt < am_rl (am_tz (TT nl Ln xs)) 999) ∧ ((am_kd σ23 999).1 = 0) ∧ (0 ≤ (x3 + (2 : Int32)).toInt) ∧ ((x3 + (2 : Int32)).toInt < am_rl (am_tz (TT nl Ln xs)) 999) ∧ ((am_kd σ23 999).1 = 0) ∧ (0 ≤ (x3 + (3 : Int32)).toInt) ∧ ((x3 + (3 : Int32)).toInt < am_rl (am_tz (TT nl Ln xs)) 999) ∧ ((am_kd σ23 999).1 = 0) ∧ (0 ≤ (x3 + (4 : Int32)).toInt) ∧ ((x3 + (4 : Int32)).toInt < am_rl (am_tz (TT nl Ln xs)) 999) ∧ ((am_kd σ23 999).1 = 0) ∧ (0 ≤ (x3 + (5 : Int32)).toInt) ∧ ((x3 + (5 : Int32)).toInt < am_rl (am_tz (TT nl Ln xs)) 999) ∧ ((am_kd σ23 999).1 = 0) ∧ (0 ≤ (x3 + (6 : Int32)).toInt) ∧ ((x3 + (6 : Int32)).toInt < am_rl (am_tz (TT nl Ln xs)) 999) ∧ ((am_kd σ23 999).1 = 0) ∧ (0 ≤ (x3 + (7 : Int32)).toInt) ∧ ((x3 + (7 : Int32)).toInt < am_rl (am_tz (TT nl Ln xs)) 999) ∧ (am_is σ23 x2 12) ∧ k_Rm_correct nl Ln xs d (x2.getD 0) (am_rv (am_tz (TT nl Ln xs)) 999 (x3 + (1 : Int32)).toNatClampNeg) (am_rv (am_tz (TT nl Ln xs)) 999 (x3 + (2 : Int32)).toNatClampNeg) (am_rv (am_tz (TT nl Ln xs)) 999 (x3 + (3 : Int32)).toNatClampNeg) (am_rv (am_tz (TT nl Ln xs)) 999 (x3 + (4 : Int32)).toNatClampNeg) (((am_rv (am_tz (TT nl Ln xs)) 999 (x3 + (5 : Int32)).toNatClampNeg).toInt64 <<< ((32 : Int32).toInt64 &&& 63)) ||| ((am_rv (am_tz (TT nl Ln xs)) 999 (x3 + (6 : Int32)).toNatClampNeg).toInt64 &&& (4294967295 : Int64))) (am_rv (am_tz (TT nl Ln xs)) 999 (x3 + (7 : Int32)).toNatClampNeg) σ23 (fun a48 σ47 => am_ext σ23 σ47 → (a24 = a48 → c_Law_law_18 nl Ln xs (d + 1) x1 x2 (x3 + (8 : Int32)) σ47 F) ∧ (¬ (a24 = a48) → F false σ47)))) : c_Law_law_1008 nl Ln xs (d + 1) x1 x2 x3 σ F := by
  obtain ⟨j1008, j1009, j1010, j1011, j1012, j1013, j1014, j1015, j1016, j1017, j1018, j1019, j1020, j1021, j1022, j1023, j1024, j1025, j1026, j1027, j1028, j1029, j1030, j1031, j1032, j1033, j1034, j1035, j1037, j1038, j1039, j1040, j1042, j1043, j1044, j1045, j1048, j1049, j1050, j1051, j1052, j1054, j1055, j1056, j1059, j1060, j1061, j1062, j1063, j1064, j1065, j1066, j1067, j1068, j1069, j1070, j1071, j1072, j1073, j1074, j1075, j1076, j1077, j1078, j1079, j1080, j1081, j1082, j1083, j1084, j1085, j1086, j1088, j1089, j1090, j1091, j1093, j1094, j1095, j1096, j1099, j1100, j1101, j1102, j1103, j1105, j1106, j1107, j1110, j1113, j1114, j1921, j1924, -⟩ := P_Law_law_1008 nl Ln xs
  unfold c_Law_law_1008
  refine s_aload_n j1008 rfl rfl ?_
  refine s_aload_n j1009 rfl rfl ?_
  refine s_iload_n j1010 rfl rfl ?_
  refine s_iconst j1011 rfl kc_ic_1 ?_
  refine s_g j1012 rfl rfl rfl rfl rfl rfl ?_
  obtain ⟨ho1, h⟩ := h
  obtain ⟨ho2, h⟩ := h
  obtain ⟨ho3, h⟩ := h
  refine s_ialoadR j1013 rfl (by decide) ho1 rfl ho2 ho3 ?_
  refine s_aload_n j1014 rfl rfl ?_
  refine s_iload_n j1015 rfl rfl ?_
  refine s_iconst j1016 rfl kc_ic_2 ?_
  refine s_g j1017 rfl rfl rfl rfl rfl rfl ?_
  obtain ⟨ho4, h⟩ := h
  obtain ⟨ho5, h⟩ := h
  obtain ⟨ho6, h⟩ := h
  refine s_ialoadR j1018 rfl (by decide) ho4 rfl ho5 ho6 ?_
  refine s_aload_n j1019 rfl rfl ?_
  refine s_iload_n j1020 rfl rfl ?_
  refine s_iconst j1021 rfl kc_ic_3 ?_
  refine s_g j1022 rfl rfl rfl rfl rfl rfl ?_
  obtain ⟨ho7, h⟩ := h
  obtain ⟨ho8, h⟩ := h
  obtain ⟨ho9, h⟩ := h
  refine s_ialoadR j1023 rfl (by decide) ho7 rfl ho8 ho9 ?_
  refine s_aload_n j1024 rfl rfl ?_
  refine s_iload_n j1025 rfl rfl ?_
  refine s_iconst j1026 rfl kc_ic_4 ?_
  refine s_g j1027 rfl rfl rfl rfl rfl rfl ?_
  obtain ⟨ho10, h⟩ := h
  obtain ⟨ho11, h⟩ := h
  obtain ⟨ho12, h⟩ := h
  refine s_ialoadR j1028 rfl (by decide) ho10 rfl ho11 ho12 ?_
  refine s_aload_n j1029 rfl rfl ?_
  refine s_iload_n j1030 rfl rfl ?_
  refine s_iconst j1031 rfl kc_ic_5 ?_
  refine s_g j1032 rfl rfl rfl rfl rfl rfl ?_
  obtain ⟨ho13, h⟩ := h
  obtain ⟨ho14, h⟩ := h
  obtain ⟨ho15, h⟩ := h
  refine s_ialoadR j1033 rfl (by decide) ho13 rfl ho14 ho15 ?_
  refine s_g j1034 rfl rfl rfl rfl rfl rfl ?_
  refine s_bipush j1035 rfl kc_bi_32 ?_
  refine s_g j1037 rfl rfl rfl rfl rfl rfl ?_
  refine s_aload_n j1038 rfl rfl ?_
  refine s_iload_n j1039 rfl rfl ?_
  refine s_bipush j1040 rfl kc_bi_6 ?_
  refine s_g j1042 rfl rfl rfl rfl rfl rfl ?_
  obtain ⟨ho16, h⟩ := h
  obtain ⟨ho17, h⟩ := h
  obtain ⟨ho18, h⟩ := h
  refine s_ialoadR j1043 rfl (by decide) ho16 rfl ho17 ho18 ?_
  refine s_g j1044 rfl rfl rfl rfl rfl rfl ?_
  refine s_ldc2 j1045 rfl kc_ll_4294967295 ?_
  refine s_g j1048 rfl rfl rfl rfl rfl rfl ?_
  refine s_g j1049 rfl rfl rfl rfl rfl rfl ?_
  refine s_aload_n j1050 rfl rfl ?_
  refine s_iload_n j1051 rfl rfl ?_
  refine s_bipush j1052 rfl kc_bi_7 ?_
  refine s_g j1054 rfl rfl rfl rfl rfl rfl ?_
  obtain ⟨ho19, h⟩ := h
  obtain ⟨ho20, h⟩ := h
  obtain ⟨ho21, h⟩ := h
  refine s_ialoadR j1055 rfl (by decide) ho19 rfl ho20 ho21 ?_
  obtain ⟨ho22, h⟩ := h
  refine s_virt j1056 rfl rfl rfl rfl ho22 (by decide) (in_Co_correct _ _ _ _ _ _ _) (am_r8 rfl) (am_bI h (fun a24 σ23 h hx23 => ?_))
  replace h := h hx23
  refine s_aload_n j1059 rfl rfl ?_
  refine s_aload_n j1060 rfl rfl ?_
  refine s_iload_n j1061 rfl rfl ?_
  refine s_iconst j1062 rfl kc_ic_1 ?_
  refine s_g j1063 rfl rfl rfl rfl rfl rfl ?_
  obtain ⟨ho25, h⟩ := h
  obtain ⟨ho26, h⟩ := h
  obtain ⟨ho27, h⟩ := h
  refine s_ialoadR j1064 rfl (by decide) ho25 rfl ho26 ho27 ?_
  refine s_aload_n j1065 rfl rfl ?_
  refine s_iload_n j1066 rfl rfl ?_
  refine s_iconst j1067 rfl kc_ic_2 ?_
  refine s_g j1068 rfl rfl rfl rfl rfl rfl ?_
  obtain ⟨ho28, h⟩ := h
  obtain ⟨ho29, h⟩ := h
  obtain ⟨ho30, h⟩ := h
  refine s_ialoadR j1069 rfl (by decide) ho28 rfl ho29 ho30 ?_
  refine s_aload_n j1070 rfl rfl ?_
  refine s_iload_n j1071 rfl rfl ?_
  refine s_iconst j1072 rfl kc_ic_3 ?_
  refine s_g j1073 rfl rfl rfl rfl rfl rfl ?_
  obtain ⟨ho31, h⟩ := h
  obtain ⟨ho32, h⟩ := h
  obtain ⟨ho33, h⟩ := h
  refine s_ialoadR j1074 rfl (by decide) ho31 rfl ho32 ho33 ?_
  refine s_aload_n j1075 rfl rfl ?_
  refine s_iload_n j1076 rfl rfl ?_
  refine s_iconst j1077 rfl kc_ic_4 ?_
  refine s_g j1078 rfl rfl rfl rfl rfl rfl ?_
  obtain ⟨ho34, h⟩ := h
  obtain ⟨ho35, h⟩ := h
  obtain ⟨ho36, h⟩ := h
  refine s_ialoadR j1079 rfl (by decide) ho34 rfl ho35 ho36 ?_
  refine s_aload_n j1080 rfl rfl ?_
  refine s_iload_n j1081 rfl rfl ?_
  refine s_iconst j1082 rfl kc_ic_5 ?_
  refine s_g j1083 rfl rfl rfl rfl rfl rfl ?_
  obtain ⟨ho37, h⟩ := h
  obtain ⟨ho38, h⟩ := h
  obtain ⟨ho39, h⟩ := h
  refine s_ialoadR j1084 rfl (by decide) ho37 rfl ho38 ho39 ?_
  refine s_g j1085 rfl rfl rfl rfl rfl rfl ?_
  refine s_bipush j1086 rfl kc_bi_32 ?_
  refine s_g j1088 rfl rfl rfl rfl rfl rfl ?_
  refine s_aload_n j1089 rfl rfl ?_
  refine s_iload_n j1090 rfl rfl ?_
  refine s_bipush j1091 rfl kc_bi_6 ?_
  refine s_g j1093 rfl rfl rfl rfl rfl rfl ?_
  obtain ⟨ho40, h⟩ := h
  obtain ⟨ho41, h⟩ := h
  obtain ⟨ho42, h⟩ := h
  refine s_ialoadR j1094 rfl (by decide) ho40 rfl ho41 ho42 ?_
  refine s_g j1095 rfl rfl rfl rfl rfl rfl ?_
  refine s_ldc2 j1096 rfl kc_ll_4294967295 ?_
  refine s_g j1099 rfl rfl rfl rfl rfl rfl ?_
  refine s_g j1100 rfl rfl rfl rfl rfl rfl ?_
  refine s_aload_n j1101 rfl rfl ?_
  refine s_iload_n j1102 rfl rfl ?_
  refine s_bipush j1103 rfl kc_bi_7 ?_
  refine s_g j1105 rfl rfl rfl rfl rfl rfl ?_
  obtain ⟨ho43, h⟩ := h
  obtain ⟨ho44, h⟩ := h
  obtain ⟨ho45, h⟩ := h
  refine s_ialoadR j1106 rfl (by decide) ho43 rfl ho44 ho45 ?_
  obtain ⟨ho46, h⟩ := h
  refine s_virt j1107 rfl rfl rfl rfl ho46 (by decide) (in_Rm_correct _ _ _ _ _ _ _) (am_r8 rfl) (am_bI h (fun a48 σ47 h hx47 => ?_))
  replace h := h hx47
  refine s_ic j1110 rfl rfl am_cc_eq (fun hc49 => ?_) (fun hc49 => ?_)
  · replace h := h.1 hc49
    refine s_iinc (L' := [some (am_ov (some 999)), some (am_ov x1), some (am_ov x2), some (.int (x3 + (8 : Int32)))]) j1921 rfl rfl kc_ic_8 (am_st1_R [_, _] _ _ _ _) ?_
    refine s_goto j1924 rfl rfl ?_
    exact h
  · replace h := h.2 hc49
    refine s_iconst j1113 rfl kc_ic_0 ?_
    exact s_retZ0 j1114 rfl h
theorem P_Law_law_1115 (nl : Bool) (Ln : Nat) (xs : Nat → Int32) : am_Jl (TT nl Ln xs) 352 [(1115, .aload_n 1, 1116, []), (1116, .aload_n 0, 1117, []), (1117, .iload_n 3, 1118, []), (1118, .iconst 1, 1119, []), (1119, .iadd, 1120, []), (1120, .iaload, 1121, []), (1121, .aload_n 0, 1122, []), (1122, .iload_n 3, 1123, []), (1123, .iconst 2, 1124, []), (1124, .iadd, 1125, []), (1125, .iaload, 1126, []), (1126, .aload_n 0, 1127, []), (1127, .iload_n 3, 1128, []), (1128, .iconst 3, 1129, []), (1129, .iadd, 1130, []), (1130, .iaload, 1131, []), (1131, .aload_n 0, 1132, []), (1132, .iload_n 3, 1133, []), (1133, .iconst 4, 1134, []), (1134, .iadd, 1135, []), (1135, .iaload, 1136, []), (1136, .i2l, 1137, []), (1137, .bipush 32, 1139, []), (1139, .lshl, 1140, []), (1140, .aload_n 0, 1141, []), (1141, .iload_n 3, 1142, []), (1142, .iconst 5, 1143, []), (1143, .iadd, 1144, []), (1144, .iaload, 1145, []), (1145, .i2l, 1146, []), (1146, .ldc2_w 33, 1149, [6, 4294967295]), (1149, .land, 1150, []), (1150, .lor, 1151, []), (1151, .invokevirtual 93, 1154, [10, 144, 1, 6, 5]), (1154, .aload_n 2, 1155, []), (1155, .aload_n 0, 1156, []), (1156, .iload_n 3, 1157, []), (1157, .iconst 1, 1158, []), (1158, .iadd, 1159, []), (1159, .iaload, 1160, []), (1160, .aload_n 0, 1161, []), (1161, .iload_n 3, 1162, []), (1162, .iconst 2, 1163, []), (1163, .iadd, 1164, []), (1164, .iaload, 1165, []), (1165, .aload_n 0, 1166, []), (1166, .iload_n 3, 1167, []), (1167, .iconst 3, 1168, []), (1168, .iadd, 1169, []), (1169, .iaload, 1170, []), (1170, .aload_n 0, 1171, []), (1171, .iload_n 3, 1172, []), (1172, .iconst 4, 1173, []), (1173, .iadd, 1174, []), (1174, .iaload, 1175, []), (1175, .i2l, 1176, []), (1176, .bipush 32, 1178, []), (1178, .lshl, 1179, []), (1179, .aload_n 0, 1180, []), (1180, .iload_n 3, 1181, []), (1181, .iconst 5, 1182, []), (1182, .iadd, 1183, []), (1183, .iaload, 1184, []), (1184, .i2l, 1185, []), (1185, .ldc2_w 33, 1188, [6, 4294967295]), (1188, .land, 1189, []), (1189, .lor, 1190, []), (1190, .invokevirtual 96, 1193, [10, 316, 13, 6, 5]), (1193, .if_icmp .eq 728, 1196, []), (1196, .iconst 0, 1197, []), (1197, .ireturn, 1198, [4]), (1921, .iinc 3 8, 1924, []), (1924, .goto (-1906), 1927, [])] := dk_ck (by decide +kernel)
set_option maxRecDepth 4096 in
theorem w_Law_law_1115 {nl : Bool} {Ln : Nat} {xs : Nat → Int32} {d : Nat} {x1 : Option Nat} {x2 : Option Nat} {x3 : Int32} {σ : am_S} {F : Bool → am_S → Prop} (h : ((am_kd σ 999).1 = 0) ∧ (0 ≤ (x3 + (1 : Int32)).toInt) ∧ ((x3 + (1 : Int32)).toInt < am_rl (am_tz (TT nl Ln xs)) 999) ∧ ((am_kd σ 999).1 = 0) ∧ (0 ≤ (x3 + (2 : Int32)).toInt) ∧ ((x3 + (2 : Int32)).toInt < am_rl (am_tz (TT nl Ln xs)) 999) ∧ ((am_kd σ 999).1 = 0) ∧ (0 ≤ (x3 + (3 : Int32)).toInt) ∧ ((x3 + (3 : Int32)).toInt < am_rl (am_tz (TT nl Ln xs)) 999) ∧ ((am_kd σ 999).1 = 0) ∧ (0 ≤ (x3 + (4 : Int32)).toInt) ∧ ((x3 + (4 : Int32)).toInt < am_rl (am_tz (TT nl Ln xs)) 999) ∧ ((am_kd σ 999).1 = 0) ∧ (0 ≤ (x3 + (5 : Int32)).toInt) ∧ ((x3 + (5 : Int32)).toInt < am_rl (am_tz (TT nl Ln xs)) 999) ∧ (am_is σ x1 0) ∧ k_Co_share nl Ln xs d (x1.getD 0) (am_rv (am_tz (TT nl Ln xs)) 999 (x3 + (1 : Int32)).toNatClampNeg) (am_rv (am_tz (TT nl Ln xs)) 999 (x3 + (2 : Int32)).toNatClampNeg) (am_rv (am_tz (TT nl Ln xs)) 999 (x3 + (3 : Int32)).toNatClampNeg) (((am_rv (am_tz (TT nl Ln xs)) 999 (x3 + (4 : Int32)).toNatClampNeg).toInt64 <<< ((32 : Int32).toInt64 &&& 63)) ||| ((am_rv (am_tz (TT nl Ln xs)) 999 (x3 + (5 : Int32)).toNatClampNeg).toInt64 &&& (4294967295 : Int64))) σ (fun a18 σ17 => am_ext σ σ17 → ((am_kd σ17 999).1 = 0) ∧ (0 ≤ (x3 + (1 : Int32)).toInt) ∧ ((x3 + (1 : Int32)).toInt < am_rl (am_tz (TT nl Ln xs)) 999) ∧ ((am_kd σ17 999).1 = 0) ∧ (0 ≤ (x3 + (2 : Int32)).toInt) ∧ ((x3 + (2 : Int32)).toInt < am_rl (am_tz (TT nl Ln xs)) 999) ∧ ((am_kd σ17 999).1 = 0) ∧ (0 ≤ (x3 + (3 : Int32)).toInt) ∧ ((x3 + (3 : Int32)).toInt < am_rl (am_tz (TT nl Ln xs)) 999) ∧ ((am_kd σ17 999).1 = 0) ∧ (0 ≤ (x3 + (4 : Int32)).toInt) ∧ ((x3 + (4 : Int32)).toInt < am_rl (am_tz (TT nl Ln xs)) 999) ∧ ((am_kd σ17 999).1 = 0) ∧ (0 ≤ (x3 + (5 : Int32)).toInt) ∧ ((x3 + (5 : Int32)).toInt < am_rl (am_tz (TT nl Ln xs)) 999) ∧ (am_is σ17 x2 12) ∧ k_Rm_share nl Ln xs d (x2.getD 0) (am_rv (am_tz (TT nl Ln xs)) 999 (x3 + (1 : Int32)).toNatClampNeg) (am_rv (am_tz (TT nl Ln xs)) 999 (x3 + (2 : Int32)).toNatClampNeg) (am_rv (am_tz (TT nl Ln xs)) 999 (x3 + (3 : Int32)).toNatClampNeg) (((am_rv (am_tz (TT nl Ln xs)) 999 (x3 + (4 : Int32)).toNatClampNeg).toInt64 <<< ((32 : Int32).toInt64 &&& 63)) ||| ((am_rv (am_tz (TT nl Ln xs)) 999 (x3 + (5 : Int32)).toNatClampNeg).toInt64 &&& (4294967295 : Int64))) σ17 (fun a36 σ35 => am_ext σ17 σ35 → (a18 = a36 → c_Law_law_18 nl Ln xs (d + 1) x1 x2 (x3 + (8 : Int32)) σ35 F) ∧ (¬ (a18 = a36) → F false σ35)))) : c_Law_law_1115 nl Ln xs (d + 1) x1 x2 x3 σ F := by
  obtain ⟨j1115, j1116, j1117, j1118, j1119, j1120, j1121, j1122, j1123, j1124, j1125, j1126, j1127, j1128, j1129, j1130, j1131, j1132, j1133, j1134, j1135, j1136, j1137, j1139, j1140, j1141, j1142, j1143, j1144, j1145, j1146, j1149, j1150, j1151, j1154, j1155, j1156, j1157, j1158, j1159, j1160, j1161, j1162, j1163, j1164, j1165, j1166, j1167, j1168, j1169, j1170, j1171, j1172, j1173, j1174, j1175, j1176, j1178, j1179, j1180, j1181, j1182, j1183, j1184, j1185, j1188, j1189, j1190, j1193, j1196, j1197, j1921, j1924, -⟩ := P_Law_law_1115 nl Ln xs
  unfold c_Law_law_1115
  refine s_aload_n j1115 rfl rfl ?_
  refine s_aload_n j1116 rfl rfl ?_
  refine s_iload_n j1117 rfl rfl ?_
  refine s_iconst j1118 rfl kc_ic_1 ?_
  refine s_g j1119 rfl rfl rfl rfl rfl rfl ?_
  obtain ⟨ho1, h⟩ := h
  obtain ⟨ho2, h⟩ := h
  obtain ⟨ho3, h⟩ := h
  refine s_ialoadR j1120 rfl (by decide) ho1 rfl ho2 ho3 ?_
  refine s_aload_n j1121 rfl rfl ?_
  refine s_iload_n j1122 rfl rfl ?_
  refine s_iconst j1123 rfl kc_ic_2 ?_
  refine s_g j1124 rfl rfl rfl rfl rfl rfl ?_
  obtain ⟨ho4, h⟩ := h
  obtain ⟨ho5, h⟩ := h
  obtain ⟨ho6, h⟩ := h
  refine s_ialoadR j1125 rfl (by decide) ho4 rfl ho5 ho6 ?_
  refine s_aload_n j1126 rfl rfl ?_
  refine s_iload_n j1127 rfl rfl ?_
  refine s_iconst j1128 rfl kc_ic_3 ?_
  refine s_g j1129 rfl rfl rfl rfl rfl rfl ?_
  obtain ⟨ho7, h⟩ := h
  obtain ⟨ho8, h⟩ := h
  obtain ⟨ho9, h⟩ := h
  refine s_ialoadR j1130 rfl (by decide) ho7 rfl ho8 ho9 ?_
  refine s_aload_n j1131 rfl rfl ?_
  refine s_iload_n j1132 rfl rfl ?_
  refine s_iconst j1133 rfl kc_ic_4 ?_
  refine s_g j1134 rfl rfl rfl rfl rfl rfl ?_
  obtain ⟨ho10, h⟩ := h
  obtain ⟨ho11, h⟩ := h
  obtain ⟨ho12, h⟩ := h
  refine s_ialoadR j1135 rfl (by decide) ho10 rfl ho11 ho12 ?_
  refine s_g j1136 rfl rfl rfl rfl rfl rfl ?_
  refine s_bipush j1137 rfl kc_bi_32 ?_
  refine s_g j1139 rfl rfl rfl rfl rfl rfl ?_
  refine s_aload_n j1140 rfl rfl ?_
  refine s_iload_n j1141 rfl rfl ?_
  refine s_iconst j1142 rfl kc_ic_5 ?_
  refine s_g j1143 rfl rfl rfl rfl rfl rfl ?_
  obtain ⟨ho13, h⟩ := h
  obtain ⟨ho14, h⟩ := h
  obtain ⟨ho15, h⟩ := h
  refine s_ialoadR j1144 rfl (by decide) ho13 rfl ho14 ho15 ?_
  refine s_g j1145 rfl rfl rfl rfl rfl rfl ?_
  refine s_ldc2 j1146 rfl kc_ll_4294967295 ?_
  refine s_g j1149 rfl rfl rfl rfl rfl rfl ?_
  refine s_g j1150 rfl rfl rfl rfl rfl rfl ?_
  obtain ⟨ho16, h⟩ := h
  refine s_virt j1151 rfl rfl rfl rfl ho16 (by decide) (in_Co_share _ _ _ _ _) (am_r8 rfl) (am_bI h (fun a18 σ17 h hx17 => ?_))
  replace h := h hx17
  refine s_aload_n j1154 rfl rfl ?_
  refine s_aload_n j1155 rfl rfl ?_
  refine s_iload_n j1156 rfl rfl ?_
  refine s_iconst j1157 rfl kc_ic_1 ?_
  refine s_g j1158 rfl rfl rfl rfl rfl rfl ?_
  obtain ⟨ho19, h⟩ := h
  obtain ⟨ho20, h⟩ := h
  obtain ⟨ho21, h⟩ := h
  refine s_ialoadR j1159 rfl (by decide) ho19 rfl ho20 ho21 ?_
  refine s_aload_n j1160 rfl rfl ?_
  refine s_iload_n j1161 rfl rfl ?_
  refine s_iconst j1162 rfl kc_ic_2 ?_
  refine s_g j1163 rfl rfl rfl rfl rfl rfl ?_
  obtain ⟨ho22, h⟩ := h
  obtain ⟨ho23, h⟩ := h
  obtain ⟨ho24, h⟩ := h
  refine s_ialoadR j1164 rfl (by decide) ho22 rfl ho23 ho24 ?_
  refine s_aload_n j1165 rfl rfl ?_
  refine s_iload_n j1166 rfl rfl ?_
  refine s_iconst j1167 rfl kc_ic_3 ?_
  refine s_g j1168 rfl rfl rfl rfl rfl rfl ?_
  obtain ⟨ho25, h⟩ := h
  obtain ⟨ho26, h⟩ := h
  obtain ⟨ho27, h⟩ := h
  refine s_ialoadR j1169 rfl (by decide) ho25 rfl ho26 ho27 ?_
  refine s_aload_n j1170 rfl rfl ?_
  refine s_iload_n j1171 rfl rfl ?_
  refine s_iconst j1172 rfl kc_ic_4 ?_
  refine s_g j1173 rfl rfl rfl rfl rfl rfl ?_
  obtain ⟨ho28, h⟩ := h
  obtain ⟨ho29, h⟩ := h
  obtain ⟨ho30, h⟩ := h
  refine s_ialoadR j1174 rfl (by decide) ho28 rfl ho29 ho30 ?_
  refine s_g j1175 rfl rfl rfl rfl rfl rfl ?_
  refine s_bipush j1176 rfl kc_bi_32 ?_
  refine s_g j1178 rfl rfl rfl rfl rfl rfl ?_
  refine s_aload_n j1179 rfl rfl ?_
  refine s_iload_n j1180 rfl rfl ?_
  refine s_iconst j1181 rfl kc_ic_5 ?_
  refine s_g j1182 rfl rfl rfl rfl rfl rfl ?_
  obtain ⟨ho31, h⟩ := h
  obtain ⟨ho32, h⟩ := h
  obtain ⟨ho33, h⟩ := h
  refine s_ialoadR j1183 rfl (by decide) ho31 rfl ho32 ho33 ?_
  refine s_g j1184 rfl rfl rfl rfl rfl rfl ?_
  refine s_ldc2 j1185 rfl kc_ll_4294967295 ?_
  refine s_g j1188 rfl rfl rfl rfl rfl rfl ?_
  refine s_g j1189 rfl rfl rfl rfl rfl rfl ?_
  obtain ⟨ho34, h⟩ := h
  refine s_virt j1190 rfl rfl rfl rfl ho34 (by decide) (in_Rm_share _ _ _ _ _) (am_r8 rfl) (am_bI h (fun a36 σ35 h hx35 => ?_))
  replace h := h hx35
  refine s_ic j1193 rfl rfl am_cc_eq (fun hc37 => ?_) (fun hc37 => ?_)
  · replace h := h.1 hc37
    refine s_iinc (L' := [some (am_ov (some 999)), some (am_ov x1), some (am_ov x2), some (.int (x3 + (8 : Int32)))]) j1921 rfl rfl kc_ic_8 (am_st1_R [_, _] _ _ _ _) ?_
    refine s_goto j1924 rfl rfl ?_
    exact h
  · replace h := h.2 hc37
    refine s_iconst j1196 rfl kc_ic_0 ?_
    exact s_retZ0 j1197 rfl h
theorem P_Law_law_1198 (nl : Bool) (Ln : Nat) (xs : Nat → Int32) : am_Jl (TT nl Ln xs) 352 [(1198, .aload_n 1, 1199, []), (1199, .aload_n 0, 1200, []), (1200, .iload_n 3, 1201, []), (1201, .iconst 1, 1202, []), (1202, .iadd, 1203, []), (1203, .iaload, 1204, []), (1204, .aload_n 0, 1205, []), (1205, .iload_n 3, 1206, []), (1206, .iconst 2, 1207, []), (1207, .iadd, 1208, []), (1208, .iaload, 1209, []), (1209, .aload_n 0, 1210, []), (1210, .iload_n 3, 1211, []), (1211, .iconst 3, 1212, []), (1212, .iadd, 1213, []), (1213, .iaload, 1214, []), (1214, .i2l, 1215, []), (1215, .bipush 32, 1217, []), (1217, .lshl, 1218, []), (1218, .aload_n 0, 1219, []), (1219, .iload_n 3, 1220, []), (1220, .iconst 4, 1221, []), (1221, .iadd, 1222, []), (1222, .iaload, 1223, []), (1223, .i2l, 1224, []), (1224, .ldc2_w 33, 1227, [6, 4294967295]), (1227, .land, 1228, []), (1228, .lor, 1229, []), (1229, .invokevirtual 97, 1232, [10, 145, 1, 5, 4]), (1232, .aload_n 2, 1233, []), (1233, .aload_n 0, 1234, []), (1234, .iload_n 3, 1235, []), (1235, .iconst 1, 1236, []), (1236, .iadd, 1237, []), (1237, .iaload, 1238, []), (1238, .aload_n 0, 1239, []), (1239, .iload_n 3, 1240, []), (1240, .iconst 2, 1241, []), (1241, .iadd, 1242, []), (1242, .iaload, 1243, []), (1243, .aload_n 0, 1244, []), (1244, .iload_n 3, 1245, []), (1245, .iconst 3, 1246, []), (1246, .iadd, 1247, []), (1247, .iaload, 1248, []), (1248, .i2l, 1249, []), (1249, .bipush 32, 1251, []), (1251, .lshl, 1252, []), (1252, .aload_n 0, 1253, []), (1253, .iload_n 3, 1254, []), (1254, .iconst 4, 1255, []), (1255, .iadd, 1256, []), (1256, .iaload, 1257, []), (1257, .i2l, 1258, []), (1258, .ldc2_w 33, 1261, [6, 4294967295]), (1261, .land, 1262, []), (1262, .lor, 1263, []), (1263, .invokevirtual 100, 1266, [10, 317, 13, 5, 4]), (1266, .if_icmp .eq 655, 1269, []), (1269, .iconst 0, 1270, []), (1270, .ireturn, 1271, [4]), (1921, .iinc 3 8, 1924, []), (1924, .goto (-1906), 1927, [])] := dk_ck (by decide +kernel)
set_option maxRecDepth 4096 in
theorem w_Law_law_1198 {nl : Bool} {Ln : Nat} {xs : Nat → Int32} {d : Nat} {x1 : Option Nat} {x2 : Option Nat} {x3 : Int32} {σ : am_S} {F : Bool → am_S → Prop} (h : ((am_kd σ 999).1 = 0) ∧ (0 ≤ (x3 + (1 : Int32)).toInt) ∧ ((x3 + (1 : Int32)).toInt < am_rl (am_tz (TT nl Ln xs)) 999) ∧ ((am_kd σ 999).1 = 0) ∧ (0 ≤ (x3 + (2 : Int32)).toInt) ∧ ((x3 + (2 : Int32)).toInt < am_rl (am_tz (TT nl Ln xs)) 999) ∧ ((am_kd σ 999).1 = 0) ∧ (0 ≤ (x3 + (3 : Int32)).toInt) ∧ ((x3 + (3 : Int32)).toInt < am_rl (am_tz (TT nl Ln xs)) 999) ∧ ((am_kd σ 999).1 = 0) ∧ (0 ≤ (x3 + (4 : Int32)).toInt) ∧ ((x3 + (4 : Int32)).toInt < am_rl (am_tz (TT nl Ln xs)) 999) ∧ (am_is σ x1 0) ∧ k_Co_salvage nl Ln xs d (x1.getD 0) (am_rv (am_tz (TT nl Ln xs)) 999 (x3 + (1 : Int32)).toNatClampNeg) (am_rv (am_tz (TT nl Ln xs)) 999 (x3 + (2 : Int32)).toNatClampNeg) (((am_rv (am_tz (TT nl Ln xs)) 999 (x3 + (3 : Int32)).toNatClampNeg).toInt64 <<< ((32 : Int32).toInt64 &&& 63)) ||| ((am_rv (am_tz (TT nl Ln xs)) 999 (x3 + (4 : Int32)).toNatClampNeg).toInt64 &&& (4294967295 : Int64))) σ (fun a15 σ14 => am_ext σ σ14 → ((am_kd σ14 999).1 = 0) ∧ (0 ≤ (x3 + (1 : Int32)).toInt) ∧ ((x3 + (1 : Int32)).toInt < am_rl (am_tz (TT nl Ln xs)) 999) ∧ ((am_kd σ14 999).1 = 0) ∧ (0 ≤ (x3 + (2 : Int32)).toInt) ∧ ((x3 + (2 : Int32)).toInt < am_rl (am_tz (TT nl Ln xs)) 999) ∧ ((am_kd σ14 999).1 = 0) ∧ (0 ≤ (x3 + (3 : Int32)).toInt) ∧ ((x3 + (3 : Int32)).toInt < am_rl (am_tz (TT nl Ln xs)) 999) ∧ ((am_kd σ14 999).1 = 0) ∧ (0 ≤ (x3 + (4 : Int32)).toInt) ∧ ((x3 + (4 : Int32)).toInt < am_rl (am_tz (TT nl Ln xs)) 999) ∧ (am_is σ14 x2 12) ∧ k_Rm_salvage nl Ln xs d (x2.getD 0) (am_rv (am_tz (TT nl Ln xs)) 999 (x3 + (1 : Int32)).toNatClampNeg) (am_rv (am_tz (TT nl Ln xs)) 999 (x3 + (2 : Int32)).toNatClampNeg) (((am_rv (am_tz (TT nl Ln xs)) 999 (x3 + (3 : Int32)).toNatClampNeg).toInt64 <<< ((32 : Int32).toInt64 &&& 63)) ||| ((am_rv (am_tz (TT nl Ln xs)) 999 (x3 + (4 : Int32)).toNatClampNeg).toInt64 &&& (4294967295 : Int64))) σ14 (fun a30 σ29 => am_ext σ14 σ29 → (a15 = a30 → c_Law_law_18 nl Ln xs (d + 1) x1 x2 (x3 + (8 : Int32)) σ29 F) ∧ (¬ (a15 = a30) → F false σ29)))) : c_Law_law_1198 nl Ln xs (d + 1) x1 x2 x3 σ F := by
  obtain ⟨j1198, j1199, j1200, j1201, j1202, j1203, j1204, j1205, j1206, j1207, j1208, j1209, j1210, j1211, j1212, j1213, j1214, j1215, j1217, j1218, j1219, j1220, j1221, j1222, j1223, j1224, j1227, j1228, j1229, j1232, j1233, j1234, j1235, j1236, j1237, j1238, j1239, j1240, j1241, j1242, j1243, j1244, j1245, j1246, j1247, j1248, j1249, j1251, j1252, j1253, j1254, j1255, j1256, j1257, j1258, j1261, j1262, j1263, j1266, j1269, j1270, j1921, j1924, -⟩ := P_Law_law_1198 nl Ln xs
  unfold c_Law_law_1198
  refine s_aload_n j1198 rfl rfl ?_
  refine s_aload_n j1199 rfl rfl ?_
  refine s_iload_n j1200 rfl rfl ?_
  refine s_iconst j1201 rfl kc_ic_1 ?_
  refine s_g j1202 rfl rfl rfl rfl rfl rfl ?_
  obtain ⟨ho1, h⟩ := h
  obtain ⟨ho2, h⟩ := h
  obtain ⟨ho3, h⟩ := h
  refine s_ialoadR j1203 rfl (by decide) ho1 rfl ho2 ho3 ?_
  refine s_aload_n j1204 rfl rfl ?_
  refine s_iload_n j1205 rfl rfl ?_
  refine s_iconst j1206 rfl kc_ic_2 ?_
  refine s_g j1207 rfl rfl rfl rfl rfl rfl ?_
  obtain ⟨ho4, h⟩ := h
  obtain ⟨ho5, h⟩ := h
  obtain ⟨ho6, h⟩ := h
  refine s_ialoadR j1208 rfl (by decide) ho4 rfl ho5 ho6 ?_
  refine s_aload_n j1209 rfl rfl ?_
  refine s_iload_n j1210 rfl rfl ?_
  refine s_iconst j1211 rfl kc_ic_3 ?_
  refine s_g j1212 rfl rfl rfl rfl rfl rfl ?_
  obtain ⟨ho7, h⟩ := h
  obtain ⟨ho8, h⟩ := h
  obtain ⟨ho9, h⟩ := h
  refine s_ialoadR j1213 rfl (by decide) ho7 rfl ho8 ho9 ?_
  refine s_g j1214 rfl rfl rfl rfl rfl rfl ?_
  refine s_bipush j1215 rfl kc_bi_32 ?_
  refine s_g j1217 rfl rfl rfl rfl rfl rfl ?_
  refine s_aload_n j1218 rfl rfl ?_
  refine s_iload_n j1219 rfl rfl ?_
  refine s_iconst j1220 rfl kc_ic_4 ?_
  refine s_g j1221 rfl rfl rfl rfl rfl rfl ?_
  obtain ⟨ho10, h⟩ := h
  obtain ⟨ho11, h⟩ := h
  obtain ⟨ho12, h⟩ := h
  refine s_ialoadR j1222 rfl (by decide) ho10 rfl ho11 ho12 ?_
  refine s_g j1223 rfl rfl rfl rfl rfl rfl ?_
  refine s_ldc2 j1224 rfl kc_ll_4294967295 ?_
  refine s_g j1227 rfl rfl rfl rfl rfl rfl ?_
  refine s_g j1228 rfl rfl rfl rfl rfl rfl ?_
  obtain ⟨ho13, h⟩ := h
  refine s_virt j1229 rfl rfl rfl rfl ho13 (by decide) (in_Co_salvage _ _ _ _) (am_r8 rfl) (am_bI h (fun a15 σ14 h hx14 => ?_))
  replace h := h hx14
  refine s_aload_n j1232 rfl rfl ?_
  refine s_aload_n j1233 rfl rfl ?_
  refine s_iload_n j1234 rfl rfl ?_
  refine s_iconst j1235 rfl kc_ic_1 ?_
  refine s_g j1236 rfl rfl rfl rfl rfl rfl ?_
  obtain ⟨ho16, h⟩ := h
  obtain ⟨ho17, h⟩ := h
  obtain ⟨ho18, h⟩ := h
  refine s_ialoadR j1237 rfl (by decide) ho16 rfl ho17 ho18 ?_
  refine s_aload_n j1238 rfl rfl ?_
  refine s_iload_n j1239 rfl rfl ?_
  refine s_iconst j1240 rfl kc_ic_2 ?_
  refine s_g j1241 rfl rfl rfl rfl rfl rfl ?_
  obtain ⟨ho19, h⟩ := h
  obtain ⟨ho20, h⟩ := h
  obtain ⟨ho21, h⟩ := h
  refine s_ialoadR j1242 rfl (by decide) ho19 rfl ho20 ho21 ?_
  refine s_aload_n j1243 rfl rfl ?_
  refine s_iload_n j1244 rfl rfl ?_
  refine s_iconst j1245 rfl kc_ic_3 ?_
  refine s_g j1246 rfl rfl rfl rfl rfl rfl ?_
  obtain ⟨ho22, h⟩ := h
  obtain ⟨ho23, h⟩ := h
  obtain ⟨ho24, h⟩ := h
  refine s_ialoadR j1247 rfl (by decide) ho22 rfl ho23 ho24 ?_
  refine s_g j1248 rfl rfl rfl rfl rfl rfl ?_
  refine s_bipush j1249 rfl kc_bi_32 ?_
  refine s_g j1251 rfl rfl rfl rfl rfl rfl ?_
  refine s_aload_n j1252 rfl rfl ?_
  refine s_iload_n j1253 rfl rfl ?_
  refine s_iconst j1254 rfl kc_ic_4 ?_
  refine s_g j1255 rfl rfl rfl rfl rfl rfl ?_
  obtain ⟨ho25, h⟩ := h
  obtain ⟨ho26, h⟩ := h
  obtain ⟨ho27, h⟩ := h
  refine s_ialoadR j1256 rfl (by decide) ho25 rfl ho26 ho27 ?_
  refine s_g j1257 rfl rfl rfl rfl rfl rfl ?_
  refine s_ldc2 j1258 rfl kc_ll_4294967295 ?_
  refine s_g j1261 rfl rfl rfl rfl rfl rfl ?_
  refine s_g j1262 rfl rfl rfl rfl rfl rfl ?_
  obtain ⟨ho28, h⟩ := h
  refine s_virt j1263 rfl rfl rfl rfl ho28 (by decide) (in_Rm_salvage _ _ _ _) (am_r8 rfl) (am_bI h (fun a30 σ29 h hx29 => ?_))
  replace h := h hx29
  refine s_ic j1266 rfl rfl am_cc_eq (fun hc31 => ?_) (fun hc31 => ?_)
  · replace h := h.1 hc31
    refine s_iinc (L' := [some (am_ov (some 999)), some (am_ov x1), some (am_ov x2), some (.int (x3 + (8 : Int32)))]) j1921 rfl rfl kc_ic_8 (am_st1_R [_, _] _ _ _ _) ?_
    refine s_goto j1924 rfl rfl ?_
    exact h
  · replace h := h.2 hc31
    refine s_iconst j1269 rfl kc_ic_0 ?_
    exact s_retZ0 j1270 rfl h
theorem P_Law_law_1271 (nl : Bool) (Ln : Nat) (xs : Nat → Int32) : am_Jl (TT nl Ln xs) 352 [(1271, .aload_n 1, 1272, []), (1272, .aload_n 0, 1273, []), (1273, .iload_n 3, 1274, []), (1274, .iconst 1, 1275, []), (1275, .iadd, 1276, []), (1276, .iaload, 1277, []), (1277, .aload_n 0, 1278, []), (1278, .iload_n 3, 1279, []), (1279, .iconst 2, 1280, []), (1280, .iadd, 1281, []), (1281, .iaload, 1282, []), (1282, .aload_n 0, 1283, []), (1283, .iload_n 3, 1284, []), (1284, .iconst 3, 1285, []), (1285, .iadd, 1286, []), (1286, .iaload, 1287, []), (1287, .i2l, 1288, []), (1288, .bipush 32, 1290, []), (1290, .lshl, 1291, []), (1291, .aload_n 0, 1292, []), (1292, .iload_n 3, 1293, []), (1293, .iconst 4, 1294, []), (1294, .iadd, 1295, []), (1295, .iaload, 1296, []), (1296, .i2l, 1297, []), (1297, .ldc2_w 33, 1300, [6, 4294967295]), (1300, .land, 1301, []), (1301, .lor, 1302, []), (1302, .invokevirtual 101, 1305, [10, 146, 1, 5, 4]), (1305, .aload_n 2, 1306, []), (1306, .aload_n 0, 1307, []), (1307, .iload_n 3, 1308, []), (1308, .iconst 1, 1309, []), (1309, .iadd, 1310, []), (1310, .iaload, 1311, []), (1311, .aload_n 0, 1312, []), (1312, .iload_n 3, 1313, []), (1313, .iconst 2, 1314, []), (1314, .iadd, 1315, []), (1315, .iaload, 1316, []), (1316, .aload_n 0, 1317, []), (1317, .iload_n 3, 1318, []), (1318, .iconst 3, 1319, []), (1319, .iadd, 1320, []), (1320, .iaload, 1321, []), (1321, .i2l, 1322, []), (1322, .bipush 32, 1324, []), (1324, .lshl, 1325, []), (1325, .aload_n 0, 1326, []), (1326, .iload_n 3, 1327, []), (1327, .iconst 4, 1328, []), (1328, .iadd, 1329, []), (1329, .iaload, 1330, []), (1330, .i2l, 1331, []), (1331, .ldc2_w 33, 1334, [6, 4294967295]), (1334, .land, 1335, []), (1335, .lor, 1336, []), (1336, .invokevirtual 104, 1339, [10, 318, 13, 5, 4]), (1339, .if_icmp .eq 582, 1342, []), (1342, .iconst 0, 1343, []), (1343, .ireturn, 1344, [4]), (1921, .iinc 3 8, 1924, []), (1924, .goto (-1906), 1927, [])] := dk_ck (by decide +kernel)
set_option maxRecDepth 4096 in
theorem w_Law_law_1271 {nl : Bool} {Ln : Nat} {xs : Nat → Int32} {d : Nat} {x1 : Option Nat} {x2 : Option Nat} {x3 : Int32} {σ : am_S} {F : Bool → am_S → Prop} (h : ((am_kd σ 999).1 = 0) ∧ (0 ≤ (x3 + (1 : Int32)).toInt) ∧ ((x3 + (1 : Int32)).toInt < am_rl (am_tz (TT nl Ln xs)) 999) ∧ ((am_kd σ 999).1 = 0) ∧ (0 ≤ (x3 + (2 : Int32)).toInt) ∧ ((x3 + (2 : Int32)).toInt < am_rl (am_tz (TT nl Ln xs)) 999) ∧ ((am_kd σ 999).1 = 0) ∧ (0 ≤ (x3 + (3 : Int32)).toInt) ∧ ((x3 + (3 : Int32)).toInt < am_rl (am_tz (TT nl Ln xs)) 999) ∧ ((am_kd σ 999).1 = 0) ∧ (0 ≤ (x3 + (4 : Int32)).toInt) ∧ ((x3 + (4 : Int32)).toInt < am_rl (am_tz (TT nl Ln xs)) 999) ∧ (am_is σ x1 0) ∧ k_Co_recourse nl Ln xs d (x1.getD 0) (am_rv (am_tz (TT nl Ln xs)) 999 (x3 + (1 : Int32)).toNatClampNeg) (am_rv (am_tz (TT nl Ln xs)) 999 (x3 + (2 : Int32)).toNatClampNeg) (((am_rv (am_tz (TT nl Ln xs)) 999 (x3 + (3 : Int32)).toNatClampNeg).toInt64 <<< ((32 : Int32).toInt64 &&& 63)) ||| ((am_rv (am_tz (TT nl Ln xs)) 999 (x3 + (4 : Int32)).toNatClampNeg).toInt64 &&& (4294967295 : Int64))) σ (fun a15 σ14 => am_ext σ σ14 → ((am_kd σ14 999).1 = 0) ∧ (0 ≤ (x3 + (1 : Int32)).toInt) ∧ ((x3 + (1 : Int32)).toInt < am_rl (am_tz (TT nl Ln xs)) 999) ∧ ((am_kd σ14 999).1 = 0) ∧ (0 ≤ (x3 + (2 : Int32)).toInt) ∧ ((x3 + (2 : Int32)).toInt < am_rl (am_tz (TT nl Ln xs)) 999) ∧ ((am_kd σ14 999).1 = 0) ∧ (0 ≤ (x3 + (3 : Int32)).toInt) ∧ ((x3 + (3 : Int32)).toInt < am_rl (am_tz (TT nl Ln xs)) 999) ∧ ((am_kd σ14 999).1 = 0) ∧ (0 ≤ (x3 + (4 : Int32)).toInt) ∧ ((x3 + (4 : Int32)).toInt < am_rl (am_tz (TT nl Ln xs)) 999) ∧ (am_is σ14 x2 12) ∧ k_Rm_recourse nl Ln xs d (x2.getD 0) (am_rv (am_tz (TT nl Ln xs)) 999 (x3 + (1 : Int32)).toNatClampNeg) (am_rv (am_tz (TT nl Ln xs)) 999 (x3 + (2 : Int32)).toNatClampNeg) (((am_rv (am_tz (TT nl Ln xs)) 999 (x3 + (3 : Int32)).toNatClampNeg).toInt64 <<< ((32 : Int32).toInt64 &&& 63)) ||| ((am_rv (am_tz (TT nl Ln xs)) 999 (x3 + (4 : Int32)).toNatClampNeg).toInt64 &&& (4294967295 : Int64))) σ14 (fun a30 σ29 => am_ext σ14 σ29 → (a15 = a30 → c_Law_law_18 nl Ln xs (d + 1) x1 x2 (x3 + (8 : Int32)) σ29 F) ∧ (¬ (a15 = a30) → F false σ29)))) : c_Law_law_1271 nl Ln xs (d + 1) x1 x2 x3 σ F := by
  obtain ⟨j1271, j1272, j1273, j1274, j1275, j1276, j1277, j1278, j1279, j1280, j1281, j1282, j1283, j1284, j1285, j1286, j1287, j1288, j1290, j1291, j1292, j1293, j1294, j1295, j1296, j1297, j1300, j1301, j1302, j1305, j1306, j1307, j1308, j1309, j1310, j1311, j1312, j1313, j1314, j1315, j1316, j1317, j1318, j1319, j1320, j1321, j1322, j1324, j1325, j1326, j1327, j1328, j1329, j1330, j1331, j1334, j1335, j1336, j1339, j1342, j1343, j1921, j1924, -⟩ := P_Law_law_1271 nl Ln xs
  unfold c_Law_law_1271
  refine s_aload_n j1271 rfl rfl ?_
  refine s_aload_n j1272 rfl rfl ?_
  refine s_iload_n j1273 rfl rfl ?_
  refine s_iconst j1274 rfl kc_ic_1 ?_
  refine s_g j1275 rfl rfl rfl rfl rfl rfl ?_
  obtain ⟨ho1, h⟩ := h
  obtain ⟨ho2, h⟩ := h
  obtain ⟨ho3, h⟩ := h
  refine s_ialoadR j1276 rfl (by decide) ho1 rfl ho2 ho3 ?_
  refine s_aload_n j1277 rfl rfl ?_
  refine s_iload_n j1278 rfl rfl ?_
  refine s_iconst j1279 rfl kc_ic_2 ?_
  refine s_g j1280 rfl rfl rfl rfl rfl rfl ?_
  obtain ⟨ho4, h⟩ := h
  obtain ⟨ho5, h⟩ := h
  obtain ⟨ho6, h⟩ := h
  refine s_ialoadR j1281 rfl (by decide) ho4 rfl ho5 ho6 ?_
  refine s_aload_n j1282 rfl rfl ?_
  refine s_iload_n j1283 rfl rfl ?_
  refine s_iconst j1284 rfl kc_ic_3 ?_
  refine s_g j1285 rfl rfl rfl rfl rfl rfl ?_
  obtain ⟨ho7, h⟩ := h
  obtain ⟨ho8, h⟩ := h
  obtain ⟨ho9, h⟩ := h
  refine s_ialoadR j1286 rfl (by decide) ho7 rfl ho8 ho9 ?_
  refine s_g j1287 rfl rfl rfl rfl rfl rfl ?_
  refine s_bipush j1288 rfl kc_bi_32 ?_
  refine s_g j1290 rfl rfl rfl rfl rfl rfl ?_
  refine s_aload_n j1291 rfl rfl ?_
  refine s_iload_n j1292 rfl rfl ?_
  refine s_iconst j1293 rfl kc_ic_4 ?_
  refine s_g j1294 rfl rfl rfl rfl rfl rfl ?_
  obtain ⟨ho10, h⟩ := h
  obtain ⟨ho11, h⟩ := h
  obtain ⟨ho12, h⟩ := h
  refine s_ialoadR j1295 rfl (by decide) ho10 rfl ho11 ho12 ?_
  refine s_g j1296 rfl rfl rfl rfl rfl rfl ?_
  refine s_ldc2 j1297 rfl kc_ll_4294967295 ?_
  refine s_g j1300 rfl rfl rfl rfl rfl rfl ?_
  refine s_g j1301 rfl rfl rfl rfl rfl rfl ?_
  obtain ⟨ho13, h⟩ := h
  refine s_virt j1302 rfl rfl rfl rfl ho13 (by decide) (in_Co_recourse _ _ _ _) (am_r8 rfl) (am_bI h (fun a15 σ14 h hx14 => ?_))
  replace h := h hx14
  refine s_aload_n j1305 rfl rfl ?_
  refine s_aload_n j1306 rfl rfl ?_
  refine s_iload_n j1307 rfl rfl ?_
  refine s_iconst j1308 rfl kc_ic_1 ?_
  refine s_g j1309 rfl rfl rfl rfl rfl rfl ?_
  obtain ⟨ho16, h⟩ := h
  obtain ⟨ho17, h⟩ := h
  obtain ⟨ho18, h⟩ := h
  refine s_ialoadR j1310 rfl (by decide) ho16 rfl ho17 ho18 ?_
  refine s_aload_n j1311 rfl rfl ?_
  refine s_iload_n j1312 rfl rfl ?_
  refine s_iconst j1313 rfl kc_ic_2 ?_
  refine s_g j1314 rfl rfl rfl rfl rfl rfl ?_
  obtain ⟨ho19, h⟩ := h
  obtain ⟨ho20, h⟩ := h
  obtain ⟨ho21, h⟩ := h
  refine s_ialoadR j1315 rfl (by decide) ho19 rfl ho20 ho21 ?_
  refine s_aload_n j1316 rfl rfl ?_
  refine s_iload_n j1317 rfl rfl ?_
  refine s_iconst j1318 rfl kc_ic_3 ?_
  refine s_g j1319 rfl rfl rfl rfl rfl rfl ?_
  obtain ⟨ho22, h⟩ := h
  obtain ⟨ho23, h⟩ := h
  obtain ⟨ho24, h⟩ := h
  refine s_ialoadR j1320 rfl (by decide) ho22 rfl ho23 ho24 ?_
  refine s_g j1321 rfl rfl rfl rfl rfl rfl ?_
  refine s_bipush j1322 rfl kc_bi_32 ?_
  refine s_g j1324 rfl rfl rfl rfl rfl rfl ?_
  refine s_aload_n j1325 rfl rfl ?_
  refine s_iload_n j1326 rfl rfl ?_
  refine s_iconst j1327 rfl kc_ic_4 ?_
  refine s_g j1328 rfl rfl rfl rfl rfl rfl ?_
  obtain ⟨ho25, h⟩ := h
  obtain ⟨ho26, h⟩ := h
  obtain ⟨ho27, h⟩ := h
  refine s_ialoadR j1329 rfl (by decide) ho25 rfl ho26 ho27 ?_
  refine s_g j1330 rfl rfl rfl rfl rfl rfl ?_
  refine s_ldc2 j1331 rfl kc_ll_4294967295 ?_
  refine s_g j1334 rfl rfl rfl rfl rfl rfl ?_
  refine s_g j1335 rfl rfl rfl rfl rfl rfl ?_
  obtain ⟨ho28, h⟩ := h
  refine s_virt j1336 rfl rfl rfl rfl ho28 (by decide) (in_Rm_recourse _ _ _ _) (am_r8 rfl) (am_bI h (fun a30 σ29 h hx29 => ?_))
  replace h := h hx29
  refine s_ic j1339 rfl rfl am_cc_eq (fun hc31 => ?_) (fun hc31 => ?_)
  · replace h := h.1 hc31
    refine s_iinc (L' := [some (am_ov (some 999)), some (am_ov x1), some (am_ov x2), some (.int (x3 + (8 : Int32)))]) j1921 rfl rfl kc_ic_8 (am_st1_R [_, _] _ _ _ _) ?_
    refine s_goto j1924 rfl rfl ?_
    exact h
  · replace h := h.2 hc31
    refine s_iconst j1342 rfl kc_ic_0 ?_
    exact s_retZ0 j1343 rfl h
theorem P_Law_law_1344 (nl : Bool) (Ln : Nat) (xs : Nat → Int32) : am_Jl (TT nl Ln xs) 352 [(1344, .aload_n 1, 1345, []), (1345, .invokevirtual 105, 1348, [10, 147, 1, 1, 1]), (1348, .aload_n 2, 1349, []), (1349, .invokevirtual 108, 1352, [10, 319, 13, 1, 1]), (1352, .if_icmp .eq 569, 1355, []), (1355, .iconst 0, 1356, []), (1356, .ireturn, 1357, [4]), (1921, .iinc 3 8, 1924, []), (1924, .goto (-1906), 1927, [])] := dk_ck (by decide +kernel)
set_option maxRecDepth 4096 in
theorem w_Law_law_1344 {nl : Bool} {Ln : Nat} {xs : Nat → Int32} {d : Nat} {x1 : Option Nat} {x2 : Option Nat} {x3 : Int32} {σ : am_S} {F : Bool → am_S → Prop} (h : (am_is σ x1 0) ∧ k_Co_batch nl Ln xs d (x1.getD 0) σ (fun a3 σ2 => am_ext σ σ2 → (am_is σ2 x2 12) ∧ k_Rm_batch nl Ln xs d (x2.getD 0) σ2 (fun a6 σ5 => am_ext σ2 σ5 → (a3 = a6 → c_Law_law_18 nl Ln xs (d + 1) x1 x2 (x3 + (8 : Int32)) σ5 F) ∧ (¬ (a3 = a6) → F false σ5)))) : c_Law_law_1344 nl Ln xs (d + 1) x1 x2 x3 σ F := by
  obtain ⟨j1344, j1345, j1348, j1349, j1352, j1355, j1356, j1921, j1924, -⟩ := P_Law_law_1344 nl Ln xs
  unfold c_Law_law_1344
  refine s_aload_n j1344 rfl rfl ?_
  obtain ⟨ho1, h⟩ := h
  refine s_virt j1345 rfl rfl rfl rfl ho1 (by decide) (in_Co_batch _) (am_r8 rfl) (am_bI h (fun a3 σ2 h hx2 => ?_))
  replace h := h hx2
  refine s_aload_n j1348 rfl rfl ?_
  obtain ⟨ho4, h⟩ := h
  refine s_virt j1349 rfl rfl rfl rfl ho4 (by decide) (in_Rm_batch _) (am_r8 rfl) (am_bI h (fun a6 σ5 h hx5 => ?_))
  replace h := h hx5
  refine s_ic j1352 rfl rfl am_cc_eq (fun hc7 => ?_) (fun hc7 => ?_)
  · replace h := h.1 hc7
    refine s_iinc (L' := [some (am_ov (some 999)), some (am_ov x1), some (am_ov x2), some (.int (x3 + (8 : Int32)))]) j1921 rfl rfl kc_ic_8 (am_st1_R [_, _] _ _ _ _) ?_
    refine s_goto j1924 rfl rfl ?_
    exact h
  · replace h := h.2 hc7
    refine s_iconst j1355 rfl kc_ic_0 ?_
    exact s_retZ0 j1356 rfl h
theorem P_Law_law_1357 (nl : Bool) (Ln : Nat) (xs : Nat → Int32) : am_Jl (TT nl Ln xs) 352 [(1357, .aload_n 1, 1358, []), (1358, .invokevirtual 109, 1361, [10, 148, 1, 1, 1]), (1361, .aload_n 2, 1362, []), (1362, .invokevirtual 112, 1365, [10, 320, 13, 1, 1]), (1365, .if_icmp .eq 556, 1368, []), (1368, .iconst 0, 1369, []), (1369, .ireturn, 1370, [4]), (1921, .iinc 3 8, 1924, []), (1924, .goto (-1906), 1927, [])] := dk_ck (by decide +kernel)
set_option maxRecDepth 4096 in
theorem w_Law_law_1357 {nl : Bool} {Ln : Nat} {xs : Nat → Int32} {d : Nat} {x1 : Option Nat} {x2 : Option Nat} {x3 : Int32} {σ : am_S} {F : Bool → am_S → Prop} (h : (am_is σ x1 0) ∧ k_Co_end nl Ln xs d (x1.getD 0) σ (fun a3 σ2 => am_ext σ σ2 → (am_is σ2 x2 12) ∧ k_Rm_end nl Ln xs d (x2.getD 0) σ2 (fun a6 σ5 => am_ext σ2 σ5 → (a3 = a6 → c_Law_law_18 nl Ln xs (d + 1) x1 x2 (x3 + (8 : Int32)) σ5 F) ∧ (¬ (a3 = a6) → F false σ5)))) : c_Law_law_1357 nl Ln xs (d + 1) x1 x2 x3 σ F := by
  obtain ⟨j1357, j1358, j1361, j1362, j1365, j1368, j1369, j1921, j1924, -⟩ := P_Law_law_1357 nl Ln xs
  unfold c_Law_law_1357
  refine s_aload_n j1357 rfl rfl ?_
  obtain ⟨ho1, h⟩ := h
  refine s_virt j1358 rfl rfl rfl rfl ho1 (by decide) (in_Co_end _) (am_r8 rfl) (am_bI h (fun a3 σ2 h hx2 => ?_))
  replace h := h hx2
  refine s_aload_n j1361 rfl rfl ?_
  obtain ⟨ho4, h⟩ := h
  refine s_virt j1362 rfl rfl rfl rfl ho4 (by decide) (in_Rm_end _) (am_r8 rfl) (am_bI h (fun a6 σ5 h hx5 => ?_))
  replace h := h hx5
  refine s_ic j1365 rfl rfl am_cc_eq (fun hc7 => ?_) (fun hc7 => ?_)
  · replace h := h.1 hc7
    refine s_iinc (L' := [some (am_ov (some 999)), some (am_ov x1), some (am_ov x2), some (.int (x3 + (8 : Int32)))]) j1921 rfl rfl kc_ic_8 (am_st1_R [_, _] _ _ _ _) ?_
    refine s_goto j1924 rfl rfl ?_
    exact h
  · replace h := h.2 hc7
    refine s_iconst j1368 rfl kc_ic_0 ?_
    exact s_retZ0 j1369 rfl h
theorem P_Law_law_1370 (nl : Bool) (Ln : Nat) (xs : Nat → Int32) : am_Jl (TT nl Ln xs) 352 [(1370, .aload_n 1, 1371, []), (1371, .invokevirtual 113, 1374, [10, 149, 1, 1, 1]), (1374, .aload_n 2, 1375, []), (1375, .invokevirtual 116, 1378, [10, 321, 13, 1, 1]), (1378, .if_icmp .eq 543, 1381, []), (1381, .iconst 0, 1382, []), (1382, .ireturn, 1383, [4]), (1921, .iinc 3 8, 1924, []), (1924, .goto (-1906), 1927, [])] := dk_ck (by decide +kernel)
set_option maxRecDepth 4096 in
theorem w_Law_law_1370 {nl : Bool} {Ln : Nat} {xs : Nat → Int32} {d : Nat} {x1 : Option Nat} {x2 : Option Nat} {x3 : Int32} {σ : am_S} {F : Bool → am_S → Prop} (h : (am_is σ x1 0) ∧ k_Co_undo nl Ln xs d (x1.getD 0) σ (fun a3 σ2 => am_ext σ σ2 → (am_is σ2 x2 12) ∧ k_Rm_undo nl Ln xs d (x2.getD 0) σ2 (fun a6 σ5 => am_ext σ2 σ5 → (a3 = a6 → c_Law_law_18 nl Ln xs (d + 1) x1 x2 (x3 + (8 : Int32)) σ5 F) ∧ (¬ (a3 = a6) → F false σ5)))) : c_Law_law_1370 nl Ln xs (d + 1) x1 x2 x3 σ F := by
  obtain ⟨j1370, j1371, j1374, j1375, j1378, j1381, j1382, j1921, j1924, -⟩ := P_Law_law_1370 nl Ln xs
  unfold c_Law_law_1370
  refine s_aload_n j1370 rfl rfl ?_
  obtain ⟨ho1, h⟩ := h
  refine s_virt j1371 rfl rfl rfl rfl ho1 (by decide) (in_Co_undo _) (am_r8 rfl) (am_bI h (fun a3 σ2 h hx2 => ?_))
  replace h := h hx2
  refine s_aload_n j1374 rfl rfl ?_
  obtain ⟨ho4, h⟩ := h
  refine s_virt j1375 rfl rfl rfl rfl ho4 (by decide) (in_Rm_undo _) (am_r8 rfl) (am_bI h (fun a6 σ5 h hx5 => ?_))
  replace h := h hx5
  refine s_ic j1378 rfl rfl am_cc_eq (fun hc7 => ?_) (fun hc7 => ?_)
  · replace h := h.1 hc7
    refine s_iinc (L' := [some (am_ov (some 999)), some (am_ov x1), some (am_ov x2), some (.int (x3 + (8 : Int32)))]) j1921 rfl rfl kc_ic_8 (am_st1_R [_, _] _ _ _ _) ?_
    refine s_goto j1924 rfl rfl ?_
    exact h
  · replace h := h.2 hc7
    refine s_iconst j1381 rfl kc_ic_0 ?_
    exact s_retZ0 j1382 rfl h
theorem P_Law_law_1383 (nl : Bool) (Ln : Nat) (xs : Nat → Int32) : am_Jl (TT nl Ln xs) 352 [(1383, .aload_n 1, 1384, []), (1384, .aload_n 0, 1385, []), (1385, .iload_n 3, 1386, []), (1386, .iconst 1, 1387, []), (1387, .iadd, 1388, []), (1388, .iaload, 1389, []), (1389, .aload_n 0, 1390, []), (1390, .iload_n 3, 1391, []), (1391, .iconst 2, 1392, []), (1392, .iadd, 1393, []), (1393, .iaload, 1394, []), (1394, .aload_n 0, 1395, []), (1395, .iload_n 3, 1396, []), (1396, .iconst 3, 1397, []), (1397, .iadd, 1398, []), (1398, .iaload, 1399, []), (1399, .invokevirtual 117, 1402, [10, 150, 1, 6, 4]), (1402, .aload_n 2, 1403, []), (1403, .aload_n 0, 1404, []), (1404, .iload_n 3, 1405, []), (1405, .iconst 1, 1406, []), (1406, .iadd, 1407, []), (1407, .iaload, 1408, []), (1408, .aload_n 0, 1409, []), (1409, .iload_n 3, 1410, []), (1410, .iconst 2, 1411, []), (1411, .iadd, 1412, []), (1412, .iaload, 1413, []), (1413, .aload_n 0, 1414, []), (1414, .iload_n 3, 1415, []), (1415, .iconst 3, 1416, []), (1416, .iadd, 1417, []), (1417, .iaload, 1418, []), (1418, .invokevirtual 121, 1421, [10, 322, 13, 4, 4]), (1421, .lcmp, 1422, []), (1422, .ifCond .eq 499, 1425, []), (1425, .iconst 0, 1426, []), (1426, .ireturn, 1427, [4]), (1921, .iinc 3 8, 1924, []), (1924, .goto (-1906), 1927, [])] := dk_ck (by decide +kernel)
set_option maxRecDepth 4096 in
theorem w_Law_law_1383 {nl : Bool} {Ln : Nat} {xs : Nat → Int32} {d : Nat} {x1 : Option Nat} {x2 : Option Nat} {x3 : Int32} {σ : am_S} {F : Bool → am_S → Prop} (h : ((am_kd σ 999).1 = 0) ∧ (0 ≤ (x3 + (1 : Int32)).toInt) ∧ ((x3 + (1 : Int32)).toInt < am_rl (am_tz (TT nl Ln xs)) 999) ∧ ((am_kd σ 999).1 = 0) ∧ (0 ≤ (x3 + (2 : Int32)).toInt) ∧ ((x3 + (2 : Int32)).toInt < am_rl (am_tz (TT nl Ln xs)) 999) ∧ ((am_kd σ 999).1 = 0) ∧ (0 ≤ (x3 + (3 : Int32)).toInt) ∧ ((x3 + (3 : Int32)).toInt < am_rl (am_tz (TT nl Ln xs)) 999) ∧ (am_is σ x1 0) ∧ k_Co_owed nl Ln xs d (x1.getD 0) (am_rv (am_tz (TT nl Ln xs)) 999 (x3 + (1 : Int32)).toNatClampNeg) (am_rv (am_tz (TT nl Ln xs)) 999 (x3 + (2 : Int32)).toNatClampNeg) (am_rv (am_tz (TT nl Ln xs)) 999 (x3 + (3 : Int32)).toNatClampNeg) σ (fun a12 σ11 => am_ext σ σ11 → ((am_kd σ11 999).1 = 0) ∧ (0 ≤ (x3 + (1 : Int32)).toInt) ∧ ((x3 + (1 : Int32)).toInt < am_rl (am_tz (TT nl Ln xs)) 999) ∧ ((am_kd σ11 999).1 = 0) ∧ (0 ≤ (x3 + (2 : Int32)).toInt) ∧ ((x3 + (2 : Int32)).toInt < am_rl (am_tz (TT nl Ln xs)) 999) ∧ ((am_kd σ11 999).1 = 0) ∧ (0 ≤ (x3 + (3 : Int32)).toInt) ∧ ((x3 + (3 : Int32)).toInt < am_rl (am_tz (TT nl Ln xs)) 999) ∧ (am_is σ11 x2 12) ∧ k_Rm_owed nl Ln xs d (x2.getD 0) (am_rv (am_tz (TT nl Ln xs)) 999 (x3 + (1 : Int32)).toNatClampNeg) (am_rv (am_tz (TT nl Ln xs)) 999 (x3 + (2 : Int32)).toNatClampNeg) (am_rv (am_tz (TT nl Ln xs)) 999 (x3 + (3 : Int32)).toNatClampNeg) σ11 (fun a24 σ23 => am_ext σ11 σ23 → (a12 = a24 → c_Law_law_18 nl Ln xs (d + 1) x1 x2 (x3 + (8 : Int32)) σ23 F) ∧ (¬ (a12 = a24) → F false σ23)))) : c_Law_law_1383 nl Ln xs (d + 1) x1 x2 x3 σ F := by
  obtain ⟨j1383, j1384, j1385, j1386, j1387, j1388, j1389, j1390, j1391, j1392, j1393, j1394, j1395, j1396, j1397, j1398, j1399, j1402, j1403, j1404, j1405, j1406, j1407, j1408, j1409, j1410, j1411, j1412, j1413, j1414, j1415, j1416, j1417, j1418, j1421, j1422, j1425, j1426, j1921, j1924, -⟩ := P_Law_law_1383 nl Ln xs
  unfold c_Law_law_1383
  refine s_aload_n j1383 rfl rfl ?_
  refine s_aload_n j1384 rfl rfl ?_
  refine s_iload_n j1385 rfl rfl ?_
  refine s_iconst j1386 rfl kc_ic_1 ?_
  refine s_g j1387 rfl rfl rfl rfl rfl rfl ?_
  obtain ⟨ho1, h⟩ := h
  obtain ⟨ho2, h⟩ := h
  obtain ⟨ho3, h⟩ := h
  refine s_ialoadR j1388 rfl (by decide) ho1 rfl ho2 ho3 ?_
  refine s_aload_n j1389 rfl rfl ?_
  refine s_iload_n j1390 rfl rfl ?_
  refine s_iconst j1391 rfl kc_ic_2 ?_
  refine s_g j1392 rfl rfl rfl rfl rfl rfl ?_
  obtain ⟨ho4, h⟩ := h
  obtain ⟨ho5, h⟩ := h
  obtain ⟨ho6, h⟩ := h
  refine s_ialoadR j1393 rfl (by decide) ho4 rfl ho5 ho6 ?_
  refine s_aload_n j1394 rfl rfl ?_
  refine s_iload_n j1395 rfl rfl ?_
  refine s_iconst j1396 rfl kc_ic_3 ?_
  refine s_g j1397 rfl rfl rfl rfl rfl rfl ?_
  obtain ⟨ho7, h⟩ := h
  obtain ⟨ho8, h⟩ := h
  obtain ⟨ho9, h⟩ := h
  refine s_ialoadR j1398 rfl (by decide) ho7 rfl ho8 ho9 ?_
  obtain ⟨ho10, h⟩ := h
  refine s_virt j1399 rfl rfl rfl rfl ho10 (by decide) (in_Co_owed _ _ _ _) (am_r8 rfl) (am_bL h (fun a12 σ11 h hx11 => ?_))
  replace h := h hx11
  refine s_aload_n j1402 rfl rfl ?_
  refine s_aload_n j1403 rfl rfl ?_
  refine s_iload_n j1404 rfl rfl ?_
  refine s_iconst j1405 rfl kc_ic_1 ?_
  refine s_g j1406 rfl rfl rfl rfl rfl rfl ?_
  obtain ⟨ho13, h⟩ := h
  obtain ⟨ho14, h⟩ := h
  obtain ⟨ho15, h⟩ := h
  refine s_ialoadR j1407 rfl (by decide) ho13 rfl ho14 ho15 ?_
  refine s_aload_n j1408 rfl rfl ?_
  refine s_iload_n j1409 rfl rfl ?_
  refine s_iconst j1410 rfl kc_ic_2 ?_
  refine s_g j1411 rfl rfl rfl rfl rfl rfl ?_
  obtain ⟨ho16, h⟩ := h
  obtain ⟨ho17, h⟩ := h
  obtain ⟨ho18, h⟩ := h
  refine s_ialoadR j1412 rfl (by decide) ho16 rfl ho17 ho18 ?_
  refine s_aload_n j1413 rfl rfl ?_
  refine s_iload_n j1414 rfl rfl ?_
  refine s_iconst j1415 rfl kc_ic_3 ?_
  refine s_g j1416 rfl rfl rfl rfl rfl rfl ?_
  obtain ⟨ho19, h⟩ := h
  obtain ⟨ho20, h⟩ := h
  obtain ⟨ho21, h⟩ := h
  refine s_ialoadR j1417 rfl (by decide) ho19 rfl ho20 ho21 ?_
  obtain ⟨ho22, h⟩ := h
  refine s_virt j1418 rfl rfl rfl rfl ho22 (by decide) (in_Rm_owed _ _ _ _) (am_r8 rfl) (am_bL h (fun a24 σ23 h hx23 => ?_))
  replace h := h hx23
  refine s_g j1421 rfl rfl rfl rfl rfl rfl ?_
  refine s_if j1422 rfl rfl am_cl_eq (fun hc25 => ?_) (fun hc25 => ?_)
  · replace h := h.1 hc25
    refine s_iinc (L' := [some (am_ov (some 999)), some (am_ov x1), some (am_ov x2), some (.int (x3 + (8 : Int32)))]) j1921 rfl rfl kc_ic_8 (am_st1_R [_, _] _ _ _ _) ?_
    refine s_goto j1924 rfl rfl ?_
    exact h
  · replace h := h.2 hc25
    refine s_iconst j1425 rfl kc_ic_0 ?_
    exact s_retZ0 j1426 rfl h
theorem P_Law_law_1427 (nl : Bool) (Ln : Nat) (xs : Nat → Int32) : am_Jl (TT nl Ln xs) 352 [(1427, .aload_n 1, 1428, []), (1428, .invokevirtual 122, 1431, [10, 151, 1, 1, 1]), (1431, .aload_n 2, 1432, []), (1432, .invokevirtual 125, 1435, [10, 323, 13, 1, 1]), (1435, .if_icmp .eq 486, 1438, []), (1438, .iconst 0, 1439, []), (1439, .ireturn, 1440, [4]), (1921, .iinc 3 8, 1924, []), (1924, .goto (-1906), 1927, [])] := dk_ck (by decide +kernel)
set_option maxRecDepth 4096 in
theorem w_Law_law_1427 {nl : Bool} {Ln : Nat} {xs : Nat → Int32} {d : Nat} {x1 : Option Nat} {x2 : Option Nat} {x3 : Int32} {σ : am_S} {F : Bool → am_S → Prop} (h : (am_is σ x1 0) ∧ k_Co_finding nl Ln xs d (x1.getD 0) σ (fun a3 σ2 => am_ext σ σ2 → (am_is σ2 x2 12) ∧ k_Rm_finding nl Ln xs d (x2.getD 0) σ2 (fun a6 σ5 => am_ext σ2 σ5 → (a3 = a6 → c_Law_law_18 nl Ln xs (d + 1) x1 x2 (x3 + (8 : Int32)) σ5 F) ∧ (¬ (a3 = a6) → F false σ5)))) : c_Law_law_1427 nl Ln xs (d + 1) x1 x2 x3 σ F := by
  obtain ⟨j1427, j1428, j1431, j1432, j1435, j1438, j1439, j1921, j1924, -⟩ := P_Law_law_1427 nl Ln xs
  unfold c_Law_law_1427
  refine s_aload_n j1427 rfl rfl ?_
  obtain ⟨ho1, h⟩ := h
  refine s_virt j1428 rfl rfl rfl rfl ho1 (by decide) (in_Co_finding _) (am_r8 rfl) (am_bI h (fun a3 σ2 h hx2 => ?_))
  replace h := h hx2
  refine s_aload_n j1431 rfl rfl ?_
  obtain ⟨ho4, h⟩ := h
  refine s_virt j1432 rfl rfl rfl rfl ho4 (by decide) (in_Rm_finding _) (am_r8 rfl) (am_bI h (fun a6 σ5 h hx5 => ?_))
  replace h := h hx5
  refine s_ic j1435 rfl rfl am_cc_eq (fun hc7 => ?_) (fun hc7 => ?_)
  · replace h := h.1 hc7
    refine s_iinc (L' := [some (am_ov (some 999)), some (am_ov x1), some (am_ov x2), some (.int (x3 + (8 : Int32)))]) j1921 rfl rfl kc_ic_8 (am_st1_R [_, _] _ _ _ _) ?_
    refine s_goto j1924 rfl rfl ?_
    exact h
  · replace h := h.2 hc7
    refine s_iconst j1438 rfl kc_ic_0 ?_
    exact s_retZ0 j1439 rfl h
theorem P_Law_law_1440 (nl : Bool) (Ln : Nat) (xs : Nat → Int32) : am_Jl (TT nl Ln xs) 352 [(1440, .aload_n 1, 1441, []), (1441, .aload_n 0, 1442, []), (1442, .iload_n 3, 1443, []), (1443, .iconst 1, 1444, []), (1444, .iadd, 1445, []), (1445, .iaload, 1446, []), (1446, .aload_n 0, 1447, []), (1447, .iload_n 3, 1448, []), (1448, .iconst 2, 1449, []), (1449, .iadd, 1450, []), (1450, .iaload, 1451, []), (1451, .invokevirtual 126, 1454, [10, 152, 1, 3, 3]), (1454, .aload_n 2, 1455, []), (1455, .aload_n 0, 1456, []), (1456, .iload_n 3, 1457, []), (1457, .iconst 1, 1458, []), (1458, .iadd, 1459, []), (1459, .iaload, 1460, []), (1460, .aload_n 0, 1461, []), (1461, .iload_n 3, 1462, []), (1462, .iconst 2, 1463, []), (1463, .iadd, 1464, []), (1464, .iaload, 1465, []), (1465, .invokevirtual 129, 1468, [10, 324, 13, 3, 3]), (1468, .if_icmp .eq 453, 1471, []), (1471, .iconst 0, 1472, []), (1472, .ireturn, 1473, [4]), (1921, .iinc 3 8, 1924, []), (1924, .goto (-1906), 1927, [])] := dk_ck (by decide +kernel)
set_option maxRecDepth 4096 in
theorem w_Law_law_1440 {nl : Bool} {Ln : Nat} {xs : Nat → Int32} {d : Nat} {x1 : Option Nat} {x2 : Option Nat} {x3 : Int32} {σ : am_S} {F : Bool → am_S → Prop} (h : ((am_kd σ 999).1 = 0) ∧ (0 ≤ (x3 + (1 : Int32)).toInt) ∧ ((x3 + (1 : Int32)).toInt < am_rl (am_tz (TT nl Ln xs)) 999) ∧ ((am_kd σ 999).1 = 0) ∧ (0 ≤ (x3 + (2 : Int32)).toInt) ∧ ((x3 + (2 : Int32)).toInt < am_rl (am_tz (TT nl Ln xs)) 999) ∧ (am_is σ x1 0) ∧ k_Co_row nl Ln xs d (x1.getD 0) (am_rv (am_tz (TT nl Ln xs)) 999 (x3 + (1 : Int32)).toNatClampNeg) (am_rv (am_tz (TT nl Ln xs)) 999 (x3 + (2 : Int32)).toNatClampNeg) σ (fun a9 σ8 => am_ext σ σ8 → ((am_kd σ8 999).1 = 0) ∧ (0 ≤ (x3 + (1 : Int32)).toInt) ∧ ((x3 + (1 : Int32)).toInt < am_rl (am_tz (TT nl Ln xs)) 999) ∧ ((am_kd σ8 999).1 = 0) ∧ (0 ≤ (x3 + (2 : Int32)).toInt) ∧ ((x3 + (2 : Int32)).toInt < am_rl (am_tz (TT nl Ln xs)) 999) ∧ (am_is σ8 x2 12) ∧ k_Rm_row nl Ln xs d (x2.getD 0) (am_rv (am_tz (TT nl Ln xs)) 999 (x3 + (1 : Int32)).toNatClampNeg) (am_rv (am_tz (TT nl Ln xs)) 999 (x3 + (2 : Int32)).toNatClampNeg) σ8 (fun a18 σ17 => am_ext σ8 σ17 → (a9 = a18 → c_Law_law_18 nl Ln xs (d + 1) x1 x2 (x3 + (8 : Int32)) σ17 F) ∧ (¬ (a9 = a18) → F false σ17)))) : c_Law_law_1440 nl Ln xs (d + 1) x1 x2 x3 σ F := by
  obtain ⟨j1440, j1441, j1442, j1443, j1444, j1445, j1446, j1447, j1448, j1449, j1450, j1451, j1454, j1455, j1456, j1457, j1458, j1459, j1460, j1461, j1462, j1463, j1464, j1465, j1468, j1471, j1472, j1921, j1924, -⟩ := P_Law_law_1440 nl Ln xs
  unfold c_Law_law_1440
  refine s_aload_n j1440 rfl rfl ?_
  refine s_aload_n j1441 rfl rfl ?_
  refine s_iload_n j1442 rfl rfl ?_
  refine s_iconst j1443 rfl kc_ic_1 ?_
  refine s_g j1444 rfl rfl rfl rfl rfl rfl ?_
  obtain ⟨ho1, h⟩ := h
  obtain ⟨ho2, h⟩ := h
  obtain ⟨ho3, h⟩ := h
  refine s_ialoadR j1445 rfl (by decide) ho1 rfl ho2 ho3 ?_
  refine s_aload_n j1446 rfl rfl ?_
  refine s_iload_n j1447 rfl rfl ?_
  refine s_iconst j1448 rfl kc_ic_2 ?_
  refine s_g j1449 rfl rfl rfl rfl rfl rfl ?_
  obtain ⟨ho4, h⟩ := h
  obtain ⟨ho5, h⟩ := h
  obtain ⟨ho6, h⟩ := h
  refine s_ialoadR j1450 rfl (by decide) ho4 rfl ho5 ho6 ?_
  obtain ⟨ho7, h⟩ := h
  refine s_virt j1451 rfl rfl rfl rfl ho7 (by decide) (in_Co_row _ _ _) (am_r8 rfl) (am_bI h (fun a9 σ8 h hx8 => ?_))
  replace h := h hx8
  refine s_aload_n j1454 rfl rfl ?_
  refine s_aload_n j1455 rfl rfl ?_
  refine s_iload_n j1456 rfl rfl ?_
  refine s_iconst j1457 rfl kc_ic_1 ?_
  refine s_g j1458 rfl rfl rfl rfl rfl rfl ?_
  obtain ⟨ho10, h⟩ := h
  obtain ⟨ho11, h⟩ := h
  obtain ⟨ho12, h⟩ := h
  refine s_ialoadR j1459 rfl (by decide) ho10 rfl ho11 ho12 ?_
  refine s_aload_n j1460 rfl rfl ?_
  refine s_iload_n j1461 rfl rfl ?_
  refine s_iconst j1462 rfl kc_ic_2 ?_
  refine s_g j1463 rfl rfl rfl rfl rfl rfl ?_
  obtain ⟨ho13, h⟩ := h
  obtain ⟨ho14, h⟩ := h
  obtain ⟨ho15, h⟩ := h
  refine s_ialoadR j1464 rfl (by decide) ho13 rfl ho14 ho15 ?_
  obtain ⟨ho16, h⟩ := h
  refine s_virt j1465 rfl rfl rfl rfl ho16 (by decide) (in_Rm_row _ _ _) (am_r8 rfl) (am_bI h (fun a18 σ17 h hx17 => ?_))
  replace h := h hx17
  refine s_ic j1468 rfl rfl am_cc_eq (fun hc19 => ?_) (fun hc19 => ?_)
  · replace h := h.1 hc19
    refine s_iinc (L' := [some (am_ov (some 999)), some (am_ov x1), some (am_ov x2), some (.int (x3 + (8 : Int32)))]) j1921 rfl rfl kc_ic_8 (am_st1_R [_, _] _ _ _ _) ?_
    refine s_goto j1924 rfl rfl ?_
    exact h
  · replace h := h.2 hc19
    refine s_iconst j1471 rfl kc_ic_0 ?_
    exact s_retZ0 j1472 rfl h
theorem P_Law_law_1473 (nl : Bool) (Ln : Nat) (xs : Nat → Int32) : am_Jl (TT nl Ln xs) 352 [(1473, .aload_n 1, 1474, []), (1474, .aload_n 0, 1475, []), (1475, .iload_n 3, 1476, []), (1476, .iconst 1, 1477, []), (1477, .iadd, 1478, []), (1478, .iaload, 1479, []), (1479, .invokevirtual 130, 1482, [10, 153, 1, 2, 2]), (1482, .aload_n 2, 1483, []), (1483, .aload_n 0, 1484, []), (1484, .iload_n 3, 1485, []), (1485, .iconst 1, 1486, []), (1486, .iadd, 1487, []), (1487, .iaload, 1488, []), (1488, .invokevirtual 134, 1491, [10, 325, 13, 2, 2]), (1491, .lcmp, 1492, []), (1492, .ifCond .eq 429, 1495, []), (1495, .iconst 0, 1496, []), (1496, .ireturn, 1497, [4]), (1921, .iinc 3 8, 1924, []), (1924, .goto (-1906), 1927, [])] := dk_ck (by decide +kernel)
set_option maxRecDepth 4096 in
theorem w_Law_law_1473 {nl : Bool} {Ln : Nat} {xs : Nat → Int32} {d : Nat} {x1 : Option Nat} {x2 : Option Nat} {x3 : Int32} {σ : am_S} {F : Bool → am_S → Prop} (h : ((am_kd σ 999).1 = 0) ∧ (0 ≤ (x3 + (1 : Int32)).toInt) ∧ ((x3 + (1 : Int32)).toInt < am_rl (am_tz (TT nl Ln xs)) 999) ∧ (am_is σ x1 0) ∧ k_Co_cents nl Ln xs d (x1.getD 0) (am_rv (am_tz (TT nl Ln xs)) 999 (x3 + (1 : Int32)).toNatClampNeg) σ (fun a6 σ5 => am_ext σ σ5 → ((am_kd σ5 999).1 = 0) ∧ (0 ≤ (x3 + (1 : Int32)).toInt) ∧ ((x3 + (1 : Int32)).toInt < am_rl (am_tz (TT nl Ln xs)) 999) ∧ (am_is σ5 x2 12) ∧ k_Rm_cents nl Ln xs d (x2.getD 0) (am_rv (am_tz (TT nl Ln xs)) 999 (x3 + (1 : Int32)).toNatClampNeg) σ5 (fun a12 σ11 => am_ext σ5 σ11 → (a6 = a12 → c_Law_law_18 nl Ln xs (d + 1) x1 x2 (x3 + (8 : Int32)) σ11 F) ∧ (¬ (a6 = a12) → F false σ11)))) : c_Law_law_1473 nl Ln xs (d + 1) x1 x2 x3 σ F := by
  obtain ⟨j1473, j1474, j1475, j1476, j1477, j1478, j1479, j1482, j1483, j1484, j1485, j1486, j1487, j1488, j1491, j1492, j1495, j1496, j1921, j1924, -⟩ := P_Law_law_1473 nl Ln xs
  unfold c_Law_law_1473
  refine s_aload_n j1473 rfl rfl ?_
  refine s_aload_n j1474 rfl rfl ?_
  refine s_iload_n j1475 rfl rfl ?_
  refine s_iconst j1476 rfl kc_ic_1 ?_
  refine s_g j1477 rfl rfl rfl rfl rfl rfl ?_
  obtain ⟨ho1, h⟩ := h
  obtain ⟨ho2, h⟩ := h
  obtain ⟨ho3, h⟩ := h
  refine s_ialoadR j1478 rfl (by decide) ho1 rfl ho2 ho3 ?_
  obtain ⟨ho4, h⟩ := h
  refine s_virt j1479 rfl rfl rfl rfl ho4 (by decide) (in_Co_cents _ _) (am_r8 rfl) (am_bL h (fun a6 σ5 h hx5 => ?_))
  replace h := h hx5
  refine s_aload_n j1482 rfl rfl ?_
  refine s_aload_n j1483 rfl rfl ?_
  refine s_iload_n j1484 rfl rfl ?_
  refine s_iconst j1485 rfl kc_ic_1 ?_
  refine s_g j1486 rfl rfl rfl rfl rfl rfl ?_
  obtain ⟨ho7, h⟩ := h
  obtain ⟨ho8, h⟩ := h
  obtain ⟨ho9, h⟩ := h
  refine s_ialoadR j1487 rfl (by decide) ho7 rfl ho8 ho9 ?_
  obtain ⟨ho10, h⟩ := h
  refine s_virt j1488 rfl rfl rfl rfl ho10 (by decide) (in_Rm_cents _ _) (am_r8 rfl) (am_bL h (fun a12 σ11 h hx11 => ?_))
  replace h := h hx11
  refine s_g j1491 rfl rfl rfl rfl rfl rfl ?_
  refine s_if j1492 rfl rfl am_cl_eq (fun hc13 => ?_) (fun hc13 => ?_)
  · replace h := h.1 hc13
    refine s_iinc (L' := [some (am_ov (some 999)), some (am_ov x1), some (am_ov x2), some (.int (x3 + (8 : Int32)))]) j1921 rfl rfl kc_ic_8 (am_st1_R [_, _] _ _ _ _) ?_
    refine s_goto j1924 rfl rfl ?_
    exact h
  · replace h := h.2 hc13
    refine s_iconst j1495 rfl kc_ic_0 ?_
    exact s_retZ0 j1496 rfl h
theorem P_Law_law_1497 (nl : Bool) (Ln : Nat) (xs : Nat → Int32) : am_Jl (TT nl Ln xs) 352 [(1497, .aload_n 1, 1498, []), (1498, .aload_n 0, 1499, []), (1499, .iload_n 3, 1500, []), (1500, .iconst 1, 1501, []), (1501, .iadd, 1502, []), (1502, .iaload, 1503, []), (1503, .invokevirtual 135, 1506, [10, 154, 1, 2, 2]), (1506, .aload_n 2, 1507, []), (1507, .aload_n 0, 1508, []), (1508, .iload_n 3, 1509, []), (1509, .iconst 1, 1510, []), (1510, .iadd, 1511, []), (1511, .iaload, 1512, []), (1512, .invokevirtual 138, 1515, [10, 326, 13, 2, 2]), (1515, .if_icmp .eq 406, 1518, []), (1518, .iconst 0, 1519, []), (1519, .ireturn, 1520, [4]), (1921, .iinc 3 8, 1924, []), (1924, .goto (-1906), 1927, [])] := dk_ck (by decide +kernel)
set_option maxRecDepth 4096 in
theorem w_Law_law_1497 {nl : Bool} {Ln : Nat} {xs : Nat → Int32} {d : Nat} {x1 : Option Nat} {x2 : Option Nat} {x3 : Int32} {σ : am_S} {F : Bool → am_S → Prop} (h : ((am_kd σ 999).1 = 0) ∧ (0 ≤ (x3 + (1 : Int32)).toInt) ∧ ((x3 + (1 : Int32)).toInt < am_rl (am_tz (TT nl Ln xs)) 999) ∧ (am_is σ x1 0) ∧ k_Co_trace nl Ln xs d (x1.getD 0) (am_rv (am_tz (TT nl Ln xs)) 999 (x3 + (1 : Int32)).toNatClampNeg) σ (fun a6 σ5 => am_ext σ σ5 → ((am_kd σ5 999).1 = 0) ∧ (0 ≤ (x3 + (1 : Int32)).toInt) ∧ ((x3 + (1 : Int32)).toInt < am_rl (am_tz (TT nl Ln xs)) 999) ∧ (am_is σ5 x2 12) ∧ k_Rm_trace nl Ln xs d (x2.getD 0) (am_rv (am_tz (TT nl Ln xs)) 999 (x3 + (1 : Int32)).toNatClampNeg) σ5 (fun a12 σ11 => am_ext σ5 σ11 → (a6 = a12 → c_Law_law_18 nl Ln xs (d + 1) x1 x2 (x3 + (8 : Int32)) σ11 F) ∧ (¬ (a6 = a12) → F false σ11)))) : c_Law_law_1497 nl Ln xs (d + 1) x1 x2 x3 σ F := by
  obtain ⟨j1497, j1498, j1499, j1500, j1501, j1502, j1503, j1506, j1507, j1508, j1509, j1510, j1511, j1512, j1515, j1518, j1519, j1921, j1924, -⟩ := P_Law_law_1497 nl Ln xs
  unfold c_Law_law_1497
  refine s_aload_n j1497 rfl rfl ?_
  refine s_aload_n j1498 rfl rfl ?_
  refine s_iload_n j1499 rfl rfl ?_
  refine s_iconst j1500 rfl kc_ic_1 ?_
  refine s_g j1501 rfl rfl rfl rfl rfl rfl ?_
  obtain ⟨ho1, h⟩ := h
  obtain ⟨ho2, h⟩ := h
  obtain ⟨ho3, h⟩ := h
  refine s_ialoadR j1502 rfl (by decide) ho1 rfl ho2 ho3 ?_
  obtain ⟨ho4, h⟩ := h
  refine s_virt j1503 rfl rfl rfl rfl ho4 (by decide) (in_Co_trace _ _) (am_r8 rfl) (am_bI h (fun a6 σ5 h hx5 => ?_))
  replace h := h hx5
  refine s_aload_n j1506 rfl rfl ?_
  refine s_aload_n j1507 rfl rfl ?_
  refine s_iload_n j1508 rfl rfl ?_
  refine s_iconst j1509 rfl kc_ic_1 ?_
  refine s_g j1510 rfl rfl rfl rfl rfl rfl ?_
  obtain ⟨ho7, h⟩ := h
  obtain ⟨ho8, h⟩ := h
  obtain ⟨ho9, h⟩ := h
  refine s_ialoadR j1511 rfl (by decide) ho7 rfl ho8 ho9 ?_
  obtain ⟨ho10, h⟩ := h
  refine s_virt j1512 rfl rfl rfl rfl ho10 (by decide) (in_Rm_trace _ _) (am_r8 rfl) (am_bI h (fun a12 σ11 h hx11 => ?_))
  replace h := h hx11
  refine s_ic j1515 rfl rfl am_cc_eq (fun hc13 => ?_) (fun hc13 => ?_)
  · replace h := h.1 hc13
    refine s_iinc (L' := [some (am_ov (some 999)), some (am_ov x1), some (am_ov x2), some (.int (x3 + (8 : Int32)))]) j1921 rfl rfl kc_ic_8 (am_st1_R [_, _] _ _ _ _) ?_
    refine s_goto j1924 rfl rfl ?_
    exact h
  · replace h := h.2 hc13
    refine s_iconst j1518 rfl kc_ic_0 ?_
    exact s_retZ0 j1519 rfl h
theorem P_Law_law_1520 (nl : Bool) (Ln : Nat) (xs : Nat → Int32) : am_Jl (TT nl Ln xs) 352 [(1520, .aload_n 1, 1521, []), (1521, .invokevirtual 139, 1524, [10, 155, 1, 2, 1]), (1524, .aload_n 2, 1525, []), (1525, .invokevirtual 142, 1528, [10, 327, 13, 2, 1]), (1528, .if_icmp .eq 393, 1531, []), (1531, .iconst 0, 1532, []), (1532, .ireturn, 1533, [4]), (1921, .iinc 3 8, 1924, []), (1924, .goto (-1906), 1927, [])] := dk_ck (by decide +kernel)
set_option maxRecDepth 4096 in
theorem w_Law_law_1520 {nl : Bool} {Ln : Nat} {xs : Nat → Int32} {d : Nat} {x1 : Option Nat} {x2 : Option Nat} {x3 : Int32} {σ : am_S} {F : Bool → am_S → Prop} (h : (am_is σ x1 0) ∧ k_Co_say nl Ln xs d (x1.getD 0) σ (fun a3 σ2 => am_ext σ σ2 → (am_is σ2 x2 12) ∧ k_Rm_say nl Ln xs d (x2.getD 0) σ2 (fun a6 σ5 => am_ext σ2 σ5 → (a3 = a6 → c_Law_law_18 nl Ln xs (d + 1) x1 x2 (x3 + (8 : Int32)) σ5 F) ∧ (¬ (a3 = a6) → F false σ5)))) : c_Law_law_1520 nl Ln xs (d + 1) x1 x2 x3 σ F := by
  obtain ⟨j1520, j1521, j1524, j1525, j1528, j1531, j1532, j1921, j1924, -⟩ := P_Law_law_1520 nl Ln xs
  unfold c_Law_law_1520
  refine s_aload_n j1520 rfl rfl ?_
  obtain ⟨ho1, h⟩ := h
  refine s_virt j1521 rfl rfl rfl rfl ho1 (by decide) (in_Co_say _) (am_r8 rfl) (am_bI h (fun a3 σ2 h hx2 => ?_))
  replace h := h hx2
  refine s_aload_n j1524 rfl rfl ?_
  obtain ⟨ho4, h⟩ := h
  refine s_virt j1525 rfl rfl rfl rfl ho4 (by decide) (in_Rm_say _) (am_r8 rfl) (am_bI h (fun a6 σ5 h hx5 => ?_))
  replace h := h hx5
  refine s_ic j1528 rfl rfl am_cc_eq (fun hc7 => ?_) (fun hc7 => ?_)
  · replace h := h.1 hc7
    refine s_iinc (L' := [some (am_ov (some 999)), some (am_ov x1), some (am_ov x2), some (.int (x3 + (8 : Int32)))]) j1921 rfl rfl kc_ic_8 (am_st1_R [_, _] _ _ _ _) ?_
    refine s_goto j1924 rfl rfl ?_
    exact h
  · replace h := h.2 hc7
    refine s_iconst j1531 rfl kc_ic_0 ?_
    exact s_retZ0 j1532 rfl h
theorem P_Law_law_1533 (nl : Bool) (Ln : Nat) (xs : Nat → Int32) : am_Jl (TT nl Ln xs) 352 [(1533, .aload_n 1, 1534, []), (1534, .aload_n 0, 1535, []), (1535, .iload_n 3, 1536, []), (1536, .iconst 1, 1537, []), (1537, .iadd, 1538, []), (1538, .iaload, 1539, []), (1539, .aload_n 0, 1540, []), (1540, .iload_n 3, 1541, []), (1541, .iconst 2, 1542, []), (1542, .iadd, 1543, []), (1543, .iaload, 1544, []), (1544, .invokevirtual 143, 1547, [10, 161, 1, 5, 3]), (1547, .aload_n 2, 1548, []), (1548, .aload_n 0, 1549, []), (1549, .iload_n 3, 1550, []), (1550, .iconst 1, 1551, []), (1551, .iadd, 1552, []), (1552, .iaload, 1553, []), (1553, .aload_n 0, 1554, []), (1554, .iload_n 3, 1555, []), (1555, .iconst 2, 1556, []), (1556, .iadd, 1557, []), (1557, .iaload, 1558, []), (1558, .invokevirtual 146, 1561, [10, 331, 13, 5, 3]), (1561, .if_icmp .eq 360, 1564, []), (1564, .iconst 0, 1565, []), (1565, .ireturn, 1566, [4]), (1921, .iinc 3 8, 1924, []), (1924, .goto (-1906), 1927, [])] := dk_ck (by decide +kernel)
set_option maxRecDepth 4096 in
theorem w_Law_law_1533 {nl : Bool} {Ln : Nat} {xs : Nat → Int32} {d : Nat} {x1 : Option Nat} {x2 : Option Nat} {x3 : Int32} {σ : am_S} {F : Bool → am_S → Prop} (h : ((am_kd σ 999).1 = 0) ∧ (0 ≤ (x3 + (1 : Int32)).toInt) ∧ ((x3 + (1 : Int32)).toInt < am_rl (am_tz (TT nl Ln xs)) 999) ∧ ((am_kd σ 999).1 = 0) ∧ (0 ≤ (x3 + (2 : Int32)).toInt) ∧ ((x3 + (2 : Int32)).toInt < am_rl (am_tz (TT nl Ln xs)) 999) ∧ (am_is σ x1 0) ∧ k_Co_tell nl Ln xs d (x1.getD 0) (am_rv (am_tz (TT nl Ln xs)) 999 (x3 + (1 : Int32)).toNatClampNeg) (am_rv (am_tz (TT nl Ln xs)) 999 (x3 + (2 : Int32)).toNatClampNeg) σ (fun a9 σ8 => am_ext σ σ8 → ((am_kd σ8 999).1 = 0) ∧ (0 ≤ (x3 + (1 : Int32)).toInt) ∧ ((x3 + (1 : Int32)).toInt < am_rl (am_tz (TT nl Ln xs)) 999) ∧ ((am_kd σ8 999).1 = 0) ∧ (0 ≤ (x3 + (2 : Int32)).toInt) ∧ ((x3 + (2 : Int32)).toInt < am_rl (am_tz (TT nl Ln xs)) 999) ∧ (am_is σ8 x2 12) ∧ k_Rm_tell nl Ln xs d (x2.getD 0) (am_rv (am_tz (TT nl Ln xs)) 999 (x3 + (1 : Int32)).toNatClampNeg) (am_rv (am_tz (TT nl Ln xs)) 999 (x3 + (2 : Int32)).toNatClampNeg) σ8 (fun a18 σ17 => am_ext σ8 σ17 → (a9 = a18 → c_Law_law_18 nl Ln xs (d + 1) x1 x2 (x3 + (8 : Int32)) σ17 F) ∧ (¬ (a9 = a18) → F false σ17)))) : c_Law_law_1533 nl Ln xs (d + 1) x1 x2 x3 σ F := by
  obtain ⟨j1533, j1534, j1535, j1536, j1537, j1538, j1539, j1540, j1541, j1542, j1543, j1544, j1547, j1548, j1549, j1550, j1551, j1552, j1553, j1554, j1555, j1556, j1557, j1558, j1561, j1564, j1565, j1921, j1924, -⟩ := P_Law_law_1533 nl Ln xs
  unfold c_Law_law_1533
  refine s_aload_n j1533 rfl rfl ?_
  refine s_aload_n j1534 rfl rfl ?_
  refine s_iload_n j1535 rfl rfl ?_
  refine s_iconst j1536 rfl kc_ic_1 ?_
  refine s_g j1537 rfl rfl rfl rfl rfl rfl ?_
  obtain ⟨ho1, h⟩ := h
  obtain ⟨ho2, h⟩ := h
  obtain ⟨ho3, h⟩ := h
  refine s_ialoadR j1538 rfl (by decide) ho1 rfl ho2 ho3 ?_
  refine s_aload_n j1539 rfl rfl ?_
  refine s_iload_n j1540 rfl rfl ?_
  refine s_iconst j1541 rfl kc_ic_2 ?_
  refine s_g j1542 rfl rfl rfl rfl rfl rfl ?_
  obtain ⟨ho4, h⟩ := h
  obtain ⟨ho5, h⟩ := h
  obtain ⟨ho6, h⟩ := h
  refine s_ialoadR j1543 rfl (by decide) ho4 rfl ho5 ho6 ?_
  obtain ⟨ho7, h⟩ := h
  refine s_virt j1544 rfl rfl rfl rfl ho7 (by decide) (in_Co_tell _ _ _) (am_r8 rfl) (am_bI h (fun a9 σ8 h hx8 => ?_))
  replace h := h hx8
  refine s_aload_n j1547 rfl rfl ?_
  refine s_aload_n j1548 rfl rfl ?_
  refine s_iload_n j1549 rfl rfl ?_
  refine s_iconst j1550 rfl kc_ic_1 ?_
  refine s_g j1551 rfl rfl rfl rfl rfl rfl ?_
  obtain ⟨ho10, h⟩ := h
  obtain ⟨ho11, h⟩ := h
  obtain ⟨ho12, h⟩ := h
  refine s_ialoadR j1552 rfl (by decide) ho10 rfl ho11 ho12 ?_
  refine s_aload_n j1553 rfl rfl ?_
  refine s_iload_n j1554 rfl rfl ?_
  refine s_iconst j1555 rfl kc_ic_2 ?_
  refine s_g j1556 rfl rfl rfl rfl rfl rfl ?_
  obtain ⟨ho13, h⟩ := h
  obtain ⟨ho14, h⟩ := h
  obtain ⟨ho15, h⟩ := h
  refine s_ialoadR j1557 rfl (by decide) ho13 rfl ho14 ho15 ?_
  obtain ⟨ho16, h⟩ := h
  refine s_virt j1558 rfl rfl rfl rfl ho16 (by decide) (in_Rm_tell _ _ _) (am_r8 rfl) (am_bI h (fun a18 σ17 h hx17 => ?_))
  replace h := h hx17
  refine s_ic j1561 rfl rfl am_cc_eq (fun hc19 => ?_) (fun hc19 => ?_)
  · replace h := h.1 hc19
    refine s_iinc (L' := [some (am_ov (some 999)), some (am_ov x1), some (am_ov x2), some (.int (x3 + (8 : Int32)))]) j1921 rfl rfl kc_ic_8 (am_st1_R [_, _] _ _ _ _) ?_
    refine s_goto j1924 rfl rfl ?_
    exact h
  · replace h := h.2 hc19
    refine s_iconst j1564 rfl kc_ic_0 ?_
    exact s_retZ0 j1565 rfl h
theorem P_Law_law_1566 (nl : Bool) (Ln : Nat) (xs : Nat → Int32) : am_Jl (TT nl Ln xs) 352 [(1566, .aload_n 1, 1567, []), (1567, .aload_n 0, 1568, []), (1568, .iload_n 3, 1569, []), (1569, .iconst 1, 1570, []), (1570, .iadd, 1571, []), (1571, .iaload, 1572, []), (1572, .invokevirtual 147, 1575, [10, 169, 1, 2, 2]), (1575, .aload_n 2, 1576, []), (1576, .aload_n 0, 1577, []), (1577, .iload_n 3, 1578, []), (1578, .iconst 1, 1579, []), (1579, .iadd, 1580, []), (1580, .iaload, 1581, []), (1581, .invokevirtual 150, 1584, [10, 337, 13, 2, 2]), (1584, .if_icmp .eq 337, 1587, []), (1587, .iconst 0, 1588, []), (1588, .ireturn, 1589, [4]), (1921, .iinc 3 8, 1924, []), (1924, .goto (-1906), 1927, [])] := dk_ck (by decide +kernel)
set_option maxRecDepth 4096 in
theorem w_Law_law_1566 {nl : Bool} {Ln : Nat} {xs : Nat → Int32} {d : Nat} {x1 : Option Nat} {x2 : Option Nat} {x3 : Int32} {σ : am_S} {F : Bool → am_S → Prop} (h : ((am_kd σ 999).1 = 0) ∧ (0 ≤ (x3 + (1 : Int32)).toInt) ∧ ((x3 + (1 : Int32)).toInt < am_rl (am_tz (TT nl Ln xs)) 999) ∧ (am_is σ x1 0) ∧ k_Co_letter nl Ln xs d (x1.getD 0) (am_rv (am_tz (TT nl Ln xs)) 999 (x3 + (1 : Int32)).toNatClampNeg) σ (fun a6 σ5 => am_ext σ σ5 → ((am_kd σ5 999).1 = 0) ∧ (0 ≤ (x3 + (1 : Int32)).toInt) ∧ ((x3 + (1 : Int32)).toInt < am_rl (am_tz (TT nl Ln xs)) 999) ∧ (am_is σ5 x2 12) ∧ k_Rm_letter nl Ln xs d (x2.getD 0) (am_rv (am_tz (TT nl Ln xs)) 999 (x3 + (1 : Int32)).toNatClampNeg) σ5 (fun a12 σ11 => am_ext σ5 σ11 → (a6 = a12 → c_Law_law_18 nl Ln xs (d + 1) x1 x2 (x3 + (8 : Int32)) σ11 F) ∧ (¬ (a6 = a12) → F false σ11)))) : c_Law_law_1566 nl Ln xs (d + 1) x1 x2 x3 σ F := by
  obtain ⟨j1566, j1567, j1568, j1569, j1570, j1571, j1572, j1575, j1576, j1577, j1578, j1579, j1580, j1581, j1584, j1587, j1588, j1921, j1924, -⟩ := P_Law_law_1566 nl Ln xs
  unfold c_Law_law_1566
  refine s_aload_n j1566 rfl rfl ?_
  refine s_aload_n j1567 rfl rfl ?_
  refine s_iload_n j1568 rfl rfl ?_
  refine s_iconst j1569 rfl kc_ic_1 ?_
  refine s_g j1570 rfl rfl rfl rfl rfl rfl ?_
  obtain ⟨ho1, h⟩ := h
  obtain ⟨ho2, h⟩ := h
  obtain ⟨ho3, h⟩ := h
  refine s_ialoadR j1571 rfl (by decide) ho1 rfl ho2 ho3 ?_
  obtain ⟨ho4, h⟩ := h
  refine s_virt j1572 rfl rfl rfl rfl ho4 (by decide) (in_Co_letter _ _) (am_r8 rfl) (am_bI h (fun a6 σ5 h hx5 => ?_))
  replace h := h hx5
  refine s_aload_n j1575 rfl rfl ?_
  refine s_aload_n j1576 rfl rfl ?_
  refine s_iload_n j1577 rfl rfl ?_
  refine s_iconst j1578 rfl kc_ic_1 ?_
  refine s_g j1579 rfl rfl rfl rfl rfl rfl ?_
  obtain ⟨ho7, h⟩ := h
  obtain ⟨ho8, h⟩ := h
  obtain ⟨ho9, h⟩ := h
  refine s_ialoadR j1580 rfl (by decide) ho7 rfl ho8 ho9 ?_
  obtain ⟨ho10, h⟩ := h
  refine s_virt j1581 rfl rfl rfl rfl ho10 (by decide) (in_Rm_letter _ _) (am_r8 rfl) (am_bI h (fun a12 σ11 h hx11 => ?_))
  replace h := h hx11
  refine s_ic j1584 rfl rfl am_cc_eq (fun hc13 => ?_) (fun hc13 => ?_)
  · replace h := h.1 hc13
    refine s_iinc (L' := [some (am_ov (some 999)), some (am_ov x1), some (am_ov x2), some (.int (x3 + (8 : Int32)))]) j1921 rfl rfl kc_ic_8 (am_st1_R [_, _] _ _ _ _) ?_
    refine s_goto j1924 rfl rfl ?_
    exact h
  · replace h := h.2 hc13
    refine s_iconst j1587 rfl kc_ic_0 ?_
    exact s_retZ0 j1588 rfl h
theorem P_Law_law_1589 (nl : Bool) (Ln : Nat) (xs : Nat → Int32) : am_Jl (TT nl Ln xs) 352 [(1589, .aload_n 1, 1590, []), (1590, .aload_n 0, 1591, []), (1591, .iload_n 3, 1592, []), (1592, .iconst 1, 1593, []), (1593, .iadd, 1594, []), (1594, .iaload, 1595, []), (1595, .aload_n 0, 1596, []), (1596, .iload_n 3, 1597, []), (1597, .iconst 2, 1598, []), (1598, .iadd, 1599, []), (1599, .iaload, 1600, []), (1600, .aload_n 0, 1601, []), (1601, .iload_n 3, 1602, []), (1602, .iconst 3, 1603, []), (1603, .iadd, 1604, []), (1604, .iaload, 1605, []), (1605, .invokevirtual 151, 1608, [10, 170, 1, 5, 4]), (1608, .aload_n 2, 1609, []), (1609, .aload_n 0, 1610, []), (1610, .iload_n 3, 1611, []), (1611, .iconst 1, 1612, []), (1612, .iadd, 1613, []), (1613, .iaload, 1614, []), (1614, .aload_n 0, 1615, []), (1615, .iload_n 3, 1616, []), (1616, .iconst 2, 1617, []), (1617, .iadd, 1618, []), (1618, .iaload, 1619, []), (1619, .aload_n 0, 1620, []), (1620, .iload_n 3, 1621, []), (1621, .iconst 3, 1622, []), (1622, .iadd, 1623, []), (1623, .iaload, 1624, []), (1624, .invokevirtual 154, 1627, [10, 338, 13, 4, 4]), (1627, .lcmp, 1628, []), (1628, .ifCond .eq 293, 1631, []), (1631, .iconst 0, 1632, []), (1632, .ireturn, 1633, [4]), (1921, .iinc 3 8, 1924, []), (1924, .goto (-1906), 1927, [])] := dk_ck (by decide +kernel)
set_option maxRecDepth 4096 in
theorem w_Law_law_1589 {nl : Bool} {Ln : Nat} {xs : Nat → Int32} {d : Nat} {x1 : Option Nat} {x2 : Option Nat} {x3 : Int32} {σ : am_S} {F : Bool → am_S → Prop} (h : ((am_kd σ 999).1 = 0) ∧ (0 ≤ (x3 + (1 : Int32)).toInt) ∧ ((x3 + (1 : Int32)).toInt < am_rl (am_tz (TT nl Ln xs)) 999) ∧ ((am_kd σ 999).1 = 0) ∧ (0 ≤ (x3 + (2 : Int32)).toInt) ∧ ((x3 + (2 : Int32)).toInt < am_rl (am_tz (TT nl Ln xs)) 999) ∧ ((am_kd σ 999).1 = 0) ∧ (0 ≤ (x3 + (3 : Int32)).toInt) ∧ ((x3 + (3 : Int32)).toInt < am_rl (am_tz (TT nl Ln xs)) 999) ∧ (am_is σ x1 0) ∧ k_Co_used nl Ln xs d (x1.getD 0) (am_rv (am_tz (TT nl Ln xs)) 999 (x3 + (1 : Int32)).toNatClampNeg) (am_rv (am_tz (TT nl Ln xs)) 999 (x3 + (2 : Int32)).toNatClampNeg) (am_rv (am_tz (TT nl Ln xs)) 999 (x3 + (3 : Int32)).toNatClampNeg) σ (fun a12 σ11 => am_ext σ σ11 → ((am_kd σ11 999).1 = 0) ∧ (0 ≤ (x3 + (1 : Int32)).toInt) ∧ ((x3 + (1 : Int32)).toInt < am_rl (am_tz (TT nl Ln xs)) 999) ∧ ((am_kd σ11 999).1 = 0) ∧ (0 ≤ (x3 + (2 : Int32)).toInt) ∧ ((x3 + (2 : Int32)).toInt < am_rl (am_tz (TT nl Ln xs)) 999) ∧ ((am_kd σ11 999).1 = 0) ∧ (0 ≤ (x3 + (3 : Int32)).toInt) ∧ ((x3 + (3 : Int32)).toInt < am_rl (am_tz (TT nl Ln xs)) 999) ∧ (am_is σ11 x2 12) ∧ k_Rm_used nl Ln xs d (x2.getD 0) (am_rv (am_tz (TT nl Ln xs)) 999 (x3 + (1 : Int32)).toNatClampNeg) (am_rv (am_tz (TT nl Ln xs)) 999 (x3 + (2 : Int32)).toNatClampNeg) (am_rv (am_tz (TT nl Ln xs)) 999 (x3 + (3 : Int32)).toNatClampNeg) σ11 (fun a24 σ23 => am_ext σ11 σ23 → (a12 = a24 → c_Law_law_18 nl Ln xs (d + 1) x1 x2 (x3 + (8 : Int32)) σ23 F) ∧ (¬ (a12 = a24) → F false σ23)))) : c_Law_law_1589 nl Ln xs (d + 1) x1 x2 x3 σ F := by
  obtain ⟨j1589, j1590, j1591, j1592, j1593, j1594, j1595, j1596, j1597, j1598, j1599, j1600, j1601, j1602, j1603, j1604, j1605, j1608, j1609, j1610, j1611, j1612, j1613, j1614, j1615, j1616, j1617, j1618, j1619, j1620, j1621, j1622, j1623, j1624, j1627, j1628, j1631, j1632, j1921, j1924, -⟩ := P_Law_law_1589 nl Ln xs
  unfold c_Law_law_1589
  refine s_aload_n j1589 rfl rfl ?_
  refine s_aload_n j1590 rfl rfl ?_
  refine s_iload_n j1591 rfl rfl ?_
  refine s_iconst j1592 rfl kc_ic_1 ?_
  refine s_g j1593 rfl rfl rfl rfl rfl rfl ?_
  obtain ⟨ho1, h⟩ := h
  obtain ⟨ho2, h⟩ := h
  obtain ⟨ho3, h⟩ := h
  refine s_ialoadR j1594 rfl (by decide) ho1 rfl ho2 ho3 ?_
  refine s_aload_n j1595 rfl rfl ?_
  refine s_iload_n j1596 rfl rfl ?_
  refine s_iconst j1597 rfl kc_ic_2 ?_
  refine s_g j1598 rfl rfl rfl rfl rfl rfl ?_
  obtain ⟨ho4, h⟩ := h
  obtain ⟨ho5, h⟩ := h
  obtain ⟨ho6, h⟩ := h
  refine s_ialoadR j1599 rfl (by decide) ho4 rfl ho5 ho6 ?_
  refine s_aload_n j1600 rfl rfl ?_
  refine s_iload_n j1601 rfl rfl ?_
  refine s_iconst j1602 rfl kc_ic_3 ?_
  refine s_g j1603 rfl rfl rfl rfl rfl rfl ?_
  obtain ⟨ho7, h⟩ := h
  obtain ⟨ho8, h⟩ := h
  obtain ⟨ho9, h⟩ := h
  refine s_ialoadR j1604 rfl (by decide) ho7 rfl ho8 ho9 ?_
  obtain ⟨ho10, h⟩ := h
  refine s_virt j1605 rfl rfl rfl rfl ho10 (by decide) (in_Co_used _ _ _ _) (am_r8 rfl) (am_bL h (fun a12 σ11 h hx11 => ?_))
  replace h := h hx11
  refine s_aload_n j1608 rfl rfl ?_
  refine s_aload_n j1609 rfl rfl ?_
  refine s_iload_n j1610 rfl rfl ?_
  refine s_iconst j1611 rfl kc_ic_1 ?_
  refine s_g j1612 rfl rfl rfl rfl rfl rfl ?_
  obtain ⟨ho13, h⟩ := h
  obtain ⟨ho14, h⟩ := h
  obtain ⟨ho15, h⟩ := h
  refine s_ialoadR j1613 rfl (by decide) ho13 rfl ho14 ho15 ?_
  refine s_aload_n j1614 rfl rfl ?_
  refine s_iload_n j1615 rfl rfl ?_
  refine s_iconst j1616 rfl kc_ic_2 ?_
  refine s_g j1617 rfl rfl rfl rfl rfl rfl ?_
  obtain ⟨ho16, h⟩ := h
  obtain ⟨ho17, h⟩ := h
  obtain ⟨ho18, h⟩ := h
  refine s_ialoadR j1618 rfl (by decide) ho16 rfl ho17 ho18 ?_
  refine s_aload_n j1619 rfl rfl ?_
  refine s_iload_n j1620 rfl rfl ?_
  refine s_iconst j1621 rfl kc_ic_3 ?_
  refine s_g j1622 rfl rfl rfl rfl rfl rfl ?_
  obtain ⟨ho19, h⟩ := h
  obtain ⟨ho20, h⟩ := h
  obtain ⟨ho21, h⟩ := h
  refine s_ialoadR j1623 rfl (by decide) ho19 rfl ho20 ho21 ?_
  obtain ⟨ho22, h⟩ := h
  refine s_virt j1624 rfl rfl rfl rfl ho22 (by decide) (in_Rm_used _ _ _ _) (am_r8 rfl) (am_bL h (fun a24 σ23 h hx23 => ?_))
  replace h := h hx23
  refine s_g j1627 rfl rfl rfl rfl rfl rfl ?_
  refine s_if j1628 rfl rfl am_cl_eq (fun hc25 => ?_) (fun hc25 => ?_)
  · replace h := h.1 hc25
    refine s_iinc (L' := [some (am_ov (some 999)), some (am_ov x1), some (am_ov x2), some (.int (x3 + (8 : Int32)))]) j1921 rfl rfl kc_ic_8 (am_st1_R [_, _] _ _ _ _) ?_
    refine s_goto j1924 rfl rfl ?_
    exact h
  · replace h := h.2 hc25
    refine s_iconst j1631 rfl kc_ic_0 ?_
    exact s_retZ0 j1632 rfl h
theorem P_Law_law_1633 (nl : Bool) (Ln : Nat) (xs : Nat → Int32) : am_Jl (TT nl Ln xs) 352 [(1633, .aload_n 1, 1634, []), (1634, .aload_n 0, 1635, []), (1635, .iload_n 3, 1636, []), (1636, .iconst 1, 1637, []), (1637, .iadd, 1638, []), (1638, .iaload, 1639, []), (1639, .aload_n 0, 1640, []), (1640, .iload_n 3, 1641, []), (1641, .iconst 2, 1642, []), (1642, .iadd, 1643, []), (1643, .iaload, 1644, []), (1644, .aload_n 0, 1645, []), (1645, .iload_n 3, 1646, []), (1646, .iconst 3, 1647, []), (1647, .iadd, 1648, []), (1648, .iaload, 1649, []), (1649, .invokevirtual 155, 1652, [10, 172, 1, 6, 4]), (1652, .aload_n 2, 1653, []), (1653, .aload_n 0, 1654, []), (1654, .iload_n 3, 1655, []), (1655, .iconst 1, 1656, []), (1656, .iadd, 1657, []), (1657, .iaload, 1658, []), (1658, .aload_n 0, 1659, []), (1659, .iload_n 3, 1660, []), (1660, .iconst 2, 1661, []), (1661, .iadd, 1662, []), (1662, .iaload, 1663, []), (1663, .aload_n 0, 1664, []), (1664, .iload_n 3, 1665, []), (1665, .iconst 3, 1666, []), (1666, .iadd, 1667, []), (1667, .iaload, 1668, []), (1668, .invokevirtual 158, 1671, [10, 339, 13, 8, 4]), (1671, .lcmp, 1672, []), (1672, .ifCond .eq 249, 1675, []), (1675, .iconst 0, 1676, []), (1676, .ireturn, 1677, [4]), (1921, .iinc 3 8, 1924, []), (1924, .goto (-1906), 1927, [])] := dk_ck (by decide +kernel)
set_option maxRecDepth 4096 in
theorem w_Law_law_1633 {nl : Bool} {Ln : Nat} {xs : Nat → Int32} {d : Nat} {x1 : Option Nat} {x2 : Option Nat} {x3 : Int32} {σ : am_S} {F : Bool → am_S → Prop} (h : ((am_kd σ 999).1 = 0) ∧ (0 ≤ (x3 + (1 : Int32)).toInt) ∧ ((x3 + (1 : Int32)).toInt < am_rl (am_tz (TT nl Ln xs)) 999) ∧ ((am_kd σ 999).1 = 0) ∧ (0 ≤ (x3 + (2 : Int32)).toInt) ∧ ((x3 + (2 : Int32)).toInt < am_rl (am_tz (TT nl Ln xs)) 999) ∧ ((am_kd σ 999).1 = 0) ∧ (0 ≤ (x3 + (3 : Int32)).toInt) ∧ ((x3 + (3 : Int32)).toInt < am_rl (am_tz (TT nl Ln xs)) 999) ∧ (am_is σ x1 0) ∧ k_Co_left nl Ln xs d (x1.getD 0) (am_rv (am_tz (TT nl Ln xs)) 999 (x3 + (1 : Int32)).toNatClampNeg) (am_rv (am_tz (TT nl Ln xs)) 999 (x3 + (2 : Int32)).toNatClampNeg) (am_rv (am_tz (TT nl Ln xs)) 999 (x3 + (3 : Int32)).toNatClampNeg) σ (fun a12 σ11 => am_ext σ σ11 → ((am_kd σ11 999).1 = 0) ∧ (0 ≤ (x3 + (1 : Int32)).toInt) ∧ ((x3 + (1 : Int32)).toInt < am_rl (am_tz (TT nl Ln xs)) 999) ∧ ((am_kd σ11 999).1 = 0) ∧ (0 ≤ (x3 + (2 : Int32)).toInt) ∧ ((x3 + (2 : Int32)).toInt < am_rl (am_tz (TT nl Ln xs)) 999) ∧ ((am_kd σ11 999).1 = 0) ∧ (0 ≤ (x3 + (3 : Int32)).toInt) ∧ ((x3 + (3 : Int32)).toInt < am_rl (am_tz (TT nl Ln xs)) 999) ∧ (am_is σ11 x2 12) ∧ k_Rm_left nl Ln xs d (x2.getD 0) (am_rv (am_tz (TT nl Ln xs)) 999 (x3 + (1 : Int32)).toNatClampNeg) (am_rv (am_tz (TT nl Ln xs)) 999 (x3 + (2 : Int32)).toNatClampNeg) (am_rv (am_tz (TT nl Ln xs)) 999 (x3 + (3 : Int32)).toNatClampNeg) σ11 (fun a24 σ23 => am_ext σ11 σ23 → (a12 = a24 → c_Law_law_18 nl Ln xs (d + 1) x1 x2 (x3 + (8 : Int32)) σ23 F) ∧ (¬ (a12 = a24) → F false σ23)))) : c_Law_law_1633 nl Ln xs (d + 1) x1 x2 x3 σ F := by
  obtain ⟨j1633, j1634, j1635, j1636, j1637, j1638, j1639, j1640, j1641, j1642, j1643, j1644, j1645, j1646, j1647, j1648, j1649, j1652, j1653, j1654, j1655, j1656, j1657, j1658, j1659, j1660, j1661, j1662, j1663, j1664, j1665, j1666, j1667, j1668, j1671, j1672, j1675, j1676, j1921, j1924, -⟩ := P_Law_law_1633 nl Ln xs
  unfold c_Law_law_1633
  refine s_aload_n j1633 rfl rfl ?_
  refine s_aload_n j1634 rfl rfl ?_
  refine s_iload_n j1635 rfl rfl ?_
  refine s_iconst j1636 rfl kc_ic_1 ?_
  refine s_g j1637 rfl rfl rfl rfl rfl rfl ?_
  obtain ⟨ho1, h⟩ := h
  obtain ⟨ho2, h⟩ := h
  obtain ⟨ho3, h⟩ := h
  refine s_ialoadR j1638 rfl (by decide) ho1 rfl ho2 ho3 ?_
  refine s_aload_n j1639 rfl rfl ?_
  refine s_iload_n j1640 rfl rfl ?_
  refine s_iconst j1641 rfl kc_ic_2 ?_
  refine s_g j1642 rfl rfl rfl rfl rfl rfl ?_
  obtain ⟨ho4, h⟩ := h
  obtain ⟨ho5, h⟩ := h
  obtain ⟨ho6, h⟩ := h
  refine s_ialoadR j1643 rfl (by decide) ho4 rfl ho5 ho6 ?_
  refine s_aload_n j1644 rfl rfl ?_
  refine s_iload_n j1645 rfl rfl ?_
  refine s_iconst j1646 rfl kc_ic_3 ?_
  refine s_g j1647 rfl rfl rfl rfl rfl rfl ?_
  obtain ⟨ho7, h⟩ := h
  obtain ⟨ho8, h⟩ := h
  obtain ⟨ho9, h⟩ := h
  refine s_ialoadR j1648 rfl (by decide) ho7 rfl ho8 ho9 ?_
  obtain ⟨ho10, h⟩ := h
  refine s_virt j1649 rfl rfl rfl rfl ho10 (by decide) (in_Co_left _ _ _ _) (am_r8 rfl) (am_bL h (fun a12 σ11 h hx11 => ?_))
  replace h := h hx11
  refine s_aload_n j1652 rfl rfl ?_
  refine s_aload_n j1653 rfl rfl ?_
  refine s_iload_n j1654 rfl rfl ?_
  refine s_iconst j1655 rfl kc_ic_1 ?_
  refine s_g j1656 rfl rfl rfl rfl rfl rfl ?_
  obtain ⟨ho13, h⟩ := h
  obtain ⟨ho14, h⟩ := h
  obtain ⟨ho15, h⟩ := h
  refine s_ialoadR j1657 rfl (by decide) ho13 rfl ho14 ho15 ?_
  refine s_aload_n j1658 rfl rfl ?_
  refine s_iload_n j1659 rfl rfl ?_
  refine s_iconst j1660 rfl kc_ic_2 ?_
  refine s_g j1661 rfl rfl rfl rfl rfl rfl ?_
  obtain ⟨ho16, h⟩ := h
  obtain ⟨ho17, h⟩ := h
  obtain ⟨ho18, h⟩ := h
  refine s_ialoadR j1662 rfl (by decide) ho16 rfl ho17 ho18 ?_
  refine s_aload_n j1663 rfl rfl ?_
  refine s_iload_n j1664 rfl rfl ?_
  refine s_iconst j1665 rfl kc_ic_3 ?_
  refine s_g j1666 rfl rfl rfl rfl rfl rfl ?_
  obtain ⟨ho19, h⟩ := h
  obtain ⟨ho20, h⟩ := h
  obtain ⟨ho21, h⟩ := h
  refine s_ialoadR j1667 rfl (by decide) ho19 rfl ho20 ho21 ?_
  obtain ⟨ho22, h⟩ := h
  refine s_virt j1668 rfl rfl rfl rfl ho22 (by decide) (in_Rm_left _ _ _ _) (am_r8 rfl) (am_bL h (fun a24 σ23 h hx23 => ?_))
  replace h := h hx23
  refine s_g j1671 rfl rfl rfl rfl rfl rfl ?_
  refine s_if j1672 rfl rfl am_cl_eq (fun hc25 => ?_) (fun hc25 => ?_)
  · replace h := h.1 hc25
    refine s_iinc (L' := [some (am_ov (some 999)), some (am_ov x1), some (am_ov x2), some (.int (x3 + (8 : Int32)))]) j1921 rfl rfl kc_ic_8 (am_st1_R [_, _] _ _ _ _) ?_
    refine s_goto j1924 rfl rfl ?_
    exact h
  · replace h := h.2 hc25
    refine s_iconst j1675 rfl kc_ic_0 ?_
    exact s_retZ0 j1676 rfl h
theorem P_Law_law_1677 (nl : Bool) (Ln : Nat) (xs : Nat → Int32) : am_Jl (TT nl Ln xs) 352 [(1677, .aload_n 1, 1678, []), (1678, .aload_n 0, 1679, []), (1679, .iload_n 3, 1680, []), (1680, .iconst 1, 1681, []), (1681, .iadd, 1682, []), (1682, .iaload, 1683, []), (1683, .aload_n 0, 1684, []), (1684, .iload_n 3, 1685, []), (1685, .iconst 2, 1686, []), (1686, .iadd, 1687, []), (1687, .iaload, 1688, []), (1688, .aload_n 0, 1689, []), (1689, .iload_n 3, 1690, []), (1690, .iconst 3, 1691, []), (1691, .iadd, 1692, []), (1692, .iaload, 1693, []), (1693, .invokevirtual 159, 1696, [10, 173, 1, 4, 4]), (1696, .aload_n 2, 1697, []), (1697, .aload_n 0, 1698, []), (1698, .iload_n 3, 1699, []), (1699, .iconst 1, 1700, []), (1700, .iadd, 1701, []), (1701, .iaload, 1702, []), (1702, .aload_n 0, 1703, []), (1703, .iload_n 3, 1704, []), (1704, .iconst 2, 1705, []), (1705, .iadd, 1706, []), (1706, .iaload, 1707, []), (1707, .aload_n 0, 1708, []), (1708, .iload_n 3, 1709, []), (1709, .iconst 3, 1710, []), (1710, .iadd, 1711, []), (1711, .iaload, 1712, []), (1712, .invokevirtual 162, 1715, [10, 340, 13, 10, 4]), (1715, .lcmp, 1716, []), (1716, .ifCond .eq 205, 1719, []), (1719, .iconst 0, 1720, []), (1720, .ireturn, 1721, [4]), (1921, .iinc 3 8, 1924, []), (1924, .goto (-1906), 1927, [])] := dk_ck (by decide +kernel)
set_option maxRecDepth 4096 in
theorem w_Law_law_1677 {nl : Bool} {Ln : Nat} {xs : Nat → Int32} {d : Nat} {x1 : Option Nat} {x2 : Option Nat} {x3 : Int32} {σ : am_S} {F : Bool → am_S → Prop} (h : ((am_kd σ 999).1 = 0) ∧ (0 ≤ (x3 + (1 : Int32)).toInt) ∧ ((x3 + (1 : Int32)).toInt < am_rl (am_tz (TT nl Ln xs)) 999) ∧ ((am_kd σ 999).1 = 0) ∧ (0 ≤ (x3 + (2 : Int32)).toInt) ∧ ((x3 + (2 : Int32)).toInt < am_rl (am_tz (TT nl Ln xs)) 999) ∧ ((am_kd σ 999).1 = 0) ∧ (0 ≤ (x3 + (3 : Int32)).toInt) ∧ ((x3 + (3 : Int32)).toInt < am_rl (am_tz (TT nl Ln xs)) 999) ∧ (am_is σ x1 0) ∧ k_Co_reserved nl Ln xs d (x1.getD 0) (am_rv (am_tz (TT nl Ln xs)) 999 (x3 + (1 : Int32)).toNatClampNeg) (am_rv (am_tz (TT nl Ln xs)) 999 (x3 + (2 : Int32)).toNatClampNeg) (am_rv (am_tz (TT nl Ln xs)) 999 (x3 + (3 : Int32)).toNatClampNeg) σ (fun a12 σ11 => am_ext σ σ11 → ((am_kd σ11 999).1 = 0) ∧ (0 ≤ (x3 + (1 : Int32)).toInt) ∧ ((x3 + (1 : Int32)).toInt < am_rl (am_tz (TT nl Ln xs)) 999) ∧ ((am_kd σ11 999).1 = 0) ∧ (0 ≤ (x3 + (2 : Int32)).toInt) ∧ ((x3 + (2 : Int32)).toInt < am_rl (am_tz (TT nl Ln xs)) 999) ∧ ((am_kd σ11 999).1 = 0) ∧ (0 ≤ (x3 + (3 : Int32)).toInt) ∧ ((x3 + (3 : Int32)).toInt < am_rl (am_tz (TT nl Ln xs)) 999) ∧ (am_is σ11 x2 12) ∧ k_Rm_reserved nl Ln xs d (x2.getD 0) (am_rv (am_tz (TT nl Ln xs)) 999 (x3 + (1 : Int32)).toNatClampNeg) (am_rv (am_tz (TT nl Ln xs)) 999 (x3 + (2 : Int32)).toNatClampNeg) (am_rv (am_tz (TT nl Ln xs)) 999 (x3 + (3 : Int32)).toNatClampNeg) σ11 (fun a24 σ23 => am_ext σ11 σ23 → (a12 = a24 → c_Law_law_18 nl Ln xs (d + 1) x1 x2 (x3 + (8 : Int32)) σ23 F) ∧ (¬ (a12 = a24) → F false σ23)))) : c_Law_law_1677 nl Ln xs (d + 1) x1 x2 x3 σ F := by
  obtain ⟨j1677, j1678, j1679, j1680, j1681, j1682, j1683, j1684, j1685, j1686, j1687, j1688, j1689, j1690, j1691, j1692, j1693, j1696, j1697, j1698, j1699, j1700, j1701, j1702, j1703, j1704, j1705, j1706, j1707, j1708, j1709, j1710, j1711, j1712, j1715, j1716, j1719, j1720, j1921, j1924, -⟩ := P_Law_law_1677 nl Ln xs
  unfold c_Law_law_1677
  refine s_aload_n j1677 rfl rfl ?_
  refine s_aload_n j1678 rfl rfl ?_
  refine s_iload_n j1679 rfl rfl ?_
  refine s_iconst j1680 rfl kc_ic_1 ?_
  refine s_g j1681 rfl rfl rfl rfl rfl rfl ?_
  obtain ⟨ho1, h⟩ := h
  obtain ⟨ho2, h⟩ := h
  obtain ⟨ho3, h⟩ := h
  refine s_ialoadR j1682 rfl (by decide) ho1 rfl ho2 ho3 ?_
  refine s_aload_n j1683 rfl rfl ?_
  refine s_iload_n j1684 rfl rfl ?_
  refine s_iconst j1685 rfl kc_ic_2 ?_
  refine s_g j1686 rfl rfl rfl rfl rfl rfl ?_
  obtain ⟨ho4, h⟩ := h
  obtain ⟨ho5, h⟩ := h
  obtain ⟨ho6, h⟩ := h
  refine s_ialoadR j1687 rfl (by decide) ho4 rfl ho5 ho6 ?_
  refine s_aload_n j1688 rfl rfl ?_
  refine s_iload_n j1689 rfl rfl ?_
  refine s_iconst j1690 rfl kc_ic_3 ?_
  refine s_g j1691 rfl rfl rfl rfl rfl rfl ?_
  obtain ⟨ho7, h⟩ := h
  obtain ⟨ho8, h⟩ := h
  obtain ⟨ho9, h⟩ := h
  refine s_ialoadR j1692 rfl (by decide) ho7 rfl ho8 ho9 ?_
  obtain ⟨ho10, h⟩ := h
  refine s_virt j1693 rfl rfl rfl rfl ho10 (by decide) (in_Co_reserved _ _ _ _) (am_r8 rfl) (am_bL h (fun a12 σ11 h hx11 => ?_))
  replace h := h hx11
  refine s_aload_n j1696 rfl rfl ?_
  refine s_aload_n j1697 rfl rfl ?_
  refine s_iload_n j1698 rfl rfl ?_
  refine s_iconst j1699 rfl kc_ic_1 ?_
  refine s_g j1700 rfl rfl rfl rfl rfl rfl ?_
  obtain ⟨ho13, h⟩ := h
  obtain ⟨ho14, h⟩ := h
  obtain ⟨ho15, h⟩ := h
  refine s_ialoadR j1701 rfl (by decide) ho13 rfl ho14 ho15 ?_
  refine s_aload_n j1702 rfl rfl ?_
  refine s_iload_n j1703 rfl rfl ?_
  refine s_iconst j1704 rfl kc_ic_2 ?_
  refine s_g j1705 rfl rfl rfl rfl rfl rfl ?_
  obtain ⟨ho16, h⟩ := h
  obtain ⟨ho17, h⟩ := h
  obtain ⟨ho18, h⟩ := h
  refine s_ialoadR j1706 rfl (by decide) ho16 rfl ho17 ho18 ?_
  refine s_aload_n j1707 rfl rfl ?_
  refine s_iload_n j1708 rfl rfl ?_
  refine s_iconst j1709 rfl kc_ic_3 ?_
  refine s_g j1710 rfl rfl rfl rfl rfl rfl ?_
  obtain ⟨ho19, h⟩ := h
  obtain ⟨ho20, h⟩ := h
  obtain ⟨ho21, h⟩ := h
  refine s_ialoadR j1711 rfl (by decide) ho19 rfl ho20 ho21 ?_
  obtain ⟨ho22, h⟩ := h
  refine s_virt j1712 rfl rfl rfl rfl ho22 (by decide) (in_Rm_reserved _ _ _ _) (am_r8 rfl) (am_bL h (fun a24 σ23 h hx23 => ?_))
  replace h := h hx23
  refine s_g j1715 rfl rfl rfl rfl rfl rfl ?_
  refine s_if j1716 rfl rfl am_cl_eq (fun hc25 => ?_) (fun hc25 => ?_)
  · replace h := h.1 hc25
    refine s_iinc (L' := [some (am_ov (some 999)), some (am_ov x1), some (am_ov x2), some (.int (x3 + (8 : Int32)))]) j1921 rfl rfl kc_ic_8 (am_st1_R [_, _] _ _ _ _) ?_
    refine s_goto j1924 rfl rfl ?_
    exact h
  · replace h := h.2 hc25
    refine s_iconst j1719 rfl kc_ic_0 ?_
    exact s_retZ0 j1720 rfl h
theorem P_Law_law_1721 (nl : Bool) (Ln : Nat) (xs : Nat → Int32) : am_Jl (TT nl Ln xs) 352 [(1721, .aload_n 1, 1722, []), (1722, .aload_n 0, 1723, []), (1723, .iload_n 3, 1724, []), (1724, .iconst 1, 1725, []), (1725, .iadd, 1726, []), (1726, .iaload, 1727, []), (1727, .aload_n 0, 1728, []), (1728, .iload_n 3, 1729, []), (1729, .iconst 2, 1730, []), (1730, .iadd, 1731, []), (1731, .iaload, 1732, []), (1732, .aload_n 0, 1733, []), (1733, .iload_n 3, 1734, []), (1734, .iconst 3, 1735, []), (1735, .iadd, 1736, []), (1736, .iaload, 1737, []), (1737, .aload_n 0, 1738, []), (1738, .iload_n 3, 1739, []), (1739, .iconst 4, 1740, []), (1740, .iadd, 1741, []), (1741, .iaload, 1742, []), (1742, .invokevirtual 163, 1745, [10, 175, 1, 5, 5]), (1745, .aload_n 2, 1746, []), (1746, .aload_n 0, 1747, []), (1747, .iload_n 3, 1748, []), (1748, .iconst 1, 1749, []), (1749, .iadd, 1750, []), (1750, .iaload, 1751, []), (1751, .aload_n 0, 1752, []), (1752, .iload_n 3, 1753, []), (1753, .iconst 2, 1754, []), (1754, .iadd, 1755, []), (1755, .iaload, 1756, []), (1756, .aload_n 0, 1757, []), (1757, .iload_n 3, 1758, []), (1758, .iconst 3, 1759, []), (1759, .iadd, 1760, []), (1760, .iaload, 1761, []), (1761, .aload_n 0, 1762, []), (1762, .iload_n 3, 1763, []), (1763, .iconst 4, 1764, []), (1764, .iadd, 1765, []), (1765, .iaload, 1766, []), (1766, .invokevirtual 167, 1769, [10, 341, 13, 5, 5]), (1769, .lcmp, 1770, []), (1770, .ifCond .eq 151, 1773, []), (1773, .iconst 0, 1774, []), (1774, .ireturn, 1775, [4]), (1921, .iinc 3 8, 1924, []), (1924, .goto (-1906), 1927, [])] := dk_ck (by decide +kernel)
set_option maxRecDepth 4096 in
theorem w_Law_law_1721 {nl : Bool} {Ln : Nat} {xs : Nat → Int32} {d : Nat} {x1 : Option Nat} {x2 : Option Nat} {x3 : Int32} {σ : am_S} {F : Bool → am_S → Prop} (h : ((am_kd σ 999).1 = 0) ∧ (0 ≤ (x3 + (1 : Int32)).toInt) ∧ ((x3 + (1 : Int32)).toInt < am_rl (am_tz (TT nl Ln xs)) 999) ∧ ((am_kd σ 999).1 = 0) ∧ (0 ≤ (x3 + (2 : Int32)).toInt) ∧ ((x3 + (2 : Int32)).toInt < am_rl (am_tz (TT nl Ln xs)) 999) ∧ ((am_kd σ 999).1 = 0) ∧ (0 ≤ (x3 + (3 : Int32)).toInt) ∧ ((x3 + (3 : Int32)).toInt < am_rl (am_tz (TT nl Ln xs)) 999) ∧ ((am_kd σ 999).1 = 0) ∧ (0 ≤ (x3 + (4 : Int32)).toInt) ∧ ((x3 + (4 : Int32)).toInt < am_rl (am_tz (TT nl Ln xs)) 999) ∧ (am_is σ x1 0) ∧ k_Co_run nl Ln xs d (x1.getD 0) (am_rv (am_tz (TT nl Ln xs)) 999 (x3 + (1 : Int32)).toNatClampNeg) (am_rv (am_tz (TT nl Ln xs)) 999 (x3 + (2 : Int32)).toNatClampNeg) (am_rv (am_tz (TT nl Ln xs)) 999 (x3 + (3 : Int32)).toNatClampNeg) (am_rv (am_tz (TT nl Ln xs)) 999 (x3 + (4 : Int32)).toNatClampNeg) σ (fun a15 σ14 => am_ext σ σ14 → ((am_kd σ14 999).1 = 0) ∧ (0 ≤ (x3 + (1 : Int32)).toInt) ∧ ((x3 + (1 : Int32)).toInt < am_rl (am_tz (TT nl Ln xs)) 999) ∧ ((am_kd σ14 999).1 = 0) ∧ (0 ≤ (x3 + (2 : Int32)).toInt) ∧ ((x3 + (2 : Int32)).toInt < am_rl (am_tz (TT nl Ln xs)) 999) ∧ ((am_kd σ14 999).1 = 0) ∧ (0 ≤ (x3 + (3 : Int32)).toInt) ∧ ((x3 + (3 : Int32)).toInt < am_rl (am_tz (TT nl Ln xs)) 999) ∧ ((am_kd σ14 999).1 = 0) ∧ (0 ≤ (x3 + (4 : Int32)).toInt) ∧ ((x3 + (4 : Int32)).toInt < am_rl (am_tz (TT nl Ln xs)) 999) ∧ (am_is σ14 x2 12) ∧ k_Rm_run nl Ln xs d (x2.getD 0) (am_rv (am_tz (TT nl Ln xs)) 999 (x3 + (1 : Int32)).toNatClampNeg) (am_rv (am_tz (TT nl Ln xs)) 999 (x3 + (2 : Int32)).toNatClampNeg) (am_rv (am_tz (TT nl Ln xs)) 999 (x3 + (3 : Int32)).toNatClampNeg) (am_rv (am_tz (TT nl Ln xs)) 999 (x3 + (4 : Int32)).toNatClampNeg) σ14 (fun a30 σ29 => am_ext σ14 σ29 → (a15 = a30 → c_Law_law_18 nl Ln xs (d + 1) x1 x2 (x3 + (8 : Int32)) σ29 F) ∧ (¬ (a15 = a30) → F false σ29)))) : c_Law_law_1721 nl Ln xs (d + 1) x1 x2 x3 σ F := by
  obtain ⟨j1721, j1722, j1723, j1724, j1725, j1726, j1727, j1728, j1729, j1730, j1731, j1732, j1733, j1734, j1735, j1736, j1737, j1738, j1739, j1740, j1741, j1742, j1745, j1746, j1747, j1748, j1749, j1750, j1751, j1752, j1753, j1754, j1755, j1756, j1757, j1758, j1759, j1760, j1761, j1762, j1763, j1764, j1765, j1766, j1769, j1770, j1773, j1774, j1921, j1924, -⟩ := P_Law_law_1721 nl Ln xs
  unfold c_Law_law_1721
  refine s_aload_n j1721 rfl rfl ?_
  refine s_aload_n j1722 rfl rfl ?_
  refine s_iload_n j1723 rfl rfl ?_
  refine s_iconst j1724 rfl kc_ic_1 ?_
  refine s_g j1725 rfl rfl rfl rfl rfl rfl ?_
  obtain ⟨ho1, h⟩ := h
  obtain ⟨ho2, h⟩ := h
  obtain ⟨ho3, h⟩ := h
  refine s_ialoadR j1726 rfl (by decide) ho1 rfl ho2 ho3 ?_
  refine s_aload_n j1727 rfl rfl ?_
  refine s_iload_n j1728 rfl rfl ?_
  refine s_iconst j1729 rfl kc_ic_2 ?_
  refine s_g j1730 rfl rfl rfl rfl rfl rfl ?_
  obtain ⟨ho4, h⟩ := h
  obtain ⟨ho5, h⟩ := h
  obtain ⟨ho6, h⟩ := h
  refine s_ialoadR j1731 rfl (by decide) ho4 rfl ho5 ho6 ?_
  refine s_aload_n j1732 rfl rfl ?_
  refine s_iload_n j1733 rfl rfl ?_
  refine s_iconst j1734 rfl kc_ic_3 ?_
  refine s_g j1735 rfl rfl rfl rfl rfl rfl ?_
  obtain ⟨ho7, h⟩ := h
  obtain ⟨ho8, h⟩ := h
  obtain ⟨ho9, h⟩ := h
  refine s_ialoadR j1736 rfl (by decide) ho7 rfl ho8 ho9 ?_
  refine s_aload_n j1737 rfl rfl ?_
  refine s_iload_n j1738 rfl rfl ?_
  refine s_iconst j1739 rfl kc_ic_4 ?_
  refine s_g j1740 rfl rfl rfl rfl rfl rfl ?_
  obtain ⟨ho10, h⟩ := h
  obtain ⟨ho11, h⟩ := h
  obtain ⟨ho12, h⟩ := h
  refine s_ialoadR j1741 rfl (by decide) ho10 rfl ho11 ho12 ?_
  obtain ⟨ho13, h⟩ := h
  refine s_virt j1742 rfl rfl rfl rfl ho13 (by decide) (in_Co_run _ _ _ _ _) (am_r8 rfl) (am_bL h (fun a15 σ14 h hx14 => ?_))
  replace h := h hx14
  refine s_aload_n j1745 rfl rfl ?_
  refine s_aload_n j1746 rfl rfl ?_
  refine s_iload_n j1747 rfl rfl ?_
  refine s_iconst j1748 rfl kc_ic_1 ?_
  refine s_g j1749 rfl rfl rfl rfl rfl rfl ?_
  obtain ⟨ho16, h⟩ := h
  obtain ⟨ho17, h⟩ := h
  obtain ⟨ho18, h⟩ := h
  refine s_ialoadR j1750 rfl (by decide) ho16 rfl ho17 ho18 ?_
  refine s_aload_n j1751 rfl rfl ?_
  refine s_iload_n j1752 rfl rfl ?_
  refine s_iconst j1753 rfl kc_ic_2 ?_
  refine s_g j1754 rfl rfl rfl rfl rfl rfl ?_
  obtain ⟨ho19, h⟩ := h
  obtain ⟨ho20, h⟩ := h
  obtain ⟨ho21, h⟩ := h
  refine s_ialoadR j1755 rfl (by decide) ho19 rfl ho20 ho21 ?_
  refine s_aload_n j1756 rfl rfl ?_
  refine s_iload_n j1757 rfl rfl ?_
  refine s_iconst j1758 rfl kc_ic_3 ?_
  refine s_g j1759 rfl rfl rfl rfl rfl rfl ?_
  obtain ⟨ho22, h⟩ := h
  obtain ⟨ho23, h⟩ := h
  obtain ⟨ho24, h⟩ := h
  refine s_ialoadR j1760 rfl (by decide) ho22 rfl ho23 ho24 ?_
  refine s_aload_n j1761 rfl rfl ?_
  refine s_iload_n j1762 rfl rfl ?_
  refine s_iconst j1763 rfl kc_ic_4 ?_
  refine s_g j1764 rfl rfl rfl rfl rfl rfl ?_
  obtain ⟨ho25, h⟩ := h
  obtain ⟨ho26, h⟩ := h
  obtain ⟨ho27, h⟩ := h
  refine s_ialoadR j1765 rfl (by decide) ho25 rfl ho26 ho27 ?_
  obtain ⟨ho28, h⟩ := h
  refine s_virt j1766 rfl rfl rfl rfl ho28 (by decide) (in_Rm_run _ _ _ _ _) (am_r8 rfl) (am_bL h (fun a30 σ29 h hx29 => ?_))
  replace h := h hx29
  refine s_g j1769 rfl rfl rfl rfl rfl rfl ?_
  refine s_if j1770 rfl rfl am_cl_eq (fun hc31 => ?_) (fun hc31 => ?_)
  · replace h := h.1 hc31
    refine s_iinc (L' := [some (am_ov (some 999)), some (am_ov x1), some (am_ov x2), some (.int (x3 + (8 : Int32)))]) j1921 rfl rfl kc_ic_8 (am_st1_R [_, _] _ _ _ _) ?_
    refine s_goto j1924 rfl rfl ?_
    exact h
  · replace h := h.2 hc31
    refine s_iconst j1773 rfl kc_ic_0 ?_
    exact s_retZ0 j1774 rfl h
theorem P_Law_law_1775 (nl : Bool) (Ln : Nat) (xs : Nat → Int32) : am_Jl (TT nl Ln xs) 352 [(1775, .aload_n 1, 1776, []), (1776, .aload_n 0, 1777, []), (1777, .iload_n 3, 1778, []), (1778, .iconst 1, 1779, []), (1779, .iadd, 1780, []), (1780, .iaload, 1781, []), (1781, .aload_n 0, 1782, []), (1782, .iload_n 3, 1783, []), (1783, .iconst 2, 1784, []), (1784, .iadd, 1785, []), (1785, .iaload, 1786, []), (1786, .aload_n 0, 1787, []), (1787, .iload_n 3, 1788, []), (1788, .iconst 3, 1789, []), (1789, .iadd, 1790, []), (1790, .iaload, 1791, []), (1791, .aload_n 0, 1792, []), (1792, .iload_n 3, 1793, []), (1793, .iconst 4, 1794, []), (1794, .iadd, 1795, []), (1795, .iaload, 1796, []), (1796, .aload_n 0, 1797, []), (1797, .iload_n 3, 1798, []), (1798, .iconst 5, 1799, []), (1799, .iadd, 1800, []), (1800, .iaload, 1801, []), (1801, .invokevirtual 168, 1804, [10, 177, 1, 12, 6]), (1804, .aload_n 2, 1805, []), (1805, .aload_n 0, 1806, []), (1806, .iload_n 3, 1807, []), (1807, .iconst 1, 1808, []), (1808, .iadd, 1809, []), (1809, .iaload, 1810, []), (1810, .aload_n 0, 1811, []), (1811, .iload_n 3, 1812, []), (1812, .iconst 2, 1813, []), (1813, .iadd, 1814, []), (1814, .iaload, 1815, []), (1815, .aload_n 0, 1816, []), (1816, .iload_n 3, 1817, []), (1817, .iconst 3, 1818, []), (1818, .iadd, 1819, []), (1819, .iaload, 1820, []), (1820, .aload_n 0, 1821, []), (1821, .iload_n 3, 1822, []), (1822, .iconst 4, 1823, []), (1823, .iadd, 1824, []), (1824, .iaload, 1825, []), (1825, .aload_n 0, 1826, []), (1826, .iload_n 3, 1827, []), (1827, .iconst 5, 1828, []), (1828, .iadd, 1829, []), (1829, .iaload, 1830, []), (1830, .invokevirtual 172, 1833, [10, 343, 13, 18, 6]), (1833, .lcmp, 1834, []), (1834, .ifCond .eq 87, 1837, []), (1837, .iconst 0, 1838, []), (1838, .ireturn, 1839, [4]), (1921, .iinc 3 8, 1924, []), (1924, .goto (-1906), 1927, [])] := dk_ck (by decide +kernel)
set_option maxRecDepth 4096 in
theorem w_Law_law_1775 {nl : Bool} {Ln : Nat} {xs : Nat → Int32} {d : Nat} {x1 : Option Nat} {x2 : Option Nat} {x3 : Int32} {σ : am_S} {F : Bool → am_S → Prop} (h : ((am_kd σ 999).1 = 0) ∧ (0 ≤ (x3 + (1 : Int32)).toInt) ∧ ((x3 + (1 : Int32)).toInt < am_rl (am_tz (TT nl Ln xs)) 999) ∧ ((am_kd σ 999).1 = 0) ∧ (0 ≤ (x3 + (2 : Int32)).toInt) ∧ ((x3 + (2 : Int32)).toInt < am_rl (am_tz (TT nl Ln xs)) 999) ∧ ((am_kd σ 999).1 = 0) ∧ (0 ≤ (x3 + (3 : Int32)).toInt) ∧ ((x3 + (3 : Int32)).toInt < am_rl (am_tz (TT nl Ln xs)) 999) ∧ ((am_kd σ 999).1 = 0) ∧ (0 ≤ (x3 + (4 : Int32)).toInt) ∧ ((x3 + (4 : Int32)).toInt < am_rl (am_tz (TT nl Ln xs)) 999) ∧ ((am_kd σ 999).1 = 0) ∧ (0 ≤ (x3 + (5 : Int32)).toInt) ∧ ((x3 + (5 : Int32)).toInt < am_rl (am_tz (TT nl Ln xs)) 999) ∧ (am_is σ x1 0) ∧ k_Co_factor nl Ln xs d (x1.getD 0) (am_rv (am_tz (TT nl Ln xs)) 999 (x3 + (1 : Int32)).toNatClampNeg) (am_rv (am_tz (TT nl Ln xs)) 999 (x3 + (2 : Int32)).toNatClampNeg) (am_rv (am_tz (TT nl Ln xs)) 999 (x3 + (3 : Int32)).toNatClampNeg) (am_rv (am_tz (TT nl Ln xs)) 999 (x3 + (4 : Int32)).toNatClampNeg) (am_rv (am_tz (TT nl Ln xs)) 999 (x3 + (5 : Int32)).toNatClampNeg) σ (fun a18 σ17 => am_ext σ σ17 → ((am_kd σ17 999).1 = 0) ∧ (0 ≤ (x3 + (1 : Int32)).toInt) ∧ ((x3 + (1 : Int32)).toInt < am_rl (am_tz (TT nl Ln xs)) 999) ∧ ((am_kd σ17 999).1 = 0) ∧ (0 ≤ (x3 + (2 : Int32)).toInt) ∧ ((x3 + (2 : Int32)).toInt < am_rl (am_tz (TT nl Ln xs)) 999) ∧ ((am_kd σ17 999).1 = 0) ∧ (0 ≤ (x3 + (3 : Int32)).toInt) ∧ ((x3 + (3 : Int32)).toInt < am_rl (am_tz (TT nl Ln xs)) 999) ∧ ((am_kd σ17 999).1 = 0) ∧ (0 ≤ (x3 + (4 : Int32)).toInt) ∧ ((x3 + (4 : Int32)).toInt < am_rl (am_tz (TT nl Ln xs)) 999) ∧ ((am_kd σ17 999).1 = 0) ∧ (0 ≤ (x3 + (5 : Int32)).toInt) ∧ ((x3 + (5 : Int32)).toInt < am_rl (am_tz (TT nl Ln xs)) 999) ∧ (am_is σ17 x2 12) ∧ k_Rm_factor nl Ln xs d (x2.getD 0) (am_rv (am_tz (TT nl Ln xs)) 999 (x3 + (1 : Int32)).toNatClampNeg) (am_rv (am_tz (TT nl Ln xs)) 999 (x3 + (2 : Int32)).toNatClampNeg) (am_rv (am_tz (TT nl Ln xs)) 999 (x3 + (3 : Int32)).toNatClampNeg) (am_rv (am_tz (TT nl Ln xs)) 999 (x3 + (4 : Int32)).toNatClampNeg) (am_rv (am_tz (TT nl Ln xs)) 999 (x3 + (5 : Int32)).toNatClampNeg) σ17 (fun a36 σ35 => am_ext σ17 σ35 → (a18 = a36 → c_Law_law_18 nl Ln xs (d + 1) x1 x2 (x3 + (8 : Int32)) σ35 F) ∧ (¬ (a18 = a36) → F false σ35)))) : c_Law_law_1775 nl Ln xs (d + 1) x1 x2 x3 σ F := by
  obtain ⟨j1775, j1776, j1777, j1778, j1779, j1780, j1781, j1782, j1783, j1784, j1785, j1786, j1787, j1788, j1789, j1790, j1791, j1792, j1793, j1794, j1795, j1796, j1797, j1798, j1799, j1800, j1801, j1804, j1805, j1806, j1807, j1808, j1809, j1810, j1811, j1812, j1813, j1814, j1815, j1816, j1817, j1818, j1819, j1820, j1821, j1822, j1823, j1824, j1825, j1826, j1827, j1828, j1829, j1830, j1833, j1834, j1837, j1838, j1921, j1924, -⟩ := P_Law_law_1775 nl Ln xs
  unfold c_Law_law_1775
  refine s_aload_n j1775 rfl rfl ?_
  refine s_aload_n j1776 rfl rfl ?_
  refine s_iload_n j1777 rfl rfl ?_
  refine s_iconst j1778 rfl kc_ic_1 ?_
  refine s_g j1779 rfl rfl rfl rfl rfl rfl ?_
  obtain ⟨ho1, h⟩ := h
  obtain ⟨ho2, h⟩ := h
  obtain ⟨ho3, h⟩ := h
  refine s_ialoadR j1780 rfl (by decide) ho1 rfl ho2 ho3 ?_
  refine s_aload_n j1781 rfl rfl ?_
  refine s_iload_n j1782 rfl rfl ?_
  refine s_iconst j1783 rfl kc_ic_2 ?_
  refine s_g j1784 rfl rfl rfl rfl rfl rfl ?_
  obtain ⟨ho4, h⟩ := h
  obtain ⟨ho5, h⟩ := h
  obtain ⟨ho6, h⟩ := h
  refine s_ialoadR j1785 rfl (by decide) ho4 rfl ho5 ho6 ?_
  refine s_aload_n j1786 rfl rfl ?_
  refine s_iload_n j1787 rfl rfl ?_
  refine s_iconst j1788 rfl kc_ic_3 ?_
  refine s_g j1789 rfl rfl rfl rfl rfl rfl ?_
  obtain ⟨ho7, h⟩ := h
  obtain ⟨ho8, h⟩ := h
  obtain ⟨ho9, h⟩ := h
  refine s_ialoadR j1790 rfl (by decide) ho7 rfl ho8 ho9 ?_
  refine s_aload_n j1791 rfl rfl ?_
  refine s_iload_n j1792 rfl rfl ?_
  refine s_iconst j1793 rfl kc_ic_4 ?_
  refine s_g j1794 rfl rfl rfl rfl rfl rfl ?_
  obtain ⟨ho10, h⟩ := h
  obtain ⟨ho11, h⟩ := h
  obtain ⟨ho12, h⟩ := h
  refine s_ialoadR j1795 rfl (by decide) ho10 rfl ho11 ho12 ?_
  refine s_aload_n j1796 rfl rfl ?_
  refine s_iload_n j1797 rfl rfl ?_
  refine s_iconst j1798 rfl kc_ic_5 ?_
  refine s_g j1799 rfl rfl rfl rfl rfl rfl ?_
  obtain ⟨ho13, h⟩ := h
  obtain ⟨ho14, h⟩ := h
  obtain ⟨ho15, h⟩ := h
  refine s_ialoadR j1800 rfl (by decide) ho13 rfl ho14 ho15 ?_
  obtain ⟨ho16, h⟩ := h
  refine s_virt j1801 rfl rfl rfl rfl ho16 (by decide) (in_Co_factor _ _ _ _ _ _) (am_r8 rfl) (am_bL h (fun a18 σ17 h hx17 => ?_))
  replace h := h hx17
  refine s_aload_n j1804 rfl rfl ?_
  refine s_aload_n j1805 rfl rfl ?_
  refine s_iload_n j1806 rfl rfl ?_
  refine s_iconst j1807 rfl kc_ic_1 ?_
  refine s_g j1808 rfl rfl rfl rfl rfl rfl ?_
  obtain ⟨ho19, h⟩ := h
  obtain ⟨ho20, h⟩ := h
  obtain ⟨ho21, h⟩ := h
  refine s_ialoadR j1809 rfl (by decide) ho19 rfl ho20 ho21 ?_
  refine s_aload_n j1810 rfl rfl ?_
  refine s_iload_n j1811 rfl rfl ?_
  refine s_iconst j1812 rfl kc_ic_2 ?_
  refine s_g j1813 rfl rfl rfl rfl rfl rfl ?_
  obtain ⟨ho22, h⟩ := h
  obtain ⟨ho23, h⟩ := h
  obtain ⟨ho24, h⟩ := h
  refine s_ialoadR j1814 rfl (by decide) ho22 rfl ho23 ho24 ?_
  refine s_aload_n j1815 rfl rfl ?_
  refine s_iload_n j1816 rfl rfl ?_
  refine s_iconst j1817 rfl kc_ic_3 ?_
  refine s_g j1818 rfl rfl rfl rfl rfl rfl ?_
  obtain ⟨ho25, h⟩ := h
  obtain ⟨ho26, h⟩ := h
  obtain ⟨ho27, h⟩ := h
  refine s_ialoadR j1819 rfl (by decide) ho25 rfl ho26 ho27 ?_
  refine s_aload_n j1820 rfl rfl ?_
  refine s_iload_n j1821 rfl rfl ?_
  refine s_iconst j1822 rfl kc_ic_4 ?_
  refine s_g j1823 rfl rfl rfl rfl rfl rfl ?_
  obtain ⟨ho28, h⟩ := h
  obtain ⟨ho29, h⟩ := h
  obtain ⟨ho30, h⟩ := h
  refine s_ialoadR j1824 rfl (by decide) ho28 rfl ho29 ho30 ?_
  refine s_aload_n j1825 rfl rfl ?_
  refine s_iload_n j1826 rfl rfl ?_
  refine s_iconst j1827 rfl kc_ic_5 ?_
  refine s_g j1828 rfl rfl rfl rfl rfl rfl ?_
  obtain ⟨ho31, h⟩ := h
  obtain ⟨ho32, h⟩ := h
  obtain ⟨ho33, h⟩ := h
  refine s_ialoadR j1829 rfl (by decide) ho31 rfl ho32 ho33 ?_
  obtain ⟨ho34, h⟩ := h
  refine s_virt j1830 rfl rfl rfl rfl ho34 (by decide) (in_Rm_factor _ _ _ _ _ _) (am_r8 rfl) (am_bL h (fun a36 σ35 h hx35 => ?_))
  replace h := h hx35
  refine s_g j1833 rfl rfl rfl rfl rfl rfl ?_
  refine s_if j1834 rfl rfl am_cl_eq (fun hc37 => ?_) (fun hc37 => ?_)
  · replace h := h.1 hc37
    refine s_iinc (L' := [some (am_ov (some 999)), some (am_ov x1), some (am_ov x2), some (.int (x3 + (8 : Int32)))]) j1921 rfl rfl kc_ic_8 (am_st1_R [_, _] _ _ _ _) ?_
    refine s_goto j1924 rfl rfl ?_
    exact h
  · replace h := h.2 hc37
    refine s_iconst j1837 rfl kc_ic_0 ?_
    exact s_retZ0 j1838 rfl h
theorem P_Law_law_1839 (nl : Bool) (Ln : Nat) (xs : Nat → Int32) : am_Jl (TT nl Ln xs) 352 [(1839, .aload_n 1, 1840, []), (1840, .invokevirtual 173, 1843, [10, 179, 1, 3, 1]), (1843, .aload_n 2, 1844, []), (1844, .invokevirtual 176, 1847, [10, 346, 13, 3, 1]), (1847, .if_icmp .eq 74, 1850, []), (1850, .iconst 0, 1851, []), (1851, .ireturn, 1852, [4]), (1921, .iinc 3 8, 1924, []), (1924, .goto (-1906), 1927, [])] := dk_ck (by decide +kernel)
set_option maxRecDepth 4096 in
theorem w_Law_law_1839 {nl : Bool} {Ln : Nat} {xs : Nat → Int32} {d : Nat} {x1 : Option Nat} {x2 : Option Nat} {x3 : Int32} {σ : am_S} {F : Bool → am_S → Prop} (h : (am_is σ x1 0) ∧ k_Co_write nl Ln xs d (x1.getD 0) σ (fun a3 σ2 => am_ext σ σ2 → (am_is σ2 x2 12) ∧ k_Rm_write nl Ln xs d (x2.getD 0) σ2 (fun a6 σ5 => am_ext σ2 σ5 → (a3 = a6 → c_Law_law_18 nl Ln xs (d + 1) x1 x2 (x3 + (8 : Int32)) σ5 F) ∧ (¬ (a3 = a6) → F false σ5)))) : c_Law_law_1839 nl Ln xs (d + 1) x1 x2 x3 σ F := by
  obtain ⟨j1839, j1840, j1843, j1844, j1847, j1850, j1851, j1921, j1924, -⟩ := P_Law_law_1839 nl Ln xs
  unfold c_Law_law_1839
  refine s_aload_n j1839 rfl rfl ?_
  obtain ⟨ho1, h⟩ := h
  refine s_virt j1840 rfl rfl rfl rfl ho1 (by decide) (in_Co_write _) (am_r8 rfl) (am_bI h (fun a3 σ2 h hx2 => ?_))
  replace h := h hx2
  refine s_aload_n j1843 rfl rfl ?_
  obtain ⟨ho4, h⟩ := h
  refine s_virt j1844 rfl rfl rfl rfl ho4 (by decide) (in_Rm_write _) (am_r8 rfl) (am_bI h (fun a6 σ5 h hx5 => ?_))
  replace h := h hx5
  refine s_ic j1847 rfl rfl am_cc_eq (fun hc7 => ?_) (fun hc7 => ?_)
  · replace h := h.1 hc7
    refine s_iinc (L' := [some (am_ov (some 999)), some (am_ov x1), some (am_ov x2), some (.int (x3 + (8 : Int32)))]) j1921 rfl rfl kc_ic_8 (am_st1_R [_, _] _ _ _ _) ?_
    refine s_goto j1924 rfl rfl ?_
    exact h
  · replace h := h.2 hc7
    refine s_iconst j1850 rfl kc_ic_0 ?_
    exact s_retZ0 j1851 rfl h
theorem P_Law_law_1852 (nl : Bool) (Ln : Nat) (xs : Nat → Int32) : am_Jl (TT nl Ln xs) 352 [(1852, .aload_n 1, 1853, []), (1853, .invokevirtual 177, 1856, [10, 181, 1, 7, 1]), (1856, .aload_n 2, 1857, []), (1857, .invokevirtual 180, 1860, [10, 347, 13, 5, 1]), (1860, .if_icmp .eq 61, 1863, []), (1863, .iconst 0, 1864, []), (1864, .ireturn, 1865, [4]), (1921, .iinc 3 8, 1924, []), (1924, .goto (-1906), 1927, [])] := dk_ck (by decide +kernel)
set_option maxRecDepth 4096 in
theorem w_Law_law_1852 {nl : Bool} {Ln : Nat} {xs : Nat → Int32} {d : Nat} {x1 : Option Nat} {x2 : Option Nat} {x3 : Int32} {σ : am_S} {F : Bool → am_S → Prop} (h : (am_is σ x1 0) ∧ k_Co_takeIn nl Ln xs d (x1.getD 0) σ (fun a3 σ2 => am_ext σ σ2 → (am_is σ2 x2 12) ∧ k_Rm_takeIn nl Ln xs d (x2.getD 0) σ2 (fun a6 σ5 => am_ext σ2 σ5 → (a3 = a6 → c_Law_law_18 nl Ln xs (d + 1) x1 x2 (x3 + (8 : Int32)) σ5 F) ∧ (¬ (a3 = a6) → F false σ5)))) : c_Law_law_1852 nl Ln xs (d + 1) x1 x2 x3 σ F := by
  obtain ⟨j1852, j1853, j1856, j1857, j1860, j1863, j1864, j1921, j1924, -⟩ := P_Law_law_1852 nl Ln xs
  unfold c_Law_law_1852
  refine s_aload_n j1852 rfl rfl ?_
  obtain ⟨ho1, h⟩ := h
  refine s_virt j1853 rfl rfl rfl rfl ho1 (by decide) (in_Co_takeIn _) (am_r8 rfl) (am_bI h (fun a3 σ2 h hx2 => ?_))
  replace h := h hx2
  refine s_aload_n j1856 rfl rfl ?_
  obtain ⟨ho4, h⟩ := h
  refine s_virt j1857 rfl rfl rfl rfl ho4 (by decide) (in_Rm_takeIn _) (am_r8 rfl) (am_bI h (fun a6 σ5 h hx5 => ?_))
  replace h := h hx5
  refine s_ic j1860 rfl rfl am_cc_eq (fun hc7 => ?_) (fun hc7 => ?_)
  · replace h := h.1 hc7
    refine s_iinc (L' := [some (am_ov (some 999)), some (am_ov x1), some (am_ov x2), some (.int (x3 + (8 : Int32)))]) j1921 rfl rfl kc_ic_8 (am_st1_R [_, _] _ _ _ _) ?_
    refine s_goto j1924 rfl rfl ?_
    exact h
  · replace h := h.2 hc7
    refine s_iconst j1863 rfl kc_ic_0 ?_
    exact s_retZ0 j1864 rfl h
theorem P_Law_law_1865 (nl : Bool) (Ln : Nat) (xs : Nat → Int32) : am_Jl (TT nl Ln xs) 352 [(1865, .aload_n 1, 1866, []), (1866, .aload_n 0, 1867, []), (1867, .iload_n 3, 1868, []), (1868, .iconst 1, 1869, []), (1869, .iadd, 1870, []), (1870, .iaload, 1871, []), (1871, .aload_n 0, 1872, []), (1872, .iload_n 3, 1873, []), (1873, .iconst 2, 1874, []), (1874, .iadd, 1875, []), (1875, .iaload, 1876, []), (1876, .invokevirtual 181, 1879, [10, 195, 1, 4, 3]), (1879, .aload_n 2, 1880, []), (1880, .aload_n 0, 1881, []), (1881, .iload_n 3, 1882, []), (1882, .iconst 1, 1883, []), (1883, .iadd, 1884, []), (1884, .iaload, 1885, []), (1885, .aload_n 0, 1886, []), (1886, .iload_n 3, 1887, []), (1887, .iconst 2, 1888, []), (1888, .iadd, 1889, []), (1889, .iaload, 1890, []), (1890, .invokevirtual 184, 1893, [10, 344, 13, 3, 3]), (1893, .if_icmp .eq 28, 1896, []), (1896, .iconst 0, 1897, []), (1897, .ireturn, 1898, [4]), (1921, .iinc 3 8, 1924, []), (1924, .goto (-1906), 1927, [])] := dk_ck (by decide +kernel)
set_option maxRecDepth 4096 in
theorem w_Law_law_1865 {nl : Bool} {Ln : Nat} {xs : Nat → Int32} {d : Nat} {x1 : Option Nat} {x2 : Option Nat} {x3 : Int32} {σ : am_S} {F : Bool → am_S → Prop} (h : ((am_kd σ 999).1 = 0) ∧ (0 ≤ (x3 + (1 : Int32)).toInt) ∧ ((x3 + (1 : Int32)).toInt < am_rl (am_tz (TT nl Ln xs)) 999) ∧ ((am_kd σ 999).1 = 0) ∧ (0 ≤ (x3 + (2 : Int32)).toInt) ∧ ((x3 + (2 : Int32)).toInt < am_rl (am_tz (TT nl Ln xs)) 999) ∧ (am_is σ x1 0) ∧ k_Co_of nl Ln xs d (x1.getD 0) (am_rv (am_tz (TT nl Ln xs)) 999 (x3 + (1 : Int32)).toNatClampNeg) (am_rv (am_tz (TT nl Ln xs)) 999 (x3 + (2 : Int32)).toNatClampNeg) σ (fun a9 σ8 => am_ext σ σ8 → ((am_kd σ8 999).1 = 0) ∧ (0 ≤ (x3 + (1 : Int32)).toInt) ∧ ((x3 + (1 : Int32)).toInt < am_rl (am_tz (TT nl Ln xs)) 999) ∧ ((am_kd σ8 999).1 = 0) ∧ (0 ≤ (x3 + (2 : Int32)).toInt) ∧ ((x3 + (2 : Int32)).toInt < am_rl (am_tz (TT nl Ln xs)) 999) ∧ (am_is σ8 x2 12) ∧ k_Rm_of nl Ln xs d (x2.getD 0) (am_rv (am_tz (TT nl Ln xs)) 999 (x3 + (1 : Int32)).toNatClampNeg) (am_rv (am_tz (TT nl Ln xs)) 999 (x3 + (2 : Int32)).toNatClampNeg) σ8 (fun a18 σ17 => am_ext σ8 σ17 → (a9 = a18 → c_Law_law_18 nl Ln xs (d + 1) x1 x2 (x3 + (8 : Int32)) σ17 F) ∧ (¬ (a9 = a18) → F false σ17)))) : c_Law_law_1865 nl Ln xs (d + 1) x1 x2 x3 σ F := by
  obtain ⟨j1865, j1866, j1867, j1868, j1869, j1870, j1871, j1872, j1873, j1874, j1875, j1876, j1879, j1880, j1881, j1882, j1883, j1884, j1885, j1886, j1887, j1888, j1889, j1890, j1893, j1896, j1897, j1921, j1924, -⟩ := P_Law_law_1865 nl Ln xs
  unfold c_Law_law_1865
  refine s_aload_n j1865 rfl rfl ?_
  refine s_aload_n j1866 rfl rfl ?_
  refine s_iload_n j1867 rfl rfl ?_
  refine s_iconst j1868 rfl kc_ic_1 ?_
  refine s_g j1869 rfl rfl rfl rfl rfl rfl ?_
  obtain ⟨ho1, h⟩ := h
  obtain ⟨ho2, h⟩ := h
  obtain ⟨ho3, h⟩ := h
  refine s_ialoadR j1870 rfl (by decide) ho1 rfl ho2 ho3 ?_
  refine s_aload_n j1871 rfl rfl ?_
  refine s_iload_n j1872 rfl rfl ?_
  refine s_iconst j1873 rfl kc_ic_2 ?_
  refine s_g j1874 rfl rfl rfl rfl rfl rfl ?_
  obtain ⟨ho4, h⟩ := h
  obtain ⟨ho5, h⟩ := h
  obtain ⟨ho6, h⟩ := h
  refine s_ialoadR j1875 rfl (by decide) ho4 rfl ho5 ho6 ?_
  obtain ⟨ho7, h⟩ := h
  refine s_virt j1876 rfl rfl rfl rfl ho7 (by decide) (in_Co_of _ _ _) (am_r8 rfl) (am_bI h (fun a9 σ8 h hx8 => ?_))
  replace h := h hx8
  refine s_aload_n j1879 rfl rfl ?_
  refine s_aload_n j1880 rfl rfl ?_
  refine s_iload_n j1881 rfl rfl ?_
  refine s_iconst j1882 rfl kc_ic_1 ?_
  refine s_g j1883 rfl rfl rfl rfl rfl rfl ?_
  obtain ⟨ho10, h⟩ := h
  obtain ⟨ho11, h⟩ := h
  obtain ⟨ho12, h⟩ := h
  refine s_ialoadR j1884 rfl (by decide) ho10 rfl ho11 ho12 ?_
  refine s_aload_n j1885 rfl rfl ?_
  refine s_iload_n j1886 rfl rfl ?_
  refine s_iconst j1887 rfl kc_ic_2 ?_
  refine s_g j1888 rfl rfl rfl rfl rfl rfl ?_
  obtain ⟨ho13, h⟩ := h
  obtain ⟨ho14, h⟩ := h
  obtain ⟨ho15, h⟩ := h
  refine s_ialoadR j1889 rfl (by decide) ho13 rfl ho14 ho15 ?_
  obtain ⟨ho16, h⟩ := h
  refine s_virt j1890 rfl rfl rfl rfl ho16 (by decide) (in_Rm_of _ _ _) (am_r8 rfl) (am_bI h (fun a18 σ17 h hx17 => ?_))
  replace h := h hx17
  refine s_ic j1893 rfl rfl am_cc_eq (fun hc19 => ?_) (fun hc19 => ?_)
  · replace h := h.1 hc19
    refine s_iinc (L' := [some (am_ov (some 999)), some (am_ov x1), some (am_ov x2), some (.int (x3 + (8 : Int32)))]) j1921 rfl rfl kc_ic_8 (am_st1_R [_, _] _ _ _ _) ?_
    refine s_goto j1924 rfl rfl ?_
    exact h
  · replace h := h.2 hc19
    refine s_iconst j1896 rfl kc_ic_0 ?_
    exact s_retZ0 j1897 rfl h
theorem P_Law_law_1898 (nl : Bool) (Ln : Nat) (xs : Nat → Int32) : am_Jl (TT nl Ln xs) 352 [(1898, .aload_n 1, 1899, []), (1899, .aload_n 0, 1900, []), (1900, .iload_n 3, 1901, []), (1901, .iconst 1, 1902, []), (1902, .iadd, 1903, []), (1903, .iaload, 1904, []), (1904, .invokevirtual 185, 1907, [10, 196, 1, 2, 2]), (1907, .aload_n 2, 1908, []), (1908, .aload_n 0, 1909, []), (1909, .iload_n 3, 1910, []), (1910, .iconst 1, 1911, []), (1911, .iadd, 1912, []), (1912, .iaload, 1913, []), (1913, .invokevirtual 188, 1916, [10, 345, 13, 2, 2]), (1916, .if_icmp .eq 5, 1919, []), (1919, .iconst 0, 1920, []), (1920, .ireturn, 1921, [4]), (1921, .iinc 3 8, 1924, []), (1924, .goto (-1906), 1927, [])] := dk_ck (by decide +kernel)
set_option maxRecDepth 4096 in
theorem w_Law_law_1898 {nl : Bool} {Ln : Nat} {xs : Nat → Int32} {d : Nat} {x1 : Option Nat} {x2 : Option Nat} {x3 : Int32} {σ : am_S} {F : Bool → am_S → Prop} (h : ((am_kd σ 999).1 = 0) ∧ (0 ≤ (x3 + (1 : Int32)).toInt) ∧ ((x3 + (1 : Int32)).toInt < am_rl (am_tz (TT nl Ln xs)) 999) ∧ (am_is σ x1 0) ∧ k_Co_count nl Ln xs d (x1.getD 0) (am_rv (am_tz (TT nl Ln xs)) 999 (x3 + (1 : Int32)).toNatClampNeg) σ (fun a6 σ5 => am_ext σ σ5 → ((am_kd σ5 999).1 = 0) ∧ (0 ≤ (x3 + (1 : Int32)).toInt) ∧ ((x3 + (1 : Int32)).toInt < am_rl (am_tz (TT nl Ln xs)) 999) ∧ (am_is σ5 x2 12) ∧ k_Rm_count nl Ln xs d (x2.getD 0) (am_rv (am_tz (TT nl Ln xs)) 999 (x3 + (1 : Int32)).toNatClampNeg) σ5 (fun a12 σ11 => am_ext σ5 σ11 → (a6 = a12 → c_Law_law_18 nl Ln xs (d + 1) x1 x2 (x3 + (8 : Int32)) σ11 F) ∧ (¬ (a6 = a12) → F false σ11)))) : c_Law_law_1898 nl Ln xs (d + 1) x1 x2 x3 σ F := by
  obtain ⟨j1898, j1899, j1900, j1901, j1902, j1903, j1904, j1907, j1908, j1909, j1910, j1911, j1912, j1913, j1916, j1919, j1920, j1921, j1924, -⟩ := P_Law_law_1898 nl Ln xs
  unfold c_Law_law_1898
  refine s_aload_n j1898 rfl rfl ?_
  refine s_aload_n j1899 rfl rfl ?_
  refine s_iload_n j1900 rfl rfl ?_
  refine s_iconst j1901 rfl kc_ic_1 ?_
  refine s_g j1902 rfl rfl rfl rfl rfl rfl ?_
  obtain ⟨ho1, h⟩ := h
  obtain ⟨ho2, h⟩ := h
  obtain ⟨ho3, h⟩ := h
  refine s_ialoadR j1903 rfl (by decide) ho1 rfl ho2 ho3 ?_
  obtain ⟨ho4, h⟩ := h
  refine s_virt j1904 rfl rfl rfl rfl ho4 (by decide) (in_Co_count _ _) (am_r8 rfl) (am_bI h (fun a6 σ5 h hx5 => ?_))
  replace h := h hx5
  refine s_aload_n j1907 rfl rfl ?_
  refine s_aload_n j1908 rfl rfl ?_
  refine s_iload_n j1909 rfl rfl ?_
  refine s_iconst j1910 rfl kc_ic_1 ?_
  refine s_g j1911 rfl rfl rfl rfl rfl rfl ?_
  obtain ⟨ho7, h⟩ := h
  obtain ⟨ho8, h⟩ := h
  obtain ⟨ho9, h⟩ := h
  refine s_ialoadR j1912 rfl (by decide) ho7 rfl ho8 ho9 ?_
  obtain ⟨ho10, h⟩ := h
  refine s_virt j1913 rfl rfl rfl rfl ho10 (by decide) (in_Rm_count _ _) (am_r8 rfl) (am_bI h (fun a12 σ11 h hx11 => ?_))
  replace h := h hx11
  refine s_ic j1916 rfl rfl am_cc_eq (fun hc13 => ?_) (fun hc13 => ?_)
  · replace h := h.1 hc13
    refine s_iinc (L' := [some (am_ov (some 999)), some (am_ov x1), some (am_ov x2), some (.int (x3 + (8 : Int32)))]) j1921 rfl rfl kc_ic_8 (am_st1_R [_, _] _ _ _ _) ?_
    refine s_goto j1924 rfl rfl ?_
    exact h
  · replace h := h.2 hc13
    refine s_iconst j1919 rfl kc_ic_0 ?_
    exact s_retZ0 j1920 rfl h
