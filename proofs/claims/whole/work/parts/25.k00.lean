/-! statements of methods, 0 (by wip/whole/gensteps.py) -/
theorem P_By_init (nl : Bool) (Ln : Nat) (xs : Nat → Int32) : am_Jl (TT nl Ln xs) 1 [(0, .aload_n 0, 1, []), (1, .invokespecial 3, 4, [13]), (4, .aload_n 0, 5, []), (5, .bipush 64, 7, []), (7, .newarray .byte, 9, []), (9, .putfield 9, 12, [9, 1, 0, 2]), (12, .return_, 13, [0])] := dk_ck (by decide +kernel)
set_option maxRecDepth 4096 in
theorem w_By_init {nl : Bool} {Ln : Nat} {xs : Nat → Int32} {d : Nat} {this : Nat} {σ : am_S} {F : am_S → Prop} (h : ∀ σ1, σ1 = am_new σ 1002 64 64 → am_ext σ σ1 → am_fz σ1 (am_nx σ) → (am_is σ1 (some this) 1) ∧ ∀ σ4, σ4 = am_sfR σ1 1000 this (some (am_nx σ)) → F σ4) : k_By_init nl Ln xs (d + 1) this σ F := by
  obtain ⟨j0, j1, j4, j5, j7, j9, j12, -⟩ := P_By_init nl Ln xs
  have elo : am_lo 1 [am_ov (some this)] = [some (am_ov (some this))] := by simp only [am_lo, am_in_ov, am_in_int, am_in_long, am_in_nil]; rfl
  unfold k_By_init
  rw [elo]
  refine s_aload_n j0 rfl rfl ?_
  refine s_obj j1 rfl (am_r8 rfl) ?_
  refine s_aload_n j4 rfl rfl ?_
  refine s_bipush j5 rfl kc_bi_64 ?_
  refine s_newarray (k := 1002) (m := 64) j7 rfl rfl (by decide) (by decide) (by decide) (by decide) (fun σ1 e2 e2x e2z => ?_)
  replace h := h σ1 e2 e2x e2z
  obtain ⟨ho3, h⟩ := h
  refine s_pfR j9 rfl ho3 (fun σ4 e5 => ?_)
  replace h := h σ4 e5
  have ek6 : am_kd σ4 = am_kd σ1 := by rw [e5]
  exact s_retV j12 rfl h
theorem P_Sk_init (nl : Bool) (Ln : Nat) (xs : Nat → Int32) : am_Jl (TT nl Ln xs) 5 [(0, .aload_n 0, 1, []), (1, .invokespecial 1, 4, [13]), (4, .return_, 5, [0])] := dk_ck (by decide +kernel)
set_option maxRecDepth 4096 in
theorem w_Sk_init {nl : Bool} {Ln : Nat} {xs : Nat → Int32} {d : Nat} {this : Nat} {σ : am_S} {F : am_S → Prop} (h : F σ) : k_Sk_init nl Ln xs (d + 1) this σ F := by
  obtain ⟨j0, j1, j4, -⟩ := P_Sk_init nl Ln xs
  have elo : am_lo 1 [am_ov (some this)] = [some (am_ov (some this))] := by simp only [am_lo, am_in_ov, am_in_int, am_in_long, am_in_nil]; rfl
  unfold k_Sk_init
  rw [elo]
  refine s_aload_n j0 rfl rfl ?_
  refine s_obj j1 rfl (am_r8 rfl) ?_
  exact s_retV j4 rfl h
theorem P_Bk_init (nl : Bool) (Ln : Nat) (xs : Nat → Int32) : am_Jl (TT nl Ln xs) 6 [(0, .aload_n 0, 1, []), (1, .invokespecial 3, 4, [13]), (4, .aload_n 0, 5, []), (5, .new 9, 8, [2, 1, 4]), (8, .dup, 9, []), (9, .invokespecial 11, 12, [11, 1, 2, 1, 1]), (12, .putfield 12, 15, [9, 6, 3, 2]), (15, .aload_n 0, 16, []), (16, .bipush 100, 18, []), (18, .anewarray 18, 21, [3, 9]), (21, .putfield 20, 24, [9, 6, 4, 2]), (24, .aload_n 0, 25, []), (25, .sipush 200, 28, []), (28, .anewarray 24, 31, [3, 10]), (31, .putfield 26, 34, [9, 6, 5, 2]), (34, .aload_n 0, 35, []), (35, .bipush 100, 37, []), (37, .anewarray 30, 40, [3, 11]), (40, .putfield 32, 43, [9, 6, 6, 2]), (43, .aload_n 0, 44, []), (44, .getstatic 36, 47, [7, 500, 0]), (47, .arraylength, 48, []), (48, .newarray .int, 50, []), (50, .putfield 40, 53, [9, 6, 7, 2]), (53, .aload_n 0, 54, []), (54, .sipush 420, 57, []), (57, .newarray .long, 59, []), (59, .putfield 43, 62, [9, 6, 8, 2]), (62, .aload_n 0, 63, []), (63, .bipush 100, 65, []), (65, .newarray .int, 67, []), (67, .putfield 47, 70, [9, 6, 9, 2]), (70, .aload_n 0, 71, []), (71, .aload_n 1, 72, []), (72, .putfield 50, 75, [9, 6, 0, 2]), (75, .aload_n 0, 76, []), (76, .aload_n 2, 77, []), (77, .putfield 54, 80, [9, 6, 1, 2]), (80, .aload_n 0, 81, []), (81, .aload_n 3, 82, []), (82, .putfield 58, 85, [9, 6, 2, 2]), (85, .return_, 86, [0])] := dk_ck (by decide +kernel)
set_option maxRecDepth 4096 in
theorem w_Bk_init {nl : Bool} {Ln : Nat} {xs : Nat → Int32} {d : Nat} {this : Nat} {p0 : Option Nat} {p1 : Option Nat} {p2 : Option Nat} {σ : am_S} {F : am_S → Prop} (h : ∀ σ1, σ1 = am_new σ 2 0 4 → am_ext σ σ1 → am_fz σ1 (am_nx σ) → k_By_init nl Ln xs d (am_nx σ) σ1 (fun σ3 => am_ext σ1 σ3 → (am_is σ3 (some this) 6) ∧ ∀ σ6, σ6 = am_sfR σ3 6003 this (some (am_nx σ)) → ∀ σ9, σ9 = am_new σ6 2009 100 100 → am_ext σ6 σ9 → am_fz σ9 (am_nx σ6) → ∀ σ11, σ11 = am_sfR σ9 6004 this (some (am_nx σ6)) → ∀ σ14, σ14 = am_new σ11 2010 200 200 → am_ext σ11 σ14 → am_fz σ14 (am_nx σ11) → ∀ σ16, σ16 = am_sfR σ14 6005 this (some (am_nx σ11)) → ∀ σ19, σ19 = am_new σ16 2011 100 100 → am_ext σ16 σ19 → am_fz σ19 (am_nx σ16) → ∀ σ21, σ21 = am_sfR σ19 6006 this (some (am_nx σ16)) → ((am_kd σ21 500).1 = 0) ∧ ∀ σ25, σ25 = am_new σ21 1000 8 8 → am_ext σ21 σ25 → am_fz σ25 (am_nx σ21) → ∀ σ27, σ27 = am_sfR σ25 6007 this (some (am_nx σ21)) → ∀ σ30, σ30 = am_new σ27 1001 420 420 → am_ext σ27 σ30 → am_fz σ30 (am_nx σ27) → ∀ σ32, σ32 = am_sfR σ30 6008 this (some (am_nx σ27)) → ∀ σ35, σ35 = am_new σ32 1000 100 100 → am_ext σ32 σ35 → am_fz σ35 (am_nx σ32) → ∀ σ37, σ37 = am_sfR σ35 6009 this (some (am_nx σ32)) → ∀ σ40, σ40 = am_sfR σ37 6000 this p0 → ∀ σ43, σ43 = am_sfR σ40 6001 this p1 → ∀ σ46, σ46 = am_sfR σ43 6002 this p2 → F σ46)) : k_Bk_init nl Ln xs (d + 1) this p0 p1 p2 σ F := by
  obtain ⟨j0, j1, j4, j5, j8, j9, j12, j15, j16, j18, j21, j24, j25, j28, j31, j34, j35, j37, j40, j43, j44, j47, j48, j50, j53, j54, j57, j59, j62, j63, j65, j67, j70, j71, j72, j75, j76, j77, j80, j81, j82, j85, -⟩ := P_Bk_init nl Ln xs
  have elo : am_lo 4 [am_ov (some this), am_ov p0, am_ov p1, am_ov p2] = [some (am_ov (some this)), some (am_ov p0), some (am_ov p1), some (am_ov p2)] := by simp only [am_lo, am_in_ov, am_in_int, am_in_long, am_in_nil]; rfl
  unfold k_Bk_init
  rw [elo]
  refine s_aload_n j0 rfl rfl ?_
  refine s_obj j1 rfl (am_r8 rfl) ?_
  refine s_aload_n j4 rfl rfl ?_
  refine s_new j5 rfl (fun σ1 e2 e2x e2z => ?_)
  replace h := h σ1 e2 e2x e2z
  refine s_dup j8 rfl (am_cov _) ?_
  refine s_spec j9 rfl rfl rfl rfl (by decide) (in_By_init _) (am_r8 rfl) (am_bV h (fun σ3 h hx3 => ?_))
  replace h := h hx3
  obtain ⟨ho5, h⟩ := h
  refine s_pfR j12 rfl ho5 (fun σ6 e7 => ?_)
  replace h := h σ6 e7
  have ek8 : am_kd σ6 = am_kd σ3 := by rw [e7]
  refine s_aload_n j15 rfl rfl ?_
  refine s_bipush j16 rfl kc_bi_100 ?_
  refine s_anewarray (m := 100) j18 rfl (by decide) (by decide) (by decide) (fun σ9 e10 e10x e10z => ?_)
  replace h := h σ9 e10 e10x e10z
  refine s_pfR j21 rfl (am_is_ext e10x (am_is_kd ek8 ho5)) (fun σ11 e12 => ?_)
  replace h := h σ11 e12
  have ek13 : am_kd σ11 = am_kd σ9 := by rw [e12]
  refine s_aload_n j24 rfl rfl ?_
  refine s_sipush j25 rfl kc_si_200 ?_
  refine s_anewarray (m := 200) j28 rfl (by decide) (by decide) (by decide) (fun σ14 e15 e15x e15z => ?_)
  replace h := h σ14 e15 e15x e15z
  refine s_pfR j31 rfl (am_is_ext e15x (am_is_kd ek13 (am_is_ext e10x (am_is_kd ek8 ho5)))) (fun σ16 e17 => ?_)
  replace h := h σ16 e17
  have ek18 : am_kd σ16 = am_kd σ14 := by rw [e17]
  refine s_aload_n j34 rfl rfl ?_
  refine s_bipush j35 rfl kc_bi_100 ?_
  refine s_anewarray (m := 100) j37 rfl (by decide) (by decide) (by decide) (fun σ19 e20 e20x e20z => ?_)
  replace h := h σ19 e20 e20x e20z
  refine s_pfR j40 rfl (am_is_ext e20x (am_is_kd ek18 (am_is_ext e15x (am_is_kd ek13 (am_is_ext e10x (am_is_kd ek8 ho5)))))) (fun σ21 e22 => ?_)
  replace h := h σ21 e22
  have ek23 : am_kd σ21 = am_kd σ19 := by rw [e22]
  refine s_aload_n j43 rfl rfl ?_
  refine s_static j44 rfl ?_
  obtain ⟨ho24, h⟩ := h
  refine s_lenR (v := (8 : Int32)) j47 rfl (by decide) ho24 (Or.inl rfl) rfl ?_
  refine s_newarray (k := 1000) (m := 8) j48 rfl rfl (by decide) (by decide) (by decide) (by decide) (fun σ25 e26 e26x e26z => ?_)
  replace h := h σ25 e26 e26x e26z
  refine s_pfR j50 rfl (am_is_ext e26x (am_is_kd ek23 (am_is_ext e20x (am_is_kd ek18 (am_is_ext e15x (am_is_kd ek13 (am_is_ext e10x (am_is_kd ek8 ho5)))))))) (fun σ27 e28 => ?_)
  replace h := h σ27 e28
  have ek29 : am_kd σ27 = am_kd σ25 := by rw [e28]
  refine s_aload_n j53 rfl rfl ?_
  refine s_sipush j54 rfl kc_si_420 ?_
  refine s_newarray (k := 1001) (m := 420) j57 rfl rfl (by decide) (by decide) (by decide) (by decide) (fun σ30 e31 e31x e31z => ?_)
  replace h := h σ30 e31 e31x e31z
  refine s_pfR j59 rfl (am_is_ext e31x (am_is_kd ek29 (am_is_ext e26x (am_is_kd ek23 (am_is_ext e20x (am_is_kd ek18 (am_is_ext e15x (am_is_kd ek13 (am_is_ext e10x (am_is_kd ek8 ho5)))))))))) (fun σ32 e33 => ?_)
  replace h := h σ32 e33
  have ek34 : am_kd σ32 = am_kd σ30 := by rw [e33]
  refine s_aload_n j62 rfl rfl ?_
  refine s_bipush j63 rfl kc_bi_100 ?_
  refine s_newarray (k := 1000) (m := 100) j65 rfl rfl (by decide) (by decide) (by decide) (by decide) (fun σ35 e36 e36x e36z => ?_)
  replace h := h σ35 e36 e36x e36z
  refine s_pfR j67 rfl (am_is_ext e36x (am_is_kd ek34 (am_is_ext e31x (am_is_kd ek29 (am_is_ext e26x (am_is_kd ek23 (am_is_ext e20x (am_is_kd ek18 (am_is_ext e15x (am_is_kd ek13 (am_is_ext e10x (am_is_kd ek8 ho5)))))))))))) (fun σ37 e38 => ?_)
  replace h := h σ37 e38
  have ek39 : am_kd σ37 = am_kd σ35 := by rw [e38]
  refine s_aload_n j70 rfl rfl ?_
  refine s_aload_n j71 rfl rfl ?_
  refine s_pfR j72 rfl (am_is_kd ek39 (am_is_ext e36x (am_is_kd ek34 (am_is_ext e31x (am_is_kd ek29 (am_is_ext e26x (am_is_kd ek23 (am_is_ext e20x (am_is_kd ek18 (am_is_ext e15x (am_is_kd ek13 (am_is_ext e10x (am_is_kd ek8 ho5))))))))))))) (fun σ40 e41 => ?_)
  replace h := h σ40 e41
  have ek42 : am_kd σ40 = am_kd σ37 := by rw [e41]
  refine s_aload_n j75 rfl rfl ?_
  refine s_aload_n j76 rfl rfl ?_
  refine s_pfR j77 rfl (am_is_kd ek42 (am_is_kd ek39 (am_is_ext e36x (am_is_kd ek34 (am_is_ext e31x (am_is_kd ek29 (am_is_ext e26x (am_is_kd ek23 (am_is_ext e20x (am_is_kd ek18 (am_is_ext e15x (am_is_kd ek13 (am_is_ext e10x (am_is_kd ek8 ho5)))))))))))))) (fun σ43 e44 => ?_)
  replace h := h σ43 e44
  have ek45 : am_kd σ43 = am_kd σ40 := by rw [e44]
  refine s_aload_n j80 rfl rfl ?_
  refine s_aload_n j81 rfl rfl ?_
  refine s_pfR j82 rfl (am_is_kd ek45 (am_is_kd ek42 (am_is_kd ek39 (am_is_ext e36x (am_is_kd ek34 (am_is_ext e31x (am_is_kd ek29 (am_is_ext e26x (am_is_kd ek23 (am_is_ext e20x (am_is_kd ek18 (am_is_ext e15x (am_is_kd ek13 (am_is_ext e10x (am_is_kd ek8 ho5))))))))))))))) (fun σ46 e47 => ?_)
  replace h := h σ46 e47
  have ek48 : am_kd σ46 = am_kd σ43 := by rw [e47]
  exact s_retV j85 rfl h
theorem P_Co_person (nl : Bool) (Ln : Nat) (xs : Nat → Int32) : am_Jl (TT nl Ln xs) 7 [(0, .aload_n 0, 1, []), (1, .iconst 1, 2, []), (2, .lconst 0, 3, []), (3, .lconst 0, 4, []), (4, .lconst 0, 5, []), (5, .lconst 0, 6, []), (6, .invokevirtual 67, 9, [10, 8, 1, 10, 6]), (9, .aload_n 0, 10, []), (10, .getfield 56, 13, [9, 0, 7, 2]), (13, .aload_n 0, 14, []), (14, .getfield 24, 17, [9, 0, 3, 2]), (17, .aload_n 0, 18, []), (18, .getfield 18, 21, [9, 0, 1, 2]), (21, .invokevirtual 71, 24, [10, 9, 7, 7, 3]), (24, .ireturn, 25, [1])] := dk_ck (by decide +kernel)
set_option maxRecDepth 4096 in
theorem w_Co_person {nl : Bool} {Ln : Nat} {xs : Nat → Int32} {d : Nat} {this : Nat} {σ : am_S} {F : Int32 → am_S → Prop} (h : (am_is σ (some this) 0) ∧ k_Co_fill nl Ln xs d this (1 : Int32) (0 : Int64) (0 : Int64) (0 : Int64) (0 : Int64) σ (fun σ2 => am_ext σ σ2 → (am_is σ2 (am_fR σ2 7 this) 6) ∧ k_Bk_perform nl Ln xs d ((am_fR σ2 7 this).getD 0) (am_fR σ2 3 this) (am_fR σ2 1 this) σ2 (fun a6 σ5 => am_ext σ2 σ5 → F a6 σ5))) : k_Co_person nl Ln xs (d + 1) this σ F := by
  obtain ⟨j0, j1, j2, j3, j4, j5, j6, j9, j10, j13, j14, j17, j18, j21, j24, -⟩ := P_Co_person nl Ln xs
  have elo : am_lo 1 [am_ov (some this)] = [some (am_ov (some this))] := by simp only [am_lo, am_in_ov, am_in_int, am_in_long, am_in_nil]; rfl
  unfold k_Co_person
  rw [elo]
  refine s_aload_n j0 rfl rfl ?_
  refine s_iconst j1 rfl kc_ic_1 ?_
  refine s_lconst j2 rfl rfl ?_
  refine s_lconst j3 rfl rfl ?_
  refine s_lconst j4 rfl rfl ?_
  refine s_lconst j5 rfl rfl ?_
  obtain ⟨ho1, h⟩ := h
  refine s_virt j6 rfl rfl rfl rfl ho1 (by decide) (in_Co_fill _ _ _ _ _ _) (am_r8 rfl) (am_bV h (fun σ2 h hx2 => ?_))
  replace h := h hx2
  refine s_aload_n j9 rfl rfl ?_
  refine s_gfR j10 rfl (am_is_ext hx2 ho1) ?_
  refine s_aload_n j13 rfl rfl ?_
  refine s_gfR j14 rfl (am_is_ext hx2 ho1) ?_
  refine s_aload_n j17 rfl rfl ?_
  refine s_gfR j18 rfl (am_is_ext hx2 ho1) ?_
  obtain ⟨ho4, h⟩ := h
  refine s_virt j21 rfl rfl rfl rfl ho4 (by decide) (in_Bk_perform _ _ _) (am_r8 rfl) (am_bI h (fun a6 σ5 h hx5 => ?_))
  replace h := h hx5
  exact s_retI j24 rfl h
theorem P_Co_fill (nl : Bool) (Ln : Nat) (xs : Nat → Int32) : am_Jl (TT nl Ln xs) 8 [(0, .aload_n 0, 1, []), (1, .getfield 24, 4, [9, 0, 3, 2]), (4, .iconst 0, 5, []), (5, .iload_n 1, 6, []), (6, .i2l, 7, []), (7, .lastore, 8, []), (8, .aload_n 0, 9, []), (9, .getfield 24, 12, [9, 0, 3, 2]), (12, .iconst 1, 13, []), (13, .lload_n 2, 14, []), (14, .lastore, 15, []), (15, .aload_n 0, 16, []), (16, .getfield 24, 19, [9, 0, 3, 2]), (19, .iconst 2, 20, []), (20, .lload 4, 22, []), (22, .lastore, 23, []), (23, .aload_n 0, 24, []), (24, .getfield 24, 27, [9, 0, 3, 2]), (27, .iconst 3, 28, []), (28, .lload 6, 30, []), (30, .lastore, 31, []), (31, .aload_n 0, 32, []), (32, .getfield 24, 35, [9, 0, 3, 2]), (35, .iconst 4, 36, []), (36, .lload 8, 38, []), (38, .lastore, 39, []), (39, .aload_n 0, 40, []), (40, .getfield 24, 43, [9, 0, 3, 2]), (43, .iconst 5, 44, []), (44, .lconst 0, 45, []), (45, .lastore, 46, []), (46, .aload_n 0, 47, []), (47, .getfield 24, 50, [9, 0, 3, 2]), (50, .bipush 6, 52, []), (52, .lconst 0, 53, []), (53, .lastore, 54, []), (54, .return_, 55, [0])] := dk_ck (by decide +kernel)
set_option maxRecDepth 4096 in
theorem w_Co_fill {nl : Bool} {Ln : Nat} {xs : Nat → Int32} {d : Nat} {this : Nat} {p0 : Int32} {p1 : Int64} {p2 : Int64} {p3 : Int64} {p4 : Int64} {σ : am_S} {F : am_S → Prop} (h : (am_is σ (some this) 0) ∧ (am_ar σ 1001 (am_fR σ 3 this) (0 : Int32)) ∧ ∀ σ3, σ3 = am_saL σ ((am_fR σ 3 this).getD 0) (0 : Int32).toNatClampNeg p0.toInt64 → (am_ar σ3 1001 (am_fR σ3 3 this) (1 : Int32)) ∧ ∀ σ7, σ7 = am_saL σ3 ((am_fR σ3 3 this).getD 0) (1 : Int32).toNatClampNeg p1 → (am_ar σ7 1001 (am_fR σ7 3 this) (2 : Int32)) ∧ ∀ σ11, σ11 = am_saL σ7 ((am_fR σ7 3 this).getD 0) (2 : Int32).toNatClampNeg p2 → (am_ar σ11 1001 (am_fR σ11 3 this) (3 : Int32)) ∧ ∀ σ15, σ15 = am_saL σ11 ((am_fR σ11 3 this).getD 0) (3 : Int32).toNatClampNeg p3 → (am_ar σ15 1001 (am_fR σ15 3 this) (4 : Int32)) ∧ ∀ σ19, σ19 = am_saL σ15 ((am_fR σ15 3 this).getD 0) (4 : Int32).toNatClampNeg p4 → (am_ar σ19 1001 (am_fR σ19 3 this) (5 : Int32)) ∧ ∀ σ23, σ23 = am_saL σ19 ((am_fR σ19 3 this).getD 0) (5 : Int32).toNatClampNeg (0 : Int64) → (am_ar σ23 1001 (am_fR σ23 3 this) (6 : Int32)) ∧ ∀ σ27, σ27 = am_saL σ23 ((am_fR σ23 3 this).getD 0) (6 : Int32).toNatClampNeg (0 : Int64) → F σ27) : k_Co_fill nl Ln xs (d + 1) this p0 p1 p2 p3 p4 σ F := by
  obtain ⟨j0, j1, j4, j5, j6, j7, j8, j9, j12, j13, j14, j15, j16, j19, j20, j22, j23, j24, j27, j28, j30, j31, j32, j35, j36, j38, j39, j40, j43, j44, j45, j46, j47, j50, j52, j53, j54, -⟩ := P_Co_fill nl Ln xs
  have elo : am_lo 10 [am_ov (some this), .int p0, .long p1, .long p2, .long p3, .long p4] = [some (am_ov (some this)), some (.int p0), some (.long p1), none, some (.long p2), none, some (.long p3), none, some (.long p4), none] := by simp only [am_lo, am_in_ov, am_in_int, am_in_long, am_in_nil]; rfl
  unfold k_Co_fill
  rw [elo]
  refine s_aload_n j0 rfl rfl ?_
  obtain ⟨ho1, h⟩ := h
  refine s_gfR j1 rfl ho1 ?_
  refine s_iconst j4 rfl kc_ic_0 ?_
  refine s_iload_n j5 rfl rfl ?_
  refine s_g j6 rfl rfl rfl rfl rfl rfl ?_
  obtain ⟨ho2, h⟩ := h
  refine s_lastore j7 rfl ho2 (fun σ3 e4 => ?_)
  replace h := h σ3 e4
  have ek5 : am_kd σ3 = am_kd σ := by rw [e4]
  refine s_aload_n j8 rfl rfl ?_
  refine s_gfR j9 rfl (am_is_kd ek5 ho1) ?_
  refine s_iconst j12 rfl kc_ic_1 ?_
  refine s_lload_n j13 rfl rfl ?_
  obtain ⟨ho6, h⟩ := h
  refine s_lastore j14 rfl ho6 (fun σ7 e8 => ?_)
  replace h := h σ7 e8
  have ek9 : am_kd σ7 = am_kd σ3 := by rw [e8]
  refine s_aload_n j15 rfl rfl ?_
  refine s_gfR j16 rfl (am_is_kd ek9 (am_is_kd ek5 ho1)) ?_
  refine s_iconst j19 rfl kc_ic_2 ?_
  refine s_lload j20 rfl rfl ?_
  obtain ⟨ho10, h⟩ := h
  refine s_lastore j22 rfl ho10 (fun σ11 e12 => ?_)
  replace h := h σ11 e12
  have ek13 : am_kd σ11 = am_kd σ7 := by rw [e12]
  refine s_aload_n j23 rfl rfl ?_
  refine s_gfR j24 rfl (am_is_kd ek13 (am_is_kd ek9 (am_is_kd ek5 ho1))) ?_
  refine s_iconst j27 rfl kc_ic_3 ?_
  refine s_lload j28 rfl rfl ?_
  obtain ⟨ho14, h⟩ := h
  refine s_lastore j30 rfl ho14 (fun σ15 e16 => ?_)
  replace h := h σ15 e16
  have ek17 : am_kd σ15 = am_kd σ11 := by rw [e16]
  refine s_aload_n j31 rfl rfl ?_
  refine s_gfR j32 rfl (am_is_kd ek17 (am_is_kd ek13 (am_is_kd ek9 (am_is_kd ek5 ho1)))) ?_
  refine s_iconst j35 rfl kc_ic_4 ?_
  refine s_lload j36 rfl rfl ?_
  obtain ⟨ho18, h⟩ := h
  refine s_lastore j38 rfl ho18 (fun σ19 e20 => ?_)
  replace h := h σ19 e20
  have ek21 : am_kd σ19 = am_kd σ15 := by rw [e20]
  refine s_aload_n j39 rfl rfl ?_
  refine s_gfR j40 rfl (am_is_kd ek21 (am_is_kd ek17 (am_is_kd ek13 (am_is_kd ek9 (am_is_kd ek5 ho1))))) ?_
  refine s_iconst j43 rfl kc_ic_5 ?_
  refine s_lconst j44 rfl rfl ?_
  obtain ⟨ho22, h⟩ := h
  refine s_lastore j45 rfl ho22 (fun σ23 e24 => ?_)
  replace h := h σ23 e24
  have ek25 : am_kd σ23 = am_kd σ19 := by rw [e24]
  refine s_aload_n j46 rfl rfl ?_
  refine s_gfR j47 rfl (am_is_kd ek25 (am_is_kd ek21 (am_is_kd ek17 (am_is_kd ek13 (am_is_kd ek9 (am_is_kd ek5 ho1)))))) ?_
  refine s_bipush j50 rfl kc_bi_6 ?_
  refine s_lconst j52 rfl rfl ?_
  obtain ⟨ho26, h⟩ := h
  refine s_lastore j53 rfl ho26 (fun σ27 e28 => ?_)
  replace h := h σ27 e28
  have ek29 : am_kd σ27 = am_kd σ23 := by rw [e28]
  exact s_retV j54 rfl h
theorem P_Bk_perform (nl : Bool) (Ln : Nat) (xs : Nat → Int32) : am_Jl (TT nl Ln xs) 9 [(0, .aload_n 1, 1, []), (1, .iconst 0, 2, []), (2, .laload, 3, []), (3, .l2i, 4, []), (4, .istore_n 3, 5, []), (5, .iload_n 3, 6, []), (6, .bipush 12, 8, []), (8, .if_icmp .lt 48, 11, []), (11, .iload_n 3, 12, []), (12, .bipush 19, 14, []), (14, .if_icmp .gt 42, 17, []), (17, .aload_n 0, 18, []), (18, .getfield 94, 21, [9, 6, 19, 3]), (21, .ifCond .eq 11, 24, []), (24, .aload_n 0, 25, []), (25, .aload_n 1, 26, []), (26, .invokevirtual 143, 29, [10, 10, 7, 2, 2]), (29, .goto 9, 32, []), (32, .aload_n 0, 33, []), (33, .aload_n 1, 34, []), (34, .iconst 0, 35, []), (35, .invokevirtual 147, 38, [10, 11, 7, 11, 3])] := dk_ck (by decide +kernel)
set_option maxRecDepth 4096 in
theorem w_Bk_perform {nl : Bool} {Ln : Nat} {xs : Nat → Int32} {d : Nat} {this : Nat} {p0 : Option Nat} {p1 : Option Nat} {σ : am_S} {F : Int32 → am_S → Prop} (h : (am_ar σ 1001 p0 (0 : Int32)) ∧ ∀ v2 : Int32, v2 = (am_aL σ (p0.getD 0) (0 : Int32).toNatClampNeg).toInt32 → (v2 < (12 : Int32) → c_Bk_perform_56 nl Ln xs (d + 1) this p0 p1 v2 σ F) ∧ (¬ (v2 < (12 : Int32)) → ((19 : Int32) < v2 → c_Bk_perform_56 nl Ln xs (d + 1) this p0 p1 v2 σ F) ∧ (¬ ((19 : Int32) < v2) → (am_is σ (some this) 6) ∧ ((am_fI σ 6019 this) = 0 → k_Bk_doFact nl Ln xs d this p0 (0 : Int32) σ (fun a9 σ8 => am_ext σ σ8 → c_Bk_perform_38 nl Ln xs (d + 1) this p0 p1 v2 a9 σ8 F)) ∧ (¬ ((am_fI σ 6019 this) = 0) → k_Bk_holdFact nl Ln xs d this p0 σ (fun a11 σ10 => am_ext σ σ10 → c_Bk_perform_38 nl Ln xs (d + 1) this p0 p1 v2 a11 σ10 F))))) : k_Bk_perform nl Ln xs (d + 1) this p0 p1 σ F := by
  obtain ⟨j0, j1, j2, j3, j4, j5, j6, j8, j11, j12, j14, j17, j18, j21, j24, j25, j26, j29, j32, j33, j34, j35, -⟩ := P_Bk_perform nl Ln xs
  have elo : am_lo 7 [am_ov (some this), am_ov p0, am_ov p1] = [some (am_ov (some this)), some (am_ov p0), some (am_ov p1), none, none, none, none] := by simp only [am_lo, am_in_ov, am_in_int, am_in_long, am_in_nil]; rfl
  unfold k_Bk_perform
  rw [elo]
  refine s_aload_n j0 rfl rfl ?_
  refine s_iconst j1 rfl kc_ic_0 ?_
  obtain ⟨ho1, h⟩ := h
  refine s_laload j2 rfl ho1 ?_
  refine s_g j3 rfl rfl rfl rfl rfl rfl ?_
  refine s_istore_nV j4 rfl (n := 7) (L' := fun w => [some (am_ov (some this)), some (am_ov p0), some (am_ov p1), some (.int w), none, none, none]) rfl (by decide) (fun _ => am_st1_R [_, _] _ _ _ _) (fun v2 hv3 => ?_)
  replace h := h v2 hv3
  refine s_iload_n j5 rfl rfl ?_
  refine s_bipush j6 rfl kc_bi_12 ?_
  refine s_ic j8 rfl rfl am_cc_lt (fun hc4 => ?_) (fun hc4 => ?_)
  · replace h := h.1 hc4
    exact h
  · replace h := h.2 hc4
    refine s_iload_n j11 rfl rfl ?_
    refine s_bipush j12 rfl kc_bi_19 ?_
    refine s_ic j14 rfl rfl am_cc_gt (fun hc5 => ?_) (fun hc5 => ?_)
    · replace h := h.1 hc5
      exact h
    · replace h := h.2 hc5
      refine s_aload_n j17 rfl rfl ?_
      obtain ⟨ho6, h⟩ := h
      refine s_gfZ j18 rfl ho6 ?_
      refine s_if j21 rfl rfl am_cc_eq (fun hc7 => ?_) (fun hc7 => ?_)
      · replace h := h.1 hc7
        refine s_aload_n j32 rfl rfl ?_
        refine s_aload_n j33 rfl rfl ?_
        refine s_iconst j34 rfl kc_ic_0 ?_
        refine s_virt j35 rfl rfl rfl rfl ho6 (by decide) (in_Bk_doFact _ _ _) (am_r8 rfl) (am_bI h (fun a9 σ8 h hx8 => ?_))
        replace h := h hx8
        exact h
      · replace h := h.2 hc7
        refine s_aload_n j24 rfl rfl ?_
        refine s_aload_n j25 rfl rfl ?_
        refine s_virt j26 rfl rfl rfl rfl ho6 (by decide) (in_Bk_holdFact _ _) (am_r8 rfl) (am_bI h (fun a11 σ10 h hx10 => ?_))
        replace h := h hx10
        refine s_goto j29 rfl rfl ?_
        exact h
theorem P_Bk_perform_38 (nl : Bool) (Ln : Nat) (xs : Nat → Int32) : am_Jl (TT nl Ln xs) 9 [(38, .istore 4, 40, []), (40, .iload 4, 42, []), (42, .iconst 1, 43, []), (43, .if_icmp .ne 10, 46, []), (46, .aload_n 0, 47, []), (47, .aload_n 1, 48, []), (48, .iconst 0, 49, []), (49, .aload_n 2, 50, []), (50, .invokevirtual 151, 53, [10, 73, 7, 6, 4]), (53, .iload 4, 55, []), (55, .ireturn, 56, [1])] := dk_ck (by decide +kernel)
set_option maxRecDepth 4096 in
theorem w_Bk_perform_38 {nl : Bool} {Ln : Nat} {xs : Nat → Int32} {d : Nat} {this : Nat} {x1 : Option Nat} {x2 : Option Nat} {x3 : Int32} {y0 : Int32} {σ : am_S} {F : Int32 → am_S → Prop} (h : (y0 = (1 : Int32) → (am_is σ (some this) 6) ∧ k_Bk_logDeed nl Ln xs d this x1 (0 : Int32) x2 σ (fun σ3 => am_ext σ σ3 → F y0 σ3)) ∧ (¬ (y0 = (1 : Int32)) → F y0 σ)) : c_Bk_perform_38 nl Ln xs (d + 1) this x1 x2 x3 y0 σ F := by
  obtain ⟨j38, j40, j42, j43, j46, j47, j48, j49, j50, j53, j55, -⟩ := P_Bk_perform_38 nl Ln xs
  unfold c_Bk_perform_38
  refine s_istore j38 rfl (n := 7) (L' := [some (am_ov (some this)), some (am_ov x1), some (am_ov x2), some (.int x3), some (.int y0), none, none]) rfl (by decide) rfl ?_
  refine s_iload j40 rfl rfl ?_
  refine s_iconst j42 rfl kc_ic_1 ?_
  refine s_icn j43 rfl rfl am_cc_ne (fun hc1 => ?_) (fun hc1 => ?_)
  · replace h := h.2 hc1
    refine s_iload j53 rfl rfl ?_
    exact s_retI j55 rfl h
  · replace h := h.1 hc1
    refine s_aload_n j46 rfl rfl ?_
    refine s_aload_n j47 rfl rfl ?_
    refine s_iconst j48 rfl kc_ic_0 ?_
    refine s_aload_n j49 rfl rfl ?_
    obtain ⟨ho2, h⟩ := h
    refine s_virt j50 rfl rfl rfl rfl ho2 (by decide) (in_Bk_logDeed _ _ _ _) (am_r8 rfl) (am_bV h (fun σ3 h hx3 => ?_))
    replace h := h hx3
    refine s_iload j53 rfl rfl ?_
    exact s_retI j55 rfl h
theorem P_Bk_perform_56 (nl : Bool) (Ln : Nat) (xs : Nat → Int32) : am_Jl (TT nl Ln xs) 9 [(56, .aload_n 0, 57, []), (57, .getfield 94, 60, [9, 6, 19, 3]), (60, .iload_n 3, 61, []), (61, .bipush 21, 63, []), (63, .if_icmp .eq 9, 66, []), (66, .iload_n 3, 67, []), (67, .bipush 22, 69, []), (69, .if_icmp .ne 7, 72, []), (72, .iconst 1, 73, []), (73, .goto 4, 76, []), (76, .iconst 0, 77, [])] := dk_ck (by decide +kernel)
set_option maxRecDepth 4096 in
theorem w_Bk_perform_56 {nl : Bool} {Ln : Nat} {xs : Nat → Int32} {d : Nat} {this : Nat} {x1 : Option Nat} {x2 : Option Nat} {x3 : Int32} {σ : am_S} {F : Int32 → am_S → Prop} (h : (am_is σ (some this) 6) ∧ c_Bk_perform_77 nl Ln xs (d + 1) this x1 x2 x3 (am_fI σ 6019 this) (if (x3 = (21 : Int32)) ∨ (x3 = (22 : Int32)) then (1 : Int32) else 0) σ F) : c_Bk_perform_56 nl Ln xs (d + 1) this x1 x2 x3 σ F := by
  obtain ⟨j56, j57, j60, j61, j63, j66, j67, j69, j72, j73, j76, -⟩ := P_Bk_perform_56 nl Ln xs
  unfold c_Bk_perform_56
  refine s_aload_n j56 rfl rfl ?_
  obtain ⟨ho1, h⟩ := h
  refine s_gfZ j57 rfl ho1 ?_
  refine s_iload_n j60 rfl rfl ?_
  refine s_bipush j61 rfl kc_bi_21 ?_
  have K4 : ∀ (w5 : Int32), w5 = (if (x3 = (21 : Int32)) ∨ (x3 = (22 : Int32)) then (1 : Int32) else 0) → am_C (TT nl Ln xs) (d + 1) 9 77 [some (am_ov (some this)), some (am_ov x1), some (am_ov x2), some (.int x3), none, none, none] [.int w5, .int (am_fI σ 6019 this)] σ (am_qI F) := by
    intro w5 hw6
    subst hw6
    exact h
  refine s_ic j63 rfl rfl am_cc_eq (fun hc2 => ?_) (fun hc2 => ?_)
  · refine s_iconst j72 rfl kc_ic_1 ?_
    refine s_goto j73 rfl rfl ?_
    exact K4 _ (am_e1 (Iff.trans Iff.rfl (am_p3 hc2)))
  · refine s_iload_n j66 rfl rfl ?_
    refine s_bipush j67 rfl kc_bi_22 ?_
    refine s_icn j69 rfl rfl am_cc_ne (fun hc3 => ?_) (fun hc3 => ?_)
    · refine s_iconst j76 rfl kc_ic_0 ?_
      exact K4 _ (am_e0 (am_p4 hc2 (Iff.trans Iff.rfl (am_p10 hc3))))
    · refine s_iconst j72 rfl kc_ic_1 ?_
      refine s_goto j73 rfl rfl ?_
      exact K4 _ (am_e1 (am_p4 hc2 (Iff.trans Iff.rfl (am_p9 hc3))))
theorem P_Bk_perform_77 (nl : Bool) (Ln : Nat) (xs : Nat → Int32) : am_Jl (TT nl Ln xs) 9 [(77, .if_icmp .eq 6, 80, []), (80, .bipush (-3), 82, []), (82, .ireturn, 83, [1]), (83, .iload_n 3, 84, []), (84, .bipush 20, 86, []), (86, .if_icmp .ne 23, 89, []), (89, .aload_n 0, 90, []), (90, .iconst 1, 91, []), (91, .putfield 94, 94, [9, 6, 19, 3]), (94, .aload_n 0, 95, []), (95, .dup, 96, []), (96, .getfield 85, 99, [9, 6, 16, 0]), (99, .iconst 1, 100, []), (100, .iadd, 101, []), (101, .putfield 85, 104, [9, 6, 16, 0]), (104, .aload_n 0, 105, []), (105, .getfield 85, 108, [9, 6, 16, 0]), (108, .ireturn, 109, [1]), (109, .iload_n 3, 110, []), (110, .bipush 22, 112, []), (112, .if_icmp .ne 13, 115, []), (115, .aload_n 0, 116, []), (116, .iload_n 3, 117, []), (117, .aload_n 0, 118, []), (118, .getfield 91, 121, [9, 6, 18, 0]), (121, .invokevirtual 155, 124, [10, 78, 7, 4, 3]), (124, .ireturn, 125, [1]), (125, .iload_n 3, 126, []), (126, .bipush 21, 128, []), (128, .if_icmp .ne 87, 131, []), (131, .aload_n 0, 132, []), (132, .getfield 82, 135, [9, 6, 15, 0]), (135, .istore 4, 137, []), (137, .iconst (-1), 138, []), (138, .istore 5, 140, []), (140, .iconst 0, 141, []), (141, .istore 6, 143, []), (215, .iload_n 3, 216, []), (216, .bipush 6, 218, []), (218, .if_icmp .ne 12, 221, []), (221, .aload_n 0, 222, []), (222, .aload_n 1, 223, []), (223, .aload_n 2, 224, []), (224, .invokevirtual 163, 227, [10, 81, 7, 5, 3]), (227, .goto 8, 230, []), (230, .aload_n 0, 231, []), (231, .aload_n 1, 232, []), (232, .invokevirtual 167, 235, [10, 106, 7, 2, 2])] := dk_ck (by decide +kernel)
set_option maxRecDepth 4096 in
theorem w_Bk_perform_77 {nl : Bool} {Ln : Nat} {xs : Nat → Int32} {d : Nat} {this : Nat} {x1 : Option Nat} {x2 : Option Nat} {x3 : Int32} {y0 : Int32} {y1 : Int32} {σ : am_S} {F : Int32 → am_S → Prop} (h : (y0 = y1 → (x3 = (20 : Int32) → (am_is σ (some this) 6) ∧ ∀ σ4, σ4 = am_sfI σ 6019 this (1 : Int32) → ∀ σ7, σ7 = am_sfI σ4 6016 this ((am_fI σ4 6016 this) + (1 : Int32)) → F (am_fI σ7 6016 this) σ7) ∧ (¬ (x3 = (20 : Int32)) → (x3 = (22 : Int32) → (am_is σ (some this) 6) ∧ k_Bk_finishBatch nl Ln xs d this x3 (am_fI σ 6018 this) σ (fun a13 σ12 => am_ext σ σ12 → F a13 σ12)) ∧ (¬ (x3 = (22 : Int32)) → (x3 = (21 : Int32) → (am_is σ (some this) 6) ∧ ∀ v16 : Int32, v16 = (am_fI σ 6015 this) → c_Bk_perform_143 nl Ln xs (d + 1) this x1 x2 x3 v16 (-1 : Int32) (0 : Int32) σ F) ∧ (¬ (x3 = (21 : Int32)) → (x3 = (6 : Int32) → (am_is σ (some this) 6) ∧ k_Bk_tellClauses nl Ln xs d this x1 x2 σ (fun a21 σ20 => am_ext σ σ20 → c_Bk_perform_235 nl Ln xs (d + 1) this x1 x2 x3 a21 σ20 F)) ∧ (¬ (x3 = (6 : Int32)) → (am_is σ (some this) 6) ∧ k_Bk_tellOrMake nl Ln xs d this x1 σ (fun a24 σ23 => am_ext σ σ23 → c_Bk_perform_235 nl Ln xs (d + 1) this x1 x2 x3 a24 σ23 F)))))) ∧ (¬ (y0 = y1) → F (-3 : Int32) σ)) : c_Bk_perform_77 nl Ln xs (d + 1) this x1 x2 x3 y0 y1 σ F := by
  obtain ⟨j77, j80, j82, j83, j84, j86, j89, j90, j91, j94, j95, j96, j99, j100, j101, j104, j105, j108, j109, j110, j112, j115, j116, j117, j118, j121, j124, j125, j126, j128, j131, j132, j135, j137, j138, j140, j141, j215, j216, j218, j221, j222, j223, j224, j227, j230, j231, j232, -⟩ := P_Bk_perform_77 nl Ln xs
  unfold c_Bk_perform_77
  refine s_ic j77 rfl rfl am_cc_eq (fun hc1 => ?_) (fun hc1 => ?_)
  · replace h := h.1 hc1
    refine s_iload_n j83 rfl rfl ?_
    refine s_bipush j84 rfl kc_bi_20 ?_
    refine s_icn j86 rfl rfl am_cc_ne (fun hc2 => ?_) (fun hc2 => ?_)
    · replace h := h.2 hc2
      refine s_iload_n j109 rfl rfl ?_
      refine s_bipush j110 rfl kc_bi_22 ?_
      refine s_icn j112 rfl rfl am_cc_ne (fun hc10 => ?_) (fun hc10 => ?_)
      · replace h := h.2 hc10
        refine s_iload_n j125 rfl rfl ?_
        refine s_bipush j126 rfl kc_bi_21 ?_
        refine s_icn j128 rfl rfl am_cc_ne (fun hc14 => ?_) (fun hc14 => ?_)
        · replace h := h.2 hc14
          refine s_iload_n j215 rfl rfl ?_
          refine s_bipush j216 rfl kc_bi_6 ?_
          refine s_icn j218 rfl rfl am_cc_ne (fun hc18 => ?_) (fun hc18 => ?_)
          · replace h := h.2 hc18
            refine s_aload_n j230 rfl rfl ?_
            refine s_aload_n j231 rfl rfl ?_
            obtain ⟨ho22, h⟩ := h
            refine s_virt j232 rfl rfl rfl rfl ho22 (by decide) (in_Bk_tellOrMake _ _) (am_r8 rfl) (am_bI h (fun a24 σ23 h hx23 => ?_))
            replace h := h hx23
            exact h
          · replace h := h.1 hc18
            refine s_aload_n j221 rfl rfl ?_
            refine s_aload_n j222 rfl rfl ?_
            refine s_aload_n j223 rfl rfl ?_
            obtain ⟨ho19, h⟩ := h
            refine s_virt j224 rfl rfl rfl rfl ho19 (by decide) (in_Bk_tellClauses _ _ _) (am_r8 rfl) (am_bI h (fun a21 σ20 h hx20 => ?_))
            replace h := h hx20
            refine s_goto j227 rfl rfl ?_
            exact h
        · replace h := h.1 hc14
          refine s_aload_n j131 rfl rfl ?_
          obtain ⟨ho15, h⟩ := h
          refine s_gfI j132 rfl ho15 ?_
          refine s_istoreV j135 rfl (n := 7) (L' := fun w => [some (am_ov (some this)), some (am_ov x1), some (am_ov x2), some (.int x3), some (.int w), none, none]) rfl (by decide) (fun _ => rfl) (fun v16 hv17 => ?_)
          replace h := h v16 hv17
          refine s_iconst j137 rfl kc_ic_m1 ?_
          refine s_istore j138 rfl (n := 7) (L' := [some (am_ov (some this)), some (am_ov x1), some (am_ov x2), some (.int x3), some (.int v16), some (.int (-1 : Int32)), none]) rfl (by decide) rfl ?_
          refine s_iconst j140 rfl kc_ic_0 ?_
          refine s_istore j141 rfl (n := 7) (L' := [some (am_ov (some this)), some (am_ov x1), some (am_ov x2), some (.int x3), some (.int v16), some (.int (-1 : Int32)), some (.int (0 : Int32))]) rfl (by decide) rfl ?_
          exact h
      · replace h := h.1 hc10
        refine s_aload_n j115 rfl rfl ?_
        refine s_iload_n j116 rfl rfl ?_
        refine s_aload_n j117 rfl rfl ?_
        obtain ⟨ho11, h⟩ := h
        refine s_gfI j118 rfl ho11 ?_
        refine s_virt j121 rfl rfl rfl rfl ho11 (by decide) (in_Bk_finishBatch _ _ _) (am_r8 rfl) (am_bI h (fun a13 σ12 h hx12 => ?_))
        replace h := h hx12
        exact s_retI j124 rfl h
    · replace h := h.1 hc2
      refine s_aload_n j89 rfl rfl ?_
      refine s_iconst j90 rfl kc_ic_1 ?_
      obtain ⟨ho3, h⟩ := h
      refine s_pfZ j91 rfl ho3 (Or.inr rfl) (fun σ4 e5 => ?_)
      replace h := h σ4 e5
      have ek6 : am_kd σ4 = am_kd σ := by rw [e5]
      refine s_aload_n j94 rfl rfl ?_
      refine s_dup j95 rfl (am_cov _) ?_
      refine s_gfI j96 rfl (am_is_kd ek6 ho3) ?_
      refine s_iconst j99 rfl kc_ic_1 ?_
      refine s_g j100 rfl rfl rfl rfl rfl rfl ?_
      refine s_pfI j101 rfl (am_is_kd ek6 ho3) (fun σ7 e8 => ?_)
      replace h := h σ7 e8
      have ek9 : am_kd σ7 = am_kd σ4 := by rw [e8]
      refine s_aload_n j104 rfl rfl ?_
      refine s_gfI j105 rfl (am_is_kd ek9 (am_is_kd ek6 ho3)) ?_
      exact s_retI j108 rfl h
  · replace h := h.2 hc1
    refine s_bipush j80 rfl kc_bi_m3 ?_
    exact s_retI j82 rfl h
theorem P_Bk_perform_143 (nl : Bool) (Ln : Nat) (xs : Nat → Int32) : am_Jl (TT nl Ln xs) 9 [(143, .iload 6, 145, []), (145, .aload_n 0, 146, []), (146, .getfield 91, 149, [9, 6, 18, 0]), (149, .if_icmp .ge 42, 152, []), (152, .iload 5, 154, []), (154, .iconst (-1), 155, []), (155, .if_icmp .ne 36, 158, []), (158, .aload_n 0, 159, []), (159, .aload_n 0, 160, []), (160, .getfield 43, 163, [9, 6, 8, 2]), (163, .iload 6, 165, []), (165, .bipush 7, 167, []), (167, .imul, 168, []), (168, .invokevirtual 147, 171, [10, 11, 7, 11, 3]), (171, .iconst 1, 172, []), (172, .if_icmp .eq 13, 175, []), (175, .iload 6, 177, []), (177, .istore 5, 179, []), (179, .aload_n 0, 180, []), (180, .iload 4, 182, []), (182, .invokevirtual 159, 185, [10, 79, 7, 6, 2]), (185, .iinc 6 1, 188, []), (188, .goto (-45), 191, [])] := dk_ck (by decide +kernel)
set_option maxRecDepth 4096 in
theorem w_Bk_perform_143 {nl : Bool} {Ln : Nat} {xs : Nat → Int32} {d : Nat} {this : Nat} {x1 : Option Nat} {x2 : Option Nat} {x3 : Int32} {x4 : Int32} {x5 : Int32} {x6 : Int32} {σ : am_S} {F : Int32 → am_S → Prop} (h : (am_is σ (some this) 6) ∧ (x6 < (am_fI σ 6018 this) → (x5 = (-1 : Int32) → k_Bk_doFact nl Ln xs d this (am_fR σ 6008 this) (x6 * (7 : Int32)) σ (fun a5 σ4 => am_ext σ σ4 → (a5 = (1 : Int32) → c_Bk_perform_143 nl Ln xs (d + 1) this x1 x2 x3 x4 x5 (x6 + (1 : Int32)) σ4 F) ∧ (¬ (a5 = (1 : Int32)) → k_Bk_forgetBehind nl Ln xs d this x4 σ4 (fun σ7 => am_ext σ4 σ7 → c_Bk_perform_143 nl Ln xs (d + 1) this x1 x2 x3 x4 x6 (x6 + (1 : Int32)) σ7 F)))) ∧ (¬ (x5 = (-1 : Int32)) → c_Bk_perform_191 nl Ln xs (d + 1) this x1 x2 x3 x4 x5 x6 σ F)) ∧ (¬ (x6 < (am_fI σ 6018 this)) → c_Bk_perform_191 nl Ln xs (d + 1) this x1 x2 x3 x4 x5 x6 σ F)) : c_Bk_perform_143 nl Ln xs (d + 1) this x1 x2 x3 x4 x5 x6 σ F := by
  obtain ⟨j143, j145, j146, j149, j152, j154, j155, j158, j159, j160, j163, j165, j167, j168, j171, j172, j175, j177, j179, j180, j182, j185, j188, -⟩ := P_Bk_perform_143 nl Ln xs
  unfold c_Bk_perform_143
  refine s_iload j143 rfl rfl ?_
  refine s_aload_n j145 rfl rfl ?_
  obtain ⟨ho1, h⟩ := h
  refine s_gfI j146 rfl ho1 ?_
  refine s_icn j149 rfl rfl am_cc_ge (fun hc2 => ?_) (fun hc2 => ?_)
  · replace h := h.2 hc2
    exact h
  · replace h := h.1 hc2
    refine s_iload j152 rfl rfl ?_
    refine s_iconst j154 rfl kc_ic_m1 ?_
    refine s_icn j155 rfl rfl am_cc_ne (fun hc3 => ?_) (fun hc3 => ?_)
    · replace h := h.2 hc3
      exact h
    · replace h := h.1 hc3
      refine s_aload_n j158 rfl rfl ?_
      refine s_aload_n j159 rfl rfl ?_
      refine s_gfR j160 rfl ho1 ?_
      refine s_iload j163 rfl rfl ?_
      refine s_bipush j165 rfl kc_bi_7 ?_
      refine s_g j167 rfl rfl rfl rfl rfl rfl ?_
      refine s_virt j168 rfl rfl rfl rfl ho1 (by decide) (in_Bk_doFact _ _ _) (am_r8 rfl) (am_bI h (fun a5 σ4 h hx4 => ?_))
      replace h := h hx4
      refine s_iconst j171 rfl kc_ic_1 ?_
      refine s_ic j172 rfl rfl am_cc_eq (fun hc6 => ?_) (fun hc6 => ?_)
      · replace h := h.1 hc6
        refine s_iinc (L' := [some (am_ov (some this)), some (am_ov x1), some (am_ov x2), some (.int x3), some (.int x4), some (.int x5), some (.int (x6 + (1 : Int32)))]) j185 rfl rfl kc_ic_1 rfl ?_
        refine s_goto j188 rfl rfl ?_
        exact h
      · replace h := h.2 hc6
        refine s_iload j175 rfl rfl ?_
        refine s_istore j177 rfl (n := 7) (L' := [some (am_ov (some this)), some (am_ov x1), some (am_ov x2), some (.int x3), some (.int x4), some (.int x6), some (.int x6)]) rfl (by decide) rfl ?_
        refine s_aload_n j179 rfl rfl ?_
        refine s_iload j180 rfl rfl ?_
        refine s_virt j182 rfl rfl rfl rfl (am_is_ext hx4 ho1) (by decide) (in_Bk_forgetBehind _ _) (am_r8 rfl) (am_bV h (fun σ7 h hx7 => ?_))
        replace h := h hx7
        refine s_iinc (L' := [some (am_ov (some this)), some (am_ov x1), some (am_ov x2), some (.int x3), some (.int x4), some (.int x6), some (.int (x6 + (1 : Int32)))]) j185 rfl rfl kc_ic_1 rfl ?_
        refine s_goto j188 rfl rfl ?_
        exact h
theorem P_Bk_perform_191 (nl : Bool) (Ln : Nat) (xs : Nat → Int32) : am_Jl (TT nl Ln xs) 9 [(191, .aload_n 0, 192, []), (192, .iload_n 3, 193, []), (193, .iload 5, 195, []), (195, .iconst (-1), 196, []), (196, .if_icmp .ne 10, 199, []), (199, .aload_n 0, 200, []), (200, .getfield 91, 203, [9, 6, 18, 0]), (203, .goto 8, 206, []), (206, .bipush (-20), 208, []), (208, .iload 5, 210, []), (210, .isub, 211, []), (211, .invokevirtual 155, 214, [10, 78, 7, 4, 3]), (214, .ireturn, 215, [1])] := dk_ck (by decide +kernel)
set_option maxRecDepth 4096 in
theorem w_Bk_perform_191 {nl : Bool} {Ln : Nat} {xs : Nat → Int32} {d : Nat} {this : Nat} {x1 : Option Nat} {x2 : Option Nat} {x3 : Int32} {x4 : Int32} {x5 : Int32} {x6 : Int32} {σ : am_S} {F : Int32 → am_S → Prop} (h : ((x5 = (-1 : Int32)) → am_is σ (some this) 6) ∧ ∀ w4 : Int32, w4 = (if x5 = (-1 : Int32) then (am_fI σ 6018 this) else ((-20 : Int32) - x5)) → (am_is σ (some this) 6) ∧ k_Bk_finishBatch nl Ln xs d this x3 w4 σ (fun a8 σ7 => am_ext σ σ7 → F a8 σ7)) : c_Bk_perform_191 nl Ln xs (d + 1) this x1 x2 x3 x4 x5 x6 σ F := by
  obtain ⟨j191, j192, j193, j195, j196, j199, j200, j203, j206, j208, j210, j211, j214, -⟩ := P_Bk_perform_191 nl Ln xs
  unfold c_Bk_perform_191
  refine s_aload_n j191 rfl rfl ?_
  refine s_iload_n j192 rfl rfl ?_
  refine s_iload j193 rfl rfl ?_
  refine s_iconst j195 rfl kc_ic_m1 ?_
  obtain ⟨ho2, h⟩ := h
  have K3 : ∀ (w4 : Int32), w4 = (if x5 = (-1 : Int32) then (am_fI σ 6018 this) else ((-20 : Int32) - x5)) → am_C (TT nl Ln xs) (d + 1) 9 211 [some (am_ov (some this)), some (am_ov x1), some (am_ov x2), some (.int x3), some (.int x4), some (.int x5), some (.int x6)] [.int w4, .int x3, am_ov (some this)] σ (am_qI F) := by
    intro w4 hw5
    replace h := h w4 hw5
    obtain ⟨ho6, h⟩ := h
    refine s_virt j211 rfl rfl rfl rfl ho6 (by decide) (in_Bk_finishBatch _ _ _) (am_r8 rfl) (am_bI h (fun a8 σ7 h hx7 => ?_))
    replace h := h hx7
    exact s_retI j214 rfl h
  refine s_icn j196 rfl rfl am_cc_ne (fun hc1 => ?_) (fun hc1 => ?_)
  · refine s_bipush j206 rfl kc_bi_m20 ?_
    refine s_iload j208 rfl rfl ?_
    refine s_g j210 rfl rfl rfl rfl rfl rfl ?_
    exact K3 _ (am_t2 hc1 rfl)
  · refine s_aload_n j199 rfl rfl ?_
    refine s_gfI j200 rfl (ho2 hc1) ?_
    refine s_goto j203 rfl rfl ?_
    exact K3 _ (am_t1 hc1 rfl)
theorem P_Bk_perform_235 (nl : Bool) (Ln : Nat) (xs : Nat → Int32) : am_Jl (TT nl Ln xs) 9 [(235, .istore 4, 237, []), (237, .iload 4, 239, []), (239, .ifCond .lt 20, 242, []), (242, .aload_n 0, 243, []), (243, .dup, 244, []), (244, .getfield 82, 247, [9, 6, 15, 0]), (247, .iconst 1, 248, []), (248, .iadd, 249, []), (249, .putfield 82, 252, [9, 6, 15, 0]), (252, .aload_n 0, 253, []), (253, .aload_n 1, 254, []), (254, .iconst 0, 255, []), (255, .aload_n 2, 256, []), (256, .invokevirtual 151, 259, [10, 73, 7, 6, 4]), (259, .iload 4, 261, []), (261, .ireturn, 262, [1])] := dk_ck (by decide +kernel)
set_option maxRecDepth 4096 in
theorem w_Bk_perform_235 {nl : Bool} {Ln : Nat} {xs : Nat → Int32} {d : Nat} {this : Nat} {x1 : Option Nat} {x2 : Option Nat} {x3 : Int32} {y0 : Int32} {σ : am_S} {F : Int32 → am_S → Prop} (h : (y0 < 0 → F y0 σ) ∧ (¬ (y0 < 0) → (am_is σ (some this) 6) ∧ ∀ σ3, σ3 = am_sfI σ 6015 this ((am_fI σ 6015 this) + (1 : Int32)) → k_Bk_logDeed nl Ln xs d this x1 (0 : Int32) x2 σ3 (fun σ6 => am_ext σ3 σ6 → F y0 σ6))) : c_Bk_perform_235 nl Ln xs (d + 1) this x1 x2 x3 y0 σ F := by
  obtain ⟨j235, j237, j239, j242, j243, j244, j247, j248, j249, j252, j253, j254, j255, j256, j259, j261, -⟩ := P_Bk_perform_235 nl Ln xs
  unfold c_Bk_perform_235
  refine s_istore j235 rfl (n := 7) (L' := [some (am_ov (some this)), some (am_ov x1), some (am_ov x2), some (.int x3), some (.int y0), none, none]) rfl (by decide) rfl ?_
  refine s_iload j237 rfl rfl ?_
  refine s_if j239 rfl rfl am_cc_lt (fun hc1 => ?_) (fun hc1 => ?_)
  · replace h := h.1 hc1
    refine s_iload j259 rfl rfl ?_
    exact s_retI j261 rfl h
  · replace h := h.2 hc1
    refine s_aload_n j242 rfl rfl ?_
    refine s_dup j243 rfl (am_cov _) ?_
    obtain ⟨ho2, h⟩ := h
    refine s_gfI j244 rfl ho2 ?_
    refine s_iconst j247 rfl kc_ic_1 ?_
    refine s_g j248 rfl rfl rfl rfl rfl rfl ?_
    refine s_pfI j249 rfl ho2 (fun σ3 e4 => ?_)
    replace h := h σ3 e4
    have ek5 : am_kd σ3 = am_kd σ := by rw [e4]
    refine s_aload_n j252 rfl rfl ?_
    refine s_aload_n j253 rfl rfl ?_
    refine s_iconst j254 rfl kc_ic_0 ?_
    refine s_aload_n j255 rfl rfl ?_
    refine s_virt j256 rfl rfl rfl rfl (am_is_kd ek5 ho2) (by decide) (in_Bk_logDeed _ _ _ _) (am_r8 rfl) (am_bV h (fun σ6 h hx6 => ?_))
    replace h := h hx6
    refine s_iload j259 rfl rfl ?_
    exact s_retI j261 rfl h
theorem P_Bk_holdFact (nl : Bool) (Ln : Nat) (xs : Nat → Int32) : am_Jl (TT nl Ln xs) 10 [(0, .aload_n 0, 1, []), (1, .getfield 91, 4, [9, 6, 18, 0]), (4, .bipush 60, 6, []), (6, .if_icmp .lt 6, 9, []), (9, .bipush (-7), 11, []), (11, .ireturn, 12, [1]), (12, .aload_n 1, 13, []), (13, .iconst 0, 14, []), (14, .aload_n 0, 15, []), (15, .getfield 43, 18, [9, 6, 8, 2]), (18, .aload_n 0, 19, []), (19, .getfield 91, 22, [9, 6, 18, 0]), (22, .bipush 7, 24, []), (24, .imul, 25, []), (25, .bipush 7, 27, []), (27, .invokestatic 215, 30, [14]), (30, .aload_n 0, 31, []), (31, .dup, 32, []), (32, .getfield 91, 35, [9, 6, 18, 0]), (35, .iconst 1, 36, []), (36, .iadd, 37, []), (37, .putfield 91, 40, [9, 6, 18, 0]), (40, .bipush (-8), 42, []), (42, .ireturn, 43, [1])] := dk_ck (by decide +kernel)
set_option maxRecDepth 4096 in
theorem w_Bk_holdFact {nl : Bool} {Ln : Nat} {xs : Nat → Int32} {d : Nat} {this : Nat} {p0 : Option Nat} {σ : am_S} {F : Int32 → am_S → Prop} (h : (am_is σ (some this) 6) ∧ ((am_fI σ 6018 this) < (60 : Int32) → ∃ σ3, am_cp σ [.int (7 : Int32), .int ((am_fI σ 6018 this) * (7 : Int32)), am_ov (am_fR σ 6008 this), .int (0 : Int32), am_ov p0] = some ([], σ3) ∧ (am_is σ3 (some this) 6) ∧ ∀ σ6, σ6 = am_sfI σ3 6018 this ((am_fI σ3 6018 this) + (1 : Int32)) → F (-8 : Int32) σ6) ∧ (¬ ((am_fI σ 6018 this) < (60 : Int32)) → F (-7 : Int32) σ)) : k_Bk_holdFact nl Ln xs (d + 1) this p0 σ F := by
  obtain ⟨j0, j1, j4, j6, j9, j11, j12, j13, j14, j15, j18, j19, j22, j24, j25, j27, j30, j31, j32, j35, j36, j37, j40, j42, -⟩ := P_Bk_holdFact nl Ln xs
  have elo : am_lo 2 [am_ov (some this), am_ov p0] = [some (am_ov (some this)), some (am_ov p0)] := by simp only [am_lo, am_in_ov, am_in_int, am_in_long, am_in_nil]; rfl
  unfold k_Bk_holdFact
  rw [elo]
  refine s_aload_n j0 rfl rfl ?_
  obtain ⟨ho1, h⟩ := h
  refine s_gfI j1 rfl ho1 ?_
  refine s_bipush j4 rfl kc_bi_60 ?_
  refine s_ic j6 rfl rfl am_cc_lt (fun hc2 => ?_) (fun hc2 => ?_)
  · replace h := h.1 hc2
    refine s_aload_n j12 rfl rfl ?_
    refine s_iconst j13 rfl kc_ic_0 ?_
    refine s_aload_n j14 rfl rfl ?_
    refine s_gfR j15 rfl ho1 ?_
    refine s_aload_n j18 rfl rfl ?_
    refine s_gfI j19 rfl ho1 ?_
    refine s_bipush j22 rfl kc_bi_7 ?_
    refine s_g j24 rfl rfl rfl rfl rfl rfl ?_
    refine s_bipush j25 rfl kc_bi_7 ?_
    obtain ⟨σ3, hcp4, h⟩ := h
    refine s_cp j27 rfl hcp4 (am_r8 rfl) ?_
    refine s_aload_n j30 rfl rfl ?_
    refine s_dup j31 rfl (am_cov _) ?_
    obtain ⟨ho5, h⟩ := h
    refine s_gfI j32 rfl ho5 ?_
    refine s_iconst j35 rfl kc_ic_1 ?_
    refine s_g j36 rfl rfl rfl rfl rfl rfl ?_
    refine s_pfI j37 rfl ho5 (fun σ6 e7 => ?_)
    replace h := h σ6 e7
    have ek8 : am_kd σ6 = am_kd σ3 := by rw [e7]
    refine s_bipush j40 rfl kc_bi_m8 ?_
    exact s_retI j42 rfl h
  · replace h := h.2 hc2
    refine s_bipush j9 rfl kc_bi_m7 ?_
    exact s_retI j11 rfl h
theorem P_Bk_doFact (nl : Bool) (Ln : Nat) (xs : Nat → Int32) : am_Jl (TT nl Ln xs) 11 [(0, .aload_n 1, 1, []), (1, .iload_n 2, 2, []), (2, .laload, 3, []), (3, .l2i, 4, []), (4, .istore_n 3, 5, []), (5, .aload_n 0, 6, []), (6, .aload_n 1, 7, []), (7, .iload_n 2, 8, []), (8, .iconst 1, 9, []), (9, .iadd, 10, []), (10, .laload, 11, []), (11, .invokevirtual 343, 14, [10, 12, 7, 3, 2]), (14, .astore 4, 16, []), (16, .aload 4, 18, []), (18, .ifnull 25, 21, []), (21, .aload_n 1, 22, []), (22, .iload_n 2, 23, []), (23, .iconst 2, 24, []), (24, .iadd, 25, []), (25, .laload, 26, []), (26, .invokestatic 244, 29, [12, 13, 2, 1]), (29, .ifCond .eq 14, 32, []), (32, .aload_n 0, 33, []), (33, .aload 4, 35, []), (35, .aload_n 1, 36, []), (36, .iload_n 2, 37, []), (37, .invokevirtual 347, 40, [10, 14, 7, 8, 4]), (40, .ifCond .ne 6, 43, []), (43, .bipush (-2), 45, []), (45, .ireturn, 46, [1]), (46, .aload 4, 48, []), (48, .aload_n 0, 49, []), (49, .getfield 82, 52, [9, 6, 15, 0]), (52, .sipush 10949, 55, []), (55, .invokevirtual 351, 58, [10, 18, 12, 5, 3]), (58, .iload_n 3, 59, []), (59, .bipush 15, 61, []), (61, .if_icmp .ne 7, 64, []), (64, .iconst 1, 65, []), (65, .goto 4, 68, []), (68, .iconst 0, 69, [])] := dk_ck (by decide +kernel)
set_option maxRecDepth 4096 in
theorem w_Bk_doFact {nl : Bool} {Ln : Nat} {xs : Nat → Int32} {d : Nat} {this : Nat} {p0 : Option Nat} {p1 : Int32} {σ : am_S} {F : Int32 → am_S → Prop} (h : (am_ar σ 1001 p0 p1) ∧ ∀ v2 : Int32, v2 = (am_aL σ (p0.getD 0) p1.toNatClampNeg).toInt32 → (am_ar σ 1001 p0 (p1 + (1 : Int32))) ∧ (am_is σ (some this) 6) ∧ k_Bk_caseAt nl Ln xs d this (am_aL σ (p0.getD 0) (p1 + (1 : Int32)).toNatClampNeg) σ (fun a7 σ6 => am_ext σ σ6 → (a7 = none → F (-2 : Int32) σ6) ∧ (¬ (a7 = none) → (am_ar σ6 1001 p0 (p1 + (2 : Int32))) ∧ k_Co_isDay nl Ln xs d (am_aL σ6 (p0.getD 0) (p1 + (2 : Int32)).toNatClampNeg) σ6 (fun a11 σ10 => am_ext σ6 σ10 → (a11 = true → k_Bk_isAsTold nl Ln xs d this a7 p0 p1 σ10 (fun a14 σ13 => am_ext σ10 σ13 → (a14 = true → (am_is σ13 a7 11) ∧ k_Cs_isOpen nl Ln xs d (a7.getD 0) (am_fI σ13 6015 this) (10949 : Int32) σ13 (fun a18 σ17 => am_ext σ13 σ17 → c_Bk_doFact_69 nl Ln xs (d + 1) this p0 p1 v2 a7 (if a18 = true then (1 : Int32) else 0) (if v2 = (15 : Int32) then (1 : Int32) else 0) σ17 F)) ∧ (¬ (a14 = true) → F (-2 : Int32) σ13))) ∧ (¬ (a11 = true) → F (-2 : Int32) σ10))))) : k_Bk_doFact nl Ln xs (d + 1) this p0 p1 σ F := by
  obtain ⟨j0, j1, j2, j3, j4, j5, j6, j7, j8, j9, j10, j11, j14, j16, j18, j21, j22, j23, j24, j25, j26, j29, j32, j33, j35, j36, j37, j40, j43, j45, j46, j48, j49, j52, j55, j58, j59, j61, j64, j65, j68, -⟩ := P_Bk_doFact nl Ln xs
  have elo : am_lo 11 [am_ov (some this), am_ov p0, .int p1] = [some (am_ov (some this)), some (am_ov p0), some (.int p1), none, none, none, none, none, none, none, none] := by simp only [am_lo, am_in_ov, am_in_int, am_in_long, am_in_nil]; rfl
  unfold k_Bk_doFact
  rw [elo]
  refine s_aload_n j0 rfl rfl ?_
  refine s_iload_n j1 rfl rfl ?_
  obtain ⟨ho1, h⟩ := h
  refine s_laload j2 rfl ho1 ?_
  refine s_g j3 rfl rfl rfl rfl rfl rfl ?_
  refine s_istore_nV j4 rfl (n := 11) (L' := fun w => [some (am_ov (some this)), some (am_ov p0), some (.int p1), some (.int w), none, none, none, none, none, none, none]) rfl (by decide) (fun _ => rfl) (fun v2 hv3 => ?_)
  replace h := h v2 hv3
  refine s_aload_n j5 rfl rfl ?_
  refine s_aload_n j6 rfl rfl ?_
  refine s_iload_n j7 rfl rfl ?_
  refine s_iconst j8 rfl kc_ic_1 ?_
  refine s_g j9 rfl rfl rfl rfl rfl rfl ?_
  obtain ⟨ho4, h⟩ := h
  refine s_laload j10 rfl ho4 ?_
  obtain ⟨ho5, h⟩ := h
  refine s_virt j11 rfl rfl rfl rfl ho5 (by decide) (in_Bk_caseAt _ _) (am_r8 rfl) (am_bR h (fun a7 σ6 h hx6 => ?_))
  replace h := h hx6
  refine s_astore j14 rfl (n := 11) (L' := [some (am_ov (some this)), some (am_ov p0), some (.int p1), some (.int v2), some (am_ov a7), none, none, none, none, none, none]) rfl (by decide) rfl ?_
  refine s_aload j16 rfl rfl ?_
  refine s_ifnull j18 rfl rfl (fun hc8 => ?_) (fun hc8 => ?_)
  · replace h := h.1 hc8
    refine s_bipush j43 rfl kc_bi_m2 ?_
    exact s_retI j45 rfl h
  · replace h := h.2 hc8
    refine s_aload_n j21 rfl rfl ?_
    refine s_iload_n j22 rfl rfl ?_
    refine s_iconst j23 rfl kc_ic_2 ?_
    refine s_g j24 rfl rfl rfl rfl rfl rfl ?_
    obtain ⟨ho9, h⟩ := h
    refine s_laload j25 rfl ho9 ?_
    refine s_stat j26 rfl rfl rfl rfl (by decide) (in_Co_isDay _) (am_r8 rfl) (am_bB h (fun a11 σ10 h hx10 => ?_))
    replace h := h hx10
    refine s_ifn j29 rfl rfl am_cb_eq (fun hc12 => ?_) (fun hc12 => ?_)
    · replace h := h.2 hc12
      refine s_bipush j43 rfl kc_bi_m2 ?_
      exact s_retI j45 rfl h
    · replace h := h.1 hc12
      refine s_aload_n j32 rfl rfl ?_
      refine s_aload j33 rfl rfl ?_
      refine s_aload_n j35 rfl rfl ?_
      refine s_iload_n j36 rfl rfl ?_
      refine s_virt j37 rfl rfl rfl rfl (am_is_ext hx10 (am_is_ext hx6 ho5)) (by decide) (in_Bk_isAsTold _ _ _ _) (am_r8 rfl) (am_bB h (fun a14 σ13 h hx13 => ?_))
      replace h := h hx13
      refine s_if j40 rfl rfl am_cb_ne (fun hc15 => ?_) (fun hc15 => ?_)
      · replace h := h.1 hc15
        refine s_aload j46 rfl rfl ?_
        refine s_aload_n j48 rfl rfl ?_
        refine s_gfI j49 rfl (am_is_ext hx13 (am_is_ext hx10 (am_is_ext hx6 ho5))) ?_
        refine s_sipush j52 rfl kc_si_10949 ?_
        obtain ⟨ho16, h⟩ := h
        refine s_virt j55 rfl rfl rfl rfl ho16 (by decide) (in_Cs_isOpen _ _ _) (am_r8 rfl) (am_bB h (fun a18 σ17 h hx17 => ?_))
        replace h := h hx17
        refine s_iload_n j58 rfl rfl ?_
        refine s_bipush j59 rfl kc_bi_15 ?_
        have K20 : ∀ (w21 : Int32), w21 = (if v2 = (15 : Int32) then (1 : Int32) else 0) → am_C (TT nl Ln xs) (d + 1) 11 69 [some (am_ov (some this)), some (am_ov p0), some (.int p1), some (.int v2), some (am_ov a7), none, none, none, none, none, none] [.int w21, .int (if a18 = true then (1 : Int32) else 0)] σ17 (am_qI F) := by
          intro w21 hw22
          subst hw22
          exact h
        refine s_icn j61 rfl rfl am_cc_ne (fun hc19 => ?_) (fun hc19 => ?_)
        · refine s_iconst j68 rfl kc_ic_0 ?_
          exact K20 _ (am_e0 (Iff.trans Iff.rfl (am_p10 hc19)))
        · refine s_iconst j64 rfl kc_ic_1 ?_
          refine s_goto j65 rfl rfl ?_
          exact K20 _ (am_e1 (Iff.trans Iff.rfl (am_p9 hc19)))
      · replace h := h.2 hc15
        refine s_bipush j43 rfl kc_bi_m2 ?_
        exact s_retI j45 rfl h
theorem P_Bk_doFact_69 (nl : Bool) (Ln : Nat) (xs : Nat → Int32) : am_Jl (TT nl Ln xs) 11 [(69, .if_icmp .ne 6, 72, []), (72, .bipush (-3), 74, []), (74, .ireturn, 75, [1]), (75, .aload_n 1, 76, []), (76, .iload_n 2, 77, []), (77, .iconst 2, 78, []), (78, .iadd, 79, []), (79, .laload, 80, []), (80, .l2i, 81, []), (81, .istore 5, 83, []), (83, .iload 5, 85, []), (85, .aload 4, 87, []), (87, .invokevirtual 355, 90, [10, 21, 12, 1, 1]), (90, .if_icmp .ge 6, 93, []), (93, .bipush (-4), 95, []), (95, .ireturn, 96, [1]), (96, .iload_n 3, 97, []), (97, .bipush 15, 99, []), (99, .if_icmp .ne 23, 102, []), (102, .aload_n 0, 103, []), (103, .aload 4, 105, []), (105, .iload 5, 107, []), (107, .aload_n 1, 108, []), (108, .iload_n 2, 109, []), (109, .iconst 3, 110, []), (110, .iadd, 111, []), (111, .laload, 112, []), (112, .l2i, 113, []), (113, .invokevirtual 358, 116, [10, 22, 7, 6, 4]), (116, .ifCond .eq 6, 119, []), (119, .bipush (-5), 121, []), (121, .ireturn, 122, [1])] := dk_ck (by decide +kernel)
set_option maxRecDepth 4096 in
theorem w_Bk_doFact_69 {nl : Bool} {Ln : Nat} {xs : Nat → Int32} {d : Nat} {this : Nat} {x1 : Option Nat} {x2 : Int32} {x3 : Int32} {x4 : Option Nat} {y0 : Int32} {y1 : Int32} {σ : am_S} {F : Int32 → am_S → Prop} (h : (y0 = y1 → F (-3 : Int32) σ) ∧ (¬ (y0 = y1) → (am_ar σ 1001 x1 (x2 + (2 : Int32))) ∧ ∀ v3 : Int32, v3 = (am_aL σ (x1.getD 0) (x2 + (2 : Int32)).toNatClampNeg).toInt32 → (am_is σ x4 11) ∧ k_Cs_earliestDay nl Ln xs d (x4.getD 0) σ (fun a7 σ6 => am_ext σ σ6 → (v3 < a7 → F (-4 : Int32) σ6) ∧ (¬ (v3 < a7) → (x3 = (15 : Int32) → (am_ar σ6 1001 x1 (x2 + (3 : Int32))) ∧ (am_is σ6 (some this) 6) ∧ k_Bk_isLate nl Ln xs d this x4 v3 ((am_aL σ6 (x1.getD 0) (x2 + (3 : Int32)).toNatClampNeg).toInt32) σ6 (fun a13 σ12 => am_ext σ6 σ12 → (a13 = true → F (-5 : Int32) σ12) ∧ (¬ (a13 = true) → c_Bk_doFact_122 nl Ln xs (d + 1) this x1 x2 x3 x4 v3 σ12 F))) ∧ (¬ (x3 = (15 : Int32)) → c_Bk_doFact_122 nl Ln xs (d + 1) this x1 x2 x3 x4 v3 σ6 F))))) : c_Bk_doFact_69 nl Ln xs (d + 1) this x1 x2 x3 x4 y0 y1 σ F := by
  obtain ⟨j69, j72, j74, j75, j76, j77, j78, j79, j80, j81, j83, j85, j87, j90, j93, j95, j96, j97, j99, j102, j103, j105, j107, j108, j109, j110, j111, j112, j113, j116, j119, j121, -⟩ := P_Bk_doFact_69 nl Ln xs
  unfold c_Bk_doFact_69
  refine s_icn j69 rfl rfl am_cc_ne (fun hc1 => ?_) (fun hc1 => ?_)
  · replace h := h.2 hc1
    refine s_aload_n j75 rfl rfl ?_
    refine s_iload_n j76 rfl rfl ?_
    refine s_iconst j77 rfl kc_ic_2 ?_
    refine s_g j78 rfl rfl rfl rfl rfl rfl ?_
    obtain ⟨ho2, h⟩ := h
    refine s_laload j79 rfl ho2 ?_
    refine s_g j80 rfl rfl rfl rfl rfl rfl ?_
    refine s_istoreV j81 rfl (n := 11) (L' := fun w => [some (am_ov (some this)), some (am_ov x1), some (.int x2), some (.int x3), some (am_ov x4), some (.int w), none, none, none, none, none]) rfl (by decide) (fun _ => am_st1_R [_, _, _, _] _ _ _ _) (fun v3 hv4 => ?_)
    replace h := h v3 hv4
    refine s_iload j83 rfl rfl ?_
    refine s_aload j85 rfl rfl ?_
    obtain ⟨ho5, h⟩ := h
    refine s_virt j87 rfl rfl rfl rfl ho5 (by decide) (in_Cs_earliestDay _) (am_r8 rfl) (am_bI h (fun a7 σ6 h hx6 => ?_))
    replace h := h hx6
    refine s_icn j90 rfl rfl am_cc_ge (fun hc8 => ?_) (fun hc8 => ?_)
    · replace h := h.2 hc8
      refine s_iload_n j96 rfl rfl ?_
      refine s_bipush j97 rfl kc_bi_15 ?_
      refine s_icn j99 rfl rfl am_cc_ne (fun hc9 => ?_) (fun hc9 => ?_)
      · replace h := h.2 hc9
        exact h
      · replace h := h.1 hc9
        refine s_aload_n j102 rfl rfl ?_
        refine s_aload j103 rfl rfl ?_
        refine s_iload j105 rfl rfl ?_
        refine s_aload_n j107 rfl rfl ?_
        refine s_iload_n j108 rfl rfl ?_
        refine s_iconst j109 rfl kc_ic_3 ?_
        refine s_g j110 rfl rfl rfl rfl rfl rfl ?_
        obtain ⟨ho10, h⟩ := h
        refine s_laload j111 rfl ho10 ?_
        refine s_g j112 rfl rfl rfl rfl rfl rfl ?_
        obtain ⟨ho11, h⟩ := h
        refine s_virt j113 rfl rfl rfl rfl ho11 (by decide) (in_Bk_isLate _ _ _ _) (am_r8 rfl) (am_bB h (fun a13 σ12 h hx12 => ?_))
        replace h := h hx12
        refine s_ifn j116 rfl rfl am_cb_eq (fun hc14 => ?_) (fun hc14 => ?_)
        · replace h := h.2 hc14
          exact h
        · replace h := h.1 hc14
          refine s_bipush j119 rfl kc_bi_m5 ?_
          exact s_retI j121 rfl h
    · replace h := h.1 hc8
      refine s_bipush j93 rfl kc_bi_m4 ?_
      exact s_retI j95 rfl h
  · replace h := h.1 hc1
    refine s_bipush j72 rfl kc_bi_m3 ?_
    exact s_retI j74 rfl h
theorem P_Bk_doFact_122 (nl : Bool) (Ln : Nat) (xs : Nat → Int32) : am_Jl (TT nl Ln xs) 11 [(122, .aload_n 1, 123, []), (123, .iload_n 2, 124, []), (124, .invokestatic 362, 127, [12, 15, 3, 2]), (127, .lstore 6, 129, []), (129, .lconst 0, 130, []), (130, .lstore 8, 132, []), (132, .iload_n 3, 133, []), (133, .bipush 13, 135, []), (135, .if_icmp .ne 61, 138, []), (138, .aload_n 0, 139, []), (139, .getfield 50, 142, [9, 6, 0, 2]), (142, .getfield 366, 145, [9, 2, 1, 0]), (145, .sipush 2500, 148, []), (148, .if_icmp .lt 6, 151, []), (151, .bipush (-7), 153, []), (153, .ireturn, 154, [1]), (154, .aload_n 0, 155, []), (155, .getfield 50, 158, [9, 6, 0, 2]), (158, .aload_n 0, 159, []), (159, .aload 4, 161, []), (161, .iload 5, 163, []), (163, .aload_n 0, 164, []), (164, .getfield 82, 167, [9, 6, 15, 0]), (167, .invokevirtual 371, 170, [10, 23, 3, 22, 5]), (170, .aload_n 0, 171, []), (171, .aload 4, 173, []), (173, .lload 6, 175, []), (175, .invokevirtual 375, 178, [10, 66, 7, 6, 3]), (178, .lstore 8, 180, []), (180, .aload_n 0, 181, []), (181, .aload 4, 183, []), (183, .lload 6, 185, []), (185, .lload 8, 187, []), (187, .invokevirtual 379, 190, [10, 68, 7, 10, 4]), (190, .ifCond .eq 6, 193, []), (193, .bipush (-6), 195, []), (195, .ireturn, 196, [1])] := dk_ck (by decide +kernel)
set_option maxRecDepth 4096 in
theorem w_Bk_doFact_122 {nl : Bool} {Ln : Nat} {xs : Nat → Int32} {d : Nat} {this : Nat} {x1 : Option Nat} {x2 : Int32} {x3 : Int32} {x4 : Option Nat} {x5 : Int32} {σ : am_S} {F : Int32 → am_S → Prop} (h : k_Bk_centsIn nl Ln xs d x1 x2 σ (fun a2 σ1 => am_ext σ σ1 → (x3 = (13 : Int32) → (am_is σ1 (some this) 6) ∧ (am_is σ1 (am_fR σ1 6000 this) 2) ∧ ((am_fI σ1 2001 ((am_fR σ1 6000 this).getD 0)) < (2500 : Int32) → k_Wk_settle nl Ln xs d ((am_fR σ1 6000 this).getD 0) (some this) x4 x5 (am_fI σ1 6015 this) σ1 (fun σ7 => am_ext σ1 σ7 → k_Bk_interestIn nl Ln xs d this x4 a2 σ7 (fun a10 σ9 => am_ext σ7 σ9 → k_Bk_isTooMuch nl Ln xs d this x4 a2 a10 σ9 (fun a12 σ11 => am_ext σ9 σ11 → (a12 = true → F (-6 : Int32) σ11) ∧ (¬ (a12 = true) → c_Bk_doFact_196 nl Ln xs (d + 1) this x1 x2 x3 x4 x5 a2 a10 σ11 F))))) ∧ (¬ ((am_fI σ1 2001 ((am_fR σ1 6000 this).getD 0)) < (2500 : Int32)) → F (-7 : Int32) σ1)) ∧ (¬ (x3 = (13 : Int32)) → c_Bk_doFact_196 nl Ln xs (d + 1) this x1 x2 x3 x4 x5 a2 (0 : Int64) σ1 F))) : c_Bk_doFact_122 nl Ln xs (d + 1) this x1 x2 x3 x4 x5 σ F := by
  obtain ⟨j122, j123, j124, j127, j129, j130, j132, j133, j135, j138, j139, j142, j145, j148, j151, j153, j154, j155, j158, j159, j161, j163, j164, j167, j170, j171, j173, j175, j178, j180, j181, j183, j185, j187, j190, j193, j195, -⟩ := P_Bk_doFact_122 nl Ln xs
  unfold c_Bk_doFact_122
  refine s_aload_n j122 rfl rfl ?_
  refine s_iload_n j123 rfl rfl ?_
  refine s_stat j124 rfl rfl rfl rfl (by decide) (in_Bk_centsIn _ _) (am_r8 rfl) (am_bL h (fun a2 σ1 h hx1 => ?_))
  replace h := h hx1
  refine s_lstore j127 rfl (n := 11) (L' := [some (am_ov (some this)), some (am_ov x1), some (.int x2), some (.int x3), some (am_ov x4), some (.int x5), some (.long a2), none, none, none, none]) rfl (by decide) rfl ?_
  refine s_lconst j129 rfl rfl ?_
  refine s_lstore j130 rfl (n := 11) (L' := [some (am_ov (some this)), some (am_ov x1), some (.int x2), some (.int x3), some (am_ov x4), some (.int x5), some (.long a2), none, some (.long (0 : Int64)), none, none]) rfl (by decide) rfl ?_
  refine s_iload_n j132 rfl rfl ?_
  refine s_bipush j133 rfl kc_bi_13 ?_
  refine s_icn j135 rfl rfl am_cc_ne (fun hc3 => ?_) (fun hc3 => ?_)
  · replace h := h.2 hc3
    exact h
  · replace h := h.1 hc3
    refine s_aload_n j138 rfl rfl ?_
    obtain ⟨ho4, h⟩ := h
    refine s_gfR j139 rfl ho4 ?_
    obtain ⟨ho5, h⟩ := h
    refine s_gfI j142 rfl ho5 ?_
    refine s_sipush j145 rfl kc_si_2500 ?_
    refine s_ic j148 rfl rfl am_cc_lt (fun hc6 => ?_) (fun hc6 => ?_)
    · replace h := h.1 hc6
      refine s_aload_n j154 rfl rfl ?_
      refine s_gfR j155 rfl ho4 ?_
      refine s_aload_n j158 rfl rfl ?_
      refine s_aload j159 rfl rfl ?_
      refine s_iload j161 rfl rfl ?_
      refine s_aload_n j163 rfl rfl ?_
      refine s_gfI j164 rfl ho4 ?_
      refine s_virt j167 rfl rfl rfl rfl ho5 (by decide) (in_Wk_settle _ _ _ _ _) (am_r8 rfl) (am_bV h (fun σ7 h hx7 => ?_))
      replace h := h hx7
      refine s_aload_n j170 rfl rfl ?_
      refine s_aload j171 rfl rfl ?_
      refine s_lload j173 rfl rfl ?_
      refine s_virt j175 rfl rfl rfl rfl (am_is_ext hx7 ho4) (by decide) (in_Bk_interestIn _ _ _) (am_r8 rfl) (am_bL h (fun a10 σ9 h hx9 => ?_))
      replace h := h hx9
      refine s_lstore j178 rfl (n := 11) (L' := [some (am_ov (some this)), some (am_ov x1), some (.int x2), some (.int x3), some (am_ov x4), some (.int x5), some (.long a2), none, some (.long a10), none, none]) rfl (by decide) rfl ?_
      refine s_aload_n j180 rfl rfl ?_
      refine s_aload j181 rfl rfl ?_
      refine s_lload j183 rfl rfl ?_
      refine s_lload j185 rfl rfl ?_
      refine s_virt j187 rfl rfl rfl rfl (am_is_ext hx9 (am_is_ext hx7 ho4)) (by decide) (in_Bk_isTooMuch _ _ _ _) (am_r8 rfl) (am_bB h (fun a12 σ11 h hx11 => ?_))
      replace h := h hx11
      refine s_ifn j190 rfl rfl am_cb_eq (fun hc13 => ?_) (fun hc13 => ?_)
      · replace h := h.2 hc13
        exact h
      · replace h := h.1 hc13
        refine s_bipush j193 rfl kc_bi_m6 ?_
        exact s_retI j195 rfl h
    · replace h := h.2 hc6
      refine s_bipush j151 rfl kc_bi_m7 ?_
      exact s_retI j153 rfl h
theorem P_Bk_doFact_196 (nl : Bool) (Ln : Nat) (xs : Nat → Int32) : am_Jl (TT nl Ln xs) 11 [(196, .iload_n 3, 197, []), (197, .bipush 19, 199, []), (199, .if_icmp .ne 35, 202, []), (202, .aload 4, 204, []), (204, .iload_n 3, 205, []), (205, .aload_n 0, 206, []), (206, .getfield 82, 209, [9, 6, 15, 0]), (209, .sipush 10949, 212, []), (212, .invokevirtual 383, 215, [10, 60, 12, 7, 4]), (215, .lload 6, 217, []), (217, .ladd, 218, []), (218, .aload 4, 220, []), (220, .aload_n 0, 221, []), (221, .getfield 82, 224, [9, 6, 15, 0]), (224, .invokevirtual 387, 227, [10, 63, 12, 2, 2]), (227, .lcmp, 228, []), (228, .ifCond .le 6, 231, []), (231, .bipush (-6), 233, []), (233, .ireturn, 234, [1])] := dk_ck (by decide +kernel)
set_option maxRecDepth 4096 in
theorem w_Bk_doFact_196 {nl : Bool} {Ln : Nat} {xs : Nat → Int32} {d : Nat} {this : Nat} {x1 : Option Nat} {x2 : Int32} {x3 : Int32} {x4 : Option Nat} {x5 : Int32} {x6 : Int64} {x8 : Int64} {σ : am_S} {F : Int32 → am_S → Prop} (h : (x3 = (19 : Int32) → (am_is σ (some this) 6) ∧ (am_is σ x4 11) ∧ k_Cs_sumOf nl Ln xs d (x4.getD 0) x3 (am_fI σ 6015 this) (10949 : Int32) σ (fun a5 σ4 => am_ext σ σ4 → k_Cs_paidOfWorth nl Ln xs d (x4.getD 0) (am_fI σ4 6015 this) σ4 (fun a7 σ6 => am_ext σ4 σ6 → (a7 < (a5 + x6) → F (-6 : Int32) σ6) ∧ (¬ (a7 < (a5 + x6)) → c_Bk_doFact_234 nl Ln xs (d + 1) this x1 x2 x3 x4 x5 x6 x8 σ6 F)))) ∧ (¬ (x3 = (19 : Int32)) → c_Bk_doFact_234 nl Ln xs (d + 1) this x1 x2 x3 x4 x5 x6 x8 σ F)) : c_Bk_doFact_196 nl Ln xs (d + 1) this x1 x2 x3 x4 x5 x6 x8 σ F := by
  obtain ⟨j196, j197, j199, j202, j204, j205, j206, j209, j212, j215, j217, j218, j220, j221, j224, j227, j228, j231, j233, -⟩ := P_Bk_doFact_196 nl Ln xs
  unfold c_Bk_doFact_196
  refine s_iload_n j196 rfl rfl ?_
  refine s_bipush j197 rfl kc_bi_19 ?_
  refine s_icn j199 rfl rfl am_cc_ne (fun hc1 => ?_) (fun hc1 => ?_)
  · replace h := h.2 hc1
    exact h
  · replace h := h.1 hc1
    refine s_aload j202 rfl rfl ?_
    refine s_iload_n j204 rfl rfl ?_
    refine s_aload_n j205 rfl rfl ?_
    obtain ⟨ho2, h⟩ := h
    refine s_gfI j206 rfl ho2 ?_
    refine s_sipush j209 rfl kc_si_10949 ?_
    obtain ⟨ho3, h⟩ := h
    refine s_virt j212 rfl rfl rfl rfl ho3 (by decide) (in_Cs_sumOf _ _ _ _) (am_r8 rfl) (am_bL h (fun a5 σ4 h hx4 => ?_))
    replace h := h hx4
    refine s_lload j215 rfl rfl ?_
    refine s_g j217 rfl rfl rfl rfl rfl rfl ?_
    refine s_aload j218 rfl rfl ?_
    refine s_aload_n j220 rfl rfl ?_
    refine s_gfI j221 rfl (am_is_ext hx4 ho2) ?_
    refine s_virt j224 rfl rfl rfl rfl (am_is_ext hx4 ho3) (by decide) (in_Cs_paidOfWorth _ _) (am_r8 rfl) (am_bL h (fun a7 σ6 h hx6 => ?_))
    replace h := h hx6
    refine s_g j227 rfl rfl rfl rfl rfl rfl ?_
    refine s_ifn j228 rfl rfl am_cl_le (fun hc8 => ?_) (fun hc8 => ?_)
    · replace h := h.2 hc8
      exact h
    · replace h := h.1 hc8
      refine s_bipush j231 rfl kc_bi_m6 ?_
      exact s_retI j233 rfl h
theorem P_Bk_doFact_234 (nl : Bool) (Ln : Nat) (xs : Nat → Int32) : am_Jl (TT nl Ln xs) 11 [(234, .aload 4, 236, []), (236, .getfield 229, 239, [9, 11, 6, 0]), (239, .bipush 40, 241, []), (241, .if_icmp .lt 6, 244, []), (244, .bipush (-7), 246, []), (246, .ireturn, 247, [1]), (247, .aload_n 0, 248, []), (248, .dup, 249, []), (249, .getfield 82, 252, [9, 6, 15, 0]), (252, .iconst 1, 253, []), (253, .iadd, 254, []), (254, .putfield 82, 257, [9, 6, 15, 0]), (257, .aload_n 0, 258, []), (258, .getfield 58, 261, [9, 6, 2, 2]), (261, .iload_n 3, 262, []), (262, .aload_n 1, 263, []), (263, .iload_n 2, 264, []), (264, .iconst 3, 265, []), (265, .iadd, 266, []), (266, .laload, 267, []), (267, .l2i, 268, []), (268, .aload_n 0, 269, []), (269, .getfield 82, 272, [9, 6, 15, 0]), (272, .lload 6, 274, []), (274, .aconst_null, 275, []), (275, .aload 4, 277, []), (277, .getfield 223, 280, [9, 11, 5, 2]), (280, .invokevirtual 240, 283, [10, 71, 6, 9, 7]), (283, .astore 10, 285, []), (285, .aload 10, 287, []), (287, .iload 5, 289, []), (289, .putfield 391, 292, [9, 7, 6, 0]), (292, .aload 10, 294, []), (294, .aload_n 1, 295, []), (295, .iload_n 2, 296, []), (296, .iconst 4, 297, []), (297, .iadd, 298, []), (298, .laload, 299, []), (299, .l2i, 300, []), (300, .putfield 392, 303, [9, 7, 7, 0]), (303, .aload 10, 305, []), (305, .aload_n 1, 306, []), (306, .iload_n 2, 307, []), (307, .bipush 6, 309, []), (309, .iadd, 310, []), (310, .laload, 311, []), (311, .l2i, 312, []), (312, .putfield 395, 315, [9, 7, 8, 0]), (315, .aload 10, 317, []), (317, .lload 8, 319, []), (319, .putfield 398, 322, [9, 7, 9, 1]), (322, .aload 4, 324, []), (324, .aload 10, 326, []), (326, .putfield 223, 329, [9, 11, 5, 2]), (329, .aload 4, 331, []), (331, .dup, 332, []), (332, .getfield 229, 335, [9, 11, 6, 0]), (335, .iconst 1, 336, []), (336, .iadd, 337, []), (337, .putfield 229, 340, [9, 11, 6, 0]), (340, .iconst 1, 341, []), (341, .ireturn, 342, [1])] := dk_ck (by decide +kernel)
set_option maxRecDepth 4096 in
theorem w_Bk_doFact_234 {nl : Bool} {Ln : Nat} {xs : Nat → Int32} {d : Nat} {this : Nat} {x1 : Option Nat} {x2 : Int32} {x3 : Int32} {x4 : Option Nat} {x5 : Int32} {x6 : Int64} {x8 : Int64} {σ : am_S} {F : Int32 → am_S → Prop} (h : (am_is σ x4 11) ∧ ((am_fI σ 11006 (x4.getD 0)) < (40 : Int32) → (am_is σ (some this) 6) ∧ ∀ σ4, σ4 = am_sfI σ 6015 this ((am_fI σ 6015 this) + (1 : Int32)) → (am_ar σ4 1001 x1 (x2 + (3 : Int32))) ∧ (am_is σ4 (am_fR σ4 6002 this) 5) ∧ k_Sk_drawEntry nl Ln xs d ((am_fR σ4 6002 this).getD 0) x3 ((am_aL σ4 (x1.getD 0) (x2 + (3 : Int32)).toNatClampNeg).toInt32) (am_fI σ4 6015 this) x6 none (am_fR σ4 11005 (x4.getD 0)) σ4 (fun a10 σ9 => am_ext σ4 σ9 → (am_is σ9 a10 7) ∧ ∀ σ12, σ12 = am_sfI σ9 7006 (a10.getD 0) x5 → (am_ar σ12 1001 x1 (x2 + (4 : Int32))) ∧ ∀ σ16, σ16 = am_sfI σ12 7007 (a10.getD 0) ((am_aL σ12 (x1.getD 0) (x2 + (4 : Int32)).toNatClampNeg).toInt32) → (am_ar σ16 1001 x1 (x2 + (6 : Int32))) ∧ ∀ σ20, σ20 = am_sfI σ16 7008 (a10.getD 0) ((am_aL σ16 (x1.getD 0) (x2 + (6 : Int32)).toNatClampNeg).toInt32) → ∀ σ23, σ23 = am_sfL σ20 7009 (a10.getD 0) x8 → ∀ σ26, σ26 = am_sfR σ23 11005 (x4.getD 0) a10 → ∀ σ29, σ29 = am_sfI σ26 11006 (x4.getD 0) ((am_fI σ26 11006 (x4.getD 0)) + (1 : Int32)) → F (1 : Int32) σ29)) ∧ (¬ ((am_fI σ 11006 (x4.getD 0)) < (40 : Int32)) → F (-7 : Int32) σ)) : c_Bk_doFact_234 nl Ln xs (d + 1) this x1 x2 x3 x4 x5 x6 x8 σ F := by
  obtain ⟨j234, j236, j239, j241, j244, j246, j247, j248, j249, j252, j253, j254, j257, j258, j261, j262, j263, j264, j265, j266, j267, j268, j269, j272, j274, j275, j277, j280, j283, j285, j287, j289, j292, j294, j295, j296, j297, j298, j299, j300, j303, j305, j306, j307, j309, j310, j311, j312, j315, j317, j319, j322, j324, j326, j329, j331, j332, j335, j336, j337, j340, j341, -⟩ := P_Bk_doFact_234 nl Ln xs
  unfold c_Bk_doFact_234
  refine s_aload j234 rfl rfl ?_
  obtain ⟨ho1, h⟩ := h
  refine s_gfI j236 rfl ho1 ?_
  refine s_bipush j239 rfl kc_bi_40 ?_
  refine s_ic j241 rfl rfl am_cc_lt (fun hc2 => ?_) (fun hc2 => ?_)
  · replace h := h.1 hc2
    refine s_aload_n j247 rfl rfl ?_
    refine s_dup j248 rfl (am_cov _) ?_
    obtain ⟨ho3, h⟩ := h
    refine s_gfI j249 rfl ho3 ?_
    refine s_iconst j252 rfl kc_ic_1 ?_
    refine s_g j253 rfl rfl rfl rfl rfl rfl ?_
    refine s_pfI j254 rfl ho3 (fun σ4 e5 => ?_)
    replace h := h σ4 e5
    have ek6 : am_kd σ4 = am_kd σ := by rw [e5]
    refine s_aload_n j257 rfl rfl ?_
    refine s_gfR j258 rfl (am_is_kd ek6 ho3) ?_
    refine s_iload_n j261 rfl rfl ?_
    refine s_aload_n j262 rfl rfl ?_
    refine s_iload_n j263 rfl rfl ?_
    refine s_iconst j264 rfl kc_ic_3 ?_
    refine s_g j265 rfl rfl rfl rfl rfl rfl ?_
    obtain ⟨ho7, h⟩ := h
    refine s_laload j266 rfl ho7 ?_
    refine s_g j267 rfl rfl rfl rfl rfl rfl ?_
    refine s_aload_n j268 rfl rfl ?_
    refine s_gfI j269 rfl (am_is_kd ek6 ho3) ?_
    refine s_lload j272 rfl rfl ?_
    refine s_null j274 rfl ?_
    refine s_aload j275 rfl rfl ?_
    refine s_gfR j277 rfl (am_is_kd ek6 ho1) ?_
    obtain ⟨ho8, h⟩ := h
    refine s_virt j280 rfl rfl rfl rfl ho8 (by decide) (in_Sk_drawEntry _ _ _ _ _ _ _) (am_r8 rfl) (am_bR h (fun a10 σ9 h hx9 => ?_))
    replace h := h hx9
    refine s_astore j283 rfl (n := 11) (L' := [some (am_ov (some this)), some (am_ov x1), some (.int x2), some (.int x3), some (am_ov x4), some (.int x5), some (.long x6), none, some (.long x8), none, some (am_ov a10)]) rfl (by decide) rfl ?_
    refine s_aload j285 rfl rfl ?_
    refine s_iload j287 rfl rfl ?_
    obtain ⟨ho11, h⟩ := h
    refine s_pfI j289 rfl ho11 (fun σ12 e13 => ?_)
    replace h := h σ12 e13
    have ek14 : am_kd σ12 = am_kd σ9 := by rw [e13]
    refine s_aload j292 rfl rfl ?_
    refine s_aload_n j294 rfl rfl ?_
    refine s_iload_n j295 rfl rfl ?_
    refine s_iconst j296 rfl kc_ic_4 ?_
    refine s_g j297 rfl rfl rfl rfl rfl rfl ?_
    obtain ⟨ho15, h⟩ := h
    refine s_laload j298 rfl ho15 ?_
    refine s_g j299 rfl rfl rfl rfl rfl rfl ?_
    refine s_pfI j300 rfl (am_is_kd ek14 ho11) (fun σ16 e17 => ?_)
    replace h := h σ16 e17
    have ek18 : am_kd σ16 = am_kd σ12 := by rw [e17]
    refine s_aload j303 rfl rfl ?_
    refine s_aload_n j305 rfl rfl ?_
    refine s_iload_n j306 rfl rfl ?_
    refine s_bipush j307 rfl kc_bi_6 ?_
    refine s_g j309 rfl rfl rfl rfl rfl rfl ?_
    obtain ⟨ho19, h⟩ := h
    refine s_laload j310 rfl ho19 ?_
    refine s_g j311 rfl rfl rfl rfl rfl rfl ?_
    refine s_pfI j312 rfl (am_is_kd ek18 (am_is_kd ek14 ho11)) (fun σ20 e21 => ?_)
    replace h := h σ20 e21
    have ek22 : am_kd σ20 = am_kd σ16 := by rw [e21]
    refine s_aload j315 rfl rfl ?_
    refine s_lload j317 rfl rfl ?_
    refine s_pfL j319 rfl (am_is_kd ek22 (am_is_kd ek18 (am_is_kd ek14 ho11))) (fun σ23 e24 => ?_)
    replace h := h σ23 e24
    have ek25 : am_kd σ23 = am_kd σ20 := by rw [e24]
    refine s_aload j322 rfl rfl ?_
    refine s_aload j324 rfl rfl ?_
    refine s_pfR j326 rfl (am_is_kd ek25 (am_is_kd ek22 (am_is_kd ek18 (am_is_kd ek14 (am_is_ext hx9 (am_is_kd ek6 ho1)))))) (fun σ26 e27 => ?_)
    replace h := h σ26 e27
    have ek28 : am_kd σ26 = am_kd σ23 := by rw [e27]
    refine s_aload j329 rfl rfl ?_
    refine s_dup j331 rfl (am_cov _) ?_
    refine s_gfI j332 rfl (am_is_kd ek28 (am_is_kd ek25 (am_is_kd ek22 (am_is_kd ek18 (am_is_kd ek14 (am_is_ext hx9 (am_is_kd ek6 ho1))))))) ?_
    refine s_iconst j335 rfl kc_ic_1 ?_
    refine s_g j336 rfl rfl rfl rfl rfl rfl ?_
    refine s_pfI j337 rfl (am_is_kd ek28 (am_is_kd ek25 (am_is_kd ek22 (am_is_kd ek18 (am_is_kd ek14 (am_is_ext hx9 (am_is_kd ek6 ho1))))))) (fun σ29 e30 => ?_)
    replace h := h σ29 e30
    have ek31 : am_kd σ29 = am_kd σ26 := by rw [e30]
    refine s_iconst j340 rfl kc_ic_1 ?_
    exact s_retI j341 rfl h
  · replace h := h.2 hc2
    refine s_bipush j244 rfl kc_bi_m7 ?_
    exact s_retI j246 rfl h
theorem P_Bk_caseAt (nl : Bool) (Ln : Nat) (xs : Nat → Int32) : am_Jl (TT nl Ln xs) 12 [(0, .lload_n 1, 1, []), (1, .lconst 0, 2, []), (2, .lcmp, 3, []), (3, .ifCond .lt 13, 6, []), (6, .lload_n 1, 7, []), (7, .aload_n 0, 8, []), (8, .getfield 79, 11, [9, 6, 14, 0]), (11, .i2l, 12, []), (12, .lcmp, 13, []), (13, .ifCond .lt 7, 16, []), (16, .aconst_null, 17, []), (17, .goto 10, 20, []), (20, .aload_n 0, 21, []), (21, .getfield 32, 24, [9, 6, 6, 2]), (24, .lload_n 1, 25, []), (25, .l2i, 26, []), (26, .aaload, 27, []), (27, .areturn, 28, [3])] := dk_ck (by decide +kernel)
set_option maxRecDepth 4096 in
theorem w_Bk_caseAt {nl : Bool} {Ln : Nat} {xs : Nat → Int32} {d : Nat} {this : Nat} {p0 : Int64} {σ : am_S} {F : Option Nat → am_S → Prop} (h : (¬ (p0 < (0 : Int64)) → am_is σ (some this) 6) ∧ (¬ (p0 < (0 : Int64)) → (p0 < (am_fI σ 6014 this).toInt64) → am_is σ (some this) 6) ∧ (¬ (p0 < (0 : Int64)) → (p0 < (am_fI σ 6014 this).toInt64) → am_ar σ 2011 (am_fR σ 6006 this) p0.toInt32) ∧ ∀ w7 : Option Nat, w7 = (if p0 < (0 : Int64) then none else (if p0 < (am_fI σ 6014 this).toInt64 then (am_aR σ ((am_fR σ 6006 this).getD 0) p0.toInt32.toNatClampNeg) else none)) → F w7 σ) : k_Bk_caseAt nl Ln xs (d + 1) this p0 σ F := by
  obtain ⟨j0, j1, j2, j3, j6, j7, j8, j11, j12, j13, j16, j17, j20, j21, j24, j25, j26, j27, -⟩ := P_Bk_caseAt nl Ln xs
  have elo : am_lo 3 [am_ov (some this), .long p0] = [some (am_ov (some this)), some (.long p0), none] := by simp only [am_lo, am_in_ov, am_in_int, am_in_long, am_in_nil]; rfl
  unfold k_Bk_caseAt
  rw [elo]
  refine s_lload_n j0 rfl rfl ?_
  refine s_lconst j1 rfl rfl ?_
  refine s_g j2 rfl rfl rfl rfl rfl rfl ?_
  obtain ⟨ho2, h⟩ := h
  obtain ⟨ho4, h⟩ := h
  obtain ⟨ho5, h⟩ := h
  have K6 : ∀ (w7 : Option Nat), w7 = (if p0 < (0 : Int64) then none else (if p0 < (am_fI σ 6014 this).toInt64 then (am_aR σ ((am_fR σ 6006 this).getD 0) p0.toInt32.toNatClampNeg) else none)) → am_C (TT nl Ln xs) (d + 1) 12 27 [some (am_ov (some this)), some (.long p0), none] [am_ov w7] σ (am_qR F) := by
    intro w7 hw8
    replace h := h w7 hw8
    exact s_retR j27 rfl h
  refine s_if j3 rfl rfl am_cl_lt (fun hc1 => ?_) (fun hc1 => ?_)
  · refine s_null j16 rfl ?_
    refine s_goto j17 rfl rfl ?_
    exact K6 _ (am_t1 hc1 rfl)
  · refine s_lload_n j6 rfl rfl ?_
    refine s_aload_n j7 rfl rfl ?_
    refine s_gfI j8 rfl (ho2 hc1) ?_
    refine s_g j11 rfl rfl rfl rfl rfl rfl ?_
    refine s_g j12 rfl rfl rfl rfl rfl rfl ?_
    refine s_if j13 rfl rfl am_cl_lt (fun hc3 => ?_) (fun hc3 => ?_)
    · refine s_aload_n j20 rfl rfl ?_
      refine s_gfR j21 rfl (ho4 hc1 hc3) ?_
      refine s_lload_n j24 rfl rfl ?_
      refine s_g j25 rfl rfl rfl rfl rfl rfl ?_
      refine s_aaload (k := 2011) (by decide) kq_2011 j26 rfl (ho5 hc1 hc3) ?_
      exact K6 _ (am_t2 hc1 (am_t1 hc3 rfl))
    · refine s_null j16 rfl ?_
      refine s_goto j17 rfl rfl ?_
      exact K6 _ (am_t2 hc1 (am_t2 hc3 rfl))
theorem P_Co_isDay (nl : Bool) (Ln : Nat) (xs : Nat → Int32) : am_Jl (TT nl Ln xs) 13 [(0, .lload_n 0, 1, []), (1, .lconst 0, 2, []), (2, .lcmp, 3, []), (3, .ifCond .lt 15, 6, []), (6, .lload_n 0, 7, []), (7, .ldc2_w 276, 10, [6, 10949]), (10, .lcmp, 11, []), (11, .ifCond .gt 7, 14, []), (14, .iconst 1, 15, []), (15, .goto 4, 18, []), (18, .iconst 0, 19, []), (19, .ireturn, 20, [4])] := dk_ck (by decide +kernel)
set_option maxRecDepth 4096 in
theorem w_Co_isDay {nl : Bool} {Ln : Nat} {xs : Nat → Int32} {d : Nat} {p0 : Int64} {σ : am_S} {F : Bool → am_S → Prop} (h : F (decide (¬ (p0 < (0 : Int64)) ∧ (¬ ((10949 : Int64) < p0)))) σ) : k_Co_isDay nl Ln xs (d + 1) p0 σ F := by
  obtain ⟨j0, j1, j2, j3, j6, j7, j10, j11, j14, j15, j18, j19, -⟩ := P_Co_isDay nl Ln xs
  have elo : am_lo 2 [.long p0] = [some (.long p0), none] := by simp only [am_lo, am_in_ov, am_in_int, am_in_long, am_in_nil]; rfl
  unfold k_Co_isDay
  rw [elo]
  refine s_lload_n j0 rfl rfl ?_
  refine s_lconst j1 rfl rfl ?_
  refine s_g j2 rfl rfl rfl rfl rfl rfl ?_
  have K3 : ∀ (w4 : Int32), w4 = (if ¬ (p0 < (0 : Int64)) ∧ (¬ ((10949 : Int64) < p0)) then (1 : Int32) else 0) → am_C (TT nl Ln xs) (d + 1) 13 19 [some (.long p0), none] [.int w4] σ (am_qB F) := by
    intro w4 hw5
    subst hw5
    exact s_retZ j19 rfl h
  refine s_if j3 rfl rfl am_cl_lt (fun hc1 => ?_) (fun hc1 => ?_)
  · refine s_iconst j18 rfl kc_ic_0 ?_
    exact K3 _ (am_e0 (Iff.trans Iff.rfl (am_p6 hc1)))
  · refine s_lload_n j6 rfl rfl ?_
    refine s_ldc2 j7 rfl kc_ll_10949 ?_
    refine s_g j10 rfl rfl rfl rfl rfl rfl ?_
    refine s_if j11 rfl rfl am_cl_gt (fun hc2 => ?_) (fun hc2 => ?_)
    · refine s_iconst j18 rfl kc_ic_0 ?_
      exact K3 _ (am_e0 (am_p5 hc1 (Iff.trans Iff.rfl (am_p11 hc2))))
    · refine s_iconst j14 rfl kc_ic_1 ?_
      refine s_goto j15 rfl rfl ?_
      exact K3 _ (am_e1 (am_p5 hc1 (Iff.trans Iff.rfl (am_p12 hc2))))
theorem P_Bk_isAsTold (nl : Bool) (Ln : Nat) (xs : Nat → Int32) : am_Jl (TT nl Ln xs) 14 [(0, .aload_n 2, 1, []), (1, .iload_n 3, 2, []), (2, .invokestatic 362, 5, [12, 15, 3, 2]), (5, .lstore 4, 7, []), (7, .lload 4, 9, []), (9, .invokestatic 285, 12, [12, 16, 2, 1]), (12, .ifCond .ne 5, 15, []), (15, .iconst 0, 16, []), (16, .ireturn, 17, [4]), (17, .aload_n 2, 18, []), (18, .iload_n 3, 19, []), (19, .iconst 3, 20, []), (20, .iadd, 21, []), (21, .laload, 22, []), (22, .lstore 6, 24, []), (24, .aload_n 2, 25, []), (25, .iload_n 3, 26, []), (26, .laload, 27, []), (27, .l2i, 28, []), (28, .tableswitch 159 12 17 #[40, 62, 159, 40, 75, 137], 68, []), (68, .lload 6, 70, []), (70, .lconst 0, 71, []), (71, .lcmp, 72, []), (72, .ifCond .lt 16, 75, []), (75, .lload 6, 77, []), (77, .ldc2_w 297, 80, [6, 2]), (80, .lcmp, 81, []), (81, .ifCond .gt 7, 84, []), (84, .iconst 1, 85, []), (85, .goto 4, 88, []), (88, .iconst 0, 89, []), (89, .ireturn, 90, [4]), (90, .lload 4, 92, []), (92, .lconst 0, 93, []), (93, .lcmp, 94, []), (94, .ifCond .le 7, 97, []), (97, .iconst 1, 98, []), (98, .goto 4, 101, []), (101, .iconst 0, 102, []), (102, .ireturn, 103, [4]), (103, .lload 6, 105, []), (105, .lconst 0, 106, []), (106, .lcmp, 107, []), (107, .ifCond .lt 56, 110, []), (110, .lload 6, 112, []), (112, .aload_n 1, 113, []), (113, .getfield 404, 116, [9, 11, 2, 2]), (116, .invokevirtual 335, 119, [10, 17, 11, 3, 1]), (119, .getfield 323, 122, [9, 10, 7, 0]), (122, .i2l, 123, []), (123, .lcmp, 124, []), (124, .ifCond .ge 39, 127, []), (127, .aload_n 2, 128, []), (128, .iload_n 3, 129, []), (129, .iconst 4, 130, []), (130, .iadd, 131, []), (131, .laload, 132, []), (132, .lconst 0, 133, []), (133, .lcmp, 134, []), (134, .ifCond .eq 13, 137, []), (137, .aload_n 2, 138, []), (138, .iload_n 3, 139, []), (139, .iconst 4, 140, []), (140, .iadd, 141, []), (141, .laload, 142, []), (142, .lconst 1, 143, []), (143, .lcmp, 144, []), (144, .ifCond .ne 19, 147, []), (163, .iconst 0, 164, []), (164, .ireturn, 165, [4]), (165, .lload 6, 167, []), (167, .lconst 1, 168, []), (168, .lcmp, 169, []), (169, .ifCond .lt 16, 172, []), (172, .lload 6, 174, []), (174, .ldc2_w 232, 177, [6, 6]), (177, .lcmp, 178, []), (178, .ifCond .ge 7, 181, []), (181, .iconst 1, 182, []), (182, .goto 4, 185, []), (185, .iconst 0, 186, []), (186, .ireturn, 187, [4]), (187, .iconst 1, 188, []), (188, .ireturn, 189, [4])] := dk_ck (by decide +kernel)
set_option maxRecDepth 4096 in
theorem w_Bk_isAsTold {nl : Bool} {Ln : Nat} {xs : Nat → Int32} {d : Nat} {this : Nat} {p0 : Option Nat} {p1 : Option Nat} {p2 : Int32} {σ : am_S} {F : Bool → am_S → Prop} (h : k_Bk_centsIn nl Ln xs d p1 p2 σ (fun a2 σ1 => am_ext σ σ1 → k_Co_isMoney nl Ln xs d a2 σ1 (fun a4 σ3 => am_ext σ1 σ3 → (a4 = true → (am_ar σ3 1001 p1 (p2 + (3 : Int32))) ∧ ∀ v7 : Int64, v7 = (am_aL σ3 (p1.getD 0) (p2 + (3 : Int32)).toNatClampNeg) → (am_ar σ3 1001 p1 p2) ∧ ((am_aL σ3 (p1.getD 0) p2.toNatClampNeg).toInt32 = (12 : Int32) ∨ (am_aL σ3 (p1.getD 0) p2.toNatClampNeg).toInt32 = (15 : Int32) → F (decide (¬ (v7 < (0 : Int64)) ∧ (¬ ((2 : Int64) < v7)))) σ3) ∧ ((am_aL σ3 (p1.getD 0) p2.toNatClampNeg).toInt32 = (13 : Int32) → F (decide ((0 : Int64) < a2)) σ3) ∧ ((am_aL σ3 (p1.getD 0) p2.toNatClampNeg).toInt32 = (16 : Int32) → (v7 < (0 : Int64) → F false σ3) ∧ (¬ (v7 < (0 : Int64)) → (am_is σ3 p0 11) ∧ (am_is σ3 (am_fR σ3 11002 (p0.getD 0)) 10) ∧ k_Ls_base nl Ln xs d ((am_fR σ3 11002 (p0.getD 0)).getD 0) σ3 (fun a23 σ22 => am_ext σ3 σ22 → (am_is σ22 a23 10) ∧ (v7 < (am_fI σ22 10007 (a23.getD 0)).toInt64 → (am_ar σ22 1001 p1 (p2 + (4 : Int32))) ∧ ((am_aL σ22 (p1.getD 0) (p2 + (4 : Int32)).toNatClampNeg) = (0 : Int64) → c_Bk_isAsTold_147 nl Ln xs (d + 1) this p0 p1 p2 a2 v7 σ22 F) ∧ (¬ ((am_aL σ22 (p1.getD 0) (p2 + (4 : Int32)).toNatClampNeg) = (0 : Int64)) → (am_ar σ22 1001 p1 (p2 + (4 : Int32))) ∧ ((am_aL σ22 (p1.getD 0) (p2 + (4 : Int32)).toNatClampNeg) = (1 : Int64) → c_Bk_isAsTold_147 nl Ln xs (d + 1) this p0 p1 p2 a2 v7 σ22 F) ∧ (¬ ((am_aL σ22 (p1.getD 0) (p2 + (4 : Int32)).toNatClampNeg) = (1 : Int64)) → F false σ22))) ∧ (¬ (v7 < (am_fI σ22 10007 (a23.getD 0)).toInt64) → F false σ22)))) ∧ ((am_aL σ3 (p1.getD 0) p2.toNatClampNeg).toInt32 = (17 : Int32) → F (decide (¬ (v7 < (1 : Int64)) ∧ (v7 < (6 : Int64)))) σ3) ∧ ((((am_aL σ3 (p1.getD 0) p2.toNatClampNeg).toInt32).toInt < 12 ∨ 17 < ((am_aL σ3 (p1.getD 0) p2.toNatClampNeg).toInt32).toInt) ∨ (am_aL σ3 (p1.getD 0) p2.toNatClampNeg).toInt32 = (14 : Int32) → F true σ3)) ∧ (¬ (a4 = true) → F false σ3)))) : k_Bk_isAsTold nl Ln xs (d + 1) this p0 p1 p2 σ F := by
  obtain ⟨j0, j1, j2, j5, j7, j9, j12, j15, j16, j17, j18, j19, j20, j21, j22, j24, j25, j26, j27, j28, j68, j70, j71, j72, j75, j77, j80, j81, j84, j85, j88, j89, j90, j92, j93, j94, j97, j98, j101, j102, j103, j105, j106, j107, j110, j112, j113, j116, j119, j122, j123, j124, j127, j128, j129, j130, j131, j132, j133, j134, j137, j138, j139, j140, j141, j142, j143, j144, j163, j164, j165, j167, j168, j169, j172, j174, j177, j178, j181, j182, j185, j186, j187, j188, -⟩ := P_Bk_isAsTold nl Ln xs
  have elo : am_lo 8 [am_ov (some this), am_ov p0, am_ov p1, .int p2] = [some (am_ov (some this)), some (am_ov p0), some (am_ov p1), some (.int p2), none, none, none, none] := by simp only [am_lo, am_in_ov, am_in_int, am_in_long, am_in_nil]; rfl
  unfold k_Bk_isAsTold
  rw [elo]
  refine s_aload_n j0 rfl rfl ?_
  refine s_iload_n j1 rfl rfl ?_
  refine s_stat j2 rfl rfl rfl rfl (by decide) (in_Bk_centsIn _ _) (am_r8 rfl) (am_bL h (fun a2 σ1 h hx1 => ?_))
  replace h := h hx1
  refine s_lstore j5 rfl (n := 8) (L' := [some (am_ov (some this)), some (am_ov p0), some (am_ov p1), some (.int p2), some (.long a2), none, none, none]) rfl (by decide) rfl ?_
  refine s_lload j7 rfl rfl ?_
  refine s_stat j9 rfl rfl rfl rfl (by decide) (in_Co_isMoney _) (am_r8 rfl) (am_bB h (fun a4 σ3 h hx3 => ?_))
  replace h := h hx3
  refine s_if j12 rfl rfl am_cb_ne (fun hc5 => ?_) (fun hc5 => ?_)
  · replace h := h.1 hc5
    refine s_aload_n j17 rfl rfl ?_
    refine s_iload_n j18 rfl rfl ?_
    refine s_iconst j19 rfl kc_ic_3 ?_
    refine s_g j20 rfl rfl rfl rfl rfl rfl ?_
    obtain ⟨ho6, h⟩ := h
    refine s_laload j21 rfl ho6 ?_
    refine s_lstoreV j22 rfl (n := 8) (L' := fun w => [some (am_ov (some this)), some (am_ov p0), some (am_ov p1), some (.int p2), some (.long a2), none, some (.long w), none]) rfl (by decide) (fun _ => rfl) (fun v7 hv8 => ?_)
    replace h := h v7 hv8
    refine s_aload_n j24 rfl rfl ?_
    refine s_iload_n j25 rfl rfl ?_
    obtain ⟨ho9, h⟩ := h
    refine s_laload j26 rfl ho9 ?_
    refine s_g j27 rfl rfl rfl rfl rfl rfl ?_
    by_cases hr35 : ((am_aL σ3 (p1.getD 0) p2.toNatClampNeg).toInt32).toInt < 12 ∨ 17 < ((am_aL σ3 (p1.getD 0) p2.toNatClampNeg).toInt32).toInt
    · refine s_tsw j28 (t := 187) ((am_sw_out hr35).trans rfl) ?_
      replace h := h.2.2.2.2 (Or.inl hr35)
      refine s_iconst j187 rfl kc_ic_1 ?_
      exact s_retZ1 j188 rfl h
    · obtain ⟨k36, hk37, hv38⟩ := am_sw_in hr35
      have hk372 : k36 < 6 := by omega
      clear hk37
      match k36, hk372, hv38 with
      | 0, _, hv38 =>
        have hs : (am_aL σ3 (p1.getD 0) p2.toNatClampNeg).toInt32 = (12 : Int32) := am_te hv38 (by decide)
        refine s_tsw j28 (t := 68) (by show am_sw 28 159 12 17 #[40, 62, 159, 40, 75, 137] ((am_aL σ3 (p1.getD 0) p2.toNatClampNeg).toInt32).toInt = _; rw [hv38]; rfl) ?_
        replace h := h.1 (Or.inl hs)
        refine s_lload j68 rfl rfl ?_
        refine s_lconst j70 rfl rfl ?_
        refine s_g j71 rfl rfl rfl rfl rfl rfl ?_
        have K12 : ∀ (w13 : Int32), w13 = (if ¬ (v7 < (0 : Int64)) ∧ (¬ ((2 : Int64) < v7)) then (1 : Int32) else 0) → am_C (TT nl Ln xs) (d + 1) 14 89 [some (am_ov (some this)), some (am_ov p0), some (am_ov p1), some (.int p2), some (.long a2), none, some (.long v7), none] [.int w13] σ3 (am_qB F) := by
          intro w13 hw14
          subst hw14
          exact s_retZ j89 rfl h
        refine s_if j72 rfl rfl am_cl_lt (fun hc10 => ?_) (fun hc10 => ?_)
        · refine s_iconst j88 rfl kc_ic_0 ?_
          exact K12 _ (am_e0 (Iff.trans Iff.rfl (am_p6 hc10)))
        · refine s_lload j75 rfl rfl ?_
          refine s_ldc2 j77 rfl kc_ll_2 ?_
          refine s_g j80 rfl rfl rfl rfl rfl rfl ?_
          refine s_if j81 rfl rfl am_cl_gt (fun hc11 => ?_) (fun hc11 => ?_)
          · refine s_iconst j88 rfl kc_ic_0 ?_
            exact K12 _ (am_e0 (am_p5 hc10 (Iff.trans Iff.rfl (am_p11 hc11))))
          · refine s_iconst j84 rfl kc_ic_1 ?_
            refine s_goto j85 rfl rfl ?_
            exact K12 _ (am_e1 (am_p5 hc10 (Iff.trans Iff.rfl (am_p12 hc11))))
      | 1, _, hv38 =>
        have hs : (am_aL σ3 (p1.getD 0) p2.toNatClampNeg).toInt32 = (13 : Int32) := am_te hv38 (by decide)
        refine s_tsw j28 (t := 90) (by show am_sw 28 159 12 17 #[40, 62, 159, 40, 75, 137] ((am_aL σ3 (p1.getD 0) p2.toNatClampNeg).toInt32).toInt = _; rw [hv38]; rfl) ?_
        replace h := h.2.1 hs
        refine s_lload j90 rfl rfl ?_
        refine s_lconst j92 rfl rfl ?_
        refine s_g j93 rfl rfl rfl rfl rfl rfl ?_
        have K16 : ∀ (w17 : Int32), w17 = (if (0 : Int64) < a2 then (1 : Int32) else 0) → am_C (TT nl Ln xs) (d + 1) 14 102 [some (am_ov (some this)), some (am_ov p0), some (am_ov p1), some (.int p2), some (.long a2), none, some (.long v7), none] [.int w17] σ3 (am_qB F) := by
          intro w17 hw18
          subst hw18
          exact s_retZ j102 rfl h
        refine s_ifn j94 rfl rfl am_cl_le (fun hc15 => ?_) (fun hc15 => ?_)
        · refine s_iconst j101 rfl kc_ic_0 ?_
          exact K16 _ (am_e0 (Iff.trans Iff.rfl (am_p10 hc15)))
        · refine s_iconst j97 rfl kc_ic_1 ?_
          refine s_goto j98 rfl rfl ?_
          exact K16 _ (am_e1 (Iff.trans Iff.rfl (am_p9 hc15)))
      | 2, _, hv38 =>
        have hs : (am_aL σ3 (p1.getD 0) p2.toNatClampNeg).toInt32 = (14 : Int32) := am_te hv38 (by decide)
        refine s_tsw j28 (t := 187) (by show am_sw 28 159 12 17 #[40, 62, 159, 40, 75, 137] ((am_aL σ3 (p1.getD 0) p2.toNatClampNeg).toInt32).toInt = _; rw [hv38]; rfl) ?_
        replace h := h.2.2.2.2 (Or.inr hs)
        refine s_iconst j187 rfl kc_ic_1 ?_
        exact s_retZ1 j188 rfl h
      | 3, _, hv38 =>
        have hs : (am_aL σ3 (p1.getD 0) p2.toNatClampNeg).toInt32 = (15 : Int32) := am_te hv38 (by decide)
        refine s_tsw j28 (t := 68) (by show am_sw 28 159 12 17 #[40, 62, 159, 40, 75, 137] ((am_aL σ3 (p1.getD 0) p2.toNatClampNeg).toInt32).toInt = _; rw [hv38]; rfl) ?_
        replace h := h.1 (Or.inr hs)
        refine s_lload j68 rfl rfl ?_
        refine s_lconst j70 rfl rfl ?_
        refine s_g j71 rfl rfl rfl rfl rfl rfl ?_
        have K12 : ∀ (w13 : Int32), w13 = (if ¬ (v7 < (0 : Int64)) ∧ (¬ ((2 : Int64) < v7)) then (1 : Int32) else 0) → am_C (TT nl Ln xs) (d + 1) 14 89 [some (am_ov (some this)), some (am_ov p0), some (am_ov p1), some (.int p2), some (.long a2), none, some (.long v7), none] [.int w13] σ3 (am_qB F) := by
          intro w13 hw14
          subst hw14
          exact s_retZ j89 rfl h
        refine s_if j72 rfl rfl am_cl_lt (fun hc10 => ?_) (fun hc10 => ?_)
        · refine s_iconst j88 rfl kc_ic_0 ?_
          exact K12 _ (am_e0 (Iff.trans Iff.rfl (am_p6 hc10)))
        · refine s_lload j75 rfl rfl ?_
          refine s_ldc2 j77 rfl kc_ll_2 ?_
          refine s_g j80 rfl rfl rfl rfl rfl rfl ?_
          refine s_if j81 rfl rfl am_cl_gt (fun hc11 => ?_) (fun hc11 => ?_)
          · refine s_iconst j88 rfl kc_ic_0 ?_
            exact K12 _ (am_e0 (am_p5 hc10 (Iff.trans Iff.rfl (am_p11 hc11))))
          · refine s_iconst j84 rfl kc_ic_1 ?_
            refine s_goto j85 rfl rfl ?_
            exact K12 _ (am_e1 (am_p5 hc10 (Iff.trans Iff.rfl (am_p12 hc11))))
      | 4, _, hv38 =>
        have hs : (am_aL σ3 (p1.getD 0) p2.toNatClampNeg).toInt32 = (16 : Int32) := am_te hv38 (by decide)
        refine s_tsw j28 (t := 103) (by show am_sw 28 159 12 17 #[40, 62, 159, 40, 75, 137] ((am_aL σ3 (p1.getD 0) p2.toNatClampNeg).toInt32).toInt = _; rw [hv38]; rfl) ?_
        replace h := h.2.2.1 hs
        refine s_lload j103 rfl rfl ?_
        refine s_lconst j105 rfl rfl ?_
        refine s_g j106 rfl rfl rfl rfl rfl rfl ?_
        refine s_if j107 rfl rfl am_cl_lt (fun hc19 => ?_) (fun hc19 => ?_)
        · replace h := h.1 hc19
          refine s_iconst j163 rfl kc_ic_0 ?_
          exact s_retZ0 j164 rfl h
        · replace h := h.2 hc19
          refine s_lload j110 rfl rfl ?_
          refine s_aload_n j112 rfl rfl ?_
          obtain ⟨ho20, h⟩ := h
          refine s_gfR j113 rfl ho20 ?_
          obtain ⟨ho21, h⟩ := h
          refine s_virt j116 rfl rfl rfl rfl ho21 (by decide) (in_Ls_base _) (am_r8 rfl) (am_bR h (fun a23 σ22 h hx22 => ?_))
          replace h := h hx22
          obtain ⟨ho24, h⟩ := h
          refine s_gfI j119 rfl ho24 ?_
          refine s_g j122 rfl rfl rfl rfl rfl rfl ?_
          refine s_g j123 rfl rfl rfl rfl rfl rfl ?_
          refine s_ifn j124 rfl rfl am_cl_ge (fun hc25 => ?_) (fun hc25 => ?_)
          · replace h := h.2 hc25
            refine s_iconst j163 rfl kc_ic_0 ?_
            exact s_retZ0 j164 rfl h
          · replace h := h.1 hc25
            refine s_aload_n j127 rfl rfl ?_
            refine s_iload_n j128 rfl rfl ?_
            refine s_iconst j129 rfl kc_ic_4 ?_
            refine s_g j130 rfl rfl rfl rfl rfl rfl ?_
            obtain ⟨ho26, h⟩ := h
            refine s_laload j131 rfl ho26 ?_
            refine s_lconst j132 rfl rfl ?_
            refine s_g j133 rfl rfl rfl rfl rfl rfl ?_
            refine s_if j134 rfl rfl am_cl_eq (fun hc27 => ?_) (fun hc27 => ?_)
            · replace h := h.1 hc27
              exact h
            · replace h := h.2 hc27
              refine s_aload_n j137 rfl rfl ?_
              refine s_iload_n j138 rfl rfl ?_
              refine s_iconst j139 rfl kc_ic_4 ?_
              refine s_g j140 rfl rfl rfl rfl rfl rfl ?_
              obtain ⟨ho28, h⟩ := h
              refine s_laload j141 rfl ho28 ?_
              refine s_lconst j142 rfl rfl ?_
              refine s_g j143 rfl rfl rfl rfl rfl rfl ?_
              refine s_ifn j144 rfl rfl am_cl_ne (fun hc29 => ?_) (fun hc29 => ?_)
              · replace h := h.2 hc29
                refine s_iconst j163 rfl kc_ic_0 ?_
                exact s_retZ0 j164 rfl h
              · replace h := h.1 hc29
                exact h
      | 5, _, hv38 =>
        have hs : (am_aL σ3 (p1.getD 0) p2.toNatClampNeg).toInt32 = (17 : Int32) := am_te hv38 (by decide)
        refine s_tsw j28 (t := 165) (by show am_sw 28 159 12 17 #[40, 62, 159, 40, 75, 137] ((am_aL σ3 (p1.getD 0) p2.toNatClampNeg).toInt32).toInt = _; rw [hv38]; rfl) ?_
        replace h := h.2.2.2.1 hs
        refine s_lload j165 rfl rfl ?_
        refine s_lconst j167 rfl rfl ?_
        refine s_g j168 rfl rfl rfl rfl rfl rfl ?_
        have K32 : ∀ (w33 : Int32), w33 = (if ¬ (v7 < (1 : Int64)) ∧ (v7 < (6 : Int64)) then (1 : Int32) else 0) → am_C (TT nl Ln xs) (d + 1) 14 186 [some (am_ov (some this)), some (am_ov p0), some (am_ov p1), some (.int p2), some (.long a2), none, some (.long v7), none] [.int w33] σ3 (am_qB F) := by
          intro w33 hw34
          subst hw34
          exact s_retZ j186 rfl h
        refine s_if j169 rfl rfl am_cl_lt (fun hc30 => ?_) (fun hc30 => ?_)
        · refine s_iconst j185 rfl kc_ic_0 ?_
          exact K32 _ (am_e0 (Iff.trans Iff.rfl (am_p6 hc30)))
        · refine s_lload j172 rfl rfl ?_
          refine s_ldc2 j174 rfl kc_ll_6 ?_
          refine s_g j177 rfl rfl rfl rfl rfl rfl ?_
          refine s_ifn j178 rfl rfl am_cl_ge (fun hc31 => ?_) (fun hc31 => ?_)
          · refine s_iconst j185 rfl kc_ic_0 ?_
            exact K32 _ (am_e0 (am_p5 hc30 (Iff.trans Iff.rfl (am_p10 hc31))))
          · refine s_iconst j181 rfl kc_ic_1 ?_
            refine s_goto j182 rfl rfl ?_
            exact K32 _ (am_e1 (am_p5 hc30 (Iff.trans Iff.rfl (am_p9 hc31))))
      | n + 6, hk372, _ => exact absurd hk372 (by omega)
  · replace h := h.2 hc5
    refine s_iconst j15 rfl kc_ic_0 ?_
    exact s_retZ0 j16 rfl h
theorem P_Bk_isAsTold_147 (nl : Bool) (Ln : Nat) (xs : Nat → Int32) : am_Jl (TT nl Ln xs) 14 [(147, .aload_n 2, 148, []), (148, .iload_n 3, 149, []), (149, .bipush 6, 151, []), (151, .iadd, 152, []), (152, .laload, 153, []), (153, .invokestatic 244, 156, [12, 13, 2, 1]), (156, .ifCond .eq 7, 159, []), (159, .iconst 1, 160, []), (160, .goto 4, 163, []), (163, .iconst 0, 164, []), (164, .ireturn, 165, [4])] := dk_ck (by decide +kernel)
set_option maxRecDepth 4096 in
theorem w_Bk_isAsTold_147 {nl : Bool} {Ln : Nat} {xs : Nat → Int32} {d : Nat} {this : Nat} {x1 : Option Nat} {x2 : Option Nat} {x3 : Int32} {x4 : Int64} {x6 : Int64} {σ : am_S} {F : Bool → am_S → Prop} (h : (am_ar σ 1001 x2 (x3 + (6 : Int32))) ∧ k_Co_isDay nl Ln xs d (am_aL σ (x2.getD 0) (x3 + (6 : Int32)).toNatClampNeg) σ (fun a3 σ2 => am_ext σ σ2 → F (decide (a3 = true)) σ2)) : c_Bk_isAsTold_147 nl Ln xs (d + 1) this x1 x2 x3 x4 x6 σ F := by
  obtain ⟨j147, j148, j149, j151, j152, j153, j156, j159, j160, j163, j164, -⟩ := P_Bk_isAsTold_147 nl Ln xs
  unfold c_Bk_isAsTold_147
  refine s_aload_n j147 rfl rfl ?_
  refine s_iload_n j148 rfl rfl ?_
  refine s_bipush j149 rfl kc_bi_6 ?_
  refine s_g j151 rfl rfl rfl rfl rfl rfl ?_
  obtain ⟨ho1, h⟩ := h
  refine s_laload j152 rfl ho1 ?_
  refine s_stat j153 rfl rfl rfl rfl (by decide) (in_Co_isDay _) (am_r8 rfl) (am_bB h (fun a3 σ2 h hx2 => ?_))
  replace h := h hx2
  have K5 : ∀ (w6 : Int32), w6 = (if a3 = true then (1 : Int32) else 0) → am_C (TT nl Ln xs) (d + 1) 14 164 [some (am_ov (some this)), some (am_ov x1), some (am_ov x2), some (.int x3), some (.long x4), none, some (.long x6), none] [.int w6] σ2 (am_qB F) := by
    intro w6 hw7
    subst hw7
    exact s_retZ j164 rfl h
  refine s_ifn j156 rfl rfl am_cb_eq (fun hc4 => ?_) (fun hc4 => ?_)
  · refine s_iconst j163 rfl kc_ic_0 ?_
    exact K5 _ (am_e0 (Iff.trans Iff.rfl (am_p10 hc4)))
  · refine s_iconst j159 rfl kc_ic_1 ?_
    refine s_goto j160 rfl rfl ?_
    exact K5 _ (am_e1 (Iff.trans Iff.rfl (am_p9 hc4)))
theorem P_Bk_centsIn (nl : Bool) (Ln : Nat) (xs : Nat → Int32) : am_Jl (TT nl Ln xs) 15 [(0, .getstatic 401, 3, [7, 501, 0]), (3, .aload_n 0, 4, []), (4, .iload_n 1, 5, []), (5, .laload, 6, []), (6, .l2i, 7, []), (7, .iaload, 8, []), (8, .istore_n 2, 9, []), (9, .iload_n 2, 10, []), (10, .ifCond .ne 7, 13, []), (13, .lconst 0, 14, []), (14, .goto 8, 17, []), (17, .aload_n 0, 18, []), (18, .iload_n 1, 19, []), (19, .iload_n 2, 20, []), (20, .iadd, 21, []), (21, .laload, 22, []), (22, .lreturn, 23, [2])] := dk_ck (by decide +kernel)
set_option maxRecDepth 4096 in
theorem w_Bk_centsIn {nl : Bool} {Ln : Nat} {xs : Nat → Int32} {d : Nat} {p0 : Option Nat} {p1 : Int32} {σ : am_S} {F : Int64 → am_S → Prop} (h : (am_ar σ 1001 p0 p1) ∧ ((am_kd σ 501).1 = 0) ∧ (0 ≤ ((am_aL σ (p0.getD 0) p1.toNatClampNeg).toInt32).toInt) ∧ (((am_aL σ (p0.getD 0) p1.toNatClampNeg).toInt32).toInt < am_rl (am_tz (TT nl Ln xs)) 501) ∧ ∀ v5 : Int32, v5 = (am_rv (am_tz (TT nl Ln xs)) 501 ((am_aL σ (p0.getD 0) p1.toNatClampNeg).toInt32).toNatClampNeg) → (¬ (v5 = 0) → am_ar σ 1001 p0 (p1 + v5)) ∧ ∀ w10 : Int64, w10 = (if v5 = 0 then (0 : Int64) else (am_aL σ (p0.getD 0) (p1 + v5).toNatClampNeg)) → F w10 σ) : k_Bk_centsIn nl Ln xs (d + 1) p0 p1 σ F := by
  obtain ⟨j0, j3, j4, j5, j6, j7, j8, j9, j10, j13, j14, j17, j18, j19, j20, j21, j22, -⟩ := P_Bk_centsIn nl Ln xs
  have elo : am_lo 3 [am_ov p0, .int p1] = [some (am_ov p0), some (.int p1), none] := by simp only [am_lo, am_in_ov, am_in_int, am_in_long, am_in_nil]; rfl
  unfold k_Bk_centsIn
  rw [elo]
  refine s_static j0 rfl ?_
  refine s_aload_n j3 rfl rfl ?_
  refine s_iload_n j4 rfl rfl ?_
  obtain ⟨ho1, h⟩ := h
  refine s_laload j5 rfl ho1 ?_
  refine s_g j6 rfl rfl rfl rfl rfl rfl ?_
  obtain ⟨ho2, h⟩ := h
  obtain ⟨ho3, h⟩ := h
  obtain ⟨ho4, h⟩ := h
  refine s_ialoadR j7 rfl (by decide) ho2 rfl ho3 ho4 ?_
  refine s_istore_nV j8 rfl (n := 3) (L' := fun w => [some (am_ov p0), some (.int p1), some (.int w)]) rfl (by decide) (fun _ => rfl) (fun v5 hv6 => ?_)
  replace h := h v5 hv6
  refine s_iload_n j9 rfl rfl ?_
  obtain ⟨ho8, h⟩ := h
  have K9 : ∀ (w10 : Int64), w10 = (if v5 = 0 then (0 : Int64) else (am_aL σ (p0.getD 0) (p1 + v5).toNatClampNeg)) → am_C (TT nl Ln xs) (d + 1) 15 22 [some (am_ov p0), some (.int p1), some (.int v5)] [.long w10] σ (am_qL F) := by
    intro w10 hw11
    replace h := h w10 hw11
    exact s_retL j22 rfl h
  refine s_ifn j10 rfl rfl am_cc_ne (fun hc7 => ?_) (fun hc7 => ?_)
  · refine s_aload_n j17 rfl rfl ?_
    refine s_iload_n j18 rfl rfl ?_
    refine s_iload_n j19 rfl rfl ?_
    refine s_g j20 rfl rfl rfl rfl rfl rfl ?_
    refine s_laload j21 rfl (ho8 hc7) ?_
    exact K9 _ (am_t2 hc7 rfl)
  · refine s_lconst j13 rfl rfl ?_
    refine s_goto j14 rfl rfl ?_
    exact K9 _ (am_t1 hc7 rfl)
theorem P_Co_isMoney (nl : Bool) (Ln : Nat) (xs : Nat → Int32) : am_Jl (TT nl Ln xs) 16 [(0, .lload_n 0, 1, []), (1, .lconst 0, 2, []), (2, .lcmp, 3, []), (3, .ifCond .lt 15, 6, []), (6, .lload_n 0, 7, []), (7, .ldc2_w 278, 10, [6, 1000000000000]), (10, .lcmp, 11, []), (11, .ifCond .gt 7, 14, []), (14, .iconst 1, 15, []), (15, .goto 4, 18, []), (18, .iconst 0, 19, []), (19, .ireturn, 20, [4])] := dk_ck (by decide +kernel)
set_option maxRecDepth 4096 in
theorem w_Co_isMoney {nl : Bool} {Ln : Nat} {xs : Nat → Int32} {d : Nat} {p0 : Int64} {σ : am_S} {F : Bool → am_S → Prop} (h : F (decide (¬ (p0 < (0 : Int64)) ∧ (¬ ((1000000000000 : Int64) < p0)))) σ) : k_Co_isMoney nl Ln xs (d + 1) p0 σ F := by
  obtain ⟨j0, j1, j2, j3, j6, j7, j10, j11, j14, j15, j18, j19, -⟩ := P_Co_isMoney nl Ln xs
  have elo : am_lo 2 [.long p0] = [some (.long p0), none] := by simp only [am_lo, am_in_ov, am_in_int, am_in_long, am_in_nil]; rfl
  unfold k_Co_isMoney
  rw [elo]
  refine s_lload_n j0 rfl rfl ?_
  refine s_lconst j1 rfl rfl ?_
  refine s_g j2 rfl rfl rfl rfl rfl rfl ?_
  have K3 : ∀ (w4 : Int32), w4 = (if ¬ (p0 < (0 : Int64)) ∧ (¬ ((1000000000000 : Int64) < p0)) then (1 : Int32) else 0) → am_C (TT nl Ln xs) (d + 1) 16 19 [some (.long p0), none] [.int w4] σ (am_qB F) := by
    intro w4 hw5
    subst hw5
    exact s_retZ j19 rfl h
  refine s_if j3 rfl rfl am_cl_lt (fun hc1 => ?_) (fun hc1 => ?_)
  · refine s_iconst j18 rfl kc_ic_0 ?_
    exact K3 _ (am_e0 (Iff.trans Iff.rfl (am_p6 hc1)))
  · refine s_lload_n j6 rfl rfl ?_
    refine s_ldc2 j7 rfl kc_ll_1000000000000 ?_
    refine s_g j10 rfl rfl rfl rfl rfl rfl ?_
    refine s_if j11 rfl rfl am_cl_gt (fun hc2 => ?_) (fun hc2 => ?_)
    · refine s_iconst j18 rfl kc_ic_0 ?_
      exact K3 _ (am_e0 (am_p5 hc1 (Iff.trans Iff.rfl (am_p11 hc2))))
    · refine s_iconst j14 rfl kc_ic_1 ?_
      refine s_goto j15 rfl rfl ?_
      exact K3 _ (am_e1 (am_p5 hc1 (Iff.trans Iff.rfl (am_p12 hc2))))
theorem P_Ls_base (nl : Bool) (Ln : Nat) (xs : Nat → Int32) : am_Jl (TT nl Ln xs) 17 [(0, .aload_n 0, 1, []), (1, .astore_n 1, 2, []), (2, .iconst 0, 3, []), (3, .istore_n 2, 4, [])] := dk_ck (by decide +kernel)
set_option maxRecDepth 4096 in
theorem w_Ls_base {nl : Bool} {Ln : Nat} {xs : Nat → Int32} {d : Nat} {this : Nat} {σ : am_S} {F : Option Nat → am_S → Prop} (h : c_Ls_base_4 nl Ln xs (d + 1) this (some this) (0 : Int32) σ F) : k_Ls_base nl Ln xs (d + 1) this σ F := by
  obtain ⟨j0, j1, j2, j3, -⟩ := P_Ls_base nl Ln xs
  have elo : am_lo 3 [am_ov (some this)] = [some (am_ov (some this)), none, none] := by simp only [am_lo, am_in_ov, am_in_int, am_in_long, am_in_nil]; rfl
  unfold k_Ls_base
  rw [elo]
  refine s_aload_n j0 rfl rfl ?_
  refine s_astore_n j1 rfl (n := 3) (L' := [some (am_ov (some this)), some (am_ov (some this)), none]) rfl (by decide) (am_st1_R [] _ _ _ _) ?_
  refine s_iconst j2 rfl kc_ic_0 ?_
  refine s_istore_n j3 rfl (n := 3) (L' := [some (am_ov (some this)), some (am_ov (some this)), some (.int (0 : Int32))]) rfl (by decide) (am_st1_R [_] _ _ _ _) ?_
  exact h
theorem P_Ls_base_4 (nl : Bool) (Ln : Nat) (xs : Nat → Int32) : am_Jl (TT nl Ln xs) 17 [(4, .iload_n 2, 5, []), (5, .iconst 4, 6, []), (6, .if_icmp .ge 21, 9, []), (9, .aload_n 1, 10, []), (10, .getfield 19, 13, [9, 10, 3, 2]), (13, .ifnull 14, 16, []), (16, .aload_n 1, 17, []), (17, .getfield 19, 20, [9, 10, 3, 2]), (20, .astore_n 1, 21, []), (21, .iinc 2 1, 24, []), (24, .goto (-20), 27, []), (27, .aload_n 1, 28, []), (28, .areturn, 29, [3])] := dk_ck (by decide +kernel)
set_option maxRecDepth 4096 in
theorem w_Ls_base_4 {nl : Bool} {Ln : Nat} {xs : Nat → Int32} {d : Nat} {this : Nat} {x1 : Option Nat} {x2 : Int32} {σ : am_S} {F : Option Nat → am_S → Prop} (h : (x2 < (4 : Int32) → (am_is σ x1 10) ∧ ((am_fR σ 10003 (x1.getD 0)) = none → F x1 σ) ∧ (¬ ((am_fR σ 10003 (x1.getD 0)) = none) → ∀ v4 : Option Nat, v4 = (am_fR σ 10003 (x1.getD 0)) → c_Ls_base_4 nl Ln xs (d + 1) this v4 (x2 + (1 : Int32)) σ F)) ∧ (¬ (x2 < (4 : Int32)) → F x1 σ)) : c_Ls_base_4 nl Ln xs (d + 1) this x1 x2 σ F := by
  obtain ⟨j4, j5, j6, j9, j10, j13, j16, j17, j20, j21, j24, j27, j28, -⟩ := P_Ls_base_4 nl Ln xs
  unfold c_Ls_base_4
  refine s_iload_n j4 rfl rfl ?_
  refine s_iconst j5 rfl kc_ic_4 ?_
  refine s_icn j6 rfl rfl am_cc_ge (fun hc1 => ?_) (fun hc1 => ?_)
  · replace h := h.2 hc1
    refine s_aload_n j27 rfl rfl ?_
    exact s_retR j28 rfl h
  · replace h := h.1 hc1
    refine s_aload_n j9 rfl rfl ?_
    obtain ⟨ho2, h⟩ := h
    refine s_gfR j10 rfl ho2 ?_
    refine s_ifnull j13 rfl rfl (fun hc3 => ?_) (fun hc3 => ?_)
    · replace h := h.1 hc3
      refine s_aload_n j27 rfl rfl ?_
      exact s_retR j28 rfl h
    · replace h := h.2 hc3
      refine s_aload_n j16 rfl rfl ?_
      refine s_gfR j17 rfl ho2 ?_
      refine s_astore_nV j20 rfl (n := 3) (L' := fun w => [some (am_ov (some this)), some (am_ov w), some (.int x2)]) rfl (by decide) (fun _ => am_st1_R [] _ _ _ _) (fun v4 hv5 => ?_)
      replace h := h v4 hv5
      refine s_iinc (L' := [some (am_ov (some this)), some (am_ov v4), some (.int (x2 + (1 : Int32)))]) j21 rfl rfl kc_ic_1 (am_st1_R [_] _ _ _ _) ?_
      refine s_goto j24 rfl rfl ?_
      exact h
theorem P_Cs_isOpen (nl : Bool) (Ln : Nat) (xs : Nat → Int32) : am_Jl (TT nl Ln xs) 18 [(0, .aload_n 0, 1, []), (1, .bipush 14, 3, []), (3, .iload_n 1, 4, []), (4, .iload_n 2, 5, []), (5, .invokevirtual 24, 8, [10, 19, 12, 5, 4]), (8, .astore_n 3, 9, []), (9, .aload_n 0, 10, []), (10, .bipush 15, 12, []), (12, .iload_n 1, 13, []), (13, .iload_n 2, 14, []), (14, .invokevirtual 24, 17, [10, 19, 12, 5, 4]), (17, .astore 4, 19, []), (19, .aload_n 3, 20, []), (20, .ifnull 20, 23, []), (23, .aload 4, 25, []), (25, .ifnull 19, 28, []), (28, .aload 4, 30, []), (30, .getfield 28, 33, [9, 7, 2, 0]), (33, .aload_n 3, 34, []), (34, .getfield 28, 37, [9, 7, 2, 0]), (37, .if_icmp .le 7, 40, []), (40, .iconst 1, 41, []), (41, .goto 4, 44, []), (44, .iconst 0, 45, []), (45, .ireturn, 46, [4])] := dk_ck (by decide +kernel)
set_option maxRecDepth 4096 in
theorem w_Cs_isOpen {nl : Bool} {Ln : Nat} {xs : Nat → Int32} {d : Nat} {this : Nat} {p0 : Int32} {p1 : Int32} {σ : am_S} {F : Bool → am_S → Prop} (h : (am_is σ (some this) 11) ∧ k_Cs_lastFact nl Ln xs d this (14 : Int32) p0 p1 σ (fun a3 σ2 => am_ext σ σ2 → k_Cs_lastFact nl Ln xs d this (15 : Int32) p0 p1 σ2 (fun a5 σ4 => am_ext σ2 σ4 → (¬ (a3 = none) → ¬ (a5 = none) → am_is σ4 a5 7) ∧ (¬ (a3 = none) → ¬ (a5 = none) → am_is σ4 a3 7) ∧ F (decide ((a3 = none) ∨ (¬ (a5 = none) ∧ ((am_fI σ4 7002 (a3.getD 0)) < (am_fI σ4 7002 (a5.getD 0)))))) σ4))) : k_Cs_isOpen nl Ln xs (d + 1) this p0 p1 σ F := by
  obtain ⟨j0, j1, j3, j4, j5, j8, j9, j10, j12, j13, j14, j17, j19, j20, j23, j25, j28, j30, j33, j34, j37, j40, j41, j44, j45, -⟩ := P_Cs_isOpen nl Ln xs
  have elo : am_lo 5 [am_ov (some this), .int p0, .int p1] = [some (am_ov (some this)), some (.int p0), some (.int p1), none, none] := by simp only [am_lo, am_in_ov, am_in_int, am_in_long, am_in_nil]; rfl
  unfold k_Cs_isOpen
  rw [elo]
  refine s_aload_n j0 rfl rfl ?_
  refine s_bipush j1 rfl kc_bi_14 ?_
  refine s_iload_n j3 rfl rfl ?_
  refine s_iload_n j4 rfl rfl ?_
  obtain ⟨ho1, h⟩ := h
  refine s_virt j5 rfl rfl rfl rfl ho1 (by decide) (in_Cs_lastFact _ _ _ _) (am_r8 rfl) (am_bR h (fun a3 σ2 h hx2 => ?_))
  replace h := h hx2
  refine s_astore_n j8 rfl (n := 5) (L' := [some (am_ov (some this)), some (.int p0), some (.int p1), some (am_ov a3), none]) rfl (by decide) rfl ?_
  refine s_aload_n j9 rfl rfl ?_
  refine s_bipush j10 rfl kc_bi_15 ?_
  refine s_iload_n j12 rfl rfl ?_
  refine s_iload_n j13 rfl rfl ?_
  refine s_virt j14 rfl rfl rfl rfl (am_is_ext hx2 ho1) (by decide) (in_Cs_lastFact _ _ _ _) (am_r8 rfl) (am_bR h (fun a5 σ4 h hx4 => ?_))
  replace h := h hx4
  refine s_astore j17 rfl (n := 5) (L' := [some (am_ov (some this)), some (.int p0), some (.int p1), some (am_ov a3), some (am_ov a5)]) rfl (by decide) (am_st1_R [_, _, _] _ _ _ _) ?_
  refine s_aload_n j19 rfl rfl ?_
  obtain ⟨ho8, h⟩ := h
  obtain ⟨ho9, h⟩ := h
  have K11 : ∀ (w12 : Int32), w12 = (if (a3 = none) ∨ (¬ (a5 = none) ∧ ((am_fI σ4 7002 (a3.getD 0)) < (am_fI σ4 7002 (a5.getD 0)))) then (1 : Int32) else 0) → am_C (TT nl Ln xs) (d + 1) 18 45 [some (am_ov (some this)), some (.int p0), some (.int p1), some (am_ov a3), some (am_ov a5)] [.int w12] σ4 (am_qB F) := by
    intro w12 hw13
    subst hw13
    exact s_retZ j45 rfl h
  refine s_ifnull j20 rfl rfl (fun hc6 => ?_) (fun hc6 => ?_)
  · refine s_iconst j40 rfl kc_ic_1 ?_
    refine s_goto j41 rfl rfl ?_
    exact K11 _ (am_e1 (Iff.trans Iff.rfl (am_p3 hc6)))
  · refine s_aload j23 rfl rfl ?_
    refine s_ifnull j25 rfl rfl (fun hc7 => ?_) (fun hc7 => ?_)
    · refine s_iconst j44 rfl kc_ic_0 ?_
      exact K11 _ (am_e0 (am_p4 hc6 (Iff.trans Iff.rfl (am_p6 hc7))))
    · refine s_aload j28 rfl rfl ?_
      refine s_gfI j30 rfl (ho8 hc6 hc7) ?_
      refine s_aload_n j33 rfl rfl ?_
      refine s_gfI j34 rfl (ho9 hc6 hc7) ?_
      refine s_icn j37 rfl rfl am_cc_le (fun hc10 => ?_) (fun hc10 => ?_)
      · refine s_iconst j44 rfl kc_ic_0 ?_
        exact K11 _ (am_e0 (am_p4 hc6 (am_p5 hc7 (Iff.trans Iff.rfl (am_p10 hc10)))))
      · refine s_iconst j40 rfl kc_ic_1 ?_
        refine s_goto j41 rfl rfl ?_
        exact K11 _ (am_e1 (am_p4 hc6 (am_p5 hc7 (Iff.trans Iff.rfl (am_p9 hc10)))))
theorem P_Cs_lastFact (nl : Bool) (Ln : Nat) (xs : Nat → Int32) : am_Jl (TT nl Ln xs) 19 [(0, .aload_n 0, 1, []), (1, .getfield 9, 4, [9, 11, 5, 2]), (4, .astore 4, 6, [])] := dk_ck (by decide +kernel)
set_option maxRecDepth 4096 in
theorem w_Cs_lastFact {nl : Bool} {Ln : Nat} {xs : Nat → Int32} {d : Nat} {this : Nat} {p0 : Int32} {p1 : Int32} {p2 : Int32} {σ : am_S} {F : Option Nat → am_S → Prop} (h : (am_is σ (some this) 11) ∧ ∀ v2 : Option Nat, v2 = (am_fR σ 11005 this) → c_Cs_lastFact_6 nl Ln xs (d + 1) this p0 p1 p2 v2 σ F) : k_Cs_lastFact nl Ln xs (d + 1) this p0 p1 p2 σ F := by
  obtain ⟨j0, j1, j4, -⟩ := P_Cs_lastFact nl Ln xs
  have elo : am_lo 5 [am_ov (some this), .int p0, .int p1, .int p2] = [some (am_ov (some this)), some (.int p0), some (.int p1), some (.int p2), none] := by simp only [am_lo, am_in_ov, am_in_int, am_in_long, am_in_nil]; rfl
  unfold k_Cs_lastFact
  rw [elo]
  refine s_aload_n j0 rfl rfl ?_
  obtain ⟨ho1, h⟩ := h
  refine s_gfR j1 rfl ho1 ?_
  refine s_astoreV j4 rfl (n := 5) (L' := fun w => [some (am_ov (some this)), some (.int p0), some (.int p1), some (.int p2), some (am_ov w)]) rfl (by decide) (fun _ => rfl) (fun v2 hv3 => ?_)
  replace h := h v2 hv3
  exact h
theorem P_Cs_lastFact_6 (nl : Bool) (Ln : Nat) (xs : Nat → Int32) : am_Jl (TT nl Ln xs) 19 [(6, .aload 4, 8, []), (8, .ifnull 27, 11, []), (11, .aload 4, 13, []), (13, .iload_n 1, 14, []), (14, .iload_n 2, 15, []), (15, .iload_n 3, 16, []), (16, .invokevirtual 15, 19, [10, 20, 8, 4, 4]), (19, .ifCond .eq 6, 22, []), (22, .aload 4, 24, []), (24, .areturn, 25, [3]), (25, .aload 4, 27, []), (27, .getfield 21, 30, [9, 7, 5, 2]), (30, .astore 4, 32, []), (32, .goto (-26), 35, []), (35, .aconst_null, 36, []), (36, .areturn, 37, [3])] := dk_ck (by decide +kernel)
set_option maxRecDepth 4096 in
theorem w_Cs_lastFact_6 {nl : Bool} {Ln : Nat} {xs : Nat → Int32} {d : Nat} {this : Nat} {x1 : Int32} {x2 : Int32} {x3 : Int32} {x4 : Option Nat} {σ : am_S} {F : Option Nat → am_S → Prop} (h : (x4 = none → F none σ) ∧ (¬ (x4 = none) → (am_is σ x4 7) ∧ k_En_counts nl Ln xs d (x4.getD 0) x1 x2 x3 σ (fun a4 σ3 => am_ext σ σ3 → (a4 = true → F x4 σ3) ∧ (¬ (a4 = true) → ∀ v6 : Option Nat, v6 = (am_fR σ3 7005 (x4.getD 0)) → c_Cs_lastFact_6 nl Ln xs (d + 1) this x1 x2 x3 v6 σ3 F)))) : c_Cs_lastFact_6 nl Ln xs (d + 1) this x1 x2 x3 x4 σ F := by
  obtain ⟨j6, j8, j11, j13, j14, j15, j16, j19, j22, j24, j25, j27, j30, j32, j35, j36, -⟩ := P_Cs_lastFact_6 nl Ln xs
  unfold c_Cs_lastFact_6
  refine s_aload j6 rfl rfl ?_
  refine s_ifnull j8 rfl rfl (fun hc1 => ?_) (fun hc1 => ?_)
  · replace h := h.1 hc1
    refine s_null j35 rfl ?_
    exact s_retR j36 rfl h
  · replace h := h.2 hc1
    refine s_aload j11 rfl rfl ?_
    refine s_iload_n j13 rfl rfl ?_
    refine s_iload_n j14 rfl rfl ?_
    refine s_iload_n j15 rfl rfl ?_
    obtain ⟨ho2, h⟩ := h
    refine s_virt j16 rfl rfl rfl rfl ho2 (by decide) (in_En_counts _ _ _ _) (am_r8 rfl) (am_bB h (fun a4 σ3 h hx3 => ?_))
    replace h := h hx3
    refine s_ifn j19 rfl rfl am_cb_eq (fun hc5 => ?_) (fun hc5 => ?_)
    · replace h := h.2 hc5
      refine s_aload j25 rfl rfl ?_
      refine s_gfR j27 rfl (am_is_ext hx3 ho2) ?_
      refine s_astoreV j30 rfl (n := 5) (L' := fun w => [some (am_ov (some this)), some (.int x1), some (.int x2), some (.int x3), some (am_ov w)]) rfl (by decide) (fun _ => rfl) (fun v6 hv7 => ?_)
      replace h := h v6 hv7
      refine s_goto j32 rfl rfl ?_
      exact h
    · replace h := h.1 hc5
      refine s_aload j22 rfl rfl ?_
      exact s_retR j24 rfl h
theorem P_En_counts (nl : Bool) (Ln : Nat) (xs : Nat → Int32) : am_Jl (TT nl Ln xs) 20 [(0, .aload_n 0, 1, []), (1, .getfield 7, 4, [9, 7, 0, 0]), (4, .iload_n 1, 5, []), (5, .if_icmp .ne 23, 8, []), (8, .aload_n 0, 9, []), (9, .getfield 16, 12, [9, 7, 2, 0]), (12, .iload_n 2, 13, []), (13, .if_icmp .gt 15, 16, []), (16, .aload_n 0, 17, []), (17, .getfield 23, 20, [9, 7, 6, 0]), (20, .iload_n 3, 21, []), (21, .if_icmp .gt 7, 24, []), (24, .iconst 1, 25, []), (25, .goto 4, 28, []), (28, .iconst 0, 29, []), (29, .ireturn, 30, [4])] := dk_ck (by decide +kernel)
set_option maxRecDepth 4096 in
theorem w_En_counts {nl : Bool} {Ln : Nat} {xs : Nat → Int32} {d : Nat} {this : Nat} {p0 : Int32} {p1 : Int32} {p2 : Int32} {σ : am_S} {F : Bool → am_S → Prop} (h : (am_is σ (some this) 7) ∧ F (decide (((am_fI σ 7000 this) = p0) ∧ (¬ (p1 < (am_fI σ 7002 this)) ∧ (¬ (p2 < (am_fI σ 7006 this)))))) σ) : k_En_counts nl Ln xs (d + 1) this p0 p1 p2 σ F := by
  obtain ⟨j0, j1, j4, j5, j8, j9, j12, j13, j16, j17, j20, j21, j24, j25, j28, j29, -⟩ := P_En_counts nl Ln xs
  have elo : am_lo 4 [am_ov (some this), .int p0, .int p1, .int p2] = [some (am_ov (some this)), some (.int p0), some (.int p1), some (.int p2)] := by simp only [am_lo, am_in_ov, am_in_int, am_in_long, am_in_nil]; rfl
  unfold k_En_counts
  rw [elo]
  refine s_aload_n j0 rfl rfl ?_
  obtain ⟨ho1, h⟩ := h
  refine s_gfI j1 rfl ho1 ?_
  refine s_iload_n j4 rfl rfl ?_
  have K5 : ∀ (w6 : Int32), w6 = (if ((am_fI σ 7000 this) = p0) ∧ (¬ (p1 < (am_fI σ 7002 this)) ∧ (¬ (p2 < (am_fI σ 7006 this)))) then (1 : Int32) else 0) → am_C (TT nl Ln xs) (d + 1) 20 29 [some (am_ov (some this)), some (.int p0), some (.int p1), some (.int p2)] [.int w6] σ (am_qB F) := by
    intro w6 hw7
    subst hw7
    exact s_retZ j29 rfl h
  refine s_icn j5 rfl rfl am_cc_ne (fun hc2 => ?_) (fun hc2 => ?_)
  · refine s_iconst j28 rfl kc_ic_0 ?_
    exact K5 _ (am_e0 (Iff.trans Iff.rfl (am_p2 hc2)))
  · refine s_aload_n j8 rfl rfl ?_
    refine s_gfI j9 rfl ho1 ?_
    refine s_iload_n j12 rfl rfl ?_
    refine s_ic j13 rfl rfl am_cc_gt (fun hc3 => ?_) (fun hc3 => ?_)
    · refine s_iconst j28 rfl kc_ic_0 ?_
      exact K5 _ (am_e0 (am_p1 hc2 (Iff.trans Iff.rfl (am_p6 hc3))))
    · refine s_aload_n j16 rfl rfl ?_
      refine s_gfI j17 rfl ho1 ?_
      refine s_iload_n j20 rfl rfl ?_
      refine s_ic j21 rfl rfl am_cc_gt (fun hc4 => ?_) (fun hc4 => ?_)
      · refine s_iconst j28 rfl kc_ic_0 ?_
        exact K5 _ (am_e0 (am_p1 hc2 (am_p5 hc3 (Iff.trans Iff.rfl (am_p11 hc4)))))
      · refine s_iconst j24 rfl kc_ic_1 ?_
        refine s_goto j25 rfl rfl ?_
        exact K5 _ (am_e1 (am_p1 hc2 (am_p5 hc3 (Iff.trans Iff.rfl (am_p12 hc4)))))
theorem P_Cs_earliestDay (nl : Bool) (Ln : Nat) (xs : Nat → Int32) : am_Jl (TT nl Ln xs) 21 [(0, .aload_n 0, 1, []), (1, .getfield 9, 4, [9, 11, 5, 2]), (4, .ifnonnull 10, 7, []), (7, .aload_n 0, 8, []), (8, .getfield 32, 11, [9, 11, 3, 0]), (11, .goto 10, 14, []), (14, .aload_n 0, 15, []), (15, .getfield 9, 18, [9, 11, 5, 2]), (18, .getfield 35, 21, [9, 7, 6, 0]), (21, .ireturn, 22, [1])] := dk_ck (by decide +kernel)
set_option maxRecDepth 4096 in
theorem w_Cs_earliestDay {nl : Bool} {Ln : Nat} {xs : Nat → Int32} {d : Nat} {this : Nat} {σ : am_S} {F : Int32 → am_S → Prop} (h : (am_is σ (some this) 11) ∧ (¬ ((am_fR σ 11005 this) = none) → am_is σ (am_fR σ 11005 this) 7) ∧ ∀ w5 : Int32, w5 = (if (am_fR σ 11005 this) = none then (am_fI σ 11003 this) else (am_fI σ 7006 ((am_fR σ 11005 this).getD 0))) → F w5 σ) : k_Cs_earliestDay nl Ln xs (d + 1) this σ F := by
  obtain ⟨j0, j1, j4, j7, j8, j11, j14, j15, j18, j21, -⟩ := P_Cs_earliestDay nl Ln xs
  have elo : am_lo 1 [am_ov (some this)] = [some (am_ov (some this))] := by simp only [am_lo, am_in_ov, am_in_int, am_in_long, am_in_nil]; rfl
  unfold k_Cs_earliestDay
  rw [elo]
  refine s_aload_n j0 rfl rfl ?_
  obtain ⟨ho1, h⟩ := h
  refine s_gfR j1 rfl ho1 ?_
  obtain ⟨ho3, h⟩ := h
  have K4 : ∀ (w5 : Int32), w5 = (if (am_fR σ 11005 this) = none then (am_fI σ 11003 this) else (am_fI σ 7006 ((am_fR σ 11005 this).getD 0))) → am_C (TT nl Ln xs) (d + 1) 21 21 [some (am_ov (some this))] [.int w5] σ (am_qI F) := by
    intro w5 hw6
    replace h := h w5 hw6
    exact s_retI j21 rfl h
  refine s_ifnonnull j4 rfl rfl (fun hc2 => ?_) (fun hc2 => ?_)
  · refine s_aload_n j14 rfl rfl ?_
    refine s_gfR j15 rfl ho1 ?_
    refine s_gfI j18 rfl (ho3 hc2) ?_
    exact K4 _ (am_t2 hc2 rfl)
  · refine s_aload_n j7 rfl rfl ?_
    refine s_gfI j8 rfl ho1 ?_
    refine s_goto j11 rfl rfl ?_
    exact K4 _ (am_t1 hc2 rfl)
theorem P_Bk_isLate (nl : Bool) (Ln : Nat) (xs : Nat → Int32) : am_Jl (TT nl Ln xs) 22 [(0, .aload_n 1, 1, []), (1, .bipush 14, 3, []), (3, .aload_n 0, 4, []), (4, .getfield 82, 7, [9, 6, 15, 0]), (7, .sipush 10949, 10, []), (10, .invokevirtual 408, 13, [10, 19, 12, 5, 4]), (13, .astore 4, 15, []), (15, .aload 4, 17, []), (17, .ifnonnull 7, 20, []), (20, .iconst 0, 21, []), (21, .goto 10, 24, []), (24, .iload_n 2, 25, []), (25, .aload 4, 27, []), (27, .getfield 391, 30, [9, 7, 6, 0]), (30, .isub, 31, [])] := dk_ck (by decide +kernel)
set_option maxRecDepth 4096 in
theorem w_Bk_isLate {nl : Bool} {Ln : Nat} {xs : Nat → Int32} {d : Nat} {this : Nat} {p0 : Option Nat} {p1 : Int32} {p2 : Int32} {σ : am_S} {F : Bool → am_S → Prop} (h : (am_is σ (some this) 6) ∧ (am_is σ p0 11) ∧ k_Cs_lastFact nl Ln xs d (p0.getD 0) (14 : Int32) (am_fI σ 6015 this) (10949 : Int32) σ (fun a4 σ3 => am_ext σ σ3 → (¬ (a4 = none) → am_is σ3 a4 7) ∧ ∀ w8 : Int32, w8 = (if a4 = none then (0 : Int32) else (p1 - (am_fI σ3 7006 (a4.getD 0)))) → c_Bk_isLate_31 nl Ln xs (d + 1) this p0 p1 p2 a4 w8 σ3 F)) : k_Bk_isLate nl Ln xs (d + 1) this p0 p1 p2 σ F := by
  obtain ⟨j0, j1, j3, j4, j7, j10, j13, j15, j17, j20, j21, j24, j25, j27, j30, -⟩ := P_Bk_isLate nl Ln xs
  have elo : am_lo 6 [am_ov (some this), am_ov p0, .int p1, .int p2] = [some (am_ov (some this)), some (am_ov p0), some (.int p1), some (.int p2), none, none] := by simp only [am_lo, am_in_ov, am_in_int, am_in_long, am_in_nil]; rfl
  unfold k_Bk_isLate
  rw [elo]
  refine s_aload_n j0 rfl rfl ?_
  refine s_bipush j1 rfl kc_bi_14 ?_
  refine s_aload_n j3 rfl rfl ?_
  obtain ⟨ho1, h⟩ := h
  refine s_gfI j4 rfl ho1 ?_
  refine s_sipush j7 rfl kc_si_10949 ?_
  obtain ⟨ho2, h⟩ := h
  refine s_virt j10 rfl rfl rfl rfl ho2 (by decide) (in_Cs_lastFact _ _ _ _) (am_r8 rfl) (am_bR h (fun a4 σ3 h hx3 => ?_))
  replace h := h hx3
  refine s_astore j13 rfl (n := 6) (L' := [some (am_ov (some this)), some (am_ov p0), some (.int p1), some (.int p2), some (am_ov a4), none]) rfl (by decide) rfl ?_
  refine s_aload j15 rfl rfl ?_
  obtain ⟨ho6, h⟩ := h
  have K7 : ∀ (w8 : Int32), w8 = (if a4 = none then (0 : Int32) else (p1 - (am_fI σ3 7006 (a4.getD 0)))) → am_C (TT nl Ln xs) (d + 1) 22 31 [some (am_ov (some this)), some (am_ov p0), some (.int p1), some (.int p2), some (am_ov a4), none] [.int w8] σ3 (am_qB F) := by
    intro w8 hw9
    replace h := h w8 hw9
    exact h
  refine s_ifnonnull j17 rfl rfl (fun hc5 => ?_) (fun hc5 => ?_)
  · refine s_iload_n j24 rfl rfl ?_
    refine s_aload j25 rfl rfl ?_
    refine s_gfI j27 rfl (ho6 hc5) ?_
    refine s_g j30 rfl rfl rfl rfl rfl rfl ?_
    exact K7 _ (am_t2 hc5 rfl)
  · refine s_iconst j20 rfl kc_ic_0 ?_
    refine s_goto j21 rfl rfl ?_
    exact K7 _ (am_t1 hc5 rfl)
theorem P_Bk_isLate_31 (nl : Bool) (Ln : Nat) (xs : Nat → Int32) : am_Jl (TT nl Ln xs) 22 [(31, .istore 5, 33, []), (33, .iload_n 3, 34, []), (34, .ifCond .ne 10, 37, []), (37, .iload 5, 39, []), (39, .bipush 30, 41, []), (41, .if_icmp .gt 16, 44, []), (44, .iload_n 3, 45, []), (45, .iconst 1, 46, []), (46, .if_icmp .ne 15, 49, []), (49, .iload 5, 51, []), (51, .sipush 365, 54, []), (54, .if_icmp .le 7, 57, []), (57, .iconst 1, 58, []), (58, .goto 4, 61, []), (61, .iconst 0, 62, []), (62, .ireturn, 63, [4])] := dk_ck (by decide +kernel)
set_option maxRecDepth 4096 in
theorem w_Bk_isLate_31 {nl : Bool} {Ln : Nat} {xs : Nat → Int32} {d : Nat} {this : Nat} {x1 : Option Nat} {x2 : Int32} {x3 : Int32} {x4 : Option Nat} {y0 : Int32} {σ : am_S} {F : Bool → am_S → Prop} (h : F (decide (((x3 = 0) ∧ (((30 : Int32) < y0) ∨ ((x3 = (1 : Int32)) ∧ ((365 : Int32) < y0)))) ∨ (¬ (x3 = 0) ∧ ((x3 = (1 : Int32)) ∧ ((365 : Int32) < y0))))) σ) : c_Bk_isLate_31 nl Ln xs (d + 1) this x1 x2 x3 x4 y0 σ F := by
  obtain ⟨j31, j33, j34, j37, j39, j41, j44, j45, j46, j49, j51, j54, j57, j58, j61, j62, -⟩ := P_Bk_isLate_31 nl Ln xs
  unfold c_Bk_isLate_31
  refine s_istore j31 rfl (n := 6) (L' := [some (am_ov (some this)), some (am_ov x1), some (.int x2), some (.int x3), some (am_ov x4), some (.int y0)]) rfl (by decide) (am_st1_R [_, _, _, _] _ _ _ _) ?_
  refine s_iload_n j33 rfl rfl ?_
  have K7 : ∀ (w8 : Int32), w8 = (if ((x3 = 0) ∧ (((30 : Int32) < y0) ∨ ((x3 = (1 : Int32)) ∧ ((365 : Int32) < y0)))) ∨ (¬ (x3 = 0) ∧ ((x3 = (1 : Int32)) ∧ ((365 : Int32) < y0))) then (1 : Int32) else 0) → am_C (TT nl Ln xs) (d + 1) 22 62 [some (am_ov (some this)), some (am_ov x1), some (.int x2), some (.int x3), some (am_ov x4), some (.int y0)] [.int w8] σ (am_qB F) := by
    intro w8 hw9
    subst hw9
    exact s_retZ j62 rfl h
  refine s_ifn j34 rfl rfl am_cc_ne (fun hc1 => ?_) (fun hc1 => ?_)
  · refine s_iload_n j44 rfl rfl ?_
    refine s_iconst j45 rfl kc_ic_1 ?_
    refine s_icn j46 rfl rfl am_cc_ne (fun hc5 => ?_) (fun hc5 => ?_)
    · refine s_iconst j61 rfl kc_ic_0 ?_
      exact K7 _ (am_e0 (am_p14 hc1 (Iff.trans Iff.rfl (am_p2 hc5))))
    · refine s_iload j49 rfl rfl ?_
      refine s_sipush j51 rfl kc_si_365 ?_
      refine s_icn j54 rfl rfl am_cc_le (fun hc6 => ?_) (fun hc6 => ?_)
      · refine s_iconst j61 rfl kc_ic_0 ?_
        exact K7 _ (am_e0 (am_p14 hc1 (am_p1 hc5 (Iff.trans Iff.rfl (am_p10 hc6)))))
      · refine s_iconst j57 rfl kc_ic_1 ?_
        refine s_goto j58 rfl rfl ?_
        exact K7 _ (am_e1 (am_p14 hc1 (am_p1 hc5 (Iff.trans Iff.rfl (am_p9 hc6)))))
  · refine s_iload j37 rfl rfl ?_
    refine s_bipush j39 rfl kc_bi_30 ?_
    refine s_ic j41 rfl rfl am_cc_gt (fun hc2 => ?_) (fun hc2 => ?_)
    · refine s_iconst j57 rfl kc_ic_1 ?_
      refine s_goto j58 rfl rfl ?_
      exact K7 _ (am_e1 (am_p13 hc1 (Iff.trans Iff.rfl (am_p3 hc2))))
    · refine s_iload_n j44 rfl rfl ?_
      refine s_iconst j45 rfl kc_ic_1 ?_
      refine s_icn j46 rfl rfl am_cc_ne (fun hc3 => ?_) (fun hc3 => ?_)
      · refine s_iconst j61 rfl kc_ic_0 ?_
        exact K7 _ (am_e0 (am_p13 hc1 (am_p4 hc2 (Iff.trans Iff.rfl (am_p2 hc3)))))
      · refine s_iload j49 rfl rfl ?_
        refine s_sipush j51 rfl kc_si_365 ?_
        refine s_icn j54 rfl rfl am_cc_le (fun hc4 => ?_) (fun hc4 => ?_)
        · refine s_iconst j61 rfl kc_ic_0 ?_
          exact K7 _ (am_e0 (am_p13 hc1 (am_p4 hc2 (am_p1 hc3 (Iff.trans Iff.rfl (am_p10 hc4))))))
        · refine s_iconst j57 rfl kc_ic_1 ?_
          refine s_goto j58 rfl rfl ?_
          exact K7 _ (am_e1 (am_p13 hc1 (am_p4 hc2 (am_p1 hc3 (Iff.trans Iff.rfl (am_p9 hc4))))))
theorem P_Wk_settle (nl : Bool) (Ln : Nat) (xs : Nat → Int32) : am_Jl (TT nl Ln xs) 23 [(0, .aload_n 0, 1, []), (1, .aload_n 1, 2, []), (2, .aload_n 2, 3, []), (3, .iload_n 3, 4, []), (4, .iload 4, 6, []), (6, .invokevirtual 45, 9, [10, 24, 3, 6, 5]), (9, .aload_n 0, 10, []), (10, .getfield 12, 13, [9, 2, 2, 2]), (13, .getfield 49, 16, [9, 3, 7, 3]), (16, .ifCond .ne 349, 19, []), (19, .aload_n 0, 20, []), (20, .bipush 33, 22, []), (22, .ldc2_w 55, 25, [6, 18446744073709551615]), (25, .invokevirtual 57, 28, [10, 34, 3, 5, 3]), (28, .lstore 5, 30, []), (30, .aload_n 0, 31, []), (31, .iconst 4, 32, []), (32, .ldc2_w 55, 35, [6, 18446744073709551615]), (35, .invokevirtual 57, 38, [10, 34, 3, 5, 3]), (38, .lstore 7, 40, []), (40, .lload 5, 42, []), (42, .ldc2_w 55, 45, [6, 18446744073709551615]), (45, .lcmp, 46, []), (46, .ifCond .ne 16, 49, []), (49, .lload 7, 51, []), (51, .ldc2_w 55, 54, [6, 18446744073709551615]), (54, .lcmp, 55, []), (55, .ifCond .ne 7, 58, []), (58, .iconst 0, 59, []), (59, .goto 7, 62, [])] := dk_ck (by decide +kernel)
set_option maxRecDepth 4096 in
theorem w_Wk_settle {nl : Bool} {Ln : Nat} {xs : Nat → Int32} {d : Nat} {this : Nat} {p0 : Option Nat} {p1 : Option Nat} {p2 : Int32} {p3 : Int32} {σ : am_S} {F : am_S → Prop} (h : (am_is σ (some this) 2) ∧ k_Wk_work nl Ln xs d this p0 p1 p2 p3 σ (fun σ2 => am_ext σ σ2 → (am_is σ2 (am_fR σ2 2002 this) 3) ∧ ((am_fI σ2 3007 ((am_fR σ2 2002 this).getD 0)) = 0 → k_Wk_numberOf nl Ln xs d this (33 : Int32) (-1 : Int64) σ2 (fun a7 σ6 => am_ext σ2 σ6 → k_Wk_numberOf nl Ln xs d this (4 : Int32) (-1 : Int64) σ6 (fun a9 σ8 => am_ext σ6 σ8 → (a7 = (-1 : Int64) → (a9 = (-1 : Int64) → c_Wk_settle_66 nl Ln xs (d + 1) this p0 p1 p2 p3 a7 a9 (0 : Int32) σ8 F) ∧ (¬ (a9 = (-1 : Int64)) → c_Wk_settle_62 nl Ln xs (d + 1) this p0 p1 p2 p3 a7 a9 σ8 F)) ∧ (¬ (a7 = (-1 : Int64)) → c_Wk_settle_62 nl Ln xs (d + 1) this p0 p1 p2 p3 a7 a9 σ8 F)))) ∧ (¬ ((am_fI σ2 3007 ((am_fR σ2 2002 this).getD 0)) = 0) → c_Wk_settle_365 nl Ln xs (d + 1) this p0 p1 p2 p3 none none none none none none none none none none none none none none none none none σ2 F))) : k_Wk_settle nl Ln xs (d + 1) this p0 p1 p2 p3 σ F := by
  obtain ⟨j0, j1, j2, j3, j4, j6, j9, j10, j13, j16, j19, j20, j22, j25, j28, j30, j31, j32, j35, j38, j40, j42, j45, j46, j49, j51, j54, j55, j58, j59, -⟩ := P_Wk_settle nl Ln xs
  have elo : am_lo 22 [am_ov (some this), am_ov p0, am_ov p1, .int p2, .int p3] = [some (am_ov (some this)), some (am_ov p0), some (am_ov p1), some (.int p2), some (.int p3), none, none, none, none, none, none, none, none, none, none, none, none, none, none, none, none, none] := by simp only [am_lo, am_in_ov, am_in_int, am_in_long, am_in_nil]; rfl
  unfold k_Wk_settle
  rw [elo]
  refine s_aload_n j0 rfl rfl ?_
  refine s_aload_n j1 rfl rfl ?_
  refine s_aload_n j2 rfl rfl ?_
  refine s_iload_n j3 rfl rfl ?_
  refine s_iload j4 rfl rfl ?_
  obtain ⟨ho1, h⟩ := h
  refine s_virt j6 rfl rfl rfl rfl ho1 (by decide) (in_Wk_work _ _ _ _ _) (am_r8 rfl) (am_bV h (fun σ2 h hx2 => ?_))
  replace h := h hx2
  refine s_aload_n j9 rfl rfl ?_
  refine s_gfR j10 rfl (am_is_ext hx2 ho1) ?_
  obtain ⟨ho4, h⟩ := h
  refine s_gfZ j13 rfl ho4 ?_
  refine s_ifn j16 rfl rfl am_cc_ne (fun hc5 => ?_) (fun hc5 => ?_)
  · replace h := h.2 hc5
    exact h
  · replace h := h.1 hc5
    refine s_aload_n j19 rfl rfl ?_
    refine s_bipush j20 rfl kc_bi_33 ?_
    refine s_ldc2 j22 rfl kc_ll_m1 ?_
    refine s_virt j25 rfl rfl rfl rfl (am_is_ext hx2 ho1) (by decide) (in_Wk_numberOf _ _ _) (am_r8 rfl) (am_bL h (fun a7 σ6 h hx6 => ?_))
    replace h := h hx6
    refine s_lstore j28 rfl (n := 22) (L' := [some (am_ov (some this)), some (am_ov p0), some (am_ov p1), some (.int p2), some (.int p3), some (.long a7), none, none, none, none, none, none, none, none, none, none, none, none, none, none, none, none]) rfl (by decide) rfl ?_
    refine s_aload_n j30 rfl rfl ?_
    refine s_iconst j31 rfl kc_ic_4 ?_
    refine s_ldc2 j32 rfl kc_ll_m1 ?_
    refine s_virt j35 rfl rfl rfl rfl (am_is_ext hx6 (am_is_ext hx2 ho1)) (by decide) (in_Wk_numberOf _ _ _) (am_r8 rfl) (am_bL h (fun a9 σ8 h hx8 => ?_))
    replace h := h hx8
    refine s_lstore j38 rfl (n := 22) (L' := [some (am_ov (some this)), some (am_ov p0), some (am_ov p1), some (.int p2), some (.int p3), some (.long a7), none, some (.long a9), none, none, none, none, none, none, none, none, none, none, none, none, none, none]) rfl (by decide) rfl ?_
    refine s_lload j40 rfl rfl ?_
    refine s_ldc2 j42 rfl kc_ll_m1 ?_
    refine s_g j45 rfl rfl rfl rfl rfl rfl ?_
    refine s_ifn j46 rfl rfl am_cl_ne (fun hc10 => ?_) (fun hc10 => ?_)
    · replace h := h.2 hc10
      exact h
    · replace h := h.1 hc10
      refine s_lload j49 rfl rfl ?_
      refine s_ldc2 j51 rfl kc_ll_m1 ?_
      refine s_g j54 rfl rfl rfl rfl rfl rfl ?_
      refine s_ifn j55 rfl rfl am_cl_ne (fun hc11 => ?_) (fun hc11 => ?_)
      · replace h := h.2 hc11
        exact h
      · replace h := h.1 hc11
        refine s_iconst j58 rfl kc_ic_0 ?_
        refine s_goto j59 rfl rfl ?_
        exact h
theorem P_Wk_settle_62 (nl : Bool) (Ln : Nat) (xs : Nat → Int32) : am_Jl (TT nl Ln xs) 23 [(62, .aload_n 0, 63, []), (63, .invokevirtual 61, 66, [10, 58, 3, 9, 1])] := dk_ck (by decide +kernel)
set_option maxRecDepth 4096 in
theorem w_Wk_settle_62 {nl : Bool} {Ln : Nat} {xs : Nat → Int32} {d : Nat} {this : Nat} {x1 : Option Nat} {x2 : Option Nat} {x3 : Int32} {x4 : Int32} {x5 : Int64} {x7 : Int64} {σ : am_S} {F : am_S → Prop} (h : (am_is σ (some this) 2) ∧ k_Wk_putInOrder nl Ln xs d this σ (fun a3 σ2 => am_ext σ σ2 → c_Wk_settle_66 nl Ln xs (d + 1) this x1 x2 x3 x4 x5 x7 a3 σ2 F)) : c_Wk_settle_62 nl Ln xs (d + 1) this x1 x2 x3 x4 x5 x7 σ F := by
  obtain ⟨j62, j63, -⟩ := P_Wk_settle_62 nl Ln xs
  unfold c_Wk_settle_62
  refine s_aload_n j62 rfl rfl ?_
  obtain ⟨ho1, h⟩ := h
  refine s_virt j63 rfl rfl rfl rfl ho1 (by decide) (in_Wk_putInOrder _) (am_r8 rfl) (am_bI h (fun a3 σ2 h hx2 => ?_))
  replace h := h hx2
  exact h
theorem P_Wk_settle_66 (nl : Bool) (Ln : Nat) (xs : Nat → Int32) : am_Jl (TT nl Ln xs) 23 [(66, .istore 9, 68, []), (68, .lload 5, 70, []), (70, .lconst 0, 71, []), (71, .invokestatic 65, 74, [12, 46, 4, 2]), (74, .lstore 5, 76, []), (76, .lload 7, 78, []), (78, .ldc2_w 55, 81, [6, 18446744073709551615]), (81, .lcmp, 82, []), (82, .ifCond .ne 9, 85, []), (85, .ldc2_w 71, 88, [6, 4611686018427387904]), (88, .goto 5, 91, []), (91, .lload 7, 93, []), (93, .lstore 7, 95, []), (95, .lconst 0, 96, []), (96, .lstore 10, 98, []), (98, .lconst 0, 99, []), (99, .lstore 12, 101, []), (101, .iconst 0, 102, []), (102, .istore 14, 104, [])] := dk_ck (by decide +kernel)
set_option maxRecDepth 4096 in
theorem w_Wk_settle_66 {nl : Bool} {Ln : Nat} {xs : Nat → Int32} {d : Nat} {this : Nat} {x1 : Option Nat} {x2 : Option Nat} {x3 : Int32} {x4 : Int32} {x5 : Int64} {x7 : Int64} {y0 : Int32} {σ : am_S} {F : am_S → Prop} (h : k_Math_max nl Ln xs d x5 (0 : Int64) σ (fun a2 σ1 => am_ext σ σ1 → ∀ w5 : Int64, w5 = (if x7 = (-1 : Int64) then (4611686018427387904 : Int64) else x7) → c_Wk_settle_104 nl Ln xs (d + 1) this x1 x2 x3 x4 a2 w5 y0 (0 : Int64) (0 : Int64) (0 : Int32) none none none none none none none σ1 F)) : c_Wk_settle_66 nl Ln xs (d + 1) this x1 x2 x3 x4 x5 x7 y0 σ F := by
  obtain ⟨j66, j68, j70, j71, j74, j76, j78, j81, j82, j85, j88, j91, j93, j95, j96, j98, j99, j101, j102, -⟩ := P_Wk_settle_66 nl Ln xs
  unfold c_Wk_settle_66
  refine s_istore j66 rfl (n := 22) (L' := [some (am_ov (some this)), some (am_ov x1), some (am_ov x2), some (.int x3), some (.int x4), some (.long x5), none, some (.long x7), none, some (.int y0), none, none, none, none, none, none, none, none, none, none, none, none]) rfl (by decide) rfl ?_
  refine s_lload j68 rfl rfl ?_
  refine s_lconst j70 rfl rfl ?_
  refine s_stat j71 rfl rfl rfl rfl (by decide) (in_Math_max _ _) (am_r8 rfl) (am_bL h (fun a2 σ1 h hx1 => ?_))
  replace h := h hx1
  refine s_lstore j74 rfl (n := 22) (L' := [some (am_ov (some this)), some (am_ov x1), some (am_ov x2), some (.int x3), some (.int x4), some (.long a2), none, some (.long x7), none, some (.int y0), none, none, none, none, none, none, none, none, none, none, none, none]) rfl (by decide) rfl ?_
  refine s_lload j76 rfl rfl ?_
  refine s_ldc2 j78 rfl kc_ll_m1 ?_
  refine s_g j81 rfl rfl rfl rfl rfl rfl ?_
  have K4 : ∀ (w5 : Int64), w5 = (if x7 = (-1 : Int64) then (4611686018427387904 : Int64) else x7) → am_C (TT nl Ln xs) (d + 1) 23 93 [some (am_ov (some this)), some (am_ov x1), some (am_ov x2), some (.int x3), some (.int x4), some (.long a2), none, some (.long x7), none, some (.int y0), none, none, none, none, none, none, none, none, none, none, none, none] [.long w5] σ1 (am_qV F) := by
    intro w5 hw6
    replace h := h w5 hw6
    refine s_lstore j93 rfl (n := 22) (L' := [some (am_ov (some this)), some (am_ov x1), some (am_ov x2), some (.int x3), some (.int x4), some (.long a2), none, some (.long w5), none, some (.int y0), none, none, none, none, none, none, none, none, none, none, none, none]) rfl (by decide) rfl ?_
    refine s_lconst j95 rfl rfl ?_
    refine s_lstore j96 rfl (n := 22) (L' := [some (am_ov (some this)), some (am_ov x1), some (am_ov x2), some (.int x3), some (.int x4), some (.long a2), none, some (.long w5), none, some (.int y0), some (.long (0 : Int64)), none, none, none, none, none, none, none, none, none, none, none]) rfl (by decide) rfl ?_
    refine s_lconst j98 rfl rfl ?_
    refine s_lstore j99 rfl (n := 22) (L' := [some (am_ov (some this)), some (am_ov x1), some (am_ov x2), some (.int x3), some (.int x4), some (.long a2), none, some (.long w5), none, some (.int y0), some (.long (0 : Int64)), none, some (.long (0 : Int64)), none, none, none, none, none, none, none, none, none]) rfl (by decide) rfl ?_
    refine s_iconst j101 rfl kc_ic_0 ?_
    refine s_istore j102 rfl (n := 22) (L' := [some (am_ov (some this)), some (am_ov x1), some (am_ov x2), some (.int x3), some (.int x4), some (.long a2), none, some (.long w5), none, some (.int y0), some (.long (0 : Int64)), none, some (.long (0 : Int64)), none, some (.int (0 : Int32)), none, none, none, none, none, none, none]) rfl (by decide) rfl ?_
    exact h
  refine s_ifn j82 rfl rfl am_cl_ne (fun hc3 => ?_) (fun hc3 => ?_)
  · refine s_lload j91 rfl rfl ?_
    exact K4 _ (am_t2 hc3 rfl)
  · refine s_ldc2 j85 rfl kc_ll_4611686018427387904 ?_
    refine s_goto j88 rfl rfl ?_
    exact K4 _ (am_t1 hc3 rfl)
theorem P_Wk_settle_104 (nl : Bool) (Ln : Nat) (xs : Nat → Int32) : am_Jl (TT nl Ln xs) 23 [(104, .iload 14, 106, []), (106, .iload 9, 108, []), (108, .if_icmp .ge 201, 111, []), (111, .aload_n 0, 112, []), (112, .getfield 41, 115, [9, 2, 0, 2]), (115, .ifnull 194, 118, []), (118, .aload_n 0, 119, []), (119, .getfield 73, 122, [9, 2, 3, 2]), (122, .getfield 77, 125, [9, 6, 6, 2]), (125, .aload_n 0, 126, []), (126, .getfield 26, 129, [9, 2, 15, 2]), (129, .iload 14, 131, []), (131, .iaload, 132, []), (132, .aaload, 133, []), (133, .astore 15, 135, []), (135, .aload_n 0, 136, []), (136, .getfield 83, 139, [9, 2, 11, 1]), (139, .lstore 16, 141, []), (141, .aload 15, 143, []), (143, .aload_n 0, 144, []), (144, .getfield 87, 147, [9, 2, 4, 2]), (147, .if_acmp .eq 77, 150, []), (150, .aload_n 0, 151, []), (151, .getfield 41, 154, [9, 2, 0, 2]), (154, .aload_n 0, 155, []), (155, .getfield 73, 158, [9, 2, 3, 2]), (158, .aload 15, 160, []), (160, .aload_n 0, 161, []), (161, .getfield 91, 164, [9, 2, 8, 0]), (164, .aload_n 0, 165, []), (165, .getfield 95, 168, [9, 2, 9, 0]), (168, .invokevirtual 45, 171, [10, 24, 3, 6, 5]), (171, .aload_n 0, 172, []), (172, .dup, 173, []), (173, .getfield 98, 176, [9, 2, 1, 0]), (176, .aload_n 0, 177, []), (177, .getfield 41, 180, [9, 2, 0, 2]), (180, .getfield 12, 183, [9, 2, 2, 2]), (183, .getfield 101, 186, [9, 3, 6, 0]), (186, .ifCond .ne 7, 189, []), (189, .iconst 0, 190, []), (190, .goto 4, 193, []), (193, .iconst 1, 194, [])] := dk_ck (by decide +kernel)
set_option maxRecDepth 4096 in
theorem w_Wk_settle_104 {nl : Bool} {Ln : Nat} {xs : Nat → Int32} {d : Nat} {this : Nat} {x1 : Option Nat} {x2 : Option Nat} {x3 : Int32} {x4 : Int32} {x5 : Int64} {x7 : Int64} {x9 : Int32} {x10 : Int64} {x12 : Int64} {x14 : Int32} {x15 : Option Value} {x16 : Option Value} {x17 : Option Value} {x18 : Option Value} {x19 : Option Value} {x20 : Option Value} {x21 : Option Value} {σ : am_S} {F : am_S → Prop} (h : (x14 < x9 → (am_is σ (some this) 2) ∧ ((am_fR σ 2000 this) = none → c_Wk_settle_309 nl Ln xs (d + 1) this x1 x2 x3 x4 x5 x7 x9 x10 x12 x14 x15 x16 x17 x18 x19 x20 x21 σ F) ∧ (¬ ((am_fR σ 2000 this) = none) → (am_is σ (am_fR σ 2003 this) 6) ∧ (am_ar σ 1000 (am_fR σ 2015 this) x14) ∧ (am_ar σ 2011 (am_fR σ 6006 ((am_fR σ 2003 this).getD 0)) (am_aI σ ((am_fR σ 2015 this).getD 0) x14.toNatClampNeg)) ∧ ∀ v7 : Option Nat, v7 = (am_aR σ ((am_fR σ 6006 ((am_fR σ 2003 this).getD 0)).getD 0) (am_aI σ ((am_fR σ 2015 this).getD 0) x14.toNatClampNeg).toNatClampNeg) → ∀ v9 : Int64, v9 = (am_fL σ 2011 this) → (am_hi v7) ∧ (am_hi (am_fR σ 2004 this)) ∧ (v7 = (am_fR σ 2004 this) → c_Wk_settle_224 nl Ln xs (d + 1) this x1 x2 x3 x4 x5 x7 x9 x10 x12 x14 v7 v9 x18 x19 x20 x21 σ F) ∧ (¬ (v7 = (am_fR σ 2004 this)) → (am_is σ (am_fR σ 2000 this) 2) ∧ k_Wk_work nl Ln xs d ((am_fR σ 2000 this).getD 0) (am_fR σ 2003 this) v7 (am_fI σ 2008 this) (am_fI σ 2009 this) σ (fun σ15 => am_ext σ σ15 → (am_is σ15 (am_fR σ15 2000 this) 2) ∧ (am_is σ15 (am_fR σ15 2002 ((am_fR σ15 2000 this).getD 0)) 3) ∧ c_Wk_settle_194 nl Ln xs (d + 1) this x1 x2 x3 x4 x5 x7 x9 x10 x12 x14 v7 v9 x18 x19 x20 x21 (some this) (am_fI σ15 2001 this) (if ¬ ((am_fI σ15 3006 ((am_fR σ15 2002 ((am_fR σ15 2000 this).getD 0)).getD 0)) = 0) then (1 : Int32) else 0) σ15 F)))) ∧ (¬ (x14 < x9) → c_Wk_settle_309 nl Ln xs (d + 1) this x1 x2 x3 x4 x5 x7 x9 x10 x12 x14 x15 x16 x17 x18 x19 x20 x21 σ F)) : c_Wk_settle_104 nl Ln xs (d + 1) this x1 x2 x3 x4 x5 x7 x9 x10 x12 x14 x15 x16 x17 x18 x19 x20 x21 σ F := by
  obtain ⟨j104, j106, j108, j111, j112, j115, j118, j119, j122, j125, j126, j129, j131, j132, j133, j135, j136, j139, j141, j143, j144, j147, j150, j151, j154, j155, j158, j160, j161, j164, j165, j168, j171, j172, j173, j176, j177, j180, j183, j186, j189, j190, j193, -⟩ := P_Wk_settle_104 nl Ln xs
  unfold c_Wk_settle_104
  refine s_iload j104 rfl rfl ?_
  refine s_iload j106 rfl rfl ?_
  refine s_icn j108 rfl rfl am_cc_ge (fun hc1 => ?_) (fun hc1 => ?_)
  · replace h := h.2 hc1
    exact h
  · replace h := h.1 hc1
    refine s_aload_n j111 rfl rfl ?_
    obtain ⟨ho2, h⟩ := h
    refine s_gfR j112 rfl ho2 ?_
    refine s_ifnull j115 rfl rfl (fun hc3 => ?_) (fun hc3 => ?_)
    · replace h := h.1 hc3
      exact h
    · replace h := h.2 hc3
      refine s_aload_n j118 rfl rfl ?_
      refine s_gfR j119 rfl ho2 ?_
      obtain ⟨ho4, h⟩ := h
      refine s_gfR j122 rfl ho4 ?_
      refine s_aload_n j125 rfl rfl ?_
      refine s_gfR j126 rfl ho2 ?_
      refine s_iload j129 rfl rfl ?_
      obtain ⟨ho5, h⟩ := h
      refine s_iaload j131 rfl ho5 ?_
      obtain ⟨ho6, h⟩ := h
      refine s_aaload (k := 2011) (by decide) kq_2011 j132 rfl ho6 ?_
      refine s_astoreV j133 rfl (n := 22) (L' := fun w => [some (am_ov (some this)), some (am_ov x1), some (am_ov x2), some (.int x3), some (.int x4), some (.long x5), none, some (.long x7), none, some (.int x9), some (.long x10), none, some (.long x12), none, some (.int x14), some (am_ov w), x16, x17, x18, x19, x20, x21]) rfl (by decide) (fun _ => rfl) (fun v7 hv8 => ?_)
      replace h := h v7 hv8
      refine s_aload_n j135 rfl rfl ?_
      refine s_gfL j136 rfl ho2 ?_
      refine s_lstoreV j139 rfl (n := 22) (L' := fun w => [some (am_ov (some this)), some (am_ov x1), some (am_ov x2), some (.int x3), some (.int x4), some (.long x5), none, some (.long x7), none, some (.int x9), some (.long x10), none, some (.long x12), none, some (.int x14), some (am_ov v7), some (.long w), none, x18, x19, x20, x21]) rfl (by decide) (fun _ => am_st2_R [_, _, _, _, _, _, _, _, _, _, _, _, _, _, _] _ _ _ _ _) (fun v9 hv10 => ?_)
      replace h := h v9 hv10
      refine s_aload j141 rfl rfl ?_
      refine s_aload_n j143 rfl rfl ?_
      refine s_gfR j144 rfl ho2 ?_
      obtain ⟨ho11, h⟩ := h
      obtain ⟨ho12, h⟩ := h
      refine s_acmp_eq j147 rfl rfl ho11 ho12 (fun hc13 => ?_) (fun hc13 => ?_)
      · replace h := h.1 hc13
        exact h
      · replace h := h.2 hc13
        refine s_aload_n j150 rfl rfl ?_
        refine s_gfR j151 rfl ho2 ?_
        refine s_aload_n j154 rfl rfl ?_
        refine s_gfR j155 rfl ho2 ?_
        refine s_aload j158 rfl rfl ?_
        refine s_aload_n j160 rfl rfl ?_
        refine s_gfI j161 rfl ho2 ?_
        refine s_aload_n j164 rfl rfl ?_
        refine s_gfI j165 rfl ho2 ?_
        obtain ⟨ho14, h⟩ := h
        refine s_virt j168 rfl rfl rfl rfl ho14 (by decide) (in_Wk_work _ _ _ _ _) (am_r8 rfl) (am_bV h (fun σ15 h hx15 => ?_))
        replace h := h hx15
        refine s_aload_n j171 rfl rfl ?_
        refine s_dup j172 rfl (am_cov _) ?_
        refine s_gfI j173 rfl (am_is_ext hx15 ho2) ?_
        refine s_aload_n j176 rfl rfl ?_
        refine s_gfR j177 rfl (am_is_ext hx15 ho2) ?_
        obtain ⟨ho17, h⟩ := h
        refine s_gfR j180 rfl ho17 ?_
        obtain ⟨ho18, h⟩ := h
        refine s_gfI j183 rfl ho18 ?_
        have K20 : ∀ (w21 : Int32), w21 = (if ¬ ((am_fI σ15 3006 ((am_fR σ15 2002 ((am_fR σ15 2000 this).getD 0)).getD 0)) = 0) then (1 : Int32) else 0) → am_C (TT nl Ln xs) (d + 1) 23 194 [some (am_ov (some this)), some (am_ov x1), some (am_ov x2), some (.int x3), some (.int x4), some (.long x5), none, some (.long x7), none, some (.int x9), some (.long x10), none, some (.long x12), none, some (.int x14), some (am_ov v7), some (.long v9), none, x18, x19, x20, x21] [.int w21, .int (am_fI σ15 2001 this), am_ov (some this)] σ15 (am_qV F) := by
          intro w21 hw22
          subst hw22
          exact h
        refine s_ifn j186 rfl rfl am_cc_ne (fun hc19 => ?_) (fun hc19 => ?_)
        · refine s_iconst j193 rfl kc_ic_1 ?_
          exact K20 _ (am_e1 (Iff.trans Iff.rfl (am_p12 hc19)))
        · refine s_iconst j189 rfl kc_ic_0 ?_
          refine s_goto j190 rfl rfl ?_
          exact K20 _ (am_e0 (Iff.trans Iff.rfl (am_p11 hc19)))
theorem P_Wk_settle_194 (nl : Bool) (Ln : Nat) (xs : Nat → Int32) : am_Jl (TT nl Ln xs) 23 [(194, .iadd, 195, []), (195, .putfield 98, 198, [9, 2, 1, 0]), (198, .aload_n 0, 199, []), (199, .getfield 41, 202, [9, 2, 0, 2]), (202, .getfield 12, 205, [9, 2, 2, 2]), (205, .getfield 49, 208, [9, 3, 7, 3]), (208, .ifCond .eq 7, 211, []), (211, .lconst 0, 212, []), (212, .goto 10, 215, []), (215, .aload_n 0, 216, []), (216, .getfield 41, 219, [9, 2, 0, 2]), (219, .getfield 83, 222, [9, 2, 11, 1])] := dk_ck (by decide +kernel)
set_option maxRecDepth 4096 in
theorem w_Wk_settle_194 {nl : Bool} {Ln : Nat} {xs : Nat → Int32} {d : Nat} {this : Nat} {x1 : Option Nat} {x2 : Option Nat} {x3 : Int32} {x4 : Int32} {x5 : Int64} {x7 : Int64} {x9 : Int32} {x10 : Int64} {x12 : Int64} {x14 : Int32} {x15 : Option Nat} {x16 : Int64} {x18 : Option Value} {x19 : Option Value} {x20 : Option Value} {x21 : Option Value} {y0 : Option Nat} {y1 : Int32} {y2 : Int32} {σ : am_S} {F : am_S → Prop} (h : (am_is σ y0 2) ∧ ∀ σ2, σ2 = am_sfI σ 2001 (y0.getD 0) (y1 + y2) → (am_is σ2 (some this) 2) ∧ (am_is σ2 (am_fR σ2 2000 this) 2) ∧ (am_is σ2 (am_fR σ2 2002 ((am_fR σ2 2000 this).getD 0)) 3) ∧ ∀ w10 : Int64, w10 = (if (am_fI σ2 3007 ((am_fR σ2 2002 ((am_fR σ2 2000 this).getD 0)).getD 0)) = 0 then (am_fL σ2 2011 ((am_fR σ2 2000 this).getD 0)) else (0 : Int64)) → c_Wk_settle_222 nl Ln xs (d + 1) this x1 x2 x3 x4 x5 x7 x9 x10 x12 x14 x15 x16 x18 x19 x20 x21 w10 σ2 F) : c_Wk_settle_194 nl Ln xs (d + 1) this x1 x2 x3 x4 x5 x7 x9 x10 x12 x14 x15 x16 x18 x19 x20 x21 y0 y1 y2 σ F := by
  obtain ⟨j194, j195, j198, j199, j202, j205, j208, j211, j212, j215, j216, j219, -⟩ := P_Wk_settle_194 nl Ln xs
  unfold c_Wk_settle_194
  refine s_g j194 rfl rfl rfl rfl rfl rfl ?_
  obtain ⟨ho1, h⟩ := h
  refine s_pfI j195 rfl ho1 (fun σ2 e3 => ?_)
  replace h := h σ2 e3
  have ek4 : am_kd σ2 = am_kd σ := by rw [e3]
  refine s_aload_n j198 rfl rfl ?_
  obtain ⟨ho5, h⟩ := h
  refine s_gfR j199 rfl ho5 ?_
  obtain ⟨ho6, h⟩ := h
  refine s_gfR j202 rfl ho6 ?_
  obtain ⟨ho7, h⟩ := h
  refine s_gfZ j205 rfl ho7 ?_
  have K9 : ∀ (w10 : Int64), w10 = (if (am_fI σ2 3007 ((am_fR σ2 2002 ((am_fR σ2 2000 this).getD 0)).getD 0)) = 0 then (am_fL σ2 2011 ((am_fR σ2 2000 this).getD 0)) else (0 : Int64)) → am_C (TT nl Ln xs) (d + 1) 23 222 [some (am_ov (some this)), some (am_ov x1), some (am_ov x2), some (.int x3), some (.int x4), some (.long x5), none, some (.long x7), none, some (.int x9), some (.long x10), none, some (.long x12), none, some (.int x14), some (am_ov x15), some (.long x16), none, x18, x19, x20, x21] [.long w10] σ2 (am_qV F) := by
    intro w10 hw11
    replace h := h w10 hw11
    exact h
  refine s_if j208 rfl rfl am_cc_eq (fun hc8 => ?_) (fun hc8 => ?_)
  · refine s_aload_n j215 rfl rfl ?_
    refine s_gfR j216 rfl ho5 ?_
    refine s_gfL j219 rfl ho6 ?_
    exact K9 _ (am_t1 hc8 rfl)
  · refine s_lconst j211 rfl rfl ?_
    refine s_goto j212 rfl rfl ?_
    exact K9 _ (am_t2 hc8 rfl)
theorem P_Wk_settle_222 (nl : Bool) (Ln : Nat) (xs : Nat → Int32) : am_Jl (TT nl Ln xs) 23 [(222, .lstore 16, 224, [])] := dk_ck (by decide +kernel)
set_option maxRecDepth 4096 in
theorem w_Wk_settle_222 {nl : Bool} {Ln : Nat} {xs : Nat → Int32} {d : Nat} {this : Nat} {x1 : Option Nat} {x2 : Option Nat} {x3 : Int32} {x4 : Int32} {x5 : Int64} {x7 : Int64} {x9 : Int32} {x10 : Int64} {x12 : Int64} {x14 : Int32} {x15 : Option Nat} {x16 : Int64} {x18 : Option Value} {x19 : Option Value} {x20 : Option Value} {x21 : Option Value} {y0 : Int64} {σ : am_S} {F : am_S → Prop} (h : c_Wk_settle_224 nl Ln xs (d + 1) this x1 x2 x3 x4 x5 x7 x9 x10 x12 x14 x15 y0 x18 x19 x20 x21 σ F) : c_Wk_settle_222 nl Ln xs (d + 1) this x1 x2 x3 x4 x5 x7 x9 x10 x12 x14 x15 x16 x18 x19 x20 x21 y0 σ F := by
  obtain ⟨j222, -⟩ := P_Wk_settle_222 nl Ln xs
  unfold c_Wk_settle_222
  refine s_lstore j222 rfl (n := 22) (L' := [some (am_ov (some this)), some (am_ov x1), some (am_ov x2), some (.int x3), some (.int x4), some (.long x5), none, some (.long x7), none, some (.int x9), some (.long x10), none, some (.long x12), none, some (.int x14), some (am_ov x15), some (.long y0), none, x18, x19, x20, x21]) rfl (by decide) (am_st2_R [_, _, _, _, _, _, _, _, _, _, _, _, _, _, _] _ _ _ _ _) ?_
  exact h
theorem P_Wk_settle_224 (nl : Bool) (Ln : Nat) (xs : Nat → Int32) : am_Jl (TT nl Ln xs) 23 [(224, .lload 16, 226, []), (226, .lload 5, 228, []), (228, .invokestatic 104, 231, [12, 49, 4, 2]), (231, .lstore 18, 233, []), (233, .lload 16, 235, []), (235, .lload 18, 237, []), (237, .lsub, 238, []), (238, .lload 7, 240, []), (240, .lsub, 241, []), (241, .lconst 0, 242, []), (242, .invokestatic 65, 245, [12, 46, 4, 2]), (245, .lstore 20, 247, []), (247, .lload 5, 249, []), (249, .lload 18, 251, []), (251, .lsub, 252, []), (252, .lstore 5, 254, []), (254, .lload 7, 256, []), (256, .lload 16, 258, []), (258, .lload 18, 260, []), (260, .lsub, 261, []), (261, .lload 20, 263, []), (263, .lsub, 264, []), (264, .lsub, 265, []), (265, .lstore 7, 267, []), (267, .aload 15, 269, []), (269, .aload_n 0, 270, []), (270, .getfield 87, 273, [9, 2, 4, 2]), (273, .if_acmp .ne 8, 276, []), (276, .lload 18, 278, []), (278, .goto 5, 281, []), (281, .lload 10, 283, []), (283, .lstore 10, 285, []), (285, .aload 15, 287, []), (287, .aload_n 0, 288, []), (288, .getfield 87, 291, [9, 2, 4, 2]), (291, .if_acmp .ne 8, 294, []), (294, .lload 20, 296, []), (296, .goto 5, 299, []), (299, .lload 12, 301, []), (301, .lstore 12, 303, []), (303, .iinc 14 1, 306, []), (306, .goto (-202), 309, [])] := dk_ck (by decide +kernel)
set_option maxRecDepth 4096 in
theorem w_Wk_settle_224 {nl : Bool} {Ln : Nat} {xs : Nat → Int32} {d : Nat} {this : Nat} {x1 : Option Nat} {x2 : Option Nat} {x3 : Int32} {x4 : Int32} {x5 : Int64} {x7 : Int64} {x9 : Int32} {x10 : Int64} {x12 : Int64} {x14 : Int32} {x15 : Option Nat} {x16 : Int64} {x18 : Option Value} {x19 : Option Value} {x20 : Option Value} {x21 : Option Value} {σ : am_S} {F : am_S → Prop} (h : k_Math_min nl Ln xs d x16 x5 σ (fun a2 σ1 => am_ext σ σ1 → k_Math_max nl Ln xs d ((x16 - a2) - x7) (0 : Int64) σ1 (fun a4 σ3 => am_ext σ1 σ3 → ∀ v5 : Int64, v5 = (x5 - a2) → ∀ v7 : Int64, v7 = (x7 - ((x16 - a2) - a4)) → (am_is σ3 (some this) 2) ∧ (am_hi x15) ∧ (am_hi (am_fR σ3 2004 this)) ∧ ∀ w14 : Int64, w14 = (if x15 = (am_fR σ3 2004 this) then a2 else x10) → (am_hi x15) ∧ (am_hi (am_fR σ3 2004 this)) ∧ ∀ w20 : Int64, w20 = (if x15 = (am_fR σ3 2004 this) then a4 else x12) → c_Wk_settle_104 nl Ln xs (d + 1) this x1 x2 x3 x4 v5 v7 x9 w14 w20 (x14 + (1 : Int32)) (some (am_ov x15)) (some (.long x16)) none (some (.long a2)) none (some (.long a4)) none σ3 F))) : c_Wk_settle_224 nl Ln xs (d + 1) this x1 x2 x3 x4 x5 x7 x9 x10 x12 x14 x15 x16 x18 x19 x20 x21 σ F := by
  obtain ⟨j224, j226, j228, j231, j233, j235, j237, j238, j240, j241, j242, j245, j247, j249, j251, j252, j254, j256, j258, j260, j261, j263, j264, j265, j267, j269, j270, j273, j276, j278, j281, j283, j285, j287, j288, j291, j294, j296, j299, j301, j303, j306, -⟩ := P_Wk_settle_224 nl Ln xs
  unfold c_Wk_settle_224
  refine s_lload j224 rfl rfl ?_
  refine s_lload j226 rfl rfl ?_
  refine s_stat j228 rfl rfl rfl rfl (by decide) (in_Math_min _ _) (am_r8 rfl) (am_bL h (fun a2 σ1 h hx1 => ?_))
  replace h := h hx1
  refine s_lstore j231 rfl (n := 22) (L' := [some (am_ov (some this)), some (am_ov x1), some (am_ov x2), some (.int x3), some (.int x4), some (.long x5), none, some (.long x7), none, some (.int x9), some (.long x10), none, some (.long x12), none, some (.int x14), some (am_ov x15), some (.long x16), none, some (.long a2), none, x20, x21]) rfl (by decide) rfl ?_
  refine s_lload j233 rfl rfl ?_
  refine s_lload j235 rfl rfl ?_
  refine s_g j237 rfl rfl rfl rfl rfl rfl ?_
  refine s_lload j238 rfl rfl ?_
  refine s_g j240 rfl rfl rfl rfl rfl rfl ?_
  refine s_lconst j241 rfl rfl ?_
  refine s_stat j242 rfl rfl rfl rfl (by decide) (in_Math_max _ _) (am_r8 rfl) (am_bL h (fun a4 σ3 h hx3 => ?_))
  replace h := h hx3
  refine s_lstore j245 rfl (n := 22) (L' := [some (am_ov (some this)), some (am_ov x1), some (am_ov x2), some (.int x3), some (.int x4), some (.long x5), none, some (.long x7), none, some (.int x9), some (.long x10), none, some (.long x12), none, some (.int x14), some (am_ov x15), some (.long x16), none, some (.long a2), none, some (.long a4), none]) rfl (by decide) rfl ?_
  refine s_lload j247 rfl rfl ?_
  refine s_lload j249 rfl rfl ?_
  refine s_g j251 rfl rfl rfl rfl rfl rfl ?_
  refine s_lstoreV j252 rfl (n := 22) (L' := fun w => [some (am_ov (some this)), some (am_ov x1), some (am_ov x2), some (.int x3), some (.int x4), some (.long w), none, some (.long x7), none, some (.int x9), some (.long x10), none, some (.long x12), none, some (.int x14), some (am_ov x15), some (.long x16), none, some (.long a2), none, some (.long a4), none]) rfl (by decide) (fun _ => rfl) (fun v5 hv6 => ?_)
  replace h := h v5 hv6
  refine s_lload j254 rfl rfl ?_
  refine s_lload j256 rfl rfl ?_
  refine s_lload j258 rfl rfl ?_
  refine s_g j260 rfl rfl rfl rfl rfl rfl ?_
  refine s_lload j261 rfl rfl ?_
  refine s_g j263 rfl rfl rfl rfl rfl rfl ?_
  refine s_g j264 rfl rfl rfl rfl rfl rfl ?_
  refine s_lstoreV j265 rfl (n := 22) (L' := fun w => [some (am_ov (some this)), some (am_ov x1), some (am_ov x2), some (.int x3), some (.int x4), some (.long v5), none, some (.long w), none, some (.int x9), some (.long x10), none, some (.long x12), none, some (.int x14), some (am_ov x15), some (.long x16), none, some (.long a2), none, some (.long a4), none]) rfl (by decide) (fun _ => rfl) (fun v7 hv8 => ?_)
  replace h := h v7 hv8
  refine s_aload j267 rfl rfl ?_
  refine s_aload_n j269 rfl rfl ?_
  obtain ⟨ho9, h⟩ := h
  refine s_gfR j270 rfl ho9 ?_
  obtain ⟨ho10, h⟩ := h
  obtain ⟨ho11, h⟩ := h
  have K13 : ∀ (w14 : Int64), w14 = (if x15 = (am_fR σ3 2004 this) then a2 else x10) → am_C (TT nl Ln xs) (d + 1) 23 283 [some (am_ov (some this)), some (am_ov x1), some (am_ov x2), some (.int x3), some (.int x4), some (.long v5), none, some (.long v7), none, some (.int x9), some (.long x10), none, some (.long x12), none, some (.int x14), some (am_ov x15), some (.long x16), none, some (.long a2), none, some (.long a4), none] [.long w14] σ3 (am_qV F) := by
    intro w14 hw15
    replace h := h w14 hw15
    refine s_lstore j283 rfl (n := 22) (L' := [some (am_ov (some this)), some (am_ov x1), some (am_ov x2), some (.int x3), some (.int x4), some (.long v5), none, some (.long v7), none, some (.int x9), some (.long w14), none, some (.long x12), none, some (.int x14), some (am_ov x15), some (.long x16), none, some (.long a2), none, some (.long a4), none]) rfl (by decide) rfl ?_
    refine s_aload j285 rfl rfl ?_
    refine s_aload_n j287 rfl rfl ?_
    refine s_gfR j288 rfl ho9 ?_
    obtain ⟨ho16, h⟩ := h
    obtain ⟨ho17, h⟩ := h
    have K19 : ∀ (w20 : Int64), w20 = (if x15 = (am_fR σ3 2004 this) then a4 else x12) → am_C (TT nl Ln xs) (d + 1) 23 301 [some (am_ov (some this)), some (am_ov x1), some (am_ov x2), some (.int x3), some (.int x4), some (.long v5), none, some (.long v7), none, some (.int x9), some (.long w14), none, some (.long x12), none, some (.int x14), some (am_ov x15), some (.long x16), none, some (.long a2), none, some (.long a4), none] [.long w20] σ3 (am_qV F) := by
      intro w20 hw21
      replace h := h w20 hw21
      refine s_lstore j301 rfl (n := 22) (L' := [some (am_ov (some this)), some (am_ov x1), some (am_ov x2), some (.int x3), some (.int x4), some (.long v5), none, some (.long v7), none, some (.int x9), some (.long w14), none, some (.long w20), none, some (.int x14), some (am_ov x15), some (.long x16), none, some (.long a2), none, some (.long a4), none]) rfl (by decide) rfl ?_
      refine s_iinc (L' := [some (am_ov (some this)), some (am_ov x1), some (am_ov x2), some (.int x3), some (.int x4), some (.long v5), none, some (.long v7), none, some (.int x9), some (.long w14), none, some (.long w20), none, some (.int (x14 + (1 : Int32))), some (am_ov x15), some (.long x16), none, some (.long a2), none, some (.long a4), none]) j303 rfl rfl kc_ic_1 rfl ?_
      refine s_goto j306 rfl rfl ?_
      exact h
    refine s_acmp_ne j291 rfl rfl ho16 ho17 (fun hc18 => ?_) (fun hc18 => ?_)
    · refine s_lload j299 rfl rfl ?_
      exact K19 _ (am_t2 hc18 rfl)
    · refine s_lload j294 rfl rfl ?_
      refine s_goto j296 rfl rfl ?_
      exact K19 _ (am_t1 hc18 rfl)
  refine s_acmp_ne j273 rfl rfl ho10 ho11 (fun hc12 => ?_) (fun hc12 => ?_)
  · refine s_lload j281 rfl rfl ?_
    exact K13 _ (am_t2 hc12 rfl)
  · refine s_lload j276 rfl rfl ?_
    refine s_goto j278 rfl rfl ?_
    exact K13 _ (am_t1 hc12 rfl)
theorem P_Wk_settle_309 (nl : Bool) (Ln : Nat) (xs : Nat → Int32) : am_Jl (TT nl Ln xs) 23 [(309, .aload_n 0, 310, []), (310, .bipush 8, 312, []), (312, .iconst 0, 313, []), (313, .lload 10, 315, []), (315, .lneg, 316, []), (316, .invokevirtual 107, 319, [10, 38, 3, 5, 4]), (319, .aload_n 0, 320, []), (320, .bipush 9, 322, []), (322, .iconst 0, 323, []), (323, .lload 12, 325, []), (325, .lneg, 326, []), (326, .invokevirtual 107, 329, [10, 38, 3, 5, 4]), (329, .aload_n 0, 330, []), (330, .bipush 10, 332, []), (332, .iconst 0, 333, []), (333, .aload_n 0, 334, []), (334, .getfield 87, 337, [9, 2, 4, 2]), (337, .bipush 18, 339, []), (339, .aload_n 0, 340, []), (340, .getfield 95, 343, [9, 2, 9, 0]), (343, .aload_n 0, 344, []), (344, .getfield 91, 347, [9, 2, 8, 0]), (347, .invokevirtual 111, 350, [10, 60, 12, 7, 4]), (350, .aload_n 0, 351, []), (351, .getfield 83, 354, [9, 2, 11, 1]), (354, .invokestatic 104, 357, [12, 49, 4, 2]), (357, .lneg, 358, []), (358, .invokevirtual 107, 361, [10, 38, 3, 5, 4]), (361, .aload_n 0, 362, []), (362, .invokevirtual 117, 365, [10, 61, 3, 5, 1])] := dk_ck (by decide +kernel)
set_option maxRecDepth 4096 in
theorem w_Wk_settle_309 {nl : Bool} {Ln : Nat} {xs : Nat → Int32} {d : Nat} {this : Nat} {x1 : Option Nat} {x2 : Option Nat} {x3 : Int32} {x4 : Int32} {x5 : Int64} {x7 : Int64} {x9 : Int32} {x10 : Int64} {x12 : Int64} {x14 : Int32} {x15 : Option Value} {x16 : Option Value} {x17 : Option Value} {x18 : Option Value} {x19 : Option Value} {x20 : Option Value} {x21 : Option Value} {σ : am_S} {F : am_S → Prop} (h : (am_is σ (some this) 2) ∧ k_Wk_addRow nl Ln xs d this (8 : Int32) (0 : Int32) (-x10) σ (fun σ2 => am_ext σ σ2 → k_Wk_addRow nl Ln xs d this (9 : Int32) (0 : Int32) (-x12) σ2 (fun σ4 => am_ext σ2 σ4 → (am_is σ4 (am_fR σ4 2004 this) 11) ∧ k_Cs_sumOf nl Ln xs d ((am_fR σ4 2004 this).getD 0) (18 : Int32) (am_fI σ4 2009 this) (am_fI σ4 2008 this) σ4 (fun a8 σ7 => am_ext σ4 σ7 → k_Math_min nl Ln xs d a8 (am_fL σ7 2011 this) σ7 (fun a10 σ9 => am_ext σ7 σ9 → k_Wk_addRow nl Ln xs d this (10 : Int32) (0 : Int32) (-a10) σ9 (fun σ11 => am_ext σ9 σ11 → k_Wk_interestRow nl Ln xs d this σ11 (fun σ13 => am_ext σ11 σ13 → c_Wk_settle_365 nl Ln xs (d + 1) this x1 x2 x3 x4 (some (.long x5)) none (some (.long x7)) none (some (.int x9)) (some (.long x10)) none (some (.long x12)) none (some (.int x14)) x15 x16 x17 x18 x19 x20 x21 σ13 F))))))) : c_Wk_settle_309 nl Ln xs (d + 1) this x1 x2 x3 x4 x5 x7 x9 x10 x12 x14 x15 x16 x17 x18 x19 x20 x21 σ F := by
  obtain ⟨j309, j310, j312, j313, j315, j316, j319, j320, j322, j323, j325, j326, j329, j330, j332, j333, j334, j337, j339, j340, j343, j344, j347, j350, j351, j354, j357, j358, j361, j362, -⟩ := P_Wk_settle_309 nl Ln xs
  unfold c_Wk_settle_309
  refine s_aload_n j309 rfl rfl ?_
  refine s_bipush j310 rfl kc_bi_8 ?_
  refine s_iconst j312 rfl kc_ic_0 ?_
  refine s_lload j313 rfl rfl ?_
  refine s_g j315 rfl rfl rfl rfl rfl rfl ?_
  obtain ⟨ho1, h⟩ := h
  refine s_virt j316 rfl rfl rfl rfl ho1 (by decide) (in_Wk_addRow _ _ _ _) (am_r8 rfl) (am_bV h (fun σ2 h hx2 => ?_))
  replace h := h hx2
  refine s_aload_n j319 rfl rfl ?_
  refine s_bipush j320 rfl kc_bi_9 ?_
  refine s_iconst j322 rfl kc_ic_0 ?_
  refine s_lload j323 rfl rfl ?_
  refine s_g j325 rfl rfl rfl rfl rfl rfl ?_
  refine s_virt j326 rfl rfl rfl rfl (am_is_ext hx2 ho1) (by decide) (in_Wk_addRow _ _ _ _) (am_r8 rfl) (am_bV h (fun σ4 h hx4 => ?_))
  replace h := h hx4
  refine s_aload_n j329 rfl rfl ?_
  refine s_bipush j330 rfl kc_bi_10 ?_
  refine s_iconst j332 rfl kc_ic_0 ?_
  refine s_aload_n j333 rfl rfl ?_
  refine s_gfR j334 rfl (am_is_ext hx4 (am_is_ext hx2 ho1)) ?_
  refine s_bipush j337 rfl kc_bi_18 ?_
  refine s_aload_n j339 rfl rfl ?_
  refine s_gfI j340 rfl (am_is_ext hx4 (am_is_ext hx2 ho1)) ?_
  refine s_aload_n j343 rfl rfl ?_
  refine s_gfI j344 rfl (am_is_ext hx4 (am_is_ext hx2 ho1)) ?_
  obtain ⟨ho6, h⟩ := h
  refine s_virt j347 rfl rfl rfl rfl ho6 (by decide) (in_Cs_sumOf _ _ _ _) (am_r8 rfl) (am_bL h (fun a8 σ7 h hx7 => ?_))
  replace h := h hx7
  refine s_aload_n j350 rfl rfl ?_
  refine s_gfL j351 rfl (am_is_ext hx7 (am_is_ext hx4 (am_is_ext hx2 ho1))) ?_
  refine s_stat j354 rfl rfl rfl rfl (by decide) (in_Math_min _ _) (am_r8 rfl) (am_bL h (fun a10 σ9 h hx9 => ?_))
  replace h := h hx9
  refine s_g j357 rfl rfl rfl rfl rfl rfl ?_
  refine s_virt j358 rfl rfl rfl rfl (am_is_ext hx9 (am_is_ext hx7 (am_is_ext hx4 (am_is_ext hx2 ho1)))) (by decide) (in_Wk_addRow _ _ _ _) (am_r8 rfl) (am_bV h (fun σ11 h hx11 => ?_))
  replace h := h hx11
  refine s_aload_n j361 rfl rfl ?_
  refine s_virt j362 rfl rfl rfl rfl (am_is_ext hx11 (am_is_ext hx9 (am_is_ext hx7 (am_is_ext hx4 (am_is_ext hx2 ho1))))) (by decide) (in_Wk_interestRow _) (am_r8 rfl) (am_bV h (fun σ13 h hx13 => ?_))
  replace h := h hx13
  exact h
theorem P_Wk_settle_365 (nl : Bool) (Ln : Nat) (xs : Nat → Int32) : am_Jl (TT nl Ln xs) 23 [(365, .aload_n 0, 366, []), (366, .getfield 12, 369, [9, 2, 2, 2]), (369, .getfield 49, 372, [9, 3, 7, 3]), (372, .ifCond .ne 28, 375, []), (375, .aload_n 0, 376, []), (376, .bipush 12, 378, []), (378, .iconst 0, 379, []), (379, .aload_n 0, 380, []), (380, .getfield 87, 383, [9, 2, 4, 2]), (383, .bipush 13, 385, []), (385, .aload_n 0, 386, []), (386, .getfield 95, 389, [9, 2, 9, 0]), (389, .aload_n 0, 390, []), (390, .getfield 91, 393, [9, 2, 8, 0]), (393, .invokevirtual 111, 396, [10, 60, 12, 7, 4]), (396, .lneg, 397, []), (397, .invokevirtual 107, 400, [10, 38, 3, 5, 4])] := dk_ck (by decide +kernel)
set_option maxRecDepth 4096 in
theorem w_Wk_settle_365 {nl : Bool} {Ln : Nat} {xs : Nat → Int32} {d : Nat} {this : Nat} {x1 : Option Nat} {x2 : Option Nat} {x3 : Int32} {x4 : Int32} {x5 : Option Value} {x6 : Option Value} {x7 : Option Value} {x8 : Option Value} {x9 : Option Value} {x10 : Option Value} {x11 : Option Value} {x12 : Option Value} {x13 : Option Value} {x14 : Option Value} {x15 : Option Value} {x16 : Option Value} {x17 : Option Value} {x18 : Option Value} {x19 : Option Value} {x20 : Option Value} {x21 : Option Value} {σ : am_S} {F : am_S → Prop} (h : (am_is σ (some this) 2) ∧ (am_is σ (am_fR σ 2002 this) 3) ∧ ((am_fI σ 3007 ((am_fR σ 2002 this).getD 0)) = 0 → (am_is σ (am_fR σ 2004 this) 11) ∧ k_Cs_sumOf nl Ln xs d ((am_fR σ 2004 this).getD 0) (13 : Int32) (am_fI σ 2009 this) (am_fI σ 2008 this) σ (fun a6 σ5 => am_ext σ σ5 → k_Wk_addRow nl Ln xs d this (12 : Int32) (0 : Int32) (-a6) σ5 (fun σ7 => am_ext σ5 σ7 → c_Wk_settle_400 nl Ln xs (d + 1) this x1 x2 x3 x4 x5 x6 x7 x8 x9 x10 x11 x12 x13 x14 x15 x16 x17 x18 x19 x20 x21 σ7 F))) ∧ (¬ ((am_fI σ 3007 ((am_fR σ 2002 this).getD 0)) = 0) → c_Wk_settle_400 nl Ln xs (d + 1) this x1 x2 x3 x4 x5 x6 x7 x8 x9 x10 x11 x12 x13 x14 x15 x16 x17 x18 x19 x20 x21 σ F)) : c_Wk_settle_365 nl Ln xs (d + 1) this x1 x2 x3 x4 x5 x6 x7 x8 x9 x10 x11 x12 x13 x14 x15 x16 x17 x18 x19 x20 x21 σ F := by
  obtain ⟨j365, j366, j369, j372, j375, j376, j378, j379, j380, j383, j385, j386, j389, j390, j393, j396, j397, -⟩ := P_Wk_settle_365 nl Ln xs
  unfold c_Wk_settle_365
  refine s_aload_n j365 rfl rfl ?_
  obtain ⟨ho1, h⟩ := h
  refine s_gfR j366 rfl ho1 ?_
  obtain ⟨ho2, h⟩ := h
  refine s_gfZ j369 rfl ho2 ?_
  refine s_ifn j372 rfl rfl am_cc_ne (fun hc3 => ?_) (fun hc3 => ?_)
  · replace h := h.2 hc3
    exact h
  · replace h := h.1 hc3
    refine s_aload_n j375 rfl rfl ?_
    refine s_bipush j376 rfl kc_bi_12 ?_
    refine s_iconst j378 rfl kc_ic_0 ?_
    refine s_aload_n j379 rfl rfl ?_
    refine s_gfR j380 rfl ho1 ?_
    refine s_bipush j383 rfl kc_bi_13 ?_
    refine s_aload_n j385 rfl rfl ?_
    refine s_gfI j386 rfl ho1 ?_
    refine s_aload_n j389 rfl rfl ?_
    refine s_gfI j390 rfl ho1 ?_
    obtain ⟨ho4, h⟩ := h
    refine s_virt j393 rfl rfl rfl rfl ho4 (by decide) (in_Cs_sumOf _ _ _ _) (am_r8 rfl) (am_bL h (fun a6 σ5 h hx5 => ?_))
    replace h := h hx5
    refine s_g j396 rfl rfl rfl rfl rfl rfl ?_
    refine s_virt j397 rfl rfl rfl rfl (am_is_ext hx5 ho1) (by decide) (in_Wk_addRow _ _ _ _) (am_r8 rfl) (am_bV h (fun σ7 h hx7 => ?_))
    replace h := h hx7
    exact h
theorem P_Wk_settle_400 (nl : Bool) (Ln : Nat) (xs : Nat → Int32) : am_Jl (TT nl Ln xs) 23 [(400, .aload_n 0, 401, []), (401, .dup, 402, []), (402, .getfield 98, 405, [9, 2, 1, 0]), (405, .aload_n 0, 406, []), (406, .getfield 12, 409, [9, 2, 2, 2]), (409, .getfield 101, 412, [9, 3, 6, 0]), (412, .ifCond .ne 7, 415, []), (415, .iconst 0, 416, []), (416, .goto 4, 419, []), (419, .iconst 1, 420, []), (420, .iadd, 421, []), (421, .putfield 98, 424, [9, 2, 1, 0]), (424, .return_, 425, [0])] := dk_ck (by decide +kernel)
set_option maxRecDepth 4096 in
theorem w_Wk_settle_400 {nl : Bool} {Ln : Nat} {xs : Nat → Int32} {d : Nat} {this : Nat} {x1 : Option Nat} {x2 : Option Nat} {x3 : Int32} {x4 : Int32} {x5 : Option Value} {x6 : Option Value} {x7 : Option Value} {x8 : Option Value} {x9 : Option Value} {x10 : Option Value} {x11 : Option Value} {x12 : Option Value} {x13 : Option Value} {x14 : Option Value} {x15 : Option Value} {x16 : Option Value} {x17 : Option Value} {x18 : Option Value} {x19 : Option Value} {x20 : Option Value} {x21 : Option Value} {σ : am_S} {F : am_S → Prop} (h : (am_is σ (some this) 2) ∧ (am_is σ (am_fR σ 2002 this) 3) ∧ ∀ σ7, σ7 = am_sfI σ 2001 this ((am_fI σ 2001 this) + (if ¬ ((am_fI σ 3006 ((am_fR σ 2002 this).getD 0)) = 0) then (1 : Int32) else 0)) → F σ7) : c_Wk_settle_400 nl Ln xs (d + 1) this x1 x2 x3 x4 x5 x6 x7 x8 x9 x10 x11 x12 x13 x14 x15 x16 x17 x18 x19 x20 x21 σ F := by
  obtain ⟨j400, j401, j402, j405, j406, j409, j412, j415, j416, j419, j420, j421, j424, -⟩ := P_Wk_settle_400 nl Ln xs
  unfold c_Wk_settle_400
  refine s_aload_n j400 rfl rfl ?_
  refine s_dup j401 rfl (am_cov _) ?_
  obtain ⟨ho1, h⟩ := h
  refine s_gfI j402 rfl ho1 ?_
  refine s_aload_n j405 rfl rfl ?_
  refine s_gfR j406 rfl ho1 ?_
  obtain ⟨ho2, h⟩ := h
  refine s_gfI j409 rfl ho2 ?_
  have K4 : ∀ (w5 : Int32), w5 = (if ¬ ((am_fI σ 3006 ((am_fR σ 2002 this).getD 0)) = 0) then (1 : Int32) else 0) → am_C (TT nl Ln xs) (d + 1) 23 420 [some (am_ov (some this)), some (am_ov x1), some (am_ov x2), some (.int x3), some (.int x4), x5, x6, x7, x8, x9, x10, x11, x12, x13, x14, x15, x16, x17, x18, x19, x20, x21] [.int w5, .int (am_fI σ 2001 this), am_ov (some this)] σ (am_qV F) := by
    intro w5 hw6
    subst hw6
    refine s_g j420 rfl rfl rfl rfl rfl rfl ?_
    refine s_pfI j421 rfl ho1 (fun σ7 e8 => ?_)
    replace h := h σ7 e8
    have ek9 : am_kd σ7 = am_kd σ := by rw [e8]
    exact s_retV j424 rfl h
  refine s_ifn j412 rfl rfl am_cc_ne (fun hc3 => ?_) (fun hc3 => ?_)
  · refine s_iconst j419 rfl kc_ic_1 ?_
    exact K4 _ (am_e1 (Iff.trans Iff.rfl (am_p12 hc3)))
  · refine s_iconst j415 rfl kc_ic_0 ?_
    refine s_goto j416 rfl rfl ?_
    exact K4 _ (am_e0 (Iff.trans Iff.rfl (am_p11 hc3)))
