/-! statements of constructors (by wip/whole/gensteps.py) -/
theorem kc_li_450000 : (UInt32.ofNat 450000).toInt32 = (450000 : Int32) := by decide
theorem kc_li_500000 : (UInt32.ofNat 500000).toInt32 = (500000 : Int32) := by decide
theorem kc_si_151 : (Int16.ofInt 151).toInt32 = (151 : Int32) := by decide
theorem kc_si_360 : (Int16.ofInt 360).toInt32 = (360 : Int32) := by decide
theorem kc_si_401 : (Int16.ofInt 401).toInt32 = (401 : Int32) := by decide
theorem kc_si_1200 : (Int16.ofInt 1200).toInt32 = (1200 : Int32) := by decide
theorem kc_si_4000 : (Int16.ofInt 4000).toInt32 = (4000 : Int32) := by decide
theorem kc_si_4560 : (Int16.ofInt 4560).toInt32 = (4560 : Int32) := by decide
theorem kc_si_30400 : (Int16.ofInt 30400).toInt32 = (30400 : Int32) := by decide
/-- ClaimsOffice$Working.<init>(LClaimsOffice$Working;)V -/
def k_Wk_init (nl : Bool) (Ln : Nat) (xs : Nat → Int32) (d : Nat) (this : Nat) (p0 : Option Nat) (σ : am_S) (F : am_S → Prop) : Prop := am_C (TT nl Ln xs) d 2 0 (am_lo 2 [am_ov (some this), am_ov p0]) [] σ (am_qV F)
theorem in_Wk_init (this : Nat) (p0 : Option Nat) : (am_in [am_ov (some this), am_ov p0]).length ≤ 2 := by simp only [am_in_ov, am_in_int, am_in_long, am_in_nil, List.length_cons, List.length_nil]; decide
/-- ClaimsOffice$View.<init>()V -/
def k_Vw_init (nl : Bool) (Ln : Nat) (xs : Nat → Int32) (d : Nat) (this : Nat) (σ : am_S) (F : am_S → Prop) : Prop := am_C (TT nl Ln xs) d 3 0 (am_lo 1 [am_ov (some this)]) [] σ (am_qV F)
theorem in_Vw_init (this : Nat) : (am_in [am_ov (some this)]).length ≤ 1 := by simp only [am_in_ov, am_in_int, am_in_long, am_in_nil, List.length_cons, List.length_nil]; decide
/-- ClaimsOffice$Reader.<init>()V -/
def k_Rd_init (nl : Bool) (Ln : Nat) (xs : Nat → Int32) (d : Nat) (this : Nat) (σ : am_S) (F : am_S → Prop) : Prop := am_C (TT nl Ln xs) d 4 0 (am_lo 1 [am_ov (some this)]) [] σ (am_qV F)
theorem in_Rd_init (this : Nat) : (am_in [am_ov (some this)]).length ≤ 1 := by simp only [am_in_ov, am_in_int, am_in_long, am_in_nil, List.length_cons, List.length_nil]; decide
/-- ClaimsOfficeModel$Office.<init>(LClaimsOfficeModel;)V -/
def k_Ro_init (nl : Bool) (Ln : Nat) (xs : Nat → Int32) (d : Nat) (this : Nat) (p0 : Option Nat) (σ : am_S) (F : am_S → Prop) : Prop := am_C (TT nl Ln xs) d 198 0 (am_lo 2 [am_ov (some this), am_ov p0]) [] σ (am_qV F)
theorem in_Ro_init (this : Nat) (p0 : Option Nat) : (am_in [am_ov (some this), am_ov p0]).length ≤ 2 := by simp only [am_in_ov, am_in_int, am_in_long, am_in_nil, List.length_cons, List.length_nil]; decide
def c_Rm_init_182 (nl : Bool) (Ln : Nat) (xs : Nat → Int32) (d : Nat) (this : Nat) (σ : am_S) (F : am_S → Prop) : Prop := am_C (TT nl Ln xs) d 197 182 [some (am_ov (some this))] [] σ (am_qV F)
def c_Ro_init_129 (nl : Bool) (Ln : Nat) (xs : Nat → Int32) (d : Nat) (this : Nat) (x1 : Option Nat) (σ : am_S) (F : am_S → Prop) : Prop := am_C (TT nl Ln xs) d 198 129 [some (am_ov (some this)), some (am_ov x1)] [] σ (am_qV F)
def c_Ro_init_264 (nl : Bool) (Ln : Nat) (xs : Nat → Int32) (d : Nat) (this : Nat) (x1 : Option Nat) (σ : am_S) (F : am_S → Prop) : Prop := am_C (TT nl Ln xs) d 198 264 [some (am_ov (some this)), some (am_ov x1)] [] σ (am_qV F)
def c_Ro_init_393 (nl : Bool) (Ln : Nat) (xs : Nat → Int32) (d : Nat) (this : Nat) (x1 : Option Nat) (σ : am_S) (F : am_S → Prop) : Prop := am_C (TT nl Ln xs) d 198 393 [some (am_ov (some this)), some (am_ov x1)] [] σ (am_qV F)
def c_Ro_init_519 (nl : Bool) (Ln : Nat) (xs : Nat → Int32) (d : Nat) (this : Nat) (x1 : Option Nat) (σ : am_S) (F : am_S → Prop) : Prop := am_C (TT nl Ln xs) d 198 519 [some (am_ov (some this)), some (am_ov x1)] [] σ (am_qV F)
theorem P_Co_init (nl : Bool) (Ln : Nat) (xs : Nat → Int32) : am_Jl (TT nl Ln xs) 0 [(0, .aload_n 0, 1, []), (1, .invokespecial 3, 4, [13]), (4, .aload_n 0, 5, []), (5, .new 9, 8, [2, 1, 4]), (8, .dup, 9, []), (9, .invokespecial 11, 12, [11, 1, 2, 1, 1]), (12, .putfield 12, 15, [9, 0, 0, 2]), (15, .aload_n 0, 16, []), (16, .new 9, 19, [2, 1, 4]), (19, .dup, 20, []), (20, .invokespecial 11, 23, [11, 1, 2, 1, 1]), (23, .putfield 18, 26, [9, 0, 1, 2]), (26, .aload_n 0, 27, []), (27, .new 9, 30, [2, 1, 4]), (30, .dup, 31, []), (31, .invokespecial 11, 34, [11, 1, 2, 1, 1]), (34, .putfield 21, 37, [9, 0, 2, 2]), (37, .aload_n 0, 38, []), (38, .bipush 7, 40, []), (40, .newarray .long, 42, []), (42, .putfield 24, 45, [9, 0, 3, 2]), (45, .aload_n 0, 46, []), (46, .new 28, 49, [2, 2, 20]), (49, .dup, 50, []), (50, .new 28, 53, [2, 2, 20]), (53, .dup, 54, []), (54, .aconst_null, 55, []), (55, .invokespecial 30, 58, [11, 2, 3, 2, 2]), (58, .invokespecial 30, 61, [11, 2, 3, 2, 2]), (61, .putfield 33, 64, [9, 0, 4, 2]), (64, .aload_n 0, 65, []), (65, .new 37, 68, [2, 4, 9]), (68, .dup, 69, []), (69, .invokespecial 39, 72, [11, 4, 5, 1, 1]), (72, .putfield 40, 75, [9, 0, 5, 2]), (75, .aload_n 0, 76, []), (76, .new 44, 79, [2, 5, 4]), (79, .dup, 80, []), (80, .invokespecial 46, 83, [11, 5, 6, 1, 1]), (83, .putfield 47, 86, [9, 0, 6, 2]), (86, .aload_n 0, 87, []), (87, .new 51, 90, [2, 6, 20]), (90, .dup, 91, []), (91, .aload_n 0, 92, []), (92, .getfield 33, 95, [9, 0, 4, 2]), (95, .aload_n 0, 96, []), (96, .getfield 40, 99, [9, 0, 5, 2]), (99, .aload_n 0, 100, []), (100, .getfield 47, 103, [9, 0, 6, 2]), (103, .invokespecial 53, 106, [11, 6, 7, 4, 4]), (106, .putfield 56, 109, [9, 0, 7, 2]), (109, .aload_n 0, 110, []), (110, .new 60, 113, [2, 3, 8]), (113, .dup, 114, []), (114, .invokespecial 62, 117, [11, 3, 4, 1, 1]), (117, .putfield 63, 120, [9, 0, 9, 2]), (120, .return_, 121, [0])] := dk_ck (by decide +kernel)
set_option maxRecDepth 4096 in
theorem w_Co_init {nl : Bool} {Ln : Nat} {xs : Nat → Int32} {d : Nat} {this : Nat} {σ : am_S} {F : am_S → Prop} (h : ∀ σ1, σ1 = am_new σ 2 0 4 → am_ext σ σ1 → am_fz σ1 (am_nx σ) → k_By_init nl Ln xs d (am_nx σ) σ1 (fun σ3 => am_ext σ1 σ3 → (am_is σ3 (some this) 0) ∧ ∀ σ6, σ6 = am_sfR σ3 0 this (some (am_nx σ)) → ∀ σ9, σ9 = am_new σ6 2 0 4 → am_ext σ6 σ9 → am_fz σ9 (am_nx σ6) → k_By_init nl Ln xs d (am_nx σ6) σ9 (fun σ11 => am_ext σ9 σ11 → ∀ σ13, σ13 = am_sfR σ11 1 this (some (am_nx σ6)) → ∀ σ16, σ16 = am_new σ13 2 0 4 → am_ext σ13 σ16 → am_fz σ16 (am_nx σ13) → k_By_init nl Ln xs d (am_nx σ13) σ16 (fun σ18 => am_ext σ16 σ18 → ∀ σ20, σ20 = am_sfR σ18 2 this (some (am_nx σ13)) → ∀ σ23, σ23 = am_new σ20 1001 7 7 → am_ext σ20 σ23 → am_fz σ23 (am_nx σ20) → ∀ σ25, σ25 = am_sfR σ23 3 this (some (am_nx σ20)) → ∀ σ28, σ28 = am_new σ25 3 0 20 → am_ext σ25 σ28 → am_fz σ28 (am_nx σ25) → ∀ σ30, σ30 = am_new σ28 3 0 20 → am_ext σ28 σ30 → am_fz σ30 (am_nx σ28) → k_Wk_init nl Ln xs d (am_nx σ28) none σ30 (fun σ32 => am_ext σ30 σ32 → k_Wk_init nl Ln xs d (am_nx σ25) (some (am_nx σ28)) σ32 (fun σ34 => am_ext σ32 σ34 → ∀ σ36, σ36 = am_sfR σ34 4 this (some (am_nx σ25)) → ∀ σ39, σ39 = am_new σ36 5 0 9 → am_ext σ36 σ39 → am_fz σ39 (am_nx σ36) → k_Rd_init nl Ln xs d (am_nx σ36) σ39 (fun σ41 => am_ext σ39 σ41 → ∀ σ43, σ43 = am_sfR σ41 5 this (some (am_nx σ36)) → ∀ σ46, σ46 = am_new σ43 6 0 4 → am_ext σ43 σ46 → am_fz σ46 (am_nx σ43) → k_Sk_init nl Ln xs d (am_nx σ43) σ46 (fun σ48 => am_ext σ46 σ48 → ∀ σ50, σ50 = am_sfR σ48 6 this (some (am_nx σ43)) → ∀ σ53, σ53 = am_new σ50 7 0 20 → am_ext σ50 σ53 → am_fz σ53 (am_nx σ50) → k_Bk_init nl Ln xs d (am_nx σ50) (am_fR σ53 4 this) (am_fR σ53 5 this) (am_fR σ53 6 this) σ53 (fun σ55 => am_ext σ53 σ55 → ∀ σ57, σ57 = am_sfR σ55 7 this (some (am_nx σ50)) → ∀ σ60, σ60 = am_new σ57 4 0 8 → am_ext σ57 σ60 → am_fz σ60 (am_nx σ57) → k_Vw_init nl Ln xs d (am_nx σ57) σ60 (fun σ62 => am_ext σ60 σ62 → ∀ σ64, σ64 = am_sfR σ62 9 this (some (am_nx σ57)) → F σ64)))))))))) : k_Co_init nl Ln xs (d + 1) this σ F := by
  obtain ⟨j0, j1, j4, j5, j8, j9, j12, j15, j16, j19, j20, j23, j26, j27, j30, j31, j34, j37, j38, j40, j42, j45, j46, j49, j50, j53, j54, j55, j58, j61, j64, j65, j68, j69, j72, j75, j76, j79, j80, j83, j86, j87, j90, j91, j92, j95, j96, j99, j100, j103, j106, j109, j110, j113, j114, j117, j120, -⟩ := P_Co_init nl Ln xs
  have elo : am_lo 1 [am_ov (some this)] = [some (am_ov (some this))] := by simp only [am_lo, am_in_ov, am_in_int, am_in_long, am_in_nil]; rfl
  unfold k_Co_init
  rw [elo]
  refine s_aload_n j0 rfl rfl ?_
  refine s_obj j1 rfl (am_r8 rfl) ?_
  refine s_aload_n j4 rfl rfl ?_
  refine s_new j5 rfl (fun σ1 e2 e2x e2z => ?_)
  replace h := h σ1 e2 e2x e2z
  refine s_dup j8 rfl (am_cov _) ?_
  refine s_spec j9 rfl rfl rfl rfl (by decide) (in_By_init _) (am_r8 rfl) (am_bV h (fun σ3 h hx3 => ?_))
  replace h := h hx3
  obtain ⟨ho5, h⟩ := h
  refine s_pfR j12 rfl ho5 (fun σ6 e7 => ?_)
  replace h := h σ6 e7
  have ek8 : am_kd σ6 = am_kd σ3 := by rw [e7]
  refine s_aload_n j15 rfl rfl ?_
  refine s_new j16 rfl (fun σ9 e10 e10x e10z => ?_)
  replace h := h σ9 e10 e10x e10z
  refine s_dup j19 rfl (am_cov _) ?_
  refine s_spec j20 rfl rfl rfl rfl (by decide) (in_By_init _) (am_r8 rfl) (am_bV h (fun σ11 h hx11 => ?_))
  replace h := h hx11
  refine s_pfR j23 rfl (am_is_ext hx11 (am_is_ext e10x (am_is_kd ek8 ho5))) (fun σ13 e14 => ?_)
  replace h := h σ13 e14
  have ek15 : am_kd σ13 = am_kd σ11 := by rw [e14]
  refine s_aload_n j26 rfl rfl ?_
  refine s_new j27 rfl (fun σ16 e17 e17x e17z => ?_)
  replace h := h σ16 e17 e17x e17z
  refine s_dup j30 rfl (am_cov _) ?_
  refine s_spec j31 rfl rfl rfl rfl (by decide) (in_By_init _) (am_r8 rfl) (am_bV h (fun σ18 h hx18 => ?_))
  replace h := h hx18
  refine s_pfR j34 rfl (am_is_ext hx18 (am_is_ext e17x (am_is_kd ek15 (am_is_ext hx11 (am_is_ext e10x (am_is_kd ek8 ho5)))))) (fun σ20 e21 => ?_)
  replace h := h σ20 e21
  have ek22 : am_kd σ20 = am_kd σ18 := by rw [e21]
  refine s_aload_n j37 rfl rfl ?_
  refine s_bipush j38 rfl kc_bi_7 ?_
  refine s_newarray (k := 1001) (m := 7) j40 rfl rfl (by decide) (by decide) (by decide) (by decide) (fun σ23 e24 e24x e24z => ?_)
  replace h := h σ23 e24 e24x e24z
  refine s_pfR j42 rfl (am_is_ext e24x (am_is_kd ek22 (am_is_ext hx18 (am_is_ext e17x (am_is_kd ek15 (am_is_ext hx11 (am_is_ext e10x (am_is_kd ek8 ho5)))))))) (fun σ25 e26 => ?_)
  replace h := h σ25 e26
  have ek27 : am_kd σ25 = am_kd σ23 := by rw [e26]
  refine s_aload_n j45 rfl rfl ?_
  refine s_new j46 rfl (fun σ28 e29 e29x e29z => ?_)
  replace h := h σ28 e29 e29x e29z
  refine s_dup j49 rfl (am_cov _) ?_
  refine s_new j50 rfl (fun σ30 e31 e31x e31z => ?_)
  replace h := h σ30 e31 e31x e31z
  refine s_dup j53 rfl (am_cov _) ?_
  refine s_null j54 rfl ?_
  refine s_spec j55 rfl rfl rfl rfl (by decide) (in_Wk_init _ _) (am_r8 rfl) (am_bV h (fun σ32 h hx32 => ?_))
  replace h := h hx32
  refine s_spec j58 rfl rfl rfl rfl (by decide) (in_Wk_init _ _) (am_r8 rfl) (am_bV h (fun σ34 h hx34 => ?_))
  replace h := h hx34
  refine s_pfR j61 rfl (am_is_ext hx34 (am_is_ext hx32 (am_is_ext e31x (am_is_ext e29x (am_is_kd ek27 (am_is_ext e24x (am_is_kd ek22 (am_is_ext hx18 (am_is_ext e17x (am_is_kd ek15 (am_is_ext hx11 (am_is_ext e10x (am_is_kd ek8 ho5))))))))))))) (fun σ36 e37 => ?_)
  replace h := h σ36 e37
  have ek38 : am_kd σ36 = am_kd σ34 := by rw [e37]
  refine s_aload_n j64 rfl rfl ?_
  refine s_new j65 rfl (fun σ39 e40 e40x e40z => ?_)
  replace h := h σ39 e40 e40x e40z
  refine s_dup j68 rfl (am_cov _) ?_
  refine s_spec j69 rfl rfl rfl rfl (by decide) (in_Rd_init _) (am_r8 rfl) (am_bV h (fun σ41 h hx41 => ?_))
  replace h := h hx41
  refine s_pfR j72 rfl (am_is_ext hx41 (am_is_ext e40x (am_is_kd ek38 (am_is_ext hx34 (am_is_ext hx32 (am_is_ext e31x (am_is_ext e29x (am_is_kd ek27 (am_is_ext e24x (am_is_kd ek22 (am_is_ext hx18 (am_is_ext e17x (am_is_kd ek15 (am_is_ext hx11 (am_is_ext e10x (am_is_kd ek8 ho5)))))))))))))))) (fun σ43 e44 => ?_)
  replace h := h σ43 e44
  have ek45 : am_kd σ43 = am_kd σ41 := by rw [e44]
  refine s_aload_n j75 rfl rfl ?_
  refine s_new j76 rfl (fun σ46 e47 e47x e47z => ?_)
  replace h := h σ46 e47 e47x e47z
  refine s_dup j79 rfl (am_cov _) ?_
  refine s_spec j80 rfl rfl rfl rfl (by decide) (in_Sk_init _) (am_r8 rfl) (am_bV h (fun σ48 h hx48 => ?_))
  replace h := h hx48
  refine s_pfR j83 rfl (am_is_ext hx48 (am_is_ext e47x (am_is_kd ek45 (am_is_ext hx41 (am_is_ext e40x (am_is_kd ek38 (am_is_ext hx34 (am_is_ext hx32 (am_is_ext e31x (am_is_ext e29x (am_is_kd ek27 (am_is_ext e24x (am_is_kd ek22 (am_is_ext hx18 (am_is_ext e17x (am_is_kd ek15 (am_is_ext hx11 (am_is_ext e10x (am_is_kd ek8 ho5))))))))))))))))))) (fun σ50 e51 => ?_)
  replace h := h σ50 e51
  have ek52 : am_kd σ50 = am_kd σ48 := by rw [e51]
  refine s_aload_n j86 rfl rfl ?_
  refine s_new j87 rfl (fun σ53 e54 e54x e54z => ?_)
  replace h := h σ53 e54 e54x e54z
  refine s_dup j90 rfl (am_cov _) ?_
  refine s_aload_n j91 rfl rfl ?_
  refine s_gfR j92 rfl (am_is_ext e54x (am_is_kd ek52 (am_is_ext hx48 (am_is_ext e47x (am_is_kd ek45 (am_is_ext hx41 (am_is_ext e40x (am_is_kd ek38 (am_is_ext hx34 (am_is_ext hx32 (am_is_ext e31x (am_is_ext e29x (am_is_kd ek27 (am_is_ext e24x (am_is_kd ek22 (am_is_ext hx18 (am_is_ext e17x (am_is_kd ek15 (am_is_ext hx11 (am_is_ext e10x (am_is_kd ek8 ho5))))))))))))))))))))) ?_
  refine s_aload_n j95 rfl rfl ?_
  refine s_gfR j96 rfl (am_is_ext e54x (am_is_kd ek52 (am_is_ext hx48 (am_is_ext e47x (am_is_kd ek45 (am_is_ext hx41 (am_is_ext e40x (am_is_kd ek38 (am_is_ext hx34 (am_is_ext hx32 (am_is_ext e31x (am_is_ext e29x (am_is_kd ek27 (am_is_ext e24x (am_is_kd ek22 (am_is_ext hx18 (am_is_ext e17x (am_is_kd ek15 (am_is_ext hx11 (am_is_ext e10x (am_is_kd ek8 ho5))))))))))))))))))))) ?_
  refine s_aload_n j99 rfl rfl ?_
  refine s_gfR j100 rfl (am_is_ext e54x (am_is_kd ek52 (am_is_ext hx48 (am_is_ext e47x (am_is_kd ek45 (am_is_ext hx41 (am_is_ext e40x (am_is_kd ek38 (am_is_ext hx34 (am_is_ext hx32 (am_is_ext e31x (am_is_ext e29x (am_is_kd ek27 (am_is_ext e24x (am_is_kd ek22 (am_is_ext hx18 (am_is_ext e17x (am_is_kd ek15 (am_is_ext hx11 (am_is_ext e10x (am_is_kd ek8 ho5))))))))))))))))))))) ?_
  refine s_spec j103 rfl rfl rfl rfl (by decide) (in_Bk_init _ _ _ _) (am_r8 rfl) (am_bV h (fun σ55 h hx55 => ?_))
  replace h := h hx55
  refine s_pfR j106 rfl (am_is_ext hx55 (am_is_ext e54x (am_is_kd ek52 (am_is_ext hx48 (am_is_ext e47x (am_is_kd ek45 (am_is_ext hx41 (am_is_ext e40x (am_is_kd ek38 (am_is_ext hx34 (am_is_ext hx32 (am_is_ext e31x (am_is_ext e29x (am_is_kd ek27 (am_is_ext e24x (am_is_kd ek22 (am_is_ext hx18 (am_is_ext e17x (am_is_kd ek15 (am_is_ext hx11 (am_is_ext e10x (am_is_kd ek8 ho5)))))))))))))))))))))) (fun σ57 e58 => ?_)
  replace h := h σ57 e58
  have ek59 : am_kd σ57 = am_kd σ55 := by rw [e58]
  refine s_aload_n j109 rfl rfl ?_
  refine s_new j110 rfl (fun σ60 e61 e61x e61z => ?_)
  replace h := h σ60 e61 e61x e61z
  refine s_dup j113 rfl (am_cov _) ?_
  refine s_spec j114 rfl rfl rfl rfl (by decide) (in_Vw_init _) (am_r8 rfl) (am_bV h (fun σ62 h hx62 => ?_))
  replace h := h hx62
  refine s_pfR j117 rfl (am_is_ext hx62 (am_is_ext e61x (am_is_kd ek59 (am_is_ext hx55 (am_is_ext e54x (am_is_kd ek52 (am_is_ext hx48 (am_is_ext e47x (am_is_kd ek45 (am_is_ext hx41 (am_is_ext e40x (am_is_kd ek38 (am_is_ext hx34 (am_is_ext hx32 (am_is_ext e31x (am_is_ext e29x (am_is_kd ek27 (am_is_ext e24x (am_is_kd ek22 (am_is_ext hx18 (am_is_ext e17x (am_is_kd ek15 (am_is_ext hx11 (am_is_ext e10x (am_is_kd ek8 ho5))))))))))))))))))))))))) (fun σ64 e65 => ?_)
  replace h := h σ64 e65
  have ek66 : am_kd σ64 = am_kd σ62 := by rw [e65]
  exact s_retV j120 rfl h
theorem P_Wk_init (nl : Bool) (Ln : Nat) (xs : Nat → Int32) : am_Jl (TT nl Ln xs) 2 [(0, .aload_n 0, 1, []), (1, .invokespecial 3, 4, [13]), (4, .aload_n 0, 5, []), (5, .new 9, 8, [2, 3, 8]), (8, .dup, 9, []), (9, .invokespecial 11, 12, [11, 3, 4, 1, 1]), (12, .putfield 12, 15, [9, 2, 2, 2]), (15, .aload_n 0, 16, []), (16, .bipush 12, 18, []), (18, .newarray .long, 20, []), (20, .putfield 18, 23, [9, 2, 13, 2]), (23, .aload_n 0, 24, []), (24, .bipush 12, 26, []), (26, .newarray .int, 28, []), (28, .putfield 22, 31, [9, 2, 14, 2]), (31, .aload_n 0, 32, []), (32, .bipush 100, 34, []), (34, .newarray .int, 36, []), (36, .putfield 26, 39, [9, 2, 15, 2]), (39, .aload_n 0, 40, []), (40, .bipush 100, 42, []), (42, .newarray .int, 44, []), (44, .putfield 29, 47, [9, 2, 16, 2]), (47, .aload_n 0, 48, []), (48, .bipush 6, 50, []), (50, .newarray .long, 52, []), (52, .putfield 32, 55, [9, 2, 17, 2]), (55, .aload_n 0, 56, []), (56, .bipush 6, 58, []), (58, .newarray .long, 60, []), (60, .putfield 35, 63, [9, 2, 18, 2]), (63, .aload_n 0, 64, []), (64, .bipush 6, 66, []), (66, .newarray .int, 68, []), (68, .putfield 38, 71, [9, 2, 19, 2]), (71, .aload_n 0, 72, []), (72, .aload_n 1, 73, []), (73, .putfield 41, 76, [9, 2, 0, 2]), (76, .return_, 77, [0])] := dk_ck (by decide +kernel)
set_option maxRecDepth 4096 in
theorem w_Wk_init {nl : Bool} {Ln : Nat} {xs : Nat → Int32} {d : Nat} {this : Nat} {p0 : Option Nat} {σ : am_S} {F : am_S → Prop} (h : ∀ σ1, σ1 = am_new σ 4 0 8 → am_ext σ σ1 → am_fz σ1 (am_nx σ) → k_Vw_init nl Ln xs d (am_nx σ) σ1 (fun σ3 => am_ext σ1 σ3 → (am_is σ3 (some this) 2) ∧ ∀ σ6, σ6 = am_sfR σ3 2002 this (some (am_nx σ)) → ∀ σ9, σ9 = am_new σ6 1001 12 12 → am_ext σ6 σ9 → am_fz σ9 (am_nx σ6) → ∀ σ11, σ11 = am_sfR σ9 2013 this (some (am_nx σ6)) → ∀ σ14, σ14 = am_new σ11 1000 12 12 → am_ext σ11 σ14 → am_fz σ14 (am_nx σ11) → ∀ σ16, σ16 = am_sfR σ14 2014 this (some (am_nx σ11)) → ∀ σ19, σ19 = am_new σ16 1000 100 100 → am_ext σ16 σ19 → am_fz σ19 (am_nx σ16) → ∀ σ21, σ21 = am_sfR σ19 2015 this (some (am_nx σ16)) → ∀ σ24, σ24 = am_new σ21 1000 100 100 → am_ext σ21 σ24 → am_fz σ24 (am_nx σ21) → ∀ σ26, σ26 = am_sfR σ24 2016 this (some (am_nx σ21)) → ∀ σ29, σ29 = am_new σ26 1001 6 6 → am_ext σ26 σ29 → am_fz σ29 (am_nx σ26) → ∀ σ31, σ31 = am_sfR σ29 2017 this (some (am_nx σ26)) → ∀ σ34, σ34 = am_new σ31 1001 6 6 → am_ext σ31 σ34 → am_fz σ34 (am_nx σ31) → ∀ σ36, σ36 = am_sfR σ34 2018 this (some (am_nx σ31)) → ∀ σ39, σ39 = am_new σ36 1000 6 6 → am_ext σ36 σ39 → am_fz σ39 (am_nx σ36) → ∀ σ41, σ41 = am_sfR σ39 2019 this (some (am_nx σ36)) → ∀ σ44, σ44 = am_sfR σ41 2000 this p0 → F σ44)) : k_Wk_init nl Ln xs (d + 1) this p0 σ F := by
  obtain ⟨j0, j1, j4, j5, j8, j9, j12, j15, j16, j18, j20, j23, j24, j26, j28, j31, j32, j34, j36, j39, j40, j42, j44, j47, j48, j50, j52, j55, j56, j58, j60, j63, j64, j66, j68, j71, j72, j73, j76, -⟩ := P_Wk_init nl Ln xs
  have elo : am_lo 2 [am_ov (some this), am_ov p0] = [some (am_ov (some this)), some (am_ov p0)] := by simp only [am_lo, am_in_ov, am_in_int, am_in_long, am_in_nil]; rfl
  unfold k_Wk_init
  rw [elo]
  refine s_aload_n j0 rfl rfl ?_
  refine s_obj j1 rfl (am_r8 rfl) ?_
  refine s_aload_n j4 rfl rfl ?_
  refine s_new j5 rfl (fun σ1 e2 e2x e2z => ?_)
  replace h := h σ1 e2 e2x e2z
  refine s_dup j8 rfl (am_cov _) ?_
  refine s_spec j9 rfl rfl rfl rfl (by decide) (in_Vw_init _) (am_r8 rfl) (am_bV h (fun σ3 h hx3 => ?_))
  replace h := h hx3
  obtain ⟨ho5, h⟩ := h
  refine s_pfR j12 rfl ho5 (fun σ6 e7 => ?_)
  replace h := h σ6 e7
  have ek8 : am_kd σ6 = am_kd σ3 := by rw [e7]
  refine s_aload_n j15 rfl rfl ?_
  refine s_bipush j16 rfl kc_bi_12 ?_
  refine s_newarray (k := 1001) (m := 12) j18 rfl rfl (by decide) (by decide) (by decide) (by decide) (fun σ9 e10 e10x e10z => ?_)
  replace h := h σ9 e10 e10x e10z
  refine s_pfR j20 rfl (am_is_ext e10x (am_is_kd ek8 ho5)) (fun σ11 e12 => ?_)
  replace h := h σ11 e12
  have ek13 : am_kd σ11 = am_kd σ9 := by rw [e12]
  refine s_aload_n j23 rfl rfl ?_
  refine s_bipush j24 rfl kc_bi_12 ?_
  refine s_newarray (k := 1000) (m := 12) j26 rfl rfl (by decide) (by decide) (by decide) (by decide) (fun σ14 e15 e15x e15z => ?_)
  replace h := h σ14 e15 e15x e15z
  refine s_pfR j28 rfl (am_is_ext e15x (am_is_kd ek13 (am_is_ext e10x (am_is_kd ek8 ho5)))) (fun σ16 e17 => ?_)
  replace h := h σ16 e17
  have ek18 : am_kd σ16 = am_kd σ14 := by rw [e17]
  refine s_aload_n j31 rfl rfl ?_
  refine s_bipush j32 rfl kc_bi_100 ?_
  refine s_newarray (k := 1000) (m := 100) j34 rfl rfl (by decide) (by decide) (by decide) (by decide) (fun σ19 e20 e20x e20z => ?_)
  replace h := h σ19 e20 e20x e20z
  refine s_pfR j36 rfl (am_is_ext e20x (am_is_kd ek18 (am_is_ext e15x (am_is_kd ek13 (am_is_ext e10x (am_is_kd ek8 ho5)))))) (fun σ21 e22 => ?_)
  replace h := h σ21 e22
  have ek23 : am_kd σ21 = am_kd σ19 := by rw [e22]
  refine s_aload_n j39 rfl rfl ?_
  refine s_bipush j40 rfl kc_bi_100 ?_
  refine s_newarray (k := 1000) (m := 100) j42 rfl rfl (by decide) (by decide) (by decide) (by decide) (fun σ24 e25 e25x e25z => ?_)
  replace h := h σ24 e25 e25x e25z
  refine s_pfR j44 rfl (am_is_ext e25x (am_is_kd ek23 (am_is_ext e20x (am_is_kd ek18 (am_is_ext e15x (am_is_kd ek13 (am_is_ext e10x (am_is_kd ek8 ho5)))))))) (fun σ26 e27 => ?_)
  replace h := h σ26 e27
  have ek28 : am_kd σ26 = am_kd σ24 := by rw [e27]
  refine s_aload_n j47 rfl rfl ?_
  refine s_bipush j48 rfl kc_bi_6 ?_
  refine s_newarray (k := 1001) (m := 6) j50 rfl rfl (by decide) (by decide) (by decide) (by decide) (fun σ29 e30 e30x e30z => ?_)
  replace h := h σ29 e30 e30x e30z
  refine s_pfR j52 rfl (am_is_ext e30x (am_is_kd ek28 (am_is_ext e25x (am_is_kd ek23 (am_is_ext e20x (am_is_kd ek18 (am_is_ext e15x (am_is_kd ek13 (am_is_ext e10x (am_is_kd ek8 ho5)))))))))) (fun σ31 e32 => ?_)
  replace h := h σ31 e32
  have ek33 : am_kd σ31 = am_kd σ29 := by rw [e32]
  refine s_aload_n j55 rfl rfl ?_
  refine s_bipush j56 rfl kc_bi_6 ?_
  refine s_newarray (k := 1001) (m := 6) j58 rfl rfl (by decide) (by decide) (by decide) (by decide) (fun σ34 e35 e35x e35z => ?_)
  replace h := h σ34 e35 e35x e35z
  refine s_pfR j60 rfl (am_is_ext e35x (am_is_kd ek33 (am_is_ext e30x (am_is_kd ek28 (am_is_ext e25x (am_is_kd ek23 (am_is_ext e20x (am_is_kd ek18 (am_is_ext e15x (am_is_kd ek13 (am_is_ext e10x (am_is_kd ek8 ho5)))))))))))) (fun σ36 e37 => ?_)
  replace h := h σ36 e37
  have ek38 : am_kd σ36 = am_kd σ34 := by rw [e37]
  refine s_aload_n j63 rfl rfl ?_
  refine s_bipush j64 rfl kc_bi_6 ?_
  refine s_newarray (k := 1000) (m := 6) j66 rfl rfl (by decide) (by decide) (by decide) (by decide) (fun σ39 e40 e40x e40z => ?_)
  replace h := h σ39 e40 e40x e40z
  refine s_pfR j68 rfl (am_is_ext e40x (am_is_kd ek38 (am_is_ext e35x (am_is_kd ek33 (am_is_ext e30x (am_is_kd ek28 (am_is_ext e25x (am_is_kd ek23 (am_is_ext e20x (am_is_kd ek18 (am_is_ext e15x (am_is_kd ek13 (am_is_ext e10x (am_is_kd ek8 ho5)))))))))))))) (fun σ41 e42 => ?_)
  replace h := h σ41 e42
  have ek43 : am_kd σ41 = am_kd σ39 := by rw [e42]
  refine s_aload_n j71 rfl rfl ?_
  refine s_aload_n j72 rfl rfl ?_
  refine s_pfR j73 rfl (am_is_kd ek43 (am_is_ext e40x (am_is_kd ek38 (am_is_ext e35x (am_is_kd ek33 (am_is_ext e30x (am_is_kd ek28 (am_is_ext e25x (am_is_kd ek23 (am_is_ext e20x (am_is_kd ek18 (am_is_ext e15x (am_is_kd ek13 (am_is_ext e10x (am_is_kd ek8 ho5))))))))))))))) (fun σ44 e45 => ?_)
  replace h := h σ44 e45
  have ek46 : am_kd σ44 = am_kd σ41 := by rw [e45]
  exact s_retV j76 rfl h
theorem P_Vw_init (nl : Bool) (Ln : Nat) (xs : Nat → Int32) : am_Jl (TT nl Ln xs) 3 [(0, .aload_n 0, 1, []), (1, .invokespecial 3, 4, [13]), (4, .aload_n 0, 5, []), (5, .bipush 13, 7, []), (7, .newarray .int, 9, []), (9, .putfield 9, 12, [9, 3, 0, 2]), (12, .aload_n 0, 13, []), (13, .bipush 13, 15, []), (15, .newarray .int, 17, []), (17, .putfield 15, 20, [9, 3, 1, 2]), (20, .aload_n 0, 21, []), (21, .bipush 13, 23, []), (23, .newarray .long, 25, []), (25, .putfield 18, 28, [9, 3, 2, 2]), (28, .aload_n 0, 29, []), (29, .sipush 200, 32, []), (32, .newarray .int, 34, []), (34, .putfield 22, 37, [9, 3, 3, 2]), (37, .return_, 38, [0])] := dk_ck (by decide +kernel)
set_option maxRecDepth 4096 in
theorem w_Vw_init {nl : Bool} {Ln : Nat} {xs : Nat → Int32} {d : Nat} {this : Nat} {σ : am_S} {F : am_S → Prop} (h : ∀ σ1, σ1 = am_new σ 1000 13 13 → am_ext σ σ1 → am_fz σ1 (am_nx σ) → (am_is σ1 (some this) 3) ∧ ∀ σ4, σ4 = am_sfR σ1 3000 this (some (am_nx σ)) → ∀ σ7, σ7 = am_new σ4 1000 13 13 → am_ext σ4 σ7 → am_fz σ7 (am_nx σ4) → ∀ σ9, σ9 = am_sfR σ7 3001 this (some (am_nx σ4)) → ∀ σ12, σ12 = am_new σ9 1001 13 13 → am_ext σ9 σ12 → am_fz σ12 (am_nx σ9) → ∀ σ14, σ14 = am_sfR σ12 3002 this (some (am_nx σ9)) → ∀ σ17, σ17 = am_new σ14 1000 200 200 → am_ext σ14 σ17 → am_fz σ17 (am_nx σ14) → ∀ σ19, σ19 = am_sfR σ17 3003 this (some (am_nx σ14)) → F σ19) : k_Vw_init nl Ln xs (d + 1) this σ F := by
  obtain ⟨j0, j1, j4, j5, j7, j9, j12, j13, j15, j17, j20, j21, j23, j25, j28, j29, j32, j34, j37, -⟩ := P_Vw_init nl Ln xs
  have elo : am_lo 1 [am_ov (some this)] = [some (am_ov (some this))] := by simp only [am_lo, am_in_ov, am_in_int, am_in_long, am_in_nil]; rfl
  unfold k_Vw_init
  rw [elo]
  refine s_aload_n j0 rfl rfl ?_
  refine s_obj j1 rfl (am_r8 rfl) ?_
  refine s_aload_n j4 rfl rfl ?_
  refine s_bipush j5 rfl kc_bi_13 ?_
  refine s_newarray (k := 1000) (m := 13) j7 rfl rfl (by decide) (by decide) (by decide) (by decide) (fun σ1 e2 e2x e2z => ?_)
  replace h := h σ1 e2 e2x e2z
  obtain ⟨ho3, h⟩ := h
  refine s_pfR j9 rfl ho3 (fun σ4 e5 => ?_)
  replace h := h σ4 e5
  have ek6 : am_kd σ4 = am_kd σ1 := by rw [e5]
  refine s_aload_n j12 rfl rfl ?_
  refine s_bipush j13 rfl kc_bi_13 ?_
  refine s_newarray (k := 1000) (m := 13) j15 rfl rfl (by decide) (by decide) (by decide) (by decide) (fun σ7 e8 e8x e8z => ?_)
  replace h := h σ7 e8 e8x e8z
  refine s_pfR j17 rfl (am_is_ext e8x (am_is_kd ek6 ho3)) (fun σ9 e10 => ?_)
  replace h := h σ9 e10
  have ek11 : am_kd σ9 = am_kd σ7 := by rw [e10]
  refine s_aload_n j20 rfl rfl ?_
  refine s_bipush j21 rfl kc_bi_13 ?_
  refine s_newarray (k := 1001) (m := 13) j23 rfl rfl (by decide) (by decide) (by decide) (by decide) (fun σ12 e13 e13x e13z => ?_)
  replace h := h σ12 e13 e13x e13z
  refine s_pfR j25 rfl (am_is_ext e13x (am_is_kd ek11 (am_is_ext e8x (am_is_kd ek6 ho3)))) (fun σ14 e15 => ?_)
  replace h := h σ14 e15
  have ek16 : am_kd σ14 = am_kd σ12 := by rw [e15]
  refine s_aload_n j28 rfl rfl ?_
  refine s_sipush j29 rfl kc_si_200 ?_
  refine s_newarray (k := 1000) (m := 200) j32 rfl rfl (by decide) (by decide) (by decide) (by decide) (fun σ17 e18 e18x e18z => ?_)
  replace h := h σ17 e18 e18x e18z
  refine s_pfR j34 rfl (am_is_ext e18x (am_is_kd ek16 (am_is_ext e13x (am_is_kd ek11 (am_is_ext e8x (am_is_kd ek6 ho3)))))) (fun σ19 e20 => ?_)
  replace h := h σ19 e20
  have ek21 : am_kd σ19 = am_kd σ17 := by rw [e20]
  exact s_retV j37 rfl h
theorem P_Rd_init (nl : Bool) (Ln : Nat) (xs : Nat → Int32) : am_Jl (TT nl Ln xs) 4 [(0, .aload_n 0, 1, []), (1, .invokespecial 3, 4, [13]), (4, .aload_n 0, 5, []), (5, .sipush 401, 8, []), (8, .newarray .int, 10, []), (10, .putfield 9, 13, [9, 4, 0, 2]), (13, .aload_n 0, 14, []), (14, .sipush 401, 17, []), (17, .newarray .int, 19, []), (19, .putfield 15, 22, [9, 4, 1, 2]), (22, .aload_n 0, 23, []), (23, .sipush 401, 26, []), (26, .newarray .int, 28, []), (28, .putfield 18, 31, [9, 4, 2, 2]), (31, .return_, 32, [0])] := dk_ck (by decide +kernel)
set_option maxRecDepth 4096 in
theorem w_Rd_init {nl : Bool} {Ln : Nat} {xs : Nat → Int32} {d : Nat} {this : Nat} {σ : am_S} {F : am_S → Prop} (h : ∀ σ1, σ1 = am_new σ 1000 401 401 → am_ext σ σ1 → am_fz σ1 (am_nx σ) → (am_is σ1 (some this) 4) ∧ ∀ σ4, σ4 = am_sfR σ1 4000 this (some (am_nx σ)) → ∀ σ7, σ7 = am_new σ4 1000 401 401 → am_ext σ4 σ7 → am_fz σ7 (am_nx σ4) → ∀ σ9, σ9 = am_sfR σ7 4001 this (some (am_nx σ4)) → ∀ σ12, σ12 = am_new σ9 1000 401 401 → am_ext σ9 σ12 → am_fz σ12 (am_nx σ9) → ∀ σ14, σ14 = am_sfR σ12 4002 this (some (am_nx σ9)) → F σ14) : k_Rd_init nl Ln xs (d + 1) this σ F := by
  obtain ⟨j0, j1, j4, j5, j8, j10, j13, j14, j17, j19, j22, j23, j26, j28, j31, -⟩ := P_Rd_init nl Ln xs
  have elo : am_lo 1 [am_ov (some this)] = [some (am_ov (some this))] := by simp only [am_lo, am_in_ov, am_in_int, am_in_long, am_in_nil]; rfl
  unfold k_Rd_init
  rw [elo]
  refine s_aload_n j0 rfl rfl ?_
  refine s_obj j1 rfl (am_r8 rfl) ?_
  refine s_aload_n j4 rfl rfl ?_
  refine s_sipush j5 rfl kc_si_401 ?_
  refine s_newarray (k := 1000) (m := 401) j8 rfl rfl (by decide) (by decide) (by decide) (by decide) (fun σ1 e2 e2x e2z => ?_)
  replace h := h σ1 e2 e2x e2z
  obtain ⟨ho3, h⟩ := h
  refine s_pfR j10 rfl ho3 (fun σ4 e5 => ?_)
  replace h := h σ4 e5
  have ek6 : am_kd σ4 = am_kd σ1 := by rw [e5]
  refine s_aload_n j13 rfl rfl ?_
  refine s_sipush j14 rfl kc_si_401 ?_
  refine s_newarray (k := 1000) (m := 401) j17 rfl rfl (by decide) (by decide) (by decide) (by decide) (fun σ7 e8 e8x e8z => ?_)
  replace h := h σ7 e8 e8x e8z
  refine s_pfR j19 rfl (am_is_ext e8x (am_is_kd ek6 ho3)) (fun σ9 e10 => ?_)
  replace h := h σ9 e10
  have ek11 : am_kd σ9 = am_kd σ7 := by rw [e10]
  refine s_aload_n j22 rfl rfl ?_
  refine s_sipush j23 rfl kc_si_401 ?_
  refine s_newarray (k := 1000) (m := 401) j26 rfl rfl (by decide) (by decide) (by decide) (by decide) (fun σ12 e13 e13x e13z => ?_)
  replace h := h σ12 e13 e13x e13z
  refine s_pfR j28 rfl (am_is_ext e13x (am_is_kd ek11 (am_is_ext e8x (am_is_kd ek6 ho3)))) (fun σ14 e15 => ?_)
  replace h := h σ14 e15
  have ek16 : am_kd σ14 = am_kd σ12 := by rw [e15]
  exact s_retV j31 rfl h
theorem P_Rm_init (nl : Bool) (Ln : Nat) (xs : Nat → Int32) : am_Jl (TT nl Ln xs) 197 [(0, .aload_n 0, 1, []), (1, .invokespecial 3, 4, [13]), (4, .aload_n 0, 5, []), (5, .sipush 6000, 8, []), (8, .newarray .int, 10, []), (10, .putfield 9, 13, [9, 12, 2, 2]), (13, .aload_n 0, 14, []), (14, .ldc 15, 16, [4, 500000]), (16, .newarray .byte, 18, []), (18, .putfield 16, 21, [9, 12, 4, 2]), (21, .aload_n 0, 22, []), (22, .bipush 16, 24, []), (24, .newarray .int, 26, []), (26, .putfield 20, 29, [9, 12, 9, 2]), (29, .aload_n 0, 30, []), (30, .bipush 16, 32, []), (32, .newarray .int, 34, []), (34, .putfield 23, 37, [9, 12, 10, 2]), (37, .aload_n 0, 38, []), (38, .bipush 16, 40, []), (40, .newarray .long, 42, []), (42, .putfield 26, 45, [9, 12, 11, 2]), (45, .aload_n 0, 46, []), (46, .sipush 200, 49, []), (49, .newarray .int, 51, []), (51, .putfield 30, 54, [9, 12, 13, 2]), (54, .aload_n 0, 55, []), (55, .bipush 6, 57, []), (57, .newarray .long, 59, []), (59, .putfield 33, 62, [9, 12, 18, 2]), (62, .aload_n 0, 63, []), (63, .bipush 6, 65, []), (65, .anewarray 36, 68, [3, 500]), (68, .dup, 69, []), (69, .iconst 0, 70, []), (70, .ldc 38, 72, [5, 2]), (72, .aastore, 73, []), (73, .dup, 74, []), (74, .iconst 1, 75, []), (75, .ldc 40, 77, [5, 3]), (77, .aastore, 78, []), (78, .dup, 79, []), (79, .iconst 2, 80, []), (80, .ldc 42, 82, [5, 4]), (82, .aastore, 83, []), (83, .dup, 84, []), (84, .iconst 3, 85, []), (85, .ldc 44, 87, [5, 5]), (87, .aastore, 88, []), (88, .dup, 89, []), (89, .iconst 4, 90, []), (90, .ldc 46, 92, [5, 6]), (92, .aastore, 93, []), (93, .dup, 94, []), (94, .iconst 5, 95, []), (95, .ldc 48, 97, [5, 7]), (97, .aastore, 98, []), (98, .putfield 50, 101, [9, 12, 0, 2]), (101, .aload_n 0, 102, []), (102, .bipush 13, 104, []), (104, .anewarray 36, 107, [3, 500]), (107, .dup, 108, []), (108, .iconst 0, 109, []), (109, .ldc 54, 111, [5, 8]), (111, .aastore, 112, []), (112, .dup, 113, []), (113, .iconst 1, 114, []), (114, .ldc 56, 116, [5, 9]), (116, .aastore, 117, []), (117, .dup, 118, []), (118, .iconst 2, 119, []), (119, .ldc 58, 121, [5, 10]), (121, .aastore, 122, []), (122, .dup, 123, []), (123, .iconst 3, 124, []), (124, .ldc 60, 126, [5, 11]), (126, .aastore, 127, []), (127, .dup, 128, []), (128, .iconst 4, 129, []), (129, .ldc 62, 131, [5, 12]), (131, .aastore, 132, []), (132, .dup, 133, []), (133, .iconst 5, 134, []), (134, .ldc 64, 136, [5, 13]), (136, .aastore, 137, []), (137, .dup, 138, []), (138, .bipush 6, 140, []), (140, .ldc 66, 142, [5, 14]), (142, .aastore, 143, []), (143, .dup, 144, []), (144, .bipush 7, 146, []), (146, .ldc 68, 148, [5, 15]), (148, .aastore, 149, []), (149, .dup, 150, []), (150, .bipush 8, 152, []), (152, .ldc 70, 154, [5, 16]), (154, .aastore, 155, []), (155, .dup, 156, []), (156, .bipush 9, 158, []), (158, .ldc 72, 160, [5, 17]), (160, .aastore, 161, []), (161, .dup, 162, []), (162, .bipush 10, 164, []), (164, .ldc 74, 166, [5, 18]), (166, .aastore, 167, []), (167, .dup, 168, []), (168, .bipush 11, 170, []), (170, .ldc 76, 172, [5, 19]), (172, .aastore, 173, []), (173, .dup, 174, []), (174, .bipush 12, 176, []), (176, .ldc 78, 178, [5, 20]), (178, .aastore, 179, []), (179, .putfield 80, 182, [9, 12, 1, 2])] := dk_ck (by decide +kernel)
set_option maxRecDepth 4096 in
theorem w_Rm_init {nl : Bool} {Ln : Nat} {xs : Nat → Int32} {d : Nat} {this : Nat} {σ : am_S} {F : am_S → Prop} (h : ∀ σ1, σ1 = am_new σ 1000 6000 6000 → am_ext σ σ1 → am_fz σ1 (am_nx σ) → (am_is σ1 (some this) 12) ∧ ∀ σ4, σ4 = am_sfR σ1 12002 this (some (am_nx σ)) → ∀ σ7, σ7 = am_new σ4 1002 500000 500000 → am_ext σ4 σ7 → am_fz σ7 (am_nx σ4) → ∀ σ9, σ9 = am_sfR σ7 12004 this (some (am_nx σ4)) → ∀ σ12, σ12 = am_new σ9 1000 16 16 → am_ext σ9 σ12 → am_fz σ12 (am_nx σ9) → ∀ σ14, σ14 = am_sfR σ12 12009 this (some (am_nx σ9)) → ∀ σ17, σ17 = am_new σ14 1000 16 16 → am_ext σ14 σ17 → am_fz σ17 (am_nx σ14) → ∀ σ19, σ19 = am_sfR σ17 12010 this (some (am_nx σ14)) → ∀ σ22, σ22 = am_new σ19 1001 16 16 → am_ext σ19 σ22 → am_fz σ22 (am_nx σ19) → ∀ σ24, σ24 = am_sfR σ22 12011 this (some (am_nx σ19)) → ∀ σ27, σ27 = am_new σ24 1000 200 200 → am_ext σ24 σ27 → am_fz σ27 (am_nx σ24) → ∀ σ29, σ29 = am_sfR σ27 12013 this (some (am_nx σ24)) → ∀ σ32, σ32 = am_new σ29 1001 6 6 → am_ext σ29 σ32 → am_fz σ32 (am_nx σ29) → ∀ σ34, σ34 = am_sfR σ32 12018 this (some (am_nx σ29)) → ∀ σ37, σ37 = am_new σ34 2500 6 6 → am_ext σ34 σ37 → am_fz σ37 (am_nx σ34) → (am_ar σ37 2500 (some (am_nx σ34)) (0 : Int32)) ∧ ∀ σ40, σ40 = am_saR σ37 (am_nx σ34) (0 : Int32).toNatClampNeg (some 2) → (am_ar σ40 2500 (some (am_nx σ34)) (1 : Int32)) ∧ ∀ σ44, σ44 = am_saR σ40 (am_nx σ34) (1 : Int32).toNatClampNeg (some 3) → (am_ar σ44 2500 (some (am_nx σ34)) (2 : Int32)) ∧ ∀ σ48, σ48 = am_saR σ44 (am_nx σ34) (2 : Int32).toNatClampNeg (some 4) → (am_ar σ48 2500 (some (am_nx σ34)) (3 : Int32)) ∧ ∀ σ52, σ52 = am_saR σ48 (am_nx σ34) (3 : Int32).toNatClampNeg (some 5) → (am_ar σ52 2500 (some (am_nx σ34)) (4 : Int32)) ∧ ∀ σ56, σ56 = am_saR σ52 (am_nx σ34) (4 : Int32).toNatClampNeg (some 6) → (am_ar σ56 2500 (some (am_nx σ34)) (5 : Int32)) ∧ ∀ σ60, σ60 = am_saR σ56 (am_nx σ34) (5 : Int32).toNatClampNeg (some 7) → ∀ σ63, σ63 = am_sfR σ60 12000 this (some (am_nx σ34)) → ∀ σ66, σ66 = am_new σ63 2500 13 13 → am_ext σ63 σ66 → am_fz σ66 (am_nx σ63) → (am_ar σ66 2500 (some (am_nx σ63)) (0 : Int32)) ∧ ∀ σ69, σ69 = am_saR σ66 (am_nx σ63) (0 : Int32).toNatClampNeg (some 8) → (am_ar σ69 2500 (some (am_nx σ63)) (1 : Int32)) ∧ ∀ σ73, σ73 = am_saR σ69 (am_nx σ63) (1 : Int32).toNatClampNeg (some 9) → (am_ar σ73 2500 (some (am_nx σ63)) (2 : Int32)) ∧ ∀ σ77, σ77 = am_saR σ73 (am_nx σ63) (2 : Int32).toNatClampNeg (some 10) → (am_ar σ77 2500 (some (am_nx σ63)) (3 : Int32)) ∧ ∀ σ81, σ81 = am_saR σ77 (am_nx σ63) (3 : Int32).toNatClampNeg (some 11) → (am_ar σ81 2500 (some (am_nx σ63)) (4 : Int32)) ∧ ∀ σ85, σ85 = am_saR σ81 (am_nx σ63) (4 : Int32).toNatClampNeg (some 12) → (am_ar σ85 2500 (some (am_nx σ63)) (5 : Int32)) ∧ ∀ σ89, σ89 = am_saR σ85 (am_nx σ63) (5 : Int32).toNatClampNeg (some 13) → (am_ar σ89 2500 (some (am_nx σ63)) (6 : Int32)) ∧ ∀ σ93, σ93 = am_saR σ89 (am_nx σ63) (6 : Int32).toNatClampNeg (some 14) → (am_ar σ93 2500 (some (am_nx σ63)) (7 : Int32)) ∧ ∀ σ97, σ97 = am_saR σ93 (am_nx σ63) (7 : Int32).toNatClampNeg (some 15) → (am_ar σ97 2500 (some (am_nx σ63)) (8 : Int32)) ∧ ∀ σ101, σ101 = am_saR σ97 (am_nx σ63) (8 : Int32).toNatClampNeg (some 16) → (am_ar σ101 2500 (some (am_nx σ63)) (9 : Int32)) ∧ ∀ σ105, σ105 = am_saR σ101 (am_nx σ63) (9 : Int32).toNatClampNeg (some 17) → (am_ar σ105 2500 (some (am_nx σ63)) (10 : Int32)) ∧ ∀ σ109, σ109 = am_saR σ105 (am_nx σ63) (10 : Int32).toNatClampNeg (some 18) → (am_ar σ109 2500 (some (am_nx σ63)) (11 : Int32)) ∧ ∀ σ113, σ113 = am_saR σ109 (am_nx σ63) (11 : Int32).toNatClampNeg (some 19) → (am_ar σ113 2500 (some (am_nx σ63)) (12 : Int32)) ∧ ∀ σ117, σ117 = am_saR σ113 (am_nx σ63) (12 : Int32).toNatClampNeg (some 20) → ∀ σ120, σ120 = am_sfR σ117 12001 this (some (am_nx σ63)) → c_Rm_init_182 nl Ln xs (d + 1) this σ120 F) : k_Rm_init nl Ln xs (d + 1) this σ F := by
  obtain ⟨j0, j1, j4, j5, j8, j10, j13, j14, j16, j18, j21, j22, j24, j26, j29, j30, j32, j34, j37, j38, j40, j42, j45, j46, j49, j51, j54, j55, j57, j59, j62, j63, j65, j68, j69, j70, j72, j73, j74, j75, j77, j78, j79, j80, j82, j83, j84, j85, j87, j88, j89, j90, j92, j93, j94, j95, j97, j98, j101, j102, j104, j107, j108, j109, j111, j112, j113, j114, j116, j117, j118, j119, j121, j122, j123, j124, j126, j127, j128, j129, j131, j132, j133, j134, j136, j137, j138, j140, j142, j143, j144, j146, j148, j149, j150, j152, j154, j155, j156, j158, j160, j161, j162, j164, j166, j167, j168, j170, j172, j173, j174, j176, j178, j179, -⟩ := P_Rm_init nl Ln xs
  have elo : am_lo 1 [am_ov (some this)] = [some (am_ov (some this))] := by simp only [am_lo, am_in_ov, am_in_int, am_in_long, am_in_nil]; rfl
  unfold k_Rm_init
  rw [elo]
  refine s_aload_n j0 rfl rfl ?_
  refine s_obj j1 rfl (am_r8 rfl) ?_
  refine s_aload_n j4 rfl rfl ?_
  refine s_sipush j5 rfl kc_si_6000 ?_
  refine s_newarray (k := 1000) (m := 6000) j8 rfl rfl (by decide) (by decide) (by decide) (by decide) (fun σ1 e2 e2x e2z => ?_)
  replace h := h σ1 e2 e2x e2z
  obtain ⟨ho3, h⟩ := h
  refine s_pfR j10 rfl ho3 (fun σ4 e5 => ?_)
  replace h := h σ4 e5
  have ek6 : am_kd σ4 = am_kd σ1 := by rw [e5]
  refine s_aload_n j13 rfl rfl ?_
  refine s_ldcI j14 rfl kc_li_500000 ?_
  refine s_newarray (k := 1002) (m := 500000) j16 rfl rfl (by decide) (by decide) (by decide) (by decide) (fun σ7 e8 e8x e8z => ?_)
  replace h := h σ7 e8 e8x e8z
  refine s_pfR j18 rfl (am_is_ext e8x (am_is_kd ek6 ho3)) (fun σ9 e10 => ?_)
  replace h := h σ9 e10
  have ek11 : am_kd σ9 = am_kd σ7 := by rw [e10]
  refine s_aload_n j21 rfl rfl ?_
  refine s_bipush j22 rfl kc_bi_16 ?_
  refine s_newarray (k := 1000) (m := 16) j24 rfl rfl (by decide) (by decide) (by decide) (by decide) (fun σ12 e13 e13x e13z => ?_)
  replace h := h σ12 e13 e13x e13z
  refine s_pfR j26 rfl (am_is_ext e13x (am_is_kd ek11 (am_is_ext e8x (am_is_kd ek6 ho3)))) (fun σ14 e15 => ?_)
  replace h := h σ14 e15
  have ek16 : am_kd σ14 = am_kd σ12 := by rw [e15]
  refine s_aload_n j29 rfl rfl ?_
  refine s_bipush j30 rfl kc_bi_16 ?_
  refine s_newarray (k := 1000) (m := 16) j32 rfl rfl (by decide) (by decide) (by decide) (by decide) (fun σ17 e18 e18x e18z => ?_)
  replace h := h σ17 e18 e18x e18z
  refine s_pfR j34 rfl (am_is_ext e18x (am_is_kd ek16 (am_is_ext e13x (am_is_kd ek11 (am_is_ext e8x (am_is_kd ek6 ho3)))))) (fun σ19 e20 => ?_)
  replace h := h σ19 e20
  have ek21 : am_kd σ19 = am_kd σ17 := by rw [e20]
  refine s_aload_n j37 rfl rfl ?_
  refine s_bipush j38 rfl kc_bi_16 ?_
  refine s_newarray (k := 1001) (m := 16) j40 rfl rfl (by decide) (by decide) (by decide) (by decide) (fun σ22 e23 e23x e23z => ?_)
  replace h := h σ22 e23 e23x e23z
  refine s_pfR j42 rfl (am_is_ext e23x (am_is_kd ek21 (am_is_ext e18x (am_is_kd ek16 (am_is_ext e13x (am_is_kd ek11 (am_is_ext e8x (am_is_kd ek6 ho3)))))))) (fun σ24 e25 => ?_)
  replace h := h σ24 e25
  have ek26 : am_kd σ24 = am_kd σ22 := by rw [e25]
  refine s_aload_n j45 rfl rfl ?_
  refine s_sipush j46 rfl kc_si_200 ?_
  refine s_newarray (k := 1000) (m := 200) j49 rfl rfl (by decide) (by decide) (by decide) (by decide) (fun σ27 e28 e28x e28z => ?_)
  replace h := h σ27 e28 e28x e28z
  refine s_pfR j51 rfl (am_is_ext e28x (am_is_kd ek26 (am_is_ext e23x (am_is_kd ek21 (am_is_ext e18x (am_is_kd ek16 (am_is_ext e13x (am_is_kd ek11 (am_is_ext e8x (am_is_kd ek6 ho3)))))))))) (fun σ29 e30 => ?_)
  replace h := h σ29 e30
  have ek31 : am_kd σ29 = am_kd σ27 := by rw [e30]
  refine s_aload_n j54 rfl rfl ?_
  refine s_bipush j55 rfl kc_bi_6 ?_
  refine s_newarray (k := 1001) (m := 6) j57 rfl rfl (by decide) (by decide) (by decide) (by decide) (fun σ32 e33 e33x e33z => ?_)
  replace h := h σ32 e33 e33x e33z
  refine s_pfR j59 rfl (am_is_ext e33x (am_is_kd ek31 (am_is_ext e28x (am_is_kd ek26 (am_is_ext e23x (am_is_kd ek21 (am_is_ext e18x (am_is_kd ek16 (am_is_ext e13x (am_is_kd ek11 (am_is_ext e8x (am_is_kd ek6 ho3)))))))))))) (fun σ34 e35 => ?_)
  replace h := h σ34 e35
  have ek36 : am_kd σ34 = am_kd σ32 := by rw [e35]
  refine s_aload_n j62 rfl rfl ?_
  refine s_bipush j63 rfl kc_bi_6 ?_
  refine s_anewarray (m := 6) j65 rfl (by decide) (by decide) (by decide) (fun σ37 e38 e38x e38z => ?_)
  replace h := h σ37 e38 e38x e38z
  refine s_dup j68 rfl (am_cov _) ?_
  refine s_iconst j69 rfl kc_ic_0 ?_
  refine s_ldcS j70 rfl ?_
  obtain ⟨ho39, h⟩ := h
  refine s_aastoreS kq2_2500 (by decide) rfl j72 rfl ho39 (fun σ40 e41 => ?_)
  replace h := h σ40 e41
  have ek42 : am_kd σ40 = am_kd σ37 := by rw [e41]
  refine s_dup j73 rfl (am_cov _) ?_
  refine s_iconst j74 rfl kc_ic_1 ?_
  refine s_ldcS j75 rfl ?_
  obtain ⟨ho43, h⟩ := h
  refine s_aastoreS kq2_2500 (by decide) rfl j77 rfl ho43 (fun σ44 e45 => ?_)
  replace h := h σ44 e45
  have ek46 : am_kd σ44 = am_kd σ40 := by rw [e45]
  refine s_dup j78 rfl (am_cov _) ?_
  refine s_iconst j79 rfl kc_ic_2 ?_
  refine s_ldcS j80 rfl ?_
  obtain ⟨ho47, h⟩ := h
  refine s_aastoreS kq2_2500 (by decide) rfl j82 rfl ho47 (fun σ48 e49 => ?_)
  replace h := h σ48 e49
  have ek50 : am_kd σ48 = am_kd σ44 := by rw [e49]
  refine s_dup j83 rfl (am_cov _) ?_
  refine s_iconst j84 rfl kc_ic_3 ?_
  refine s_ldcS j85 rfl ?_
  obtain ⟨ho51, h⟩ := h
  refine s_aastoreS kq2_2500 (by decide) rfl j87 rfl ho51 (fun σ52 e53 => ?_)
  replace h := h σ52 e53
  have ek54 : am_kd σ52 = am_kd σ48 := by rw [e53]
  refine s_dup j88 rfl (am_cov _) ?_
  refine s_iconst j89 rfl kc_ic_4 ?_
  refine s_ldcS j90 rfl ?_
  obtain ⟨ho55, h⟩ := h
  refine s_aastoreS kq2_2500 (by decide) rfl j92 rfl ho55 (fun σ56 e57 => ?_)
  replace h := h σ56 e57
  have ek58 : am_kd σ56 = am_kd σ52 := by rw [e57]
  refine s_dup j93 rfl (am_cov _) ?_
  refine s_iconst j94 rfl kc_ic_5 ?_
  refine s_ldcS j95 rfl ?_
  obtain ⟨ho59, h⟩ := h
  refine s_aastoreS kq2_2500 (by decide) rfl j97 rfl ho59 (fun σ60 e61 => ?_)
  replace h := h σ60 e61
  have ek62 : am_kd σ60 = am_kd σ56 := by rw [e61]
  refine s_pfR j98 rfl (am_is_kd ek62 (am_is_kd ek58 (am_is_kd ek54 (am_is_kd ek50 (am_is_kd ek46 (am_is_kd ek42 (am_is_ext e38x (am_is_kd ek36 (am_is_ext e33x (am_is_kd ek31 (am_is_ext e28x (am_is_kd ek26 (am_is_ext e23x (am_is_kd ek21 (am_is_ext e18x (am_is_kd ek16 (am_is_ext e13x (am_is_kd ek11 (am_is_ext e8x (am_is_kd ek6 ho3)))))))))))))))))))) (fun σ63 e64 => ?_)
  replace h := h σ63 e64
  have ek65 : am_kd σ63 = am_kd σ60 := by rw [e64]
  refine s_aload_n j101 rfl rfl ?_
  refine s_bipush j102 rfl kc_bi_13 ?_
  refine s_anewarray (m := 13) j104 rfl (by decide) (by decide) (by decide) (fun σ66 e67 e67x e67z => ?_)
  replace h := h σ66 e67 e67x e67z
  refine s_dup j107 rfl (am_cov _) ?_
  refine s_iconst j108 rfl kc_ic_0 ?_
  refine s_ldcS j109 rfl ?_
  obtain ⟨ho68, h⟩ := h
  refine s_aastoreS kq2_2500 (by decide) rfl j111 rfl ho68 (fun σ69 e70 => ?_)
  replace h := h σ69 e70
  have ek71 : am_kd σ69 = am_kd σ66 := by rw [e70]
  refine s_dup j112 rfl (am_cov _) ?_
  refine s_iconst j113 rfl kc_ic_1 ?_
  refine s_ldcS j114 rfl ?_
  obtain ⟨ho72, h⟩ := h
  refine s_aastoreS kq2_2500 (by decide) rfl j116 rfl ho72 (fun σ73 e74 => ?_)
  replace h := h σ73 e74
  have ek75 : am_kd σ73 = am_kd σ69 := by rw [e74]
  refine s_dup j117 rfl (am_cov _) ?_
  refine s_iconst j118 rfl kc_ic_2 ?_
  refine s_ldcS j119 rfl ?_
  obtain ⟨ho76, h⟩ := h
  refine s_aastoreS kq2_2500 (by decide) rfl j121 rfl ho76 (fun σ77 e78 => ?_)
  replace h := h σ77 e78
  have ek79 : am_kd σ77 = am_kd σ73 := by rw [e78]
  refine s_dup j122 rfl (am_cov _) ?_
  refine s_iconst j123 rfl kc_ic_3 ?_
  refine s_ldcS j124 rfl ?_
  obtain ⟨ho80, h⟩ := h
  refine s_aastoreS kq2_2500 (by decide) rfl j126 rfl ho80 (fun σ81 e82 => ?_)
  replace h := h σ81 e82
  have ek83 : am_kd σ81 = am_kd σ77 := by rw [e82]
  refine s_dup j127 rfl (am_cov _) ?_
  refine s_iconst j128 rfl kc_ic_4 ?_
  refine s_ldcS j129 rfl ?_
  obtain ⟨ho84, h⟩ := h
  refine s_aastoreS kq2_2500 (by decide) rfl j131 rfl ho84 (fun σ85 e86 => ?_)
  replace h := h σ85 e86
  have ek87 : am_kd σ85 = am_kd σ81 := by rw [e86]
  refine s_dup j132 rfl (am_cov _) ?_
  refine s_iconst j133 rfl kc_ic_5 ?_
  refine s_ldcS j134 rfl ?_
  obtain ⟨ho88, h⟩ := h
  refine s_aastoreS kq2_2500 (by decide) rfl j136 rfl ho88 (fun σ89 e90 => ?_)
  replace h := h σ89 e90
  have ek91 : am_kd σ89 = am_kd σ85 := by rw [e90]
  refine s_dup j137 rfl (am_cov _) ?_
  refine s_bipush j138 rfl kc_bi_6 ?_
  refine s_ldcS j140 rfl ?_
  obtain ⟨ho92, h⟩ := h
  refine s_aastoreS kq2_2500 (by decide) rfl j142 rfl ho92 (fun σ93 e94 => ?_)
  replace h := h σ93 e94
  have ek95 : am_kd σ93 = am_kd σ89 := by rw [e94]
  refine s_dup j143 rfl (am_cov _) ?_
  refine s_bipush j144 rfl kc_bi_7 ?_
  refine s_ldcS j146 rfl ?_
  obtain ⟨ho96, h⟩ := h
  refine s_aastoreS kq2_2500 (by decide) rfl j148 rfl ho96 (fun σ97 e98 => ?_)
  replace h := h σ97 e98
  have ek99 : am_kd σ97 = am_kd σ93 := by rw [e98]
  refine s_dup j149 rfl (am_cov _) ?_
  refine s_bipush j150 rfl kc_bi_8 ?_
  refine s_ldcS j152 rfl ?_
  obtain ⟨ho100, h⟩ := h
  refine s_aastoreS kq2_2500 (by decide) rfl j154 rfl ho100 (fun σ101 e102 => ?_)
  replace h := h σ101 e102
  have ek103 : am_kd σ101 = am_kd σ97 := by rw [e102]
  refine s_dup j155 rfl (am_cov _) ?_
  refine s_bipush j156 rfl kc_bi_9 ?_
  refine s_ldcS j158 rfl ?_
  obtain ⟨ho104, h⟩ := h
  refine s_aastoreS kq2_2500 (by decide) rfl j160 rfl ho104 (fun σ105 e106 => ?_)
  replace h := h σ105 e106
  have ek107 : am_kd σ105 = am_kd σ101 := by rw [e106]
  refine s_dup j161 rfl (am_cov _) ?_
  refine s_bipush j162 rfl kc_bi_10 ?_
  refine s_ldcS j164 rfl ?_
  obtain ⟨ho108, h⟩ := h
  refine s_aastoreS kq2_2500 (by decide) rfl j166 rfl ho108 (fun σ109 e110 => ?_)
  replace h := h σ109 e110
  have ek111 : am_kd σ109 = am_kd σ105 := by rw [e110]
  refine s_dup j167 rfl (am_cov _) ?_
  refine s_bipush j168 rfl kc_bi_11 ?_
  refine s_ldcS j170 rfl ?_
  obtain ⟨ho112, h⟩ := h
  refine s_aastoreS kq2_2500 (by decide) rfl j172 rfl ho112 (fun σ113 e114 => ?_)
  replace h := h σ113 e114
  have ek115 : am_kd σ113 = am_kd σ109 := by rw [e114]
  refine s_dup j173 rfl (am_cov _) ?_
  refine s_bipush j174 rfl kc_bi_12 ?_
  refine s_ldcS j176 rfl ?_
  obtain ⟨ho116, h⟩ := h
  refine s_aastoreS kq2_2500 (by decide) rfl j178 rfl ho116 (fun σ117 e118 => ?_)
  replace h := h σ117 e118
  have ek119 : am_kd σ117 = am_kd σ113 := by rw [e118]
  refine s_pfR j179 rfl (am_is_kd ek119 (am_is_kd ek115 (am_is_kd ek111 (am_is_kd ek107 (am_is_kd ek103 (am_is_kd ek99 (am_is_kd ek95 (am_is_kd ek91 (am_is_kd ek87 (am_is_kd ek83 (am_is_kd ek79 (am_is_kd ek75 (am_is_kd ek71 (am_is_ext e67x (am_is_kd ek65 (am_is_kd ek62 (am_is_kd ek58 (am_is_kd ek54 (am_is_kd ek50 (am_is_kd ek46 (am_is_kd ek42 (am_is_ext e38x (am_is_kd ek36 (am_is_ext e33x (am_is_kd ek31 (am_is_ext e28x (am_is_kd ek26 (am_is_ext e23x (am_is_kd ek21 (am_is_ext e18x (am_is_kd ek16 (am_is_ext e13x (am_is_kd ek11 (am_is_ext e8x (am_is_kd ek6 ho3))))))))))))))))))))))))))))))))))) (fun σ120 e121 => ?_)
  replace h := h σ120 e121
  have ek122 : am_kd σ120 = am_kd σ117 := by rw [e121]
  exact h
theorem P_Rm_init_182 (nl : Bool) (Ln : Nat) (xs : Nat → Int32) : am_Jl (TT nl Ln xs) 197 [(182, .aload_n 0, 183, []), (183, .new 83, 186, [2, 13, 100]), (186, .dup, 187, []), (187, .aload_n 0, 188, []), (188, .invokespecial 85, 191, [11, 198, 14, 2, 2]), (191, .putfield 88, 194, [9, 12, 16, 2]), (194, .aload_n 0, 195, []), (195, .new 83, 198, [2, 13, 100]), (198, .dup, 199, []), (199, .aload_n 0, 200, []), (200, .invokespecial 85, 203, [11, 198, 14, 2, 2]), (203, .putfield 92, 206, [9, 12, 17, 2]), (206, .return_, 207, [0])] := dk_ck (by decide +kernel)
set_option maxRecDepth 4096 in
theorem w_Rm_init_182 {nl : Bool} {Ln : Nat} {xs : Nat → Int32} {d : Nat} {this : Nat} {σ : am_S} {F : am_S → Prop} (h : ∀ σ1, σ1 = am_new σ 14 0 100 → am_ext σ σ1 → am_fz σ1 (am_nx σ) → k_Ro_init nl Ln xs d (am_nx σ) (some this) σ1 (fun σ3 => am_ext σ1 σ3 → (am_is σ3 (some this) 12) ∧ ∀ σ6, σ6 = am_sfR σ3 12016 this (some (am_nx σ)) → ∀ σ9, σ9 = am_new σ6 14 0 100 → am_ext σ6 σ9 → am_fz σ9 (am_nx σ6) → k_Ro_init nl Ln xs d (am_nx σ6) (some this) σ9 (fun σ11 => am_ext σ9 σ11 → ∀ σ13, σ13 = am_sfR σ11 12017 this (some (am_nx σ6)) → F σ13))) : c_Rm_init_182 nl Ln xs (d + 1) this σ F := by
  obtain ⟨j182, j183, j186, j187, j188, j191, j194, j195, j198, j199, j200, j203, j206, -⟩ := P_Rm_init_182 nl Ln xs
  unfold c_Rm_init_182
  refine s_aload_n j182 rfl rfl ?_
  refine s_new j183 rfl (fun σ1 e2 e2x e2z => ?_)
  replace h := h σ1 e2 e2x e2z
  refine s_dup j186 rfl (am_cov _) ?_
  refine s_aload_n j187 rfl rfl ?_
  refine s_spec j188 rfl rfl rfl rfl (by decide) (in_Ro_init _ _) (am_r8 rfl) (am_bV h (fun σ3 h hx3 => ?_))
  replace h := h hx3
  obtain ⟨ho5, h⟩ := h
  refine s_pfR j191 rfl ho5 (fun σ6 e7 => ?_)
  replace h := h σ6 e7
  have ek8 : am_kd σ6 = am_kd σ3 := by rw [e7]
  refine s_aload_n j194 rfl rfl ?_
  refine s_new j195 rfl (fun σ9 e10 e10x e10z => ?_)
  replace h := h σ9 e10 e10x e10z
  refine s_dup j198 rfl (am_cov _) ?_
  refine s_aload_n j199 rfl rfl ?_
  refine s_spec j200 rfl rfl rfl rfl (by decide) (in_Ro_init _ _) (am_r8 rfl) (am_bV h (fun σ11 h hx11 => ?_))
  replace h := h hx11
  refine s_pfR j203 rfl (am_is_ext hx11 (am_is_ext e10x (am_is_kd ek8 ho5))) (fun σ13 e14 => ?_)
  replace h := h σ13 e14
  have ek15 : am_kd σ13 = am_kd σ11 := by rw [e14]
  exact s_retV j206 rfl h
theorem P_Ro_init (nl : Bool) (Ln : Nat) (xs : Nat → Int32) : am_Jl (TT nl Ln xs) 198 [(0, .aload_n 0, 1, []), (1, .aload_n 1, 2, []), (2, .putfield 3, 5, [9, 13, 99, 2]), (5, .aload_n 0, 6, []), (6, .invokespecial 9, 9, [13]), (9, .aload_n 0, 10, []), (10, .bipush 100, 12, []), (12, .newarray .int, 14, []), (14, .putfield 15, 17, [9, 13, 3, 2]), (17, .aload_n 0, 18, []), (18, .bipush 100, 20, []), (20, .newarray .int, 22, []), (22, .putfield 19, 25, [9, 13, 4, 2]), (25, .aload_n 0, 26, []), (26, .bipush 100, 28, []), (28, .newarray .int, 30, []), (30, .putfield 22, 33, [9, 13, 5, 2]), (33, .aload_n 0, 34, []), (34, .bipush 60, 36, []), (36, .newarray .int, 38, []), (38, .putfield 25, 41, [9, 13, 7, 2]), (41, .aload_n 0, 42, []), (42, .bipush 60, 44, []), (44, .newarray .int, 46, []), (46, .putfield 28, 49, [9, 13, 8, 2]), (49, .aload_n 0, 50, []), (50, .bipush 60, 52, []), (52, .newarray .int, 54, []), (54, .putfield 31, 57, [9, 13, 9, 2]), (57, .aload_n 0, 58, []), (58, .sipush 200, 61, []), (61, .newarray .int, 63, []), (63, .putfield 34, 66, [9, 13, 11, 2]), (66, .aload_n 0, 67, []), (67, .sipush 200, 70, []), (70, .newarray .int, 72, []), (72, .putfield 37, 75, [9, 13, 12, 2]), (75, .aload_n 0, 76, []), (76, .sipush 200, 79, []), (79, .newarray .int, 81, []), (81, .putfield 40, 84, [9, 13, 13, 2]), (84, .aload_n 0, 85, []), (85, .sipush 200, 88, []), (88, .newarray .int, 90, []), (90, .putfield 43, 93, [9, 13, 14, 2]), (93, .aload_n 0, 94, []), (94, .sipush 300, 97, []), (97, .newarray .int, 99, []), (99, .putfield 46, 102, [9, 13, 16, 2]), (102, .aload_n 0, 103, []), (103, .sipush 300, 106, []), (106, .newarray .int, 108, []), (108, .putfield 49, 111, [9, 13, 17, 2]), (111, .aload_n 0, 112, []), (112, .sipush 300, 115, []), (115, .newarray .long, 117, []), (117, .putfield 52, 120, [9, 13, 18, 2]), (120, .aload_n 0, 121, []), (121, .sipush 300, 124, []), (124, .newarray .int, 126, []), (126, .putfield 56, 129, [9, 13, 19, 2])] := dk_ck (by decide +kernel)
set_option maxRecDepth 4096 in
theorem w_Ro_init {nl : Bool} {Ln : Nat} {xs : Nat → Int32} {d : Nat} {this : Nat} {p0 : Option Nat} {σ : am_S} {F : am_S → Prop} (h : (am_is σ (some this) 13) ∧ ∀ σ2, σ2 = am_sfR σ 13099 this p0 → ∀ σ5, σ5 = am_new σ2 1000 100 100 → am_ext σ2 σ5 → am_fz σ5 (am_nx σ2) → ∀ σ7, σ7 = am_sfR σ5 13003 this (some (am_nx σ2)) → ∀ σ10, σ10 = am_new σ7 1000 100 100 → am_ext σ7 σ10 → am_fz σ10 (am_nx σ7) → ∀ σ12, σ12 = am_sfR σ10 13004 this (some (am_nx σ7)) → ∀ σ15, σ15 = am_new σ12 1000 100 100 → am_ext σ12 σ15 → am_fz σ15 (am_nx σ12) → ∀ σ17, σ17 = am_sfR σ15 13005 this (some (am_nx σ12)) → ∀ σ20, σ20 = am_new σ17 1000 60 60 → am_ext σ17 σ20 → am_fz σ20 (am_nx σ17) → ∀ σ22, σ22 = am_sfR σ20 13007 this (some (am_nx σ17)) → ∀ σ25, σ25 = am_new σ22 1000 60 60 → am_ext σ22 σ25 → am_fz σ25 (am_nx σ22) → ∀ σ27, σ27 = am_sfR σ25 13008 this (some (am_nx σ22)) → ∀ σ30, σ30 = am_new σ27 1000 60 60 → am_ext σ27 σ30 → am_fz σ30 (am_nx σ27) → ∀ σ32, σ32 = am_sfR σ30 13009 this (some (am_nx σ27)) → ∀ σ35, σ35 = am_new σ32 1000 200 200 → am_ext σ32 σ35 → am_fz σ35 (am_nx σ32) → ∀ σ37, σ37 = am_sfR σ35 13011 this (some (am_nx σ32)) → ∀ σ40, σ40 = am_new σ37 1000 200 200 → am_ext σ37 σ40 → am_fz σ40 (am_nx σ37) → ∀ σ42, σ42 = am_sfR σ40 13012 this (some (am_nx σ37)) → ∀ σ45, σ45 = am_new σ42 1000 200 200 → am_ext σ42 σ45 → am_fz σ45 (am_nx σ42) → ∀ σ47, σ47 = am_sfR σ45 13013 this (some (am_nx σ42)) → ∀ σ50, σ50 = am_new σ47 1000 200 200 → am_ext σ47 σ50 → am_fz σ50 (am_nx σ47) → ∀ σ52, σ52 = am_sfR σ50 13014 this (some (am_nx σ47)) → ∀ σ55, σ55 = am_new σ52 1000 300 300 → am_ext σ52 σ55 → am_fz σ55 (am_nx σ52) → ∀ σ57, σ57 = am_sfR σ55 13016 this (some (am_nx σ52)) → ∀ σ60, σ60 = am_new σ57 1000 300 300 → am_ext σ57 σ60 → am_fz σ60 (am_nx σ57) → ∀ σ62, σ62 = am_sfR σ60 13017 this (some (am_nx σ57)) → ∀ σ65, σ65 = am_new σ62 1001 300 300 → am_ext σ62 σ65 → am_fz σ65 (am_nx σ62) → ∀ σ67, σ67 = am_sfR σ65 13018 this (some (am_nx σ62)) → ∀ σ70, σ70 = am_new σ67 1000 300 300 → am_ext σ67 σ70 → am_fz σ70 (am_nx σ67) → ∀ σ72, σ72 = am_sfR σ70 13019 this (some (am_nx σ67)) → c_Ro_init_129 nl Ln xs (d + 1) this p0 σ72 F) : k_Ro_init nl Ln xs (d + 1) this p0 σ F := by
  obtain ⟨j0, j1, j2, j5, j6, j9, j10, j12, j14, j17, j18, j20, j22, j25, j26, j28, j30, j33, j34, j36, j38, j41, j42, j44, j46, j49, j50, j52, j54, j57, j58, j61, j63, j66, j67, j70, j72, j75, j76, j79, j81, j84, j85, j88, j90, j93, j94, j97, j99, j102, j103, j106, j108, j111, j112, j115, j117, j120, j121, j124, j126, -⟩ := P_Ro_init nl Ln xs
  have elo : am_lo 2 [am_ov (some this), am_ov p0] = [some (am_ov (some this)), some (am_ov p0)] := by simp only [am_lo, am_in_ov, am_in_int, am_in_long, am_in_nil]; rfl
  unfold k_Ro_init
  rw [elo]
  refine s_aload_n j0 rfl rfl ?_
  refine s_aload_n j1 rfl rfl ?_
  obtain ⟨ho1, h⟩ := h
  refine s_pfR j2 rfl ho1 (fun σ2 e3 => ?_)
  replace h := h σ2 e3
  have ek4 : am_kd σ2 = am_kd σ := by rw [e3]
  refine s_aload_n j5 rfl rfl ?_
  refine s_obj j6 rfl (am_r8 rfl) ?_
  refine s_aload_n j9 rfl rfl ?_
  refine s_bipush j10 rfl kc_bi_100 ?_
  refine s_newarray (k := 1000) (m := 100) j12 rfl rfl (by decide) (by decide) (by decide) (by decide) (fun σ5 e6 e6x e6z => ?_)
  replace h := h σ5 e6 e6x e6z
  refine s_pfR j14 rfl (am_is_ext e6x (am_is_kd ek4 ho1)) (fun σ7 e8 => ?_)
  replace h := h σ7 e8
  have ek9 : am_kd σ7 = am_kd σ5 := by rw [e8]
  refine s_aload_n j17 rfl rfl ?_
  refine s_bipush j18 rfl kc_bi_100 ?_
  refine s_newarray (k := 1000) (m := 100) j20 rfl rfl (by decide) (by decide) (by decide) (by decide) (fun σ10 e11 e11x e11z => ?_)
  replace h := h σ10 e11 e11x e11z
  refine s_pfR j22 rfl (am_is_ext e11x (am_is_kd ek9 (am_is_ext e6x (am_is_kd ek4 ho1)))) (fun σ12 e13 => ?_)
  replace h := h σ12 e13
  have ek14 : am_kd σ12 = am_kd σ10 := by rw [e13]
  refine s_aload_n j25 rfl rfl ?_
  refine s_bipush j26 rfl kc_bi_100 ?_
  refine s_newarray (k := 1000) (m := 100) j28 rfl rfl (by decide) (by decide) (by decide) (by decide) (fun σ15 e16 e16x e16z => ?_)
  replace h := h σ15 e16 e16x e16z
  refine s_pfR j30 rfl (am_is_ext e16x (am_is_kd ek14 (am_is_ext e11x (am_is_kd ek9 (am_is_ext e6x (am_is_kd ek4 ho1)))))) (fun σ17 e18 => ?_)
  replace h := h σ17 e18
  have ek19 : am_kd σ17 = am_kd σ15 := by rw [e18]
  refine s_aload_n j33 rfl rfl ?_
  refine s_bipush j34 rfl kc_bi_60 ?_
  refine s_newarray (k := 1000) (m := 60) j36 rfl rfl (by decide) (by decide) (by decide) (by decide) (fun σ20 e21 e21x e21z => ?_)
  replace h := h σ20 e21 e21x e21z
  refine s_pfR j38 rfl (am_is_ext e21x (am_is_kd ek19 (am_is_ext e16x (am_is_kd ek14 (am_is_ext e11x (am_is_kd ek9 (am_is_ext e6x (am_is_kd ek4 ho1)))))))) (fun σ22 e23 => ?_)
  replace h := h σ22 e23
  have ek24 : am_kd σ22 = am_kd σ20 := by rw [e23]
  refine s_aload_n j41 rfl rfl ?_
  refine s_bipush j42 rfl kc_bi_60 ?_
  refine s_newarray (k := 1000) (m := 60) j44 rfl rfl (by decide) (by decide) (by decide) (by decide) (fun σ25 e26 e26x e26z => ?_)
  replace h := h σ25 e26 e26x e26z
  refine s_pfR j46 rfl (am_is_ext e26x (am_is_kd ek24 (am_is_ext e21x (am_is_kd ek19 (am_is_ext e16x (am_is_kd ek14 (am_is_ext e11x (am_is_kd ek9 (am_is_ext e6x (am_is_kd ek4 ho1)))))))))) (fun σ27 e28 => ?_)
  replace h := h σ27 e28
  have ek29 : am_kd σ27 = am_kd σ25 := by rw [e28]
  refine s_aload_n j49 rfl rfl ?_
  refine s_bipush j50 rfl kc_bi_60 ?_
  refine s_newarray (k := 1000) (m := 60) j52 rfl rfl (by decide) (by decide) (by decide) (by decide) (fun σ30 e31 e31x e31z => ?_)
  replace h := h σ30 e31 e31x e31z
  refine s_pfR j54 rfl (am_is_ext e31x (am_is_kd ek29 (am_is_ext e26x (am_is_kd ek24 (am_is_ext e21x (am_is_kd ek19 (am_is_ext e16x (am_is_kd ek14 (am_is_ext e11x (am_is_kd ek9 (am_is_ext e6x (am_is_kd ek4 ho1)))))))))))) (fun σ32 e33 => ?_)
  replace h := h σ32 e33
  have ek34 : am_kd σ32 = am_kd σ30 := by rw [e33]
  refine s_aload_n j57 rfl rfl ?_
  refine s_sipush j58 rfl kc_si_200 ?_
  refine s_newarray (k := 1000) (m := 200) j61 rfl rfl (by decide) (by decide) (by decide) (by decide) (fun σ35 e36 e36x e36z => ?_)
  replace h := h σ35 e36 e36x e36z
  refine s_pfR j63 rfl (am_is_ext e36x (am_is_kd ek34 (am_is_ext e31x (am_is_kd ek29 (am_is_ext e26x (am_is_kd ek24 (am_is_ext e21x (am_is_kd ek19 (am_is_ext e16x (am_is_kd ek14 (am_is_ext e11x (am_is_kd ek9 (am_is_ext e6x (am_is_kd ek4 ho1)))))))))))))) (fun σ37 e38 => ?_)
  replace h := h σ37 e38
  have ek39 : am_kd σ37 = am_kd σ35 := by rw [e38]
  refine s_aload_n j66 rfl rfl ?_
  refine s_sipush j67 rfl kc_si_200 ?_
  refine s_newarray (k := 1000) (m := 200) j70 rfl rfl (by decide) (by decide) (by decide) (by decide) (fun σ40 e41 e41x e41z => ?_)
  replace h := h σ40 e41 e41x e41z
  refine s_pfR j72 rfl (am_is_ext e41x (am_is_kd ek39 (am_is_ext e36x (am_is_kd ek34 (am_is_ext e31x (am_is_kd ek29 (am_is_ext e26x (am_is_kd ek24 (am_is_ext e21x (am_is_kd ek19 (am_is_ext e16x (am_is_kd ek14 (am_is_ext e11x (am_is_kd ek9 (am_is_ext e6x (am_is_kd ek4 ho1)))))))))))))))) (fun σ42 e43 => ?_)
  replace h := h σ42 e43
  have ek44 : am_kd σ42 = am_kd σ40 := by rw [e43]
  refine s_aload_n j75 rfl rfl ?_
  refine s_sipush j76 rfl kc_si_200 ?_
  refine s_newarray (k := 1000) (m := 200) j79 rfl rfl (by decide) (by decide) (by decide) (by decide) (fun σ45 e46 e46x e46z => ?_)
  replace h := h σ45 e46 e46x e46z
  refine s_pfR j81 rfl (am_is_ext e46x (am_is_kd ek44 (am_is_ext e41x (am_is_kd ek39 (am_is_ext e36x (am_is_kd ek34 (am_is_ext e31x (am_is_kd ek29 (am_is_ext e26x (am_is_kd ek24 (am_is_ext e21x (am_is_kd ek19 (am_is_ext e16x (am_is_kd ek14 (am_is_ext e11x (am_is_kd ek9 (am_is_ext e6x (am_is_kd ek4 ho1)))))))))))))))))) (fun σ47 e48 => ?_)
  replace h := h σ47 e48
  have ek49 : am_kd σ47 = am_kd σ45 := by rw [e48]
  refine s_aload_n j84 rfl rfl ?_
  refine s_sipush j85 rfl kc_si_200 ?_
  refine s_newarray (k := 1000) (m := 200) j88 rfl rfl (by decide) (by decide) (by decide) (by decide) (fun σ50 e51 e51x e51z => ?_)
  replace h := h σ50 e51 e51x e51z
  refine s_pfR j90 rfl (am_is_ext e51x (am_is_kd ek49 (am_is_ext e46x (am_is_kd ek44 (am_is_ext e41x (am_is_kd ek39 (am_is_ext e36x (am_is_kd ek34 (am_is_ext e31x (am_is_kd ek29 (am_is_ext e26x (am_is_kd ek24 (am_is_ext e21x (am_is_kd ek19 (am_is_ext e16x (am_is_kd ek14 (am_is_ext e11x (am_is_kd ek9 (am_is_ext e6x (am_is_kd ek4 ho1)))))))))))))))))))) (fun σ52 e53 => ?_)
  replace h := h σ52 e53
  have ek54 : am_kd σ52 = am_kd σ50 := by rw [e53]
  refine s_aload_n j93 rfl rfl ?_
  refine s_sipush j94 rfl kc_si_300 ?_
  refine s_newarray (k := 1000) (m := 300) j97 rfl rfl (by decide) (by decide) (by decide) (by decide) (fun σ55 e56 e56x e56z => ?_)
  replace h := h σ55 e56 e56x e56z
  refine s_pfR j99 rfl (am_is_ext e56x (am_is_kd ek54 (am_is_ext e51x (am_is_kd ek49 (am_is_ext e46x (am_is_kd ek44 (am_is_ext e41x (am_is_kd ek39 (am_is_ext e36x (am_is_kd ek34 (am_is_ext e31x (am_is_kd ek29 (am_is_ext e26x (am_is_kd ek24 (am_is_ext e21x (am_is_kd ek19 (am_is_ext e16x (am_is_kd ek14 (am_is_ext e11x (am_is_kd ek9 (am_is_ext e6x (am_is_kd ek4 ho1)))))))))))))))))))))) (fun σ57 e58 => ?_)
  replace h := h σ57 e58
  have ek59 : am_kd σ57 = am_kd σ55 := by rw [e58]
  refine s_aload_n j102 rfl rfl ?_
  refine s_sipush j103 rfl kc_si_300 ?_
  refine s_newarray (k := 1000) (m := 300) j106 rfl rfl (by decide) (by decide) (by decide) (by decide) (fun σ60 e61 e61x e61z => ?_)
  replace h := h σ60 e61 e61x e61z
  refine s_pfR j108 rfl (am_is_ext e61x (am_is_kd ek59 (am_is_ext e56x (am_is_kd ek54 (am_is_ext e51x (am_is_kd ek49 (am_is_ext e46x (am_is_kd ek44 (am_is_ext e41x (am_is_kd ek39 (am_is_ext e36x (am_is_kd ek34 (am_is_ext e31x (am_is_kd ek29 (am_is_ext e26x (am_is_kd ek24 (am_is_ext e21x (am_is_kd ek19 (am_is_ext e16x (am_is_kd ek14 (am_is_ext e11x (am_is_kd ek9 (am_is_ext e6x (am_is_kd ek4 ho1)))))))))))))))))))))))) (fun σ62 e63 => ?_)
  replace h := h σ62 e63
  have ek64 : am_kd σ62 = am_kd σ60 := by rw [e63]
  refine s_aload_n j111 rfl rfl ?_
  refine s_sipush j112 rfl kc_si_300 ?_
  refine s_newarray (k := 1001) (m := 300) j115 rfl rfl (by decide) (by decide) (by decide) (by decide) (fun σ65 e66 e66x e66z => ?_)
  replace h := h σ65 e66 e66x e66z
  refine s_pfR j117 rfl (am_is_ext e66x (am_is_kd ek64 (am_is_ext e61x (am_is_kd ek59 (am_is_ext e56x (am_is_kd ek54 (am_is_ext e51x (am_is_kd ek49 (am_is_ext e46x (am_is_kd ek44 (am_is_ext e41x (am_is_kd ek39 (am_is_ext e36x (am_is_kd ek34 (am_is_ext e31x (am_is_kd ek29 (am_is_ext e26x (am_is_kd ek24 (am_is_ext e21x (am_is_kd ek19 (am_is_ext e16x (am_is_kd ek14 (am_is_ext e11x (am_is_kd ek9 (am_is_ext e6x (am_is_kd ek4 ho1)))))))))))))))))))))))))) (fun σ67 e68 => ?_)
  replace h := h σ67 e68
  have ek69 : am_kd σ67 = am_kd σ65 := by rw [e68]
  refine s_aload_n j120 rfl rfl ?_
  refine s_sipush j121 rfl kc_si_300 ?_
  refine s_newarray (k := 1000) (m := 300) j124 rfl rfl (by decide) (by decide) (by decide) (by decide) (fun σ70 e71 e71x e71z => ?_)
  replace h := h σ70 e71 e71x e71z
  refine s_pfR j126 rfl (am_is_ext e71x (am_is_kd ek69 (am_is_ext e66x (am_is_kd ek64 (am_is_ext e61x (am_is_kd ek59 (am_is_ext e56x (am_is_kd ek54 (am_is_ext e51x (am_is_kd ek49 (am_is_ext e46x (am_is_kd ek44 (am_is_ext e41x (am_is_kd ek39 (am_is_ext e36x (am_is_kd ek34 (am_is_ext e31x (am_is_kd ek29 (am_is_ext e26x (am_is_kd ek24 (am_is_ext e21x (am_is_kd ek19 (am_is_ext e16x (am_is_kd ek14 (am_is_ext e11x (am_is_kd ek9 (am_is_ext e6x (am_is_kd ek4 ho1)))))))))))))))))))))))))))) (fun σ72 e73 => ?_)
  replace h := h σ72 e73
  have ek74 : am_kd σ72 = am_kd σ70 := by rw [e73]
  exact h
theorem P_Ro_init_129 (nl : Bool) (Ln : Nat) (xs : Nat → Int32) : am_Jl (TT nl Ln xs) 198 [(129, .aload_n 0, 130, []), (130, .sipush 150, 133, []), (133, .newarray .int, 135, []), (135, .putfield 59, 138, [9, 13, 21, 2]), (138, .aload_n 0, 139, []), (139, .sipush 150, 142, []), (142, .newarray .int, 144, []), (144, .putfield 62, 147, [9, 13, 22, 2]), (147, .aload_n 0, 148, []), (148, .sipush 150, 151, []), (151, .newarray .int, 153, []), (153, .putfield 65, 156, [9, 13, 23, 2]), (156, .aload_n 0, 157, []), (157, .sipush 150, 160, []), (160, .newarray .int, 162, []), (162, .putfield 68, 165, [9, 13, 25, 2]), (165, .aload_n 0, 166, []), (166, .sipush 150, 169, []), (169, .newarray .int, 171, []), (171, .putfield 71, 174, [9, 13, 26, 2]), (174, .aload_n 0, 175, []), (175, .sipush 151, 178, []), (178, .newarray .int, 180, []), (180, .putfield 74, 183, [9, 13, 27, 2]), (183, .aload_n 0, 184, []), (184, .sipush 4560, 187, []), (187, .newarray .int, 189, []), (189, .putfield 77, 192, [9, 13, 28, 2]), (192, .aload_n 0, 193, []), (193, .sipush 4560, 196, []), (196, .newarray .int, 198, []), (198, .putfield 80, 201, [9, 13, 29, 2]), (201, .aload_n 0, 202, []), (202, .sipush 4560, 205, []), (205, .newarray .int, 207, []), (207, .putfield 83, 210, [9, 13, 30, 2]), (210, .aload_n 0, 211, []), (211, .sipush 30400, 214, []), (214, .newarray .int, 216, []), (216, .putfield 86, 219, [9, 13, 32, 2]), (219, .aload_n 0, 220, []), (220, .sipush 30400, 223, []), (223, .newarray .int, 225, []), (225, .putfield 89, 228, [9, 13, 33, 2]), (228, .aload_n 0, 229, []), (229, .sipush 30400, 232, []), (232, .newarray .int, 234, []), (234, .putfield 92, 237, [9, 13, 34, 2]), (237, .aload_n 0, 238, []), (238, .sipush 200, 241, []), (241, .newarray .int, 243, []), (243, .putfield 95, 246, [9, 13, 36, 2]), (246, .aload_n 0, 247, []), (247, .sipush 200, 250, []), (250, .newarray .int, 252, []), (252, .putfield 98, 255, [9, 13, 37, 2]), (255, .aload_n 0, 256, []), (256, .sipush 200, 259, []), (259, .newarray .int, 261, []), (261, .putfield 101, 264, [9, 13, 38, 2])] := dk_ck (by decide +kernel)
set_option maxRecDepth 4096 in
theorem w_Ro_init_129 {nl : Bool} {Ln : Nat} {xs : Nat → Int32} {d : Nat} {this : Nat} {x1 : Option Nat} {σ : am_S} {F : am_S → Prop} (h : ∀ σ1, σ1 = am_new σ 1000 150 150 → am_ext σ σ1 → am_fz σ1 (am_nx σ) → (am_is σ1 (some this) 13) ∧ ∀ σ4, σ4 = am_sfR σ1 13021 this (some (am_nx σ)) → ∀ σ7, σ7 = am_new σ4 1000 150 150 → am_ext σ4 σ7 → am_fz σ7 (am_nx σ4) → ∀ σ9, σ9 = am_sfR σ7 13022 this (some (am_nx σ4)) → ∀ σ12, σ12 = am_new σ9 1000 150 150 → am_ext σ9 σ12 → am_fz σ12 (am_nx σ9) → ∀ σ14, σ14 = am_sfR σ12 13023 this (some (am_nx σ9)) → ∀ σ17, σ17 = am_new σ14 1000 150 150 → am_ext σ14 σ17 → am_fz σ17 (am_nx σ14) → ∀ σ19, σ19 = am_sfR σ17 13025 this (some (am_nx σ14)) → ∀ σ22, σ22 = am_new σ19 1000 150 150 → am_ext σ19 σ22 → am_fz σ22 (am_nx σ19) → ∀ σ24, σ24 = am_sfR σ22 13026 this (some (am_nx σ19)) → ∀ σ27, σ27 = am_new σ24 1000 151 151 → am_ext σ24 σ27 → am_fz σ27 (am_nx σ24) → ∀ σ29, σ29 = am_sfR σ27 13027 this (some (am_nx σ24)) → ∀ σ32, σ32 = am_new σ29 1000 4560 4560 → am_ext σ29 σ32 → am_fz σ32 (am_nx σ29) → ∀ σ34, σ34 = am_sfR σ32 13028 this (some (am_nx σ29)) → ∀ σ37, σ37 = am_new σ34 1000 4560 4560 → am_ext σ34 σ37 → am_fz σ37 (am_nx σ34) → ∀ σ39, σ39 = am_sfR σ37 13029 this (some (am_nx σ34)) → ∀ σ42, σ42 = am_new σ39 1000 4560 4560 → am_ext σ39 σ42 → am_fz σ42 (am_nx σ39) → ∀ σ44, σ44 = am_sfR σ42 13030 this (some (am_nx σ39)) → ∀ σ47, σ47 = am_new σ44 1000 30400 30400 → am_ext σ44 σ47 → am_fz σ47 (am_nx σ44) → ∀ σ49, σ49 = am_sfR σ47 13032 this (some (am_nx σ44)) → ∀ σ52, σ52 = am_new σ49 1000 30400 30400 → am_ext σ49 σ52 → am_fz σ52 (am_nx σ49) → ∀ σ54, σ54 = am_sfR σ52 13033 this (some (am_nx σ49)) → ∀ σ57, σ57 = am_new σ54 1000 30400 30400 → am_ext σ54 σ57 → am_fz σ57 (am_nx σ54) → ∀ σ59, σ59 = am_sfR σ57 13034 this (some (am_nx σ54)) → ∀ σ62, σ62 = am_new σ59 1000 200 200 → am_ext σ59 σ62 → am_fz σ62 (am_nx σ59) → ∀ σ64, σ64 = am_sfR σ62 13036 this (some (am_nx σ59)) → ∀ σ67, σ67 = am_new σ64 1000 200 200 → am_ext σ64 σ67 → am_fz σ67 (am_nx σ64) → ∀ σ69, σ69 = am_sfR σ67 13037 this (some (am_nx σ64)) → ∀ σ72, σ72 = am_new σ69 1000 200 200 → am_ext σ69 σ72 → am_fz σ72 (am_nx σ69) → ∀ σ74, σ74 = am_sfR σ72 13038 this (some (am_nx σ69)) → c_Ro_init_264 nl Ln xs (d + 1) this x1 σ74 F) : c_Ro_init_129 nl Ln xs (d + 1) this x1 σ F := by
  obtain ⟨j129, j130, j133, j135, j138, j139, j142, j144, j147, j148, j151, j153, j156, j157, j160, j162, j165, j166, j169, j171, j174, j175, j178, j180, j183, j184, j187, j189, j192, j193, j196, j198, j201, j202, j205, j207, j210, j211, j214, j216, j219, j220, j223, j225, j228, j229, j232, j234, j237, j238, j241, j243, j246, j247, j250, j252, j255, j256, j259, j261, -⟩ := P_Ro_init_129 nl Ln xs
  unfold c_Ro_init_129
  refine s_aload_n j129 rfl rfl ?_
  refine s_sipush j130 rfl kc_si_150 ?_
  refine s_newarray (k := 1000) (m := 150) j133 rfl rfl (by decide) (by decide) (by decide) (by decide) (fun σ1 e2 e2x e2z => ?_)
  replace h := h σ1 e2 e2x e2z
  obtain ⟨ho3, h⟩ := h
  refine s_pfR j135 rfl ho3 (fun σ4 e5 => ?_)
  replace h := h σ4 e5
  have ek6 : am_kd σ4 = am_kd σ1 := by rw [e5]
  refine s_aload_n j138 rfl rfl ?_
  refine s_sipush j139 rfl kc_si_150 ?_
  refine s_newarray (k := 1000) (m := 150) j142 rfl rfl (by decide) (by decide) (by decide) (by decide) (fun σ7 e8 e8x e8z => ?_)
  replace h := h σ7 e8 e8x e8z
  refine s_pfR j144 rfl (am_is_ext e8x (am_is_kd ek6 ho3)) (fun σ9 e10 => ?_)
  replace h := h σ9 e10
  have ek11 : am_kd σ9 = am_kd σ7 := by rw [e10]
  refine s_aload_n j147 rfl rfl ?_
  refine s_sipush j148 rfl kc_si_150 ?_
  refine s_newarray (k := 1000) (m := 150) j151 rfl rfl (by decide) (by decide) (by decide) (by decide) (fun σ12 e13 e13x e13z => ?_)
  replace h := h σ12 e13 e13x e13z
  refine s_pfR j153 rfl (am_is_ext e13x (am_is_kd ek11 (am_is_ext e8x (am_is_kd ek6 ho3)))) (fun σ14 e15 => ?_)
  replace h := h σ14 e15
  have ek16 : am_kd σ14 = am_kd σ12 := by rw [e15]
  refine s_aload_n j156 rfl rfl ?_
  refine s_sipush j157 rfl kc_si_150 ?_
  refine s_newarray (k := 1000) (m := 150) j160 rfl rfl (by decide) (by decide) (by decide) (by decide) (fun σ17 e18 e18x e18z => ?_)
  replace h := h σ17 e18 e18x e18z
  refine s_pfR j162 rfl (am_is_ext e18x (am_is_kd ek16 (am_is_ext e13x (am_is_kd ek11 (am_is_ext e8x (am_is_kd ek6 ho3)))))) (fun σ19 e20 => ?_)
  replace h := h σ19 e20
  have ek21 : am_kd σ19 = am_kd σ17 := by rw [e20]
  refine s_aload_n j165 rfl rfl ?_
  refine s_sipush j166 rfl kc_si_150 ?_
  refine s_newarray (k := 1000) (m := 150) j169 rfl rfl (by decide) (by decide) (by decide) (by decide) (fun σ22 e23 e23x e23z => ?_)
  replace h := h σ22 e23 e23x e23z
  refine s_pfR j171 rfl (am_is_ext e23x (am_is_kd ek21 (am_is_ext e18x (am_is_kd ek16 (am_is_ext e13x (am_is_kd ek11 (am_is_ext e8x (am_is_kd ek6 ho3)))))))) (fun σ24 e25 => ?_)
  replace h := h σ24 e25
  have ek26 : am_kd σ24 = am_kd σ22 := by rw [e25]
  refine s_aload_n j174 rfl rfl ?_
  refine s_sipush j175 rfl kc_si_151 ?_
  refine s_newarray (k := 1000) (m := 151) j178 rfl rfl (by decide) (by decide) (by decide) (by decide) (fun σ27 e28 e28x e28z => ?_)
  replace h := h σ27 e28 e28x e28z
  refine s_pfR j180 rfl (am_is_ext e28x (am_is_kd ek26 (am_is_ext e23x (am_is_kd ek21 (am_is_ext e18x (am_is_kd ek16 (am_is_ext e13x (am_is_kd ek11 (am_is_ext e8x (am_is_kd ek6 ho3)))))))))) (fun σ29 e30 => ?_)
  replace h := h σ29 e30
  have ek31 : am_kd σ29 = am_kd σ27 := by rw [e30]
  refine s_aload_n j183 rfl rfl ?_
  refine s_sipush j184 rfl kc_si_4560 ?_
  refine s_newarray (k := 1000) (m := 4560) j187 rfl rfl (by decide) (by decide) (by decide) (by decide) (fun σ32 e33 e33x e33z => ?_)
  replace h := h σ32 e33 e33x e33z
  refine s_pfR j189 rfl (am_is_ext e33x (am_is_kd ek31 (am_is_ext e28x (am_is_kd ek26 (am_is_ext e23x (am_is_kd ek21 (am_is_ext e18x (am_is_kd ek16 (am_is_ext e13x (am_is_kd ek11 (am_is_ext e8x (am_is_kd ek6 ho3)))))))))))) (fun σ34 e35 => ?_)
  replace h := h σ34 e35
  have ek36 : am_kd σ34 = am_kd σ32 := by rw [e35]
  refine s_aload_n j192 rfl rfl ?_
  refine s_sipush j193 rfl kc_si_4560 ?_
  refine s_newarray (k := 1000) (m := 4560) j196 rfl rfl (by decide) (by decide) (by decide) (by decide) (fun σ37 e38 e38x e38z => ?_)
  replace h := h σ37 e38 e38x e38z
  refine s_pfR j198 rfl (am_is_ext e38x (am_is_kd ek36 (am_is_ext e33x (am_is_kd ek31 (am_is_ext e28x (am_is_kd ek26 (am_is_ext e23x (am_is_kd ek21 (am_is_ext e18x (am_is_kd ek16 (am_is_ext e13x (am_is_kd ek11 (am_is_ext e8x (am_is_kd ek6 ho3)))))))))))))) (fun σ39 e40 => ?_)
  replace h := h σ39 e40
  have ek41 : am_kd σ39 = am_kd σ37 := by rw [e40]
  refine s_aload_n j201 rfl rfl ?_
  refine s_sipush j202 rfl kc_si_4560 ?_
  refine s_newarray (k := 1000) (m := 4560) j205 rfl rfl (by decide) (by decide) (by decide) (by decide) (fun σ42 e43 e43x e43z => ?_)
  replace h := h σ42 e43 e43x e43z
  refine s_pfR j207 rfl (am_is_ext e43x (am_is_kd ek41 (am_is_ext e38x (am_is_kd ek36 (am_is_ext e33x (am_is_kd ek31 (am_is_ext e28x (am_is_kd ek26 (am_is_ext e23x (am_is_kd ek21 (am_is_ext e18x (am_is_kd ek16 (am_is_ext e13x (am_is_kd ek11 (am_is_ext e8x (am_is_kd ek6 ho3)))))))))))))))) (fun σ44 e45 => ?_)
  replace h := h σ44 e45
  have ek46 : am_kd σ44 = am_kd σ42 := by rw [e45]
  refine s_aload_n j210 rfl rfl ?_
  refine s_sipush j211 rfl kc_si_30400 ?_
  refine s_newarray (k := 1000) (m := 30400) j214 rfl rfl (by decide) (by decide) (by decide) (by decide) (fun σ47 e48 e48x e48z => ?_)
  replace h := h σ47 e48 e48x e48z
  refine s_pfR j216 rfl (am_is_ext e48x (am_is_kd ek46 (am_is_ext e43x (am_is_kd ek41 (am_is_ext e38x (am_is_kd ek36 (am_is_ext e33x (am_is_kd ek31 (am_is_ext e28x (am_is_kd ek26 (am_is_ext e23x (am_is_kd ek21 (am_is_ext e18x (am_is_kd ek16 (am_is_ext e13x (am_is_kd ek11 (am_is_ext e8x (am_is_kd ek6 ho3)))))))))))))))))) (fun σ49 e50 => ?_)
  replace h := h σ49 e50
  have ek51 : am_kd σ49 = am_kd σ47 := by rw [e50]
  refine s_aload_n j219 rfl rfl ?_
  refine s_sipush j220 rfl kc_si_30400 ?_
  refine s_newarray (k := 1000) (m := 30400) j223 rfl rfl (by decide) (by decide) (by decide) (by decide) (fun σ52 e53 e53x e53z => ?_)
  replace h := h σ52 e53 e53x e53z
  refine s_pfR j225 rfl (am_is_ext e53x (am_is_kd ek51 (am_is_ext e48x (am_is_kd ek46 (am_is_ext e43x (am_is_kd ek41 (am_is_ext e38x (am_is_kd ek36 (am_is_ext e33x (am_is_kd ek31 (am_is_ext e28x (am_is_kd ek26 (am_is_ext e23x (am_is_kd ek21 (am_is_ext e18x (am_is_kd ek16 (am_is_ext e13x (am_is_kd ek11 (am_is_ext e8x (am_is_kd ek6 ho3)))))))))))))))))))) (fun σ54 e55 => ?_)
  replace h := h σ54 e55
  have ek56 : am_kd σ54 = am_kd σ52 := by rw [e55]
  refine s_aload_n j228 rfl rfl ?_
  refine s_sipush j229 rfl kc_si_30400 ?_
  refine s_newarray (k := 1000) (m := 30400) j232 rfl rfl (by decide) (by decide) (by decide) (by decide) (fun σ57 e58 e58x e58z => ?_)
  replace h := h σ57 e58 e58x e58z
  refine s_pfR j234 rfl (am_is_ext e58x (am_is_kd ek56 (am_is_ext e53x (am_is_kd ek51 (am_is_ext e48x (am_is_kd ek46 (am_is_ext e43x (am_is_kd ek41 (am_is_ext e38x (am_is_kd ek36 (am_is_ext e33x (am_is_kd ek31 (am_is_ext e28x (am_is_kd ek26 (am_is_ext e23x (am_is_kd ek21 (am_is_ext e18x (am_is_kd ek16 (am_is_ext e13x (am_is_kd ek11 (am_is_ext e8x (am_is_kd ek6 ho3)))))))))))))))))))))) (fun σ59 e60 => ?_)
  replace h := h σ59 e60
  have ek61 : am_kd σ59 = am_kd σ57 := by rw [e60]
  refine s_aload_n j237 rfl rfl ?_
  refine s_sipush j238 rfl kc_si_200 ?_
  refine s_newarray (k := 1000) (m := 200) j241 rfl rfl (by decide) (by decide) (by decide) (by decide) (fun σ62 e63 e63x e63z => ?_)
  replace h := h σ62 e63 e63x e63z
  refine s_pfR j243 rfl (am_is_ext e63x (am_is_kd ek61 (am_is_ext e58x (am_is_kd ek56 (am_is_ext e53x (am_is_kd ek51 (am_is_ext e48x (am_is_kd ek46 (am_is_ext e43x (am_is_kd ek41 (am_is_ext e38x (am_is_kd ek36 (am_is_ext e33x (am_is_kd ek31 (am_is_ext e28x (am_is_kd ek26 (am_is_ext e23x (am_is_kd ek21 (am_is_ext e18x (am_is_kd ek16 (am_is_ext e13x (am_is_kd ek11 (am_is_ext e8x (am_is_kd ek6 ho3)))))))))))))))))))))))) (fun σ64 e65 => ?_)
  replace h := h σ64 e65
  have ek66 : am_kd σ64 = am_kd σ62 := by rw [e65]
  refine s_aload_n j246 rfl rfl ?_
  refine s_sipush j247 rfl kc_si_200 ?_
  refine s_newarray (k := 1000) (m := 200) j250 rfl rfl (by decide) (by decide) (by decide) (by decide) (fun σ67 e68 e68x e68z => ?_)
  replace h := h σ67 e68 e68x e68z
  refine s_pfR j252 rfl (am_is_ext e68x (am_is_kd ek66 (am_is_ext e63x (am_is_kd ek61 (am_is_ext e58x (am_is_kd ek56 (am_is_ext e53x (am_is_kd ek51 (am_is_ext e48x (am_is_kd ek46 (am_is_ext e43x (am_is_kd ek41 (am_is_ext e38x (am_is_kd ek36 (am_is_ext e33x (am_is_kd ek31 (am_is_ext e28x (am_is_kd ek26 (am_is_ext e23x (am_is_kd ek21 (am_is_ext e18x (am_is_kd ek16 (am_is_ext e13x (am_is_kd ek11 (am_is_ext e8x (am_is_kd ek6 ho3)))))))))))))))))))))))))) (fun σ69 e70 => ?_)
  replace h := h σ69 e70
  have ek71 : am_kd σ69 = am_kd σ67 := by rw [e70]
  refine s_aload_n j255 rfl rfl ?_
  refine s_sipush j256 rfl kc_si_200 ?_
  refine s_newarray (k := 1000) (m := 200) j259 rfl rfl (by decide) (by decide) (by decide) (by decide) (fun σ72 e73 e73x e73z => ?_)
  replace h := h σ72 e73 e73x e73z
  refine s_pfR j261 rfl (am_is_ext e73x (am_is_kd ek71 (am_is_ext e68x (am_is_kd ek66 (am_is_ext e63x (am_is_kd ek61 (am_is_ext e58x (am_is_kd ek56 (am_is_ext e53x (am_is_kd ek51 (am_is_ext e48x (am_is_kd ek46 (am_is_ext e43x (am_is_kd ek41 (am_is_ext e38x (am_is_kd ek36 (am_is_ext e33x (am_is_kd ek31 (am_is_ext e28x (am_is_kd ek26 (am_is_ext e23x (am_is_kd ek21 (am_is_ext e18x (am_is_kd ek16 (am_is_ext e13x (am_is_kd ek11 (am_is_ext e8x (am_is_kd ek6 ho3)))))))))))))))))))))))))))) (fun σ74 e75 => ?_)
  replace h := h σ74 e75
  have ek76 : am_kd σ74 = am_kd σ72 := by rw [e75]
  exact h
theorem P_Ro_init_264 (nl : Bool) (Ln : Nat) (xs : Nat → Int32) : am_Jl (TT nl Ln xs) 198 [(264, .aload_n 0, 265, []), (265, .sipush 200, 268, []), (268, .newarray .int, 270, []), (270, .putfield 104, 273, [9, 13, 39, 2]), (273, .aload_n 0, 274, []), (274, .sipush 200, 277, []), (277, .newarray .int, 279, []), (279, .putfield 107, 282, [9, 13, 40, 2]), (282, .aload_n 0, 283, []), (283, .sipush 200, 286, []), (286, .newarray .boolean, 288, []), (288, .putfield 110, 291, [9, 13, 41, 2]), (291, .aload_n 0, 292, []), (292, .sipush 1200, 295, []), (295, .newarray .int, 297, []), (297, .putfield 114, 300, [9, 13, 42, 2]), (300, .aload_n 0, 301, []), (301, .sipush 1200, 304, []), (304, .newarray .long, 306, []), (306, .putfield 117, 309, [9, 13, 43, 2]), (309, .aload_n 0, 310, []), (310, .sipush 1200, 313, []), (313, .newarray .long, 315, []), (315, .putfield 120, 318, [9, 13, 44, 2]), (318, .aload_n 0, 319, []), (319, .bipush 100, 321, []), (321, .newarray .int, 323, []), (323, .putfield 123, 326, [9, 13, 46, 2]), (326, .aload_n 0, 327, []), (327, .bipush 100, 329, []), (329, .newarray .int, 331, []), (331, .putfield 126, 334, [9, 13, 47, 2]), (334, .aload_n 0, 335, []), (335, .bipush 100, 337, []), (337, .newarray .int, 339, []), (339, .putfield 129, 342, [9, 13, 48, 2]), (342, .aload_n 0, 343, []), (343, .bipush 100, 345, []), (345, .newarray .int, 347, []), (347, .putfield 132, 350, [9, 13, 49, 2]), (350, .aload_n 0, 351, []), (351, .bipush 100, 353, []), (353, .newarray .int, 355, []), (355, .putfield 135, 358, [9, 13, 50, 2]), (358, .aload_n 0, 359, []), (359, .bipush 100, 361, []), (361, .newarray .int, 363, []), (363, .putfield 138, 366, [9, 13, 51, 2]), (366, .aload_n 0, 367, []), (367, .sipush 4000, 370, []), (370, .newarray .int, 372, []), (372, .putfield 141, 375, [9, 13, 52, 2]), (375, .aload_n 0, 376, []), (376, .sipush 4000, 379, []), (379, .newarray .int, 381, []), (381, .putfield 144, 384, [9, 13, 53, 2]), (384, .aload_n 0, 385, []), (385, .sipush 4000, 388, []), (388, .newarray .int, 390, []), (390, .putfield 147, 393, [9, 13, 54, 2])] := dk_ck (by decide +kernel)
set_option maxRecDepth 4096 in
theorem w_Ro_init_264 {nl : Bool} {Ln : Nat} {xs : Nat → Int32} {d : Nat} {this : Nat} {x1 : Option Nat} {σ : am_S} {F : am_S → Prop} (h : ∀ σ1, σ1 = am_new σ 1000 200 200 → am_ext σ σ1 → am_fz σ1 (am_nx σ) → (am_is σ1 (some this) 13) ∧ ∀ σ4, σ4 = am_sfR σ1 13039 this (some (am_nx σ)) → ∀ σ7, σ7 = am_new σ4 1000 200 200 → am_ext σ4 σ7 → am_fz σ7 (am_nx σ4) → ∀ σ9, σ9 = am_sfR σ7 13040 this (some (am_nx σ4)) → ∀ σ12, σ12 = am_new σ9 1003 200 200 → am_ext σ9 σ12 → am_fz σ12 (am_nx σ9) → ∀ σ14, σ14 = am_sfR σ12 13041 this (some (am_nx σ9)) → ∀ σ17, σ17 = am_new σ14 1000 1200 1200 → am_ext σ14 σ17 → am_fz σ17 (am_nx σ14) → ∀ σ19, σ19 = am_sfR σ17 13042 this (some (am_nx σ14)) → ∀ σ22, σ22 = am_new σ19 1001 1200 1200 → am_ext σ19 σ22 → am_fz σ22 (am_nx σ19) → ∀ σ24, σ24 = am_sfR σ22 13043 this (some (am_nx σ19)) → ∀ σ27, σ27 = am_new σ24 1001 1200 1200 → am_ext σ24 σ27 → am_fz σ27 (am_nx σ24) → ∀ σ29, σ29 = am_sfR σ27 13044 this (some (am_nx σ24)) → ∀ σ32, σ32 = am_new σ29 1000 100 100 → am_ext σ29 σ32 → am_fz σ32 (am_nx σ29) → ∀ σ34, σ34 = am_sfR σ32 13046 this (some (am_nx σ29)) → ∀ σ37, σ37 = am_new σ34 1000 100 100 → am_ext σ34 σ37 → am_fz σ37 (am_nx σ34) → ∀ σ39, σ39 = am_sfR σ37 13047 this (some (am_nx σ34)) → ∀ σ42, σ42 = am_new σ39 1000 100 100 → am_ext σ39 σ42 → am_fz σ42 (am_nx σ39) → ∀ σ44, σ44 = am_sfR σ42 13048 this (some (am_nx σ39)) → ∀ σ47, σ47 = am_new σ44 1000 100 100 → am_ext σ44 σ47 → am_fz σ47 (am_nx σ44) → ∀ σ49, σ49 = am_sfR σ47 13049 this (some (am_nx σ44)) → ∀ σ52, σ52 = am_new σ49 1000 100 100 → am_ext σ49 σ52 → am_fz σ52 (am_nx σ49) → ∀ σ54, σ54 = am_sfR σ52 13050 this (some (am_nx σ49)) → ∀ σ57, σ57 = am_new σ54 1000 100 100 → am_ext σ54 σ57 → am_fz σ57 (am_nx σ54) → ∀ σ59, σ59 = am_sfR σ57 13051 this (some (am_nx σ54)) → ∀ σ62, σ62 = am_new σ59 1000 4000 4000 → am_ext σ59 σ62 → am_fz σ62 (am_nx σ59) → ∀ σ64, σ64 = am_sfR σ62 13052 this (some (am_nx σ59)) → ∀ σ67, σ67 = am_new σ64 1000 4000 4000 → am_ext σ64 σ67 → am_fz σ67 (am_nx σ64) → ∀ σ69, σ69 = am_sfR σ67 13053 this (some (am_nx σ64)) → ∀ σ72, σ72 = am_new σ69 1000 4000 4000 → am_ext σ69 σ72 → am_fz σ72 (am_nx σ69) → ∀ σ74, σ74 = am_sfR σ72 13054 this (some (am_nx σ69)) → c_Ro_init_393 nl Ln xs (d + 1) this x1 σ74 F) : c_Ro_init_264 nl Ln xs (d + 1) this x1 σ F := by
  obtain ⟨j264, j265, j268, j270, j273, j274, j277, j279, j282, j283, j286, j288, j291, j292, j295, j297, j300, j301, j304, j306, j309, j310, j313, j315, j318, j319, j321, j323, j326, j327, j329, j331, j334, j335, j337, j339, j342, j343, j345, j347, j350, j351, j353, j355, j358, j359, j361, j363, j366, j367, j370, j372, j375, j376, j379, j381, j384, j385, j388, j390, -⟩ := P_Ro_init_264 nl Ln xs
  unfold c_Ro_init_264
  refine s_aload_n j264 rfl rfl ?_
  refine s_sipush j265 rfl kc_si_200 ?_
  refine s_newarray (k := 1000) (m := 200) j268 rfl rfl (by decide) (by decide) (by decide) (by decide) (fun σ1 e2 e2x e2z => ?_)
  replace h := h σ1 e2 e2x e2z
  obtain ⟨ho3, h⟩ := h
  refine s_pfR j270 rfl ho3 (fun σ4 e5 => ?_)
  replace h := h σ4 e5
  have ek6 : am_kd σ4 = am_kd σ1 := by rw [e5]
  refine s_aload_n j273 rfl rfl ?_
  refine s_sipush j274 rfl kc_si_200 ?_
  refine s_newarray (k := 1000) (m := 200) j277 rfl rfl (by decide) (by decide) (by decide) (by decide) (fun σ7 e8 e8x e8z => ?_)
  replace h := h σ7 e8 e8x e8z
  refine s_pfR j279 rfl (am_is_ext e8x (am_is_kd ek6 ho3)) (fun σ9 e10 => ?_)
  replace h := h σ9 e10
  have ek11 : am_kd σ9 = am_kd σ7 := by rw [e10]
  refine s_aload_n j282 rfl rfl ?_
  refine s_sipush j283 rfl kc_si_200 ?_
  refine s_newarray (k := 1003) (m := 200) j286 rfl rfl (by decide) (by decide) (by decide) (by decide) (fun σ12 e13 e13x e13z => ?_)
  replace h := h σ12 e13 e13x e13z
  refine s_pfR j288 rfl (am_is_ext e13x (am_is_kd ek11 (am_is_ext e8x (am_is_kd ek6 ho3)))) (fun σ14 e15 => ?_)
  replace h := h σ14 e15
  have ek16 : am_kd σ14 = am_kd σ12 := by rw [e15]
  refine s_aload_n j291 rfl rfl ?_
  refine s_sipush j292 rfl kc_si_1200 ?_
  refine s_newarray (k := 1000) (m := 1200) j295 rfl rfl (by decide) (by decide) (by decide) (by decide) (fun σ17 e18 e18x e18z => ?_)
  replace h := h σ17 e18 e18x e18z
  refine s_pfR j297 rfl (am_is_ext e18x (am_is_kd ek16 (am_is_ext e13x (am_is_kd ek11 (am_is_ext e8x (am_is_kd ek6 ho3)))))) (fun σ19 e20 => ?_)
  replace h := h σ19 e20
  have ek21 : am_kd σ19 = am_kd σ17 := by rw [e20]
  refine s_aload_n j300 rfl rfl ?_
  refine s_sipush j301 rfl kc_si_1200 ?_
  refine s_newarray (k := 1001) (m := 1200) j304 rfl rfl (by decide) (by decide) (by decide) (by decide) (fun σ22 e23 e23x e23z => ?_)
  replace h := h σ22 e23 e23x e23z
  refine s_pfR j306 rfl (am_is_ext e23x (am_is_kd ek21 (am_is_ext e18x (am_is_kd ek16 (am_is_ext e13x (am_is_kd ek11 (am_is_ext e8x (am_is_kd ek6 ho3)))))))) (fun σ24 e25 => ?_)
  replace h := h σ24 e25
  have ek26 : am_kd σ24 = am_kd σ22 := by rw [e25]
  refine s_aload_n j309 rfl rfl ?_
  refine s_sipush j310 rfl kc_si_1200 ?_
  refine s_newarray (k := 1001) (m := 1200) j313 rfl rfl (by decide) (by decide) (by decide) (by decide) (fun σ27 e28 e28x e28z => ?_)
  replace h := h σ27 e28 e28x e28z
  refine s_pfR j315 rfl (am_is_ext e28x (am_is_kd ek26 (am_is_ext e23x (am_is_kd ek21 (am_is_ext e18x (am_is_kd ek16 (am_is_ext e13x (am_is_kd ek11 (am_is_ext e8x (am_is_kd ek6 ho3)))))))))) (fun σ29 e30 => ?_)
  replace h := h σ29 e30
  have ek31 : am_kd σ29 = am_kd σ27 := by rw [e30]
  refine s_aload_n j318 rfl rfl ?_
  refine s_bipush j319 rfl kc_bi_100 ?_
  refine s_newarray (k := 1000) (m := 100) j321 rfl rfl (by decide) (by decide) (by decide) (by decide) (fun σ32 e33 e33x e33z => ?_)
  replace h := h σ32 e33 e33x e33z
  refine s_pfR j323 rfl (am_is_ext e33x (am_is_kd ek31 (am_is_ext e28x (am_is_kd ek26 (am_is_ext e23x (am_is_kd ek21 (am_is_ext e18x (am_is_kd ek16 (am_is_ext e13x (am_is_kd ek11 (am_is_ext e8x (am_is_kd ek6 ho3)))))))))))) (fun σ34 e35 => ?_)
  replace h := h σ34 e35
  have ek36 : am_kd σ34 = am_kd σ32 := by rw [e35]
  refine s_aload_n j326 rfl rfl ?_
  refine s_bipush j327 rfl kc_bi_100 ?_
  refine s_newarray (k := 1000) (m := 100) j329 rfl rfl (by decide) (by decide) (by decide) (by decide) (fun σ37 e38 e38x e38z => ?_)
  replace h := h σ37 e38 e38x e38z
  refine s_pfR j331 rfl (am_is_ext e38x (am_is_kd ek36 (am_is_ext e33x (am_is_kd ek31 (am_is_ext e28x (am_is_kd ek26 (am_is_ext e23x (am_is_kd ek21 (am_is_ext e18x (am_is_kd ek16 (am_is_ext e13x (am_is_kd ek11 (am_is_ext e8x (am_is_kd ek6 ho3)))))))))))))) (fun σ39 e40 => ?_)
  replace h := h σ39 e40
  have ek41 : am_kd σ39 = am_kd σ37 := by rw [e40]
  refine s_aload_n j334 rfl rfl ?_
  refine s_bipush j335 rfl kc_bi_100 ?_
  refine s_newarray (k := 1000) (m := 100) j337 rfl rfl (by decide) (by decide) (by decide) (by decide) (fun σ42 e43 e43x e43z => ?_)
  replace h := h σ42 e43 e43x e43z
  refine s_pfR j339 rfl (am_is_ext e43x (am_is_kd ek41 (am_is_ext e38x (am_is_kd ek36 (am_is_ext e33x (am_is_kd ek31 (am_is_ext e28x (am_is_kd ek26 (am_is_ext e23x (am_is_kd ek21 (am_is_ext e18x (am_is_kd ek16 (am_is_ext e13x (am_is_kd ek11 (am_is_ext e8x (am_is_kd ek6 ho3)))))))))))))))) (fun σ44 e45 => ?_)
  replace h := h σ44 e45
  have ek46 : am_kd σ44 = am_kd σ42 := by rw [e45]
  refine s_aload_n j342 rfl rfl ?_
  refine s_bipush j343 rfl kc_bi_100 ?_
  refine s_newarray (k := 1000) (m := 100) j345 rfl rfl (by decide) (by decide) (by decide) (by decide) (fun σ47 e48 e48x e48z => ?_)
  replace h := h σ47 e48 e48x e48z
  refine s_pfR j347 rfl (am_is_ext e48x (am_is_kd ek46 (am_is_ext e43x (am_is_kd ek41 (am_is_ext e38x (am_is_kd ek36 (am_is_ext e33x (am_is_kd ek31 (am_is_ext e28x (am_is_kd ek26 (am_is_ext e23x (am_is_kd ek21 (am_is_ext e18x (am_is_kd ek16 (am_is_ext e13x (am_is_kd ek11 (am_is_ext e8x (am_is_kd ek6 ho3)))))))))))))))))) (fun σ49 e50 => ?_)
  replace h := h σ49 e50
  have ek51 : am_kd σ49 = am_kd σ47 := by rw [e50]
  refine s_aload_n j350 rfl rfl ?_
  refine s_bipush j351 rfl kc_bi_100 ?_
  refine s_newarray (k := 1000) (m := 100) j353 rfl rfl (by decide) (by decide) (by decide) (by decide) (fun σ52 e53 e53x e53z => ?_)
  replace h := h σ52 e53 e53x e53z
  refine s_pfR j355 rfl (am_is_ext e53x (am_is_kd ek51 (am_is_ext e48x (am_is_kd ek46 (am_is_ext e43x (am_is_kd ek41 (am_is_ext e38x (am_is_kd ek36 (am_is_ext e33x (am_is_kd ek31 (am_is_ext e28x (am_is_kd ek26 (am_is_ext e23x (am_is_kd ek21 (am_is_ext e18x (am_is_kd ek16 (am_is_ext e13x (am_is_kd ek11 (am_is_ext e8x (am_is_kd ek6 ho3)))))))))))))))))))) (fun σ54 e55 => ?_)
  replace h := h σ54 e55
  have ek56 : am_kd σ54 = am_kd σ52 := by rw [e55]
  refine s_aload_n j358 rfl rfl ?_
  refine s_bipush j359 rfl kc_bi_100 ?_
  refine s_newarray (k := 1000) (m := 100) j361 rfl rfl (by decide) (by decide) (by decide) (by decide) (fun σ57 e58 e58x e58z => ?_)
  replace h := h σ57 e58 e58x e58z
  refine s_pfR j363 rfl (am_is_ext e58x (am_is_kd ek56 (am_is_ext e53x (am_is_kd ek51 (am_is_ext e48x (am_is_kd ek46 (am_is_ext e43x (am_is_kd ek41 (am_is_ext e38x (am_is_kd ek36 (am_is_ext e33x (am_is_kd ek31 (am_is_ext e28x (am_is_kd ek26 (am_is_ext e23x (am_is_kd ek21 (am_is_ext e18x (am_is_kd ek16 (am_is_ext e13x (am_is_kd ek11 (am_is_ext e8x (am_is_kd ek6 ho3)))))))))))))))))))))) (fun σ59 e60 => ?_)
  replace h := h σ59 e60
  have ek61 : am_kd σ59 = am_kd σ57 := by rw [e60]
  refine s_aload_n j366 rfl rfl ?_
  refine s_sipush j367 rfl kc_si_4000 ?_
  refine s_newarray (k := 1000) (m := 4000) j370 rfl rfl (by decide) (by decide) (by decide) (by decide) (fun σ62 e63 e63x e63z => ?_)
  replace h := h σ62 e63 e63x e63z
  refine s_pfR j372 rfl (am_is_ext e63x (am_is_kd ek61 (am_is_ext e58x (am_is_kd ek56 (am_is_ext e53x (am_is_kd ek51 (am_is_ext e48x (am_is_kd ek46 (am_is_ext e43x (am_is_kd ek41 (am_is_ext e38x (am_is_kd ek36 (am_is_ext e33x (am_is_kd ek31 (am_is_ext e28x (am_is_kd ek26 (am_is_ext e23x (am_is_kd ek21 (am_is_ext e18x (am_is_kd ek16 (am_is_ext e13x (am_is_kd ek11 (am_is_ext e8x (am_is_kd ek6 ho3)))))))))))))))))))))))) (fun σ64 e65 => ?_)
  replace h := h σ64 e65
  have ek66 : am_kd σ64 = am_kd σ62 := by rw [e65]
  refine s_aload_n j375 rfl rfl ?_
  refine s_sipush j376 rfl kc_si_4000 ?_
  refine s_newarray (k := 1000) (m := 4000) j379 rfl rfl (by decide) (by decide) (by decide) (by decide) (fun σ67 e68 e68x e68z => ?_)
  replace h := h σ67 e68 e68x e68z
  refine s_pfR j381 rfl (am_is_ext e68x (am_is_kd ek66 (am_is_ext e63x (am_is_kd ek61 (am_is_ext e58x (am_is_kd ek56 (am_is_ext e53x (am_is_kd ek51 (am_is_ext e48x (am_is_kd ek46 (am_is_ext e43x (am_is_kd ek41 (am_is_ext e38x (am_is_kd ek36 (am_is_ext e33x (am_is_kd ek31 (am_is_ext e28x (am_is_kd ek26 (am_is_ext e23x (am_is_kd ek21 (am_is_ext e18x (am_is_kd ek16 (am_is_ext e13x (am_is_kd ek11 (am_is_ext e8x (am_is_kd ek6 ho3)))))))))))))))))))))))))) (fun σ69 e70 => ?_)
  replace h := h σ69 e70
  have ek71 : am_kd σ69 = am_kd σ67 := by rw [e70]
  refine s_aload_n j384 rfl rfl ?_
  refine s_sipush j385 rfl kc_si_4000 ?_
  refine s_newarray (k := 1000) (m := 4000) j388 rfl rfl (by decide) (by decide) (by decide) (by decide) (fun σ72 e73 e73x e73z => ?_)
  replace h := h σ72 e73 e73x e73z
  refine s_pfR j390 rfl (am_is_ext e73x (am_is_kd ek71 (am_is_ext e68x (am_is_kd ek66 (am_is_ext e63x (am_is_kd ek61 (am_is_ext e58x (am_is_kd ek56 (am_is_ext e53x (am_is_kd ek51 (am_is_ext e48x (am_is_kd ek46 (am_is_ext e43x (am_is_kd ek41 (am_is_ext e38x (am_is_kd ek36 (am_is_ext e33x (am_is_kd ek31 (am_is_ext e28x (am_is_kd ek26 (am_is_ext e23x (am_is_kd ek21 (am_is_ext e18x (am_is_kd ek16 (am_is_ext e13x (am_is_kd ek11 (am_is_ext e8x (am_is_kd ek6 ho3)))))))))))))))))))))))))))) (fun σ74 e75 => ?_)
  replace h := h σ74 e75
  have ek76 : am_kd σ74 = am_kd σ72 := by rw [e75]
  exact h
theorem P_Ro_init_393 (nl : Bool) (Ln : Nat) (xs : Nat → Int32) : am_Jl (TT nl Ln xs) 198 [(393, .aload_n 0, 394, []), (394, .sipush 4000, 397, []), (397, .newarray .int, 399, []), (399, .putfield 150, 402, [9, 13, 55, 2]), (402, .aload_n 0, 403, []), (403, .sipush 4000, 406, []), (406, .newarray .int, 408, []), (408, .putfield 153, 411, [9, 13, 56, 2]), (411, .aload_n 0, 412, []), (412, .sipush 4000, 415, []), (415, .newarray .int, 417, []), (417, .putfield 156, 420, [9, 13, 57, 2]), (420, .aload_n 0, 421, []), (421, .sipush 4000, 424, []), (424, .newarray .long, 426, []), (426, .putfield 159, 429, [9, 13, 58, 2]), (429, .aload_n 0, 430, []), (430, .sipush 4000, 433, []), (433, .newarray .long, 435, []), (435, .putfield 162, 438, [9, 13, 59, 2]), (438, .aload_n 0, 439, []), (439, .bipush 60, 441, []), (441, .newarray .int, 443, []), (443, .putfield 165, 446, [9, 13, 64, 2]), (446, .aload_n 0, 447, []), (447, .sipush 360, 450, []), (450, .newarray .long, 452, []), (452, .putfield 168, 455, [9, 13, 65, 2]), (455, .aload_n 0, 456, []), (456, .ldc 171, 458, [4, 450000]), (458, .newarray .byte, 460, []), (460, .putfield 172, 463, [9, 13, 66, 2]), (463, .aload_n 0, 464, []), (464, .bipush 6, 466, []), (466, .newarray .boolean, 468, []), (468, .putfield 176, 471, [9, 13, 80, 2]), (471, .aload_n 0, 472, []), (472, .bipush 6, 474, []), (474, .newarray .long, 476, []), (476, .putfield 179, 479, [9, 13, 81, 2]), (479, .aload_n 0, 480, []), (480, .bipush 6, 482, []), (482, .newarray .long, 484, []), (484, .putfield 182, 487, [9, 13, 82, 2]), (487, .aload_n 0, 488, []), (488, .bipush 6, 490, []), (490, .newarray .int, 492, []), (492, .putfield 185, 495, [9, 13, 83, 2]), (495, .aload_n 0, 496, []), (496, .bipush 100, 498, []), (498, .newarray .int, 500, []), (500, .putfield 188, 503, [9, 13, 85, 2]), (503, .aload_n 0, 504, []), (504, .bipush 100, 506, []), (506, .newarray .long, 508, []), (508, .putfield 191, 511, [9, 13, 86, 2]), (511, .aload_n 0, 512, []), (512, .bipush 100, 514, []), (514, .newarray .boolean, 516, []), (516, .putfield 194, 519, [9, 13, 87, 2])] := dk_ck (by decide +kernel)
set_option maxRecDepth 4096 in
theorem w_Ro_init_393 {nl : Bool} {Ln : Nat} {xs : Nat → Int32} {d : Nat} {this : Nat} {x1 : Option Nat} {σ : am_S} {F : am_S → Prop} (h : ∀ σ1, σ1 = am_new σ 1000 4000 4000 → am_ext σ σ1 → am_fz σ1 (am_nx σ) → (am_is σ1 (some this) 13) ∧ ∀ σ4, σ4 = am_sfR σ1 13055 this (some (am_nx σ)) → ∀ σ7, σ7 = am_new σ4 1000 4000 4000 → am_ext σ4 σ7 → am_fz σ7 (am_nx σ4) → ∀ σ9, σ9 = am_sfR σ7 13056 this (some (am_nx σ4)) → ∀ σ12, σ12 = am_new σ9 1000 4000 4000 → am_ext σ9 σ12 → am_fz σ12 (am_nx σ9) → ∀ σ14, σ14 = am_sfR σ12 13057 this (some (am_nx σ9)) → ∀ σ17, σ17 = am_new σ14 1001 4000 4000 → am_ext σ14 σ17 → am_fz σ17 (am_nx σ14) → ∀ σ19, σ19 = am_sfR σ17 13058 this (some (am_nx σ14)) → ∀ σ22, σ22 = am_new σ19 1001 4000 4000 → am_ext σ19 σ22 → am_fz σ22 (am_nx σ19) → ∀ σ24, σ24 = am_sfR σ22 13059 this (some (am_nx σ19)) → ∀ σ27, σ27 = am_new σ24 1000 60 60 → am_ext σ24 σ27 → am_fz σ27 (am_nx σ24) → ∀ σ29, σ29 = am_sfR σ27 13064 this (some (am_nx σ24)) → ∀ σ32, σ32 = am_new σ29 1001 360 360 → am_ext σ29 σ32 → am_fz σ32 (am_nx σ29) → ∀ σ34, σ34 = am_sfR σ32 13065 this (some (am_nx σ29)) → ∀ σ37, σ37 = am_new σ34 1002 450000 450000 → am_ext σ34 σ37 → am_fz σ37 (am_nx σ34) → ∀ σ39, σ39 = am_sfR σ37 13066 this (some (am_nx σ34)) → ∀ σ42, σ42 = am_new σ39 1003 6 6 → am_ext σ39 σ42 → am_fz σ42 (am_nx σ39) → ∀ σ44, σ44 = am_sfR σ42 13080 this (some (am_nx σ39)) → ∀ σ47, σ47 = am_new σ44 1001 6 6 → am_ext σ44 σ47 → am_fz σ47 (am_nx σ44) → ∀ σ49, σ49 = am_sfR σ47 13081 this (some (am_nx σ44)) → ∀ σ52, σ52 = am_new σ49 1001 6 6 → am_ext σ49 σ52 → am_fz σ52 (am_nx σ49) → ∀ σ54, σ54 = am_sfR σ52 13082 this (some (am_nx σ49)) → ∀ σ57, σ57 = am_new σ54 1000 6 6 → am_ext σ54 σ57 → am_fz σ57 (am_nx σ54) → ∀ σ59, σ59 = am_sfR σ57 13083 this (some (am_nx σ54)) → ∀ σ62, σ62 = am_new σ59 1000 100 100 → am_ext σ59 σ62 → am_fz σ62 (am_nx σ59) → ∀ σ64, σ64 = am_sfR σ62 13085 this (some (am_nx σ59)) → ∀ σ67, σ67 = am_new σ64 1001 100 100 → am_ext σ64 σ67 → am_fz σ67 (am_nx σ64) → ∀ σ69, σ69 = am_sfR σ67 13086 this (some (am_nx σ64)) → ∀ σ72, σ72 = am_new σ69 1003 100 100 → am_ext σ69 σ72 → am_fz σ72 (am_nx σ69) → ∀ σ74, σ74 = am_sfR σ72 13087 this (some (am_nx σ69)) → c_Ro_init_519 nl Ln xs (d + 1) this x1 σ74 F) : c_Ro_init_393 nl Ln xs (d + 1) this x1 σ F := by
  obtain ⟨j393, j394, j397, j399, j402, j403, j406, j408, j411, j412, j415, j417, j420, j421, j424, j426, j429, j430, j433, j435, j438, j439, j441, j443, j446, j447, j450, j452, j455, j456, j458, j460, j463, j464, j466, j468, j471, j472, j474, j476, j479, j480, j482, j484, j487, j488, j490, j492, j495, j496, j498, j500, j503, j504, j506, j508, j511, j512, j514, j516, -⟩ := P_Ro_init_393 nl Ln xs
  unfold c_Ro_init_393
  refine s_aload_n j393 rfl rfl ?_
  refine s_sipush j394 rfl kc_si_4000 ?_
  refine s_newarray (k := 1000) (m := 4000) j397 rfl rfl (by decide) (by decide) (by decide) (by decide) (fun σ1 e2 e2x e2z => ?_)
  replace h := h σ1 e2 e2x e2z
  obtain ⟨ho3, h⟩ := h
  refine s_pfR j399 rfl ho3 (fun σ4 e5 => ?_)
  replace h := h σ4 e5
  have ek6 : am_kd σ4 = am_kd σ1 := by rw [e5]
  refine s_aload_n j402 rfl rfl ?_
  refine s_sipush j403 rfl kc_si_4000 ?_
  refine s_newarray (k := 1000) (m := 4000) j406 rfl rfl (by decide) (by decide) (by decide) (by decide) (fun σ7 e8 e8x e8z => ?_)
  replace h := h σ7 e8 e8x e8z
  refine s_pfR j408 rfl (am_is_ext e8x (am_is_kd ek6 ho3)) (fun σ9 e10 => ?_)
  replace h := h σ9 e10
  have ek11 : am_kd σ9 = am_kd σ7 := by rw [e10]
  refine s_aload_n j411 rfl rfl ?_
  refine s_sipush j412 rfl kc_si_4000 ?_
  refine s_newarray (k := 1000) (m := 4000) j415 rfl rfl (by decide) (by decide) (by decide) (by decide) (fun σ12 e13 e13x e13z => ?_)
  replace h := h σ12 e13 e13x e13z
  refine s_pfR j417 rfl (am_is_ext e13x (am_is_kd ek11 (am_is_ext e8x (am_is_kd ek6 ho3)))) (fun σ14 e15 => ?_)
  replace h := h σ14 e15
  have ek16 : am_kd σ14 = am_kd σ12 := by rw [e15]
  refine s_aload_n j420 rfl rfl ?_
  refine s_sipush j421 rfl kc_si_4000 ?_
  refine s_newarray (k := 1001) (m := 4000) j424 rfl rfl (by decide) (by decide) (by decide) (by decide) (fun σ17 e18 e18x e18z => ?_)
  replace h := h σ17 e18 e18x e18z
  refine s_pfR j426 rfl (am_is_ext e18x (am_is_kd ek16 (am_is_ext e13x (am_is_kd ek11 (am_is_ext e8x (am_is_kd ek6 ho3)))))) (fun σ19 e20 => ?_)
  replace h := h σ19 e20
  have ek21 : am_kd σ19 = am_kd σ17 := by rw [e20]
  refine s_aload_n j429 rfl rfl ?_
  refine s_sipush j430 rfl kc_si_4000 ?_
  refine s_newarray (k := 1001) (m := 4000) j433 rfl rfl (by decide) (by decide) (by decide) (by decide) (fun σ22 e23 e23x e23z => ?_)
  replace h := h σ22 e23 e23x e23z
  refine s_pfR j435 rfl (am_is_ext e23x (am_is_kd ek21 (am_is_ext e18x (am_is_kd ek16 (am_is_ext e13x (am_is_kd ek11 (am_is_ext e8x (am_is_kd ek6 ho3)))))))) (fun σ24 e25 => ?_)
  replace h := h σ24 e25
  have ek26 : am_kd σ24 = am_kd σ22 := by rw [e25]
  refine s_aload_n j438 rfl rfl ?_
  refine s_bipush j439 rfl kc_bi_60 ?_
  refine s_newarray (k := 1000) (m := 60) j441 rfl rfl (by decide) (by decide) (by decide) (by decide) (fun σ27 e28 e28x e28z => ?_)
  replace h := h σ27 e28 e28x e28z
  refine s_pfR j443 rfl (am_is_ext e28x (am_is_kd ek26 (am_is_ext e23x (am_is_kd ek21 (am_is_ext e18x (am_is_kd ek16 (am_is_ext e13x (am_is_kd ek11 (am_is_ext e8x (am_is_kd ek6 ho3)))))))))) (fun σ29 e30 => ?_)
  replace h := h σ29 e30
  have ek31 : am_kd σ29 = am_kd σ27 := by rw [e30]
  refine s_aload_n j446 rfl rfl ?_
  refine s_sipush j447 rfl kc_si_360 ?_
  refine s_newarray (k := 1001) (m := 360) j450 rfl rfl (by decide) (by decide) (by decide) (by decide) (fun σ32 e33 e33x e33z => ?_)
  replace h := h σ32 e33 e33x e33z
  refine s_pfR j452 rfl (am_is_ext e33x (am_is_kd ek31 (am_is_ext e28x (am_is_kd ek26 (am_is_ext e23x (am_is_kd ek21 (am_is_ext e18x (am_is_kd ek16 (am_is_ext e13x (am_is_kd ek11 (am_is_ext e8x (am_is_kd ek6 ho3)))))))))))) (fun σ34 e35 => ?_)
  replace h := h σ34 e35
  have ek36 : am_kd σ34 = am_kd σ32 := by rw [e35]
  refine s_aload_n j455 rfl rfl ?_
  refine s_ldcI j456 rfl kc_li_450000 ?_
  refine s_newarray (k := 1002) (m := 450000) j458 rfl rfl (by decide) (by decide) (by decide) (by decide) (fun σ37 e38 e38x e38z => ?_)
  replace h := h σ37 e38 e38x e38z
  refine s_pfR j460 rfl (am_is_ext e38x (am_is_kd ek36 (am_is_ext e33x (am_is_kd ek31 (am_is_ext e28x (am_is_kd ek26 (am_is_ext e23x (am_is_kd ek21 (am_is_ext e18x (am_is_kd ek16 (am_is_ext e13x (am_is_kd ek11 (am_is_ext e8x (am_is_kd ek6 ho3)))))))))))))) (fun σ39 e40 => ?_)
  replace h := h σ39 e40
  have ek41 : am_kd σ39 = am_kd σ37 := by rw [e40]
  refine s_aload_n j463 rfl rfl ?_
  refine s_bipush j464 rfl kc_bi_6 ?_
  refine s_newarray (k := 1003) (m := 6) j466 rfl rfl (by decide) (by decide) (by decide) (by decide) (fun σ42 e43 e43x e43z => ?_)
  replace h := h σ42 e43 e43x e43z
  refine s_pfR j468 rfl (am_is_ext e43x (am_is_kd ek41 (am_is_ext e38x (am_is_kd ek36 (am_is_ext e33x (am_is_kd ek31 (am_is_ext e28x (am_is_kd ek26 (am_is_ext e23x (am_is_kd ek21 (am_is_ext e18x (am_is_kd ek16 (am_is_ext e13x (am_is_kd ek11 (am_is_ext e8x (am_is_kd ek6 ho3)))))))))))))))) (fun σ44 e45 => ?_)
  replace h := h σ44 e45
  have ek46 : am_kd σ44 = am_kd σ42 := by rw [e45]
  refine s_aload_n j471 rfl rfl ?_
  refine s_bipush j472 rfl kc_bi_6 ?_
  refine s_newarray (k := 1001) (m := 6) j474 rfl rfl (by decide) (by decide) (by decide) (by decide) (fun σ47 e48 e48x e48z => ?_)
  replace h := h σ47 e48 e48x e48z
  refine s_pfR j476 rfl (am_is_ext e48x (am_is_kd ek46 (am_is_ext e43x (am_is_kd ek41 (am_is_ext e38x (am_is_kd ek36 (am_is_ext e33x (am_is_kd ek31 (am_is_ext e28x (am_is_kd ek26 (am_is_ext e23x (am_is_kd ek21 (am_is_ext e18x (am_is_kd ek16 (am_is_ext e13x (am_is_kd ek11 (am_is_ext e8x (am_is_kd ek6 ho3)))))))))))))))))) (fun σ49 e50 => ?_)
  replace h := h σ49 e50
  have ek51 : am_kd σ49 = am_kd σ47 := by rw [e50]
  refine s_aload_n j479 rfl rfl ?_
  refine s_bipush j480 rfl kc_bi_6 ?_
  refine s_newarray (k := 1001) (m := 6) j482 rfl rfl (by decide) (by decide) (by decide) (by decide) (fun σ52 e53 e53x e53z => ?_)
  replace h := h σ52 e53 e53x e53z
  refine s_pfR j484 rfl (am_is_ext e53x (am_is_kd ek51 (am_is_ext e48x (am_is_kd ek46 (am_is_ext e43x (am_is_kd ek41 (am_is_ext e38x (am_is_kd ek36 (am_is_ext e33x (am_is_kd ek31 (am_is_ext e28x (am_is_kd ek26 (am_is_ext e23x (am_is_kd ek21 (am_is_ext e18x (am_is_kd ek16 (am_is_ext e13x (am_is_kd ek11 (am_is_ext e8x (am_is_kd ek6 ho3)))))))))))))))))))) (fun σ54 e55 => ?_)
  replace h := h σ54 e55
  have ek56 : am_kd σ54 = am_kd σ52 := by rw [e55]
  refine s_aload_n j487 rfl rfl ?_
  refine s_bipush j488 rfl kc_bi_6 ?_
  refine s_newarray (k := 1000) (m := 6) j490 rfl rfl (by decide) (by decide) (by decide) (by decide) (fun σ57 e58 e58x e58z => ?_)
  replace h := h σ57 e58 e58x e58z
  refine s_pfR j492 rfl (am_is_ext e58x (am_is_kd ek56 (am_is_ext e53x (am_is_kd ek51 (am_is_ext e48x (am_is_kd ek46 (am_is_ext e43x (am_is_kd ek41 (am_is_ext e38x (am_is_kd ek36 (am_is_ext e33x (am_is_kd ek31 (am_is_ext e28x (am_is_kd ek26 (am_is_ext e23x (am_is_kd ek21 (am_is_ext e18x (am_is_kd ek16 (am_is_ext e13x (am_is_kd ek11 (am_is_ext e8x (am_is_kd ek6 ho3)))))))))))))))))))))) (fun σ59 e60 => ?_)
  replace h := h σ59 e60
  have ek61 : am_kd σ59 = am_kd σ57 := by rw [e60]
  refine s_aload_n j495 rfl rfl ?_
  refine s_bipush j496 rfl kc_bi_100 ?_
  refine s_newarray (k := 1000) (m := 100) j498 rfl rfl (by decide) (by decide) (by decide) (by decide) (fun σ62 e63 e63x e63z => ?_)
  replace h := h σ62 e63 e63x e63z
  refine s_pfR j500 rfl (am_is_ext e63x (am_is_kd ek61 (am_is_ext e58x (am_is_kd ek56 (am_is_ext e53x (am_is_kd ek51 (am_is_ext e48x (am_is_kd ek46 (am_is_ext e43x (am_is_kd ek41 (am_is_ext e38x (am_is_kd ek36 (am_is_ext e33x (am_is_kd ek31 (am_is_ext e28x (am_is_kd ek26 (am_is_ext e23x (am_is_kd ek21 (am_is_ext e18x (am_is_kd ek16 (am_is_ext e13x (am_is_kd ek11 (am_is_ext e8x (am_is_kd ek6 ho3)))))))))))))))))))))))) (fun σ64 e65 => ?_)
  replace h := h σ64 e65
  have ek66 : am_kd σ64 = am_kd σ62 := by rw [e65]
  refine s_aload_n j503 rfl rfl ?_
  refine s_bipush j504 rfl kc_bi_100 ?_
  refine s_newarray (k := 1001) (m := 100) j506 rfl rfl (by decide) (by decide) (by decide) (by decide) (fun σ67 e68 e68x e68z => ?_)
  replace h := h σ67 e68 e68x e68z
  refine s_pfR j508 rfl (am_is_ext e68x (am_is_kd ek66 (am_is_ext e63x (am_is_kd ek61 (am_is_ext e58x (am_is_kd ek56 (am_is_ext e53x (am_is_kd ek51 (am_is_ext e48x (am_is_kd ek46 (am_is_ext e43x (am_is_kd ek41 (am_is_ext e38x (am_is_kd ek36 (am_is_ext e33x (am_is_kd ek31 (am_is_ext e28x (am_is_kd ek26 (am_is_ext e23x (am_is_kd ek21 (am_is_ext e18x (am_is_kd ek16 (am_is_ext e13x (am_is_kd ek11 (am_is_ext e8x (am_is_kd ek6 ho3)))))))))))))))))))))))))) (fun σ69 e70 => ?_)
  replace h := h σ69 e70
  have ek71 : am_kd σ69 = am_kd σ67 := by rw [e70]
  refine s_aload_n j511 rfl rfl ?_
  refine s_bipush j512 rfl kc_bi_100 ?_
  refine s_newarray (k := 1003) (m := 100) j514 rfl rfl (by decide) (by decide) (by decide) (by decide) (fun σ72 e73 e73x e73z => ?_)
  replace h := h σ72 e73 e73x e73z
  refine s_pfR j516 rfl (am_is_ext e73x (am_is_kd ek71 (am_is_ext e68x (am_is_kd ek66 (am_is_ext e63x (am_is_kd ek61 (am_is_ext e58x (am_is_kd ek56 (am_is_ext e53x (am_is_kd ek51 (am_is_ext e48x (am_is_kd ek46 (am_is_ext e43x (am_is_kd ek41 (am_is_ext e38x (am_is_kd ek36 (am_is_ext e33x (am_is_kd ek31 (am_is_ext e28x (am_is_kd ek26 (am_is_ext e23x (am_is_kd ek21 (am_is_ext e18x (am_is_kd ek16 (am_is_ext e13x (am_is_kd ek11 (am_is_ext e8x (am_is_kd ek6 ho3)))))))))))))))))))))))))))) (fun σ74 e75 => ?_)
  replace h := h σ74 e75
  have ek76 : am_kd σ74 = am_kd σ72 := by rw [e75]
  exact h
theorem P_Ro_init_519 (nl : Bool) (Ln : Nat) (xs : Nat → Int32) : am_Jl (TT nl Ln xs) 198 [(519, .aload_n 0, 520, []), (520, .bipush 100, 522, []), (522, .newarray .int, 524, []), (524, .putfield 197, 527, [9, 13, 88, 2]), (527, .aload_n 0, 528, []), (528, .bipush 6, 530, []), (530, .newarray .long, 532, []), (532, .putfield 200, 535, [9, 13, 89, 2]), (535, .aload_n 0, 536, []), (536, .sipush 400, 539, []), (539, .newarray .int, 541, []), (541, .putfield 203, 544, [9, 13, 90, 2]), (544, .return_, 545, [0])] := dk_ck (by decide +kernel)
set_option maxRecDepth 4096 in
theorem w_Ro_init_519 {nl : Bool} {Ln : Nat} {xs : Nat → Int32} {d : Nat} {this : Nat} {x1 : Option Nat} {σ : am_S} {F : am_S → Prop} (h : ∀ σ1, σ1 = am_new σ 1000 100 100 → am_ext σ σ1 → am_fz σ1 (am_nx σ) → (am_is σ1 (some this) 13) ∧ ∀ σ4, σ4 = am_sfR σ1 13088 this (some (am_nx σ)) → ∀ σ7, σ7 = am_new σ4 1001 6 6 → am_ext σ4 σ7 → am_fz σ7 (am_nx σ4) → ∀ σ9, σ9 = am_sfR σ7 13089 this (some (am_nx σ4)) → ∀ σ12, σ12 = am_new σ9 1000 400 400 → am_ext σ9 σ12 → am_fz σ12 (am_nx σ9) → ∀ σ14, σ14 = am_sfR σ12 13090 this (some (am_nx σ9)) → F σ14) : c_Ro_init_519 nl Ln xs (d + 1) this x1 σ F := by
  obtain ⟨j519, j520, j522, j524, j527, j528, j530, j532, j535, j536, j539, j541, j544, -⟩ := P_Ro_init_519 nl Ln xs
  unfold c_Ro_init_519
  refine s_aload_n j519 rfl rfl ?_
  refine s_bipush j520 rfl kc_bi_100 ?_
  refine s_newarray (k := 1000) (m := 100) j522 rfl rfl (by decide) (by decide) (by decide) (by decide) (fun σ1 e2 e2x e2z => ?_)
  replace h := h σ1 e2 e2x e2z
  obtain ⟨ho3, h⟩ := h
  refine s_pfR j524 rfl ho3 (fun σ4 e5 => ?_)
  replace h := h σ4 e5
  have ek6 : am_kd σ4 = am_kd σ1 := by rw [e5]
  refine s_aload_n j527 rfl rfl ?_
  refine s_bipush j528 rfl kc_bi_6 ?_
  refine s_newarray (k := 1001) (m := 6) j530 rfl rfl (by decide) (by decide) (by decide) (by decide) (fun σ7 e8 e8x e8z => ?_)
  replace h := h σ7 e8 e8x e8z
  refine s_pfR j532 rfl (am_is_ext e8x (am_is_kd ek6 ho3)) (fun σ9 e10 => ?_)
  replace h := h σ9 e10
  have ek11 : am_kd σ9 = am_kd σ7 := by rw [e10]
  refine s_aload_n j535 rfl rfl ?_
  refine s_sipush j536 rfl kc_si_400 ?_
  refine s_newarray (k := 1000) (m := 400) j539 rfl rfl (by decide) (by decide) (by decide) (by decide) (fun σ12 e13 e13x e13z => ?_)
  replace h := h σ12 e13 e13x e13z
  refine s_pfR j541 rfl (am_is_ext e13x (am_is_kd ek11 (am_is_ext e8x (am_is_kd ek6 ho3)))) (fun σ14 e15 => ?_)
  replace h := h σ14 e15
  have ek16 : am_kd σ14 = am_kd σ12 := by rw [e15]
  exact s_retV j544 rfl h
