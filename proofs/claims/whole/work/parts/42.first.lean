/-! THE FIRST CALL, acts of the class that are refused -/
section
variable {nl : Bool} {Ln : Nat} {xs : Nat → Int32} {d : Nat} {σ : am_S}
theorem p_at0 {v : Int64} {X : Option Nat} : (if v < (0 : Int64) then none else (if v < ((0 : Int32)).toInt64 then X else none)) = none := by
  by_cases h : v < 0
  · rw [if_pos h]
  · rw [if_neg h, if_neg (by simpa using h)]
theorem p_lt0 {v : Int64} (h : ¬ v < (0 : Int64)) : ¬ v < ((0 : Int32)).toInt64 := by simpa using h
theorem p_policyAt (h0 : i_fc σ) {v : Int64} {F : Option Nat → am_S → Prop} (h : F none σ) : k_Bk_policyAt nl Ln xs (d + 1) 1039 v σ F := by
  refine w_Bk_policyAt ⟨fun _ => is_mk (ik_1039 h0), fun _ _ => is_mk (ik_1039 h0), fun h1 h2 => absurd h2 (by rw [ii_6012_1039 h0]; exact p_lt0 h1), ?_⟩
  intro w hw
  rw [ii_6012_1039 h0, p_at0] at hw
  rw [hw]
  exact h
theorem p_lossAt (h0 : i_fc σ) {v : Int64} {F : Option Nat → am_S → Prop} (h : F none σ) : k_Bk_lossAt nl Ln xs (d + 1) 1039 v σ F := by
  refine w_Bk_lossAt ⟨fun _ => is_mk (ik_1039 h0), fun _ _ => is_mk (ik_1039 h0), fun h1 h2 => absurd h2 (by rw [ii_6013_1039 h0]; exact p_lt0 h1), ?_⟩
  intro w hw
  rw [ii_6013_1039 h0, p_at0] at hw
  rw [hw]
  exact h
theorem p_caseAt (h0 : i_fc σ) {v : Int64} {F : Option Nat → am_S → Prop} (h : F none σ) : k_Bk_caseAt nl Ln xs (d + 1) 1039 v σ F := by
  refine w_Bk_caseAt ⟨fun _ => is_mk (ik_1039 h0), fun _ _ => is_mk (ik_1039 h0), fun h1 h2 => absurd h2 (by rw [ii_6014_1039 h0]; exact p_lt0 h1), ?_⟩
  intro w hw
  rw [ii_6014_1039 h0, p_at0] at hw
  rw [hw]
  exact h
/-- the deed's row has places -/
theorem p_ar (h0 : i_fc σ) {i : Int32} (h1 : 0 ≤ i.toInt) (h2 : i.toInt < 7) : am_ar σ 1001 (some 1007) i := ar_mk (ik_1007 h0) h1 (by exact_mod_cast h2)
theorem p_perf {a : Int32} {o : Option Nat} {F : Int32 → am_S → Prop} (h0 : i_fc σ) (ha : am_aL σ 1007 0 = a.toInt64) (h1 : a < 12) (h2 : ¬ a = 6)
    (h : k_Bk_tellOrMake nl Ln xs d 1039 (some 1007) σ (fun r σ2 => am_ext σ σ2 → c_Bk_perform_235 nl Ln xs (d + 1) 1039 (some 1007) o a r σ2 F)) : k_Bk_perform nl Ln xs (d + 1) 1039 (some 1007) o σ F := by
  have n21 : ¬ a = 21 := by rintro rfl; exact absurd h1 (by decide)
  have n22 : ¬ a = 22 := by rintro rfl; exact absurd h1 (by decide)
  have n20 : ¬ a = 20 := by rintro rfl; exact absurd h1 (by decide)
  refine w_Bk_perform ⟨p_ar h0 (by decide) (by decide), ?_⟩
  intro v2 e2
  rw [Option.getD_some, z0, ha, i64_32] at e2
  subst e2
  refine ⟨fun _ => ?_, fun h => absurd h1 h⟩
  refine w_Bk_perform_56 ⟨is_mk (ik_1039 h0), ?_⟩
  rw [if_neg (by rintro (h | h); exact n21 h; exact n22 h), ii_6019_1039 h0]
  refine w_Bk_perform_77 ⟨fun _ => ⟨fun h => absurd h n20, fun _ => ⟨fun h => absurd h n22, fun _ => ⟨fun h => absurd h n21, fun _ => ⟨fun h => absurd h h2, fun _ => ⟨is_mk (ik_1039 h0), h⟩⟩⟩⟩⟩, fun h => absurd rfl h⟩
theorem p_neg {a r : Int32} {x1 x2 : Option Nat} {F : Int32 → am_S → Prop} (hr : r < 0) (h : F r σ) : c_Bk_perform_235 nl Ln xs (d + 1) 1039 x1 x2 a r σ F := w_Bk_perform_235 ⟨fun _ => h, fun k => absurd hr k⟩
theorem p_tom1 {F : Int32 → am_S → Prop} (h0 : i_fc σ) (ha : am_aL σ 1007 0 = (1 : Int32).toInt64) (h : c_Bk_tellOrMake_64 nl Ln xs (d + 1) 1039 (some 1007) σ F) : k_Bk_tellOrMake nl Ln xs (d + 1) 1039 (some 1007) σ F := by
  have e : (am_aL σ ((some 1007).getD 0) (0 : Int32).toNatClampNeg).toInt32 = 1 := by rw [Option.getD_some, z0, ha, i64_32]
  refine w_Bk_tellOrMake ⟨p_ar h0 (by decide) (by decide), fun _ => h, fun k => absurd (e.symm.trans k) (by decide), fun k => absurd (e.symm.trans k) (by decide), fun k => absurd (e.symm.trans k) (by decide), fun k => absurd (e.symm.trans k) (by decide), fun k => absurd (e.symm.trans k) (by decide), fun k => absurd (e.symm.trans k) (by decide), fun k => absurd (e.symm.trans k) (by decide), fun k => absurd (e.symm.trans k) (by decide), fun k => absurd (e.symm.trans k) (by decide), fun k => ?_⟩
  rw [e] at k
  exact absurd k (by decide)
theorem p_tom2 {F : Int32 → am_S → Prop} (h0 : i_fc σ) (ha : am_aL σ 1007 0 = (2 : Int32).toInt64) (h : c_Bk_tellOrMake_69 nl Ln xs (d + 1) 1039 (some 1007) σ F) : k_Bk_tellOrMake nl Ln xs (d + 1) 1039 (some 1007) σ F := by
  have e : (am_aL σ ((some 1007).getD 0) (0 : Int32).toNatClampNeg).toInt32 = 2 := by rw [Option.getD_some, z0, ha, i64_32]
  refine w_Bk_tellOrMake ⟨p_ar h0 (by decide) (by decide), fun k => absurd (e.symm.trans k) (by decide), fun _ => h, fun k => absurd (e.symm.trans k) (by decide), fun k => absurd (e.symm.trans k) (by decide), fun k => absurd (e.symm.trans k) (by decide), fun k => absurd (e.symm.trans k) (by decide), fun k => absurd (e.symm.trans k) (by decide), fun k => absurd (e.symm.trans k) (by decide), fun k => absurd (e.symm.trans k) (by decide), fun k => absurd (e.symm.trans k) (by decide), fun k => ?_⟩
  rw [e] at k
  exact absurd k (by decide)
theorem p_tom3 {F : Int32 → am_S → Prop} (h0 : i_fc σ) (ha : am_aL σ 1007 0 = (3 : Int32).toInt64) (h : c_Bk_tellOrMake_75 nl Ln xs (d + 1) 1039 (some 1007) σ F) : k_Bk_tellOrMake nl Ln xs (d + 1) 1039 (some 1007) σ F := by
  have e : (am_aL σ ((some 1007).getD 0) (0 : Int32).toNatClampNeg).toInt32 = 3 := by rw [Option.getD_some, z0, ha, i64_32]
  refine w_Bk_tellOrMake ⟨p_ar h0 (by decide) (by decide), fun k => absurd (e.symm.trans k) (by decide), fun k => absurd (e.symm.trans k) (by decide), fun _ => h, fun k => absurd (e.symm.trans k) (by decide), fun k => absurd (e.symm.trans k) (by decide), fun k => absurd (e.symm.trans k) (by decide), fun k => absurd (e.symm.trans k) (by decide), fun k => absurd (e.symm.trans k) (by decide), fun k => absurd (e.symm.trans k) (by decide), fun k => absurd (e.symm.trans k) (by decide), fun k => ?_⟩
  rw [e] at k
  exact absurd k (by decide)
theorem p_tom4 {F : Int32 → am_S → Prop} (h0 : i_fc σ) (ha : am_aL σ 1007 0 = (4 : Int32).toInt64) (h : c_Bk_tellOrMake_81 nl Ln xs (d + 1) 1039 (some 1007) σ F) : k_Bk_tellOrMake nl Ln xs (d + 1) 1039 (some 1007) σ F := by
  have e : (am_aL σ ((some 1007).getD 0) (0 : Int32).toNatClampNeg).toInt32 = 4 := by rw [Option.getD_some, z0, ha, i64_32]
  refine w_Bk_tellOrMake ⟨p_ar h0 (by decide) (by decide), fun k => absurd (e.symm.trans k) (by decide), fun k => absurd (e.symm.trans k) (by decide), fun k => absurd (e.symm.trans k) (by decide), fun _ => h, fun k => absurd (e.symm.trans k) (by decide), fun k => absurd (e.symm.trans k) (by decide), fun k => absurd (e.symm.trans k) (by decide), fun k => absurd (e.symm.trans k) (by decide), fun k => absurd (e.symm.trans k) (by decide), fun k => absurd (e.symm.trans k) (by decide), fun k => ?_⟩
  rw [e] at k
  exact absurd k (by decide)
theorem p_tom5 {F : Int32 → am_S → Prop} (h0 : i_fc σ) (ha : am_aL σ 1007 0 = (5 : Int32).toInt64) (h : c_Bk_tellOrMake_87 nl Ln xs (d + 1) 1039 (some 1007) σ F) : k_Bk_tellOrMake nl Ln xs (d + 1) 1039 (some 1007) σ F := by
  have e : (am_aL σ ((some 1007).getD 0) (0 : Int32).toNatClampNeg).toInt32 = 5 := by rw [Option.getD_some, z0, ha, i64_32]
  refine w_Bk_tellOrMake ⟨p_ar h0 (by decide) (by decide), fun k => absurd (e.symm.trans k) (by decide), fun k => absurd (e.symm.trans k) (by decide), fun k => absurd (e.symm.trans k) (by decide), fun k => absurd (e.symm.trans k) (by decide), fun _ => h, fun k => absurd (e.symm.trans k) (by decide), fun k => absurd (e.symm.trans k) (by decide), fun k => absurd (e.symm.trans k) (by decide), fun k => absurd (e.symm.trans k) (by decide), fun k => absurd (e.symm.trans k) (by decide), fun k => ?_⟩
  rw [e] at k
  exact absurd k (by decide)
theorem p_tom7 {F : Int32 → am_S → Prop} (h0 : i_fc σ) (ha : am_aL σ 1007 0 = (7 : Int32).toInt64) (h : c_Bk_tellOrMake_93 nl Ln xs (d + 1) 1039 (some 1007) σ F) : k_Bk_tellOrMake nl Ln xs (d + 1) 1039 (some 1007) σ F := by
  have e : (am_aL σ ((some 1007).getD 0) (0 : Int32).toNatClampNeg).toInt32 = 7 := by rw [Option.getD_some, z0, ha, i64_32]
  refine w_Bk_tellOrMake ⟨p_ar h0 (by decide) (by decide), fun k => absurd (e.symm.trans k) (by decide), fun k => absurd (e.symm.trans k) (by decide), fun k => absurd (e.symm.trans k) (by decide), fun k => absurd (e.symm.trans k) (by decide), fun k => absurd (e.symm.trans k) (by decide), fun _ => h, fun k => absurd (e.symm.trans k) (by decide), fun k => absurd (e.symm.trans k) (by decide), fun k => absurd (e.symm.trans k) (by decide), fun k => absurd (e.symm.trans k) (by decide), fun k => ?_⟩
  rw [e] at k
  exact absurd k (by decide)
theorem p_tom8 {F : Int32 → am_S → Prop} (h0 : i_fc σ) (ha : am_aL σ 1007 0 = (8 : Int32).toInt64) (h : c_Bk_tellOrMake_99 nl Ln xs (d + 1) 1039 (some 1007) σ F) : k_Bk_tellOrMake nl Ln xs (d + 1) 1039 (some 1007) σ F := by
  have e : (am_aL σ ((some 1007).getD 0) (0 : Int32).toNatClampNeg).toInt32 = 8 := by rw [Option.getD_some, z0, ha, i64_32]
  refine w_Bk_tellOrMake ⟨p_ar h0 (by decide) (by decide), fun k => absurd (e.symm.trans k) (by decide), fun k => absurd (e.symm.trans k) (by decide), fun k => absurd (e.symm.trans k) (by decide), fun k => absurd (e.symm.trans k) (by decide), fun k => absurd (e.symm.trans k) (by decide), fun k => absurd (e.symm.trans k) (by decide), fun _ => h, fun k => absurd (e.symm.trans k) (by decide), fun k => absurd (e.symm.trans k) (by decide), fun k => absurd (e.symm.trans k) (by decide), fun k => ?_⟩
  rw [e] at k
  exact absurd k (by decide)
theorem p_tom9 {F : Int32 → am_S → Prop} (h0 : i_fc σ) (ha : am_aL σ 1007 0 = (9 : Int32).toInt64) (h : c_Bk_tellOrMake_105 nl Ln xs (d + 1) 1039 (some 1007) σ F) : k_Bk_tellOrMake nl Ln xs (d + 1) 1039 (some 1007) σ F := by
  have e : (am_aL σ ((some 1007).getD 0) (0 : Int32).toNatClampNeg).toInt32 = 9 := by rw [Option.getD_some, z0, ha, i64_32]
  refine w_Bk_tellOrMake ⟨p_ar h0 (by decide) (by decide), fun k => absurd (e.symm.trans k) (by decide), fun k => absurd (e.symm.trans k) (by decide), fun k => absurd (e.symm.trans k) (by decide), fun k => absurd (e.symm.trans k) (by decide), fun k => absurd (e.symm.trans k) (by decide), fun k => absurd (e.symm.trans k) (by decide), fun k => absurd (e.symm.trans k) (by decide), fun _ => h, fun k => absurd (e.symm.trans k) (by decide), fun k => absurd (e.symm.trans k) (by decide), fun k => ?_⟩
  rw [e] at k
  exact absurd k (by decide)
theorem p_tom10 {F : Int32 → am_S → Prop} (h0 : i_fc σ) (ha : am_aL σ 1007 0 = (10 : Int32).toInt64) (h : c_Bk_tellOrMake_111 nl Ln xs (d + 1) 1039 (some 1007) σ F) : k_Bk_tellOrMake nl Ln xs (d + 1) 1039 (some 1007) σ F := by
  have e : (am_aL σ ((some 1007).getD 0) (0 : Int32).toNatClampNeg).toInt32 = 10 := by rw [Option.getD_some, z0, ha, i64_32]
  refine w_Bk_tellOrMake ⟨p_ar h0 (by decide) (by decide), fun k => absurd (e.symm.trans k) (by decide), fun k => absurd (e.symm.trans k) (by decide), fun k => absurd (e.symm.trans k) (by decide), fun k => absurd (e.symm.trans k) (by decide), fun k => absurd (e.symm.trans k) (by decide), fun k => absurd (e.symm.trans k) (by decide), fun k => absurd (e.symm.trans k) (by decide), fun k => absurd (e.symm.trans k) (by decide), fun _ => h, fun k => absurd (e.symm.trans k) (by decide), fun k => ?_⟩
  rw [e] at k
  exact absurd k (by decide)
theorem p_tom11 {F : Int32 → am_S → Prop} (h0 : i_fc σ) (ha : am_aL σ 1007 0 = (11 : Int32).toInt64) (h : c_Bk_tellOrMake_117 nl Ln xs (d + 1) 1039 (some 1007) σ F) : k_Bk_tellOrMake nl Ln xs (d + 1) 1039 (some 1007) σ F := by
  have e : (am_aL σ ((some 1007).getD 0) (0 : Int32).toNatClampNeg).toInt32 = 11 := by rw [Option.getD_some, z0, ha, i64_32]
  refine w_Bk_tellOrMake ⟨p_ar h0 (by decide) (by decide), fun k => absurd (e.symm.trans k) (by decide), fun k => absurd (e.symm.trans k) (by decide), fun k => absurd (e.symm.trans k) (by decide), fun k => absurd (e.symm.trans k) (by decide), fun k => absurd (e.symm.trans k) (by decide), fun k => absurd (e.symm.trans k) (by decide), fun k => absurd (e.symm.trans k) (by decide), fun k => absurd (e.symm.trans k) (by decide), fun k => absurd (e.symm.trans k) (by decide), fun _ => h, fun k => ?_⟩
  rw [e] at k
  exact absurd k (by decide)
theorem p_makePolicy {F : Int32 → am_S → Prop} (h0 : i_fc σ) (h : F (-2) σ) : k_Bk_makePolicy nl Ln xs (d + 1) 1039 (some 1007) σ F := by
  refine w_Bk_makePolicy ⟨p_ar h0 (by decide) (by decide), fun _ => p_ar h0 (by decide) (by decide), fun _ _ => p_ar h0 (by decide) (by decide), fun _ _ _ => p_ar h0 (by decide) (by decide), fun _ _ _ => is_mk (ik_1039 h0), ?_⟩
  rw [if_neg (by rw [ii_6011_1039 h0]; rintro ⟨-, -, h1, h2⟩; exact p_lt0 h1 h2)]
  exact w_Bk_makePolicy_43 ⟨fun _ => h, fun k => absurd rfl k⟩
theorem p_tellBundle {F : Int32 → am_S → Prop} (h0 : i_fc σ) (h : F (-2) σ) : k_Bk_tellBundle nl Ln xs (d + 2) 1039 (some 1007) σ F := by
  refine w_Bk_tellBundle ⟨p_ar h0 (by decide) (by decide), is_mk (ik_1039 h0), p_policyAt h0 ?_⟩
  intro _
  refine ⟨p_ar h0 (by decide) (by decide), p_policyAt h0 ?_⟩
  intro _
  refine ⟨fun h => absurd rfl h, fun h => absurd rfl h, fun h => absurd rfl h, ?_⟩
  rw [if_neg (by rintro ⟨h, -⟩; exact h rfl)]
  exact w_Bk_tellBundle_52 ⟨fun _ => h, fun k => absurd rfl k⟩
theorem p_tellPeriod {F : Int32 → am_S → Prop} (h0 : i_fc σ) (h : F (-2) σ) : k_Bk_tellPeriod nl Ln xs (d + 2) 1039 (some 1007) σ F := by
  refine w_Bk_tellPeriod ⟨p_ar h0 (by decide) (by decide), is_mk (ik_1039 h0), p_policyAt h0 ?_⟩
  intro _
  refine ⟨p_ar h0 (by decide) (by decide), ?_⟩
  intro v6 _
  exact ⟨fun _ => h, fun k => absurd rfl k⟩
theorem p_tellClauses {o : Option Nat} {F : Int32 → am_S → Prop} (h0 : i_fc σ) (h : F (-2) σ) : k_Bk_tellClauses nl Ln xs (d + 2) 1039 (some 1007) o σ F := by
  refine w_Bk_tellClauses ⟨p_ar h0 (by decide) (by decide), is_mk (ik_1039 h0), p_policyAt h0 ?_⟩
  exact fun _ => ⟨fun _ => h, fun k => absurd rfl k⟩
theorem p_tellRule {F : Int32 → am_S → Prop} (h0 : i_fc σ) (h : F (-2) σ) : k_Bk_tellRule nl Ln xs (d + 2) 1039 (some 1007) σ F := by
  refine w_Bk_tellRule ⟨p_ar h0 (by decide) (by decide), is_mk (ik_1039 h0), p_policyAt h0 ?_⟩
  exact fun _ => ⟨fun _ => h, fun k => absurd rfl k⟩
theorem p_makePart {F : Int32 → am_S → Prop} (h0 : i_fc σ) (h : F (-2) σ) : k_Bk_makePart nl Ln xs (d + 2) 1039 (some 1007) σ F := by
  refine w_Bk_makePart ⟨p_ar h0 (by decide) (by decide), is_mk (ik_1039 h0), p_lossAt h0 ?_⟩
  exact fun _ => ⟨fun _ => h, fun k => absurd rfl k⟩
theorem p_makeItem {F : Int32 → am_S → Prop} (h0 : i_fc σ) (h : F (-2) σ) : k_Bk_makeItem nl Ln xs (d + 2) 1039 (some 1007) σ F := by
  refine w_Bk_makeItem ⟨p_ar h0 (by decide) (by decide), is_mk (ik_1039 h0), p_lossAt h0 ?_⟩
  intro _
  refine ⟨p_ar h0 (by decide) (by decide), fun _ => p_ar h0 (by decide) (by decide), ?_⟩
  exact w_Bk_makeItem_31 ⟨fun _ => h, fun k => absurd rfl k⟩
theorem p_makeCase {F : Int32 → am_S → Prop} (h0 : i_fc σ) (h : F (-2) σ) : k_Bk_makeCase nl Ln xs (d + 2) 1039 (some 1007) σ F := by
  refine w_Bk_makeCase ⟨p_ar h0 (by decide) (by decide), is_mk (ik_1039 h0), p_policyAt h0 ?_⟩
  intro _
  refine ⟨p_ar h0 (by decide) (by decide), p_lossAt h0 ?_⟩
  exact fun _ => ⟨fun _ => h, fun k => absurd rfl k⟩
theorem p_doFact {F : Int32 → am_S → Prop} (h0 : i_fc σ) (h : F (-2) σ) : k_Bk_doFact nl Ln xs (d + 2) 1039 (some 1007) 0 σ F := by
  refine w_Bk_doFact ⟨p_ar h0 (by decide) (by decide), ?_⟩
  intro v2 _
  refine ⟨p_ar h0 (by decide) (by decide), is_mk (ik_1039 h0), p_caseAt h0 ?_⟩
  exact fun _ => ⟨fun _ => h, fun k => absurd rfl k⟩
theorem p_perfF {a : Int32} {o : Option Nat} {F : Int32 → am_S → Prop} (h0 : i_fc σ) (ha : am_aL σ 1007 0 = a.toInt64) (h1 : ¬ a < 12) (h2 : ¬ (19 : Int32) < a) (h : F (-2) σ) : k_Bk_perform nl Ln xs (d + 3) 1039 (some 1007) o σ F := by
  refine w_Bk_perform ⟨p_ar h0 (by decide) (by decide), ?_⟩
  intro v2 e2
  rw [Option.getD_some, z0, ha, i64_32] at e2
  subst e2
  refine ⟨fun k => absurd k h1, fun _ => ⟨fun k => absurd k h2, fun _ => ⟨is_mk (ik_1039 h0), fun _ => p_doFact h0 ?_, fun k => absurd (ii_6019_1039 h0) k⟩⟩⟩
  exact fun _ => w_Bk_perform_38 ⟨fun k => absurd k (by decide), fun _ => h⟩
theorem p_perfE {a : Int32} {o : Option Nat} {F : Int32 → am_S → Prop} (h0 : i_fc σ) (ha : am_aL σ 1007 0 = a.toInt64) (h1 : ¬ a < 12) (h2 : (19 : Int32) < a) (h3 : a = 21 ∨ a = 22) (h : F (-3) σ) : k_Bk_perform nl Ln xs (d + 1) 1039 (some 1007) o σ F := by
  refine w_Bk_perform ⟨p_ar h0 (by decide) (by decide), ?_⟩
  intro v2 e2
  rw [Option.getD_some, z0, ha, i64_32] at e2
  subst e2
  refine ⟨fun k => absurd k h1, fun _ => ⟨fun _ => ?_, fun k => absurd h2 k⟩⟩
  refine w_Bk_perform_56 ⟨is_mk (ik_1039 h0), ?_⟩
  rw [if_pos h3, ii_6019_1039 h0]
  exact w_Bk_perform_77 ⟨fun k => absurd k (by decide), fun _ => h⟩
theorem p_perfC {F : Int32 → am_S → Prop} {o : Option Nat} (h0 : i_fc σ) (ha : am_aL σ 1007 0 = (6 : Int32).toInt64) (h : F (-2) σ) : k_Bk_perform nl Ln xs (d + 3) 1039 (some 1007) o σ F := by
  refine w_Bk_perform ⟨p_ar h0 (by decide) (by decide), ?_⟩
  intro v2 e2
  rw [Option.getD_some, z0, ha, i64_32] at e2
  subst e2
  refine ⟨fun _ => ?_, fun h => absurd (by decide) h⟩
  refine w_Bk_perform_56 ⟨is_mk (ik_1039 h0), ?_⟩
  rw [if_neg (by decide), ii_6019_1039 h0]
  refine w_Bk_perform_77 ⟨fun _ => ⟨fun h => absurd h (by decide), fun _ => ⟨fun h => absurd h (by decide), fun _ => ⟨fun h => absurd h (by decide), fun _ => ⟨fun _ => ⟨is_mk (ik_1039 h0), p_tellClauses h0 ?_⟩, fun h => absurd rfl h⟩⟩⟩⟩, fun h => absurd rfl h⟩
  exact fun _ => p_neg (by decide) h
theorem p_Co_policy {p0 : Int32} {p1 : Int32} {p2 : Int32} {p3 : Int32} {F : Int32 → am_S → Prop} (h0 : i_fc σ) (h : F (-2) (st_fill σ 3 p0.toInt64 p1.toInt64 p2.toInt64 p3.toInt64)) : k_Co_policy nl Ln xs (d + 8) 1000 p0 p1 p2 p3 σ F := by
  refine w_Co_policy ⟨is_mk (ik_1000 h0), f_fill (ik_1000 h0) (ik_1007 h0) (ir_3_1000 h0) ?_⟩
  have h1 : i_fc (st_fill σ 3 p0.toInt64 p1.toInt64 p2.toInt64 p3.toInt64) := h0
  intro _
  rw [ir_7_1000 h1, ir_3_1000 h1, ir_1_1000 h1, Option.getD_some]
  refine ⟨is_mk (ik_1039 h1), p_perf h1 fl_0 (by decide) (by decide) (p_tom3 h1 fl_0 (w_Bk_tellOrMake_75 ⟨is_mk (ik_1039 h1), p_makePolicy h1 (fun _ _ => p_neg (by decide) (fun _ => h))⟩))⟩
theorem p_Co_bundle {p0 : Int32} {p1 : Int32} {p2 : Int32} {F : Int32 → am_S → Prop} (h0 : i_fc σ) (h : F (-2) (st_fill σ 4 p0.toInt64 p1.toInt64 p2.toInt64 0)) : k_Co_bundle nl Ln xs (d + 8) 1000 p0 p1 p2 σ F := by
  refine w_Co_bundle ⟨is_mk (ik_1000 h0), f_fill (ik_1000 h0) (ik_1007 h0) (ir_3_1000 h0) ?_⟩
  have h1 : i_fc (st_fill σ 4 p0.toInt64 p1.toInt64 p2.toInt64 0) := h0
  intro _
  rw [ir_7_1000 h1, ir_3_1000 h1, ir_1_1000 h1, Option.getD_some]
  refine ⟨is_mk (ik_1039 h1), p_perf h1 fl_0 (by decide) (by decide) (p_tom4 h1 fl_0 (w_Bk_tellOrMake_81 ⟨is_mk (ik_1039 h1), p_tellBundle h1 (fun _ _ => p_neg (by decide) (fun _ => h))⟩))⟩
theorem p_Co_period {p0 : Int32} {p1 : Int32} {p2 : Int64} {F : Int32 → am_S → Prop} (h0 : i_fc σ) (h : F (-2) (st_fill σ 5 p0.toInt64 p1.toInt64 p2 0)) : k_Co_period nl Ln xs (d + 8) 1000 p0 p1 p2 σ F := by
  refine w_Co_period ⟨is_mk (ik_1000 h0), f_fill (ik_1000 h0) (ik_1007 h0) (ir_3_1000 h0) ?_⟩
  have h1 : i_fc (st_fill σ 5 p0.toInt64 p1.toInt64 p2 0) := h0
  intro _
  rw [ir_7_1000 h1, ir_3_1000 h1, ir_1_1000 h1, Option.getD_some]
  refine ⟨is_mk (ik_1039 h1), p_perf h1 fl_0 (by decide) (by decide) (p_tom5 h1 fl_0 (w_Bk_tellOrMake_87 ⟨is_mk (ik_1039 h1), p_tellPeriod h1 (fun _ _ => p_neg (by decide) (fun _ => h))⟩))⟩
theorem p_Co_shareRule {p0 : Int32} {p1 : Int32} {F : Int32 → am_S → Prop} (h0 : i_fc σ) (h : F (-2) (st_fill σ 7 p0.toInt64 p1.toInt64 0 0)) : k_Co_shareRule nl Ln xs (d + 8) 1000 p0 p1 σ F := by
  refine w_Co_shareRule ⟨is_mk (ik_1000 h0), f_fill (ik_1000 h0) (ik_1007 h0) (ir_3_1000 h0) ?_⟩
  have h1 : i_fc (st_fill σ 7 p0.toInt64 p1.toInt64 0 0) := h0
  intro _
  rw [ir_7_1000 h1, ir_3_1000 h1, ir_1_1000 h1, Option.getD_some]
  refine ⟨is_mk (ik_1039 h1), p_perf h1 fl_0 (by decide) (by decide) (p_tom7 h1 fl_0 (w_Bk_tellOrMake_93 ⟨is_mk (ik_1039 h1), p_tellRule h1 (fun _ _ => p_neg (by decide) (fun _ => h))⟩))⟩
theorem p_Co_part {p0 : Int32} {p1 : Int32} {F : Int32 → am_S → Prop} (h0 : i_fc σ) (h : F (-2) (st_fill σ 9 p0.toInt64 p1.toInt64 0 0)) : k_Co_part nl Ln xs (d + 8) 1000 p0 p1 σ F := by
  refine w_Co_part ⟨is_mk (ik_1000 h0), f_fill (ik_1000 h0) (ik_1007 h0) (ir_3_1000 h0) ?_⟩
  have h1 : i_fc (st_fill σ 9 p0.toInt64 p1.toInt64 0 0) := h0
  intro _
  rw [ir_7_1000 h1, ir_3_1000 h1, ir_1_1000 h1, Option.getD_some]
  refine ⟨is_mk (ik_1039 h1), p_perf h1 fl_0 (by decide) (by decide) (p_tom9 h1 fl_0 (w_Bk_tellOrMake_105 ⟨is_mk (ik_1039 h1), p_makePart h1 (fun _ _ => p_neg (by decide) (fun _ => h))⟩))⟩
theorem p_Co_item {p0 : Int32} {p1 : Int32} {p2 : Int64} {p3 : Int64} {F : Int32 → am_S → Prop} (h0 : i_fc σ) (h : F (-2) (st_fill σ 10 p0.toInt64 p1.toInt64 p2 p3)) : k_Co_item nl Ln xs (d + 8) 1000 p0 p1 p2 p3 σ F := by
  refine w_Co_item ⟨is_mk (ik_1000 h0), f_fill (ik_1000 h0) (ik_1007 h0) (ir_3_1000 h0) ?_⟩
  have h1 : i_fc (st_fill σ 10 p0.toInt64 p1.toInt64 p2 p3) := h0
  intro _
  rw [ir_7_1000 h1, ir_3_1000 h1, ir_1_1000 h1, Option.getD_some]
  refine ⟨is_mk (ik_1039 h1), p_perf h1 fl_0 (by decide) (by decide) (p_tom10 h1 fl_0 (w_Bk_tellOrMake_111 ⟨is_mk (ik_1039 h1), p_makeItem h1 (fun _ _ => p_neg (by decide) (fun _ => h))⟩))⟩
theorem p_Co_notify {p0 : Int32} {p1 : Int32} {p2 : Int32} {p3 : Int32} {F : Int32 → am_S → Prop} (h0 : i_fc σ) (h : F (-2) (st_fill σ 11 p0.toInt64 p1.toInt64 p2.toInt64 p3.toInt64)) : k_Co_notify nl Ln xs (d + 8) 1000 p0 p1 p2 p3 σ F := by
  refine w_Co_notify ⟨is_mk (ik_1000 h0), f_fill (ik_1000 h0) (ik_1007 h0) (ir_3_1000 h0) ?_⟩
  have h1 : i_fc (st_fill σ 11 p0.toInt64 p1.toInt64 p2.toInt64 p3.toInt64) := h0
  intro _
  rw [ir_7_1000 h1, ir_3_1000 h1, ir_1_1000 h1, Option.getD_some]
  refine ⟨is_mk (ik_1039 h1), p_perf h1 fl_0 (by decide) (by decide) (p_tom11 h1 fl_0 (w_Bk_tellOrMake_117 ⟨is_mk (ik_1039 h1), p_makeCase h1 (fun _ _ => p_neg (by decide) (fun _ => h))⟩))⟩
theorem p_Co_reserve {p0 : Int32} {p1 : Int32} {p2 : Int32} {p3 : Int64} {F : Int32 → am_S → Prop} (h0 : i_fc σ) (h : F (-2) (st_fill σ 12 p0.toInt64 p1.toInt64 p2.toInt64 p3)) : k_Co_reserve nl Ln xs (d + 8) 1000 p0 p1 p2 p3 σ F := by
  refine w_Co_reserve ⟨is_mk (ik_1000 h0), f_fill (ik_1000 h0) (ik_1007 h0) (ir_3_1000 h0) ?_⟩
  have h1 : i_fc (st_fill σ 12 p0.toInt64 p1.toInt64 p2.toInt64 p3) := h0
  intro _
  rw [ir_7_1000 h1, ir_3_1000 h1, ir_1_1000 h1, Option.getD_some]
  refine ⟨is_mk (ik_1039 h1), p_perfF h1 fl_0 (by decide) (by decide) (fun _ => h)⟩
theorem p_Co_pay {p0 : Int32} {p1 : Int32} {p2 : Int64} {F : Int32 → am_S → Prop} (h0 : i_fc σ) (h : F (-2) (st_fill σ 13 p0.toInt64 p1.toInt64 p2 0)) : k_Co_pay nl Ln xs (d + 8) 1000 p0 p1 p2 σ F := by
  refine w_Co_pay ⟨is_mk (ik_1000 h0), f_fill (ik_1000 h0) (ik_1007 h0) (ir_3_1000 h0) ?_⟩
  have h1 : i_fc (st_fill σ 13 p0.toInt64 p1.toInt64 p2 0) := h0
  intro _
  rw [ir_7_1000 h1, ir_3_1000 h1, ir_1_1000 h1, Option.getD_some]
  refine ⟨is_mk (ik_1039 h1), p_perfF h1 fl_0 (by decide) (by decide) (fun _ => h)⟩
theorem p_Co_close {p0 : Int32} {p1 : Int32} {F : Int32 → am_S → Prop} (h0 : i_fc σ) (h : F (-2) (st_fill σ 14 p0.toInt64 p1.toInt64 0 0)) : k_Co_close nl Ln xs (d + 8) 1000 p0 p1 σ F := by
  refine w_Co_close ⟨is_mk (ik_1000 h0), f_fill (ik_1000 h0) (ik_1007 h0) (ir_3_1000 h0) ?_⟩
  have h1 : i_fc (st_fill σ 14 p0.toInt64 p1.toInt64 0 0) := h0
  intro _
  rw [ir_7_1000 h1, ir_3_1000 h1, ir_1_1000 h1, Option.getD_some]
  refine ⟨is_mk (ik_1039 h1), p_perfF h1 fl_0 (by decide) (by decide) (fun _ => h)⟩
theorem p_Co_reopen {p0 : Int32} {p1 : Int32} {p2 : Int32} {F : Int32 → am_S → Prop} (h0 : i_fc σ) (h : F (-2) (st_fill σ 15 p0.toInt64 p1.toInt64 p2.toInt64 0)) : k_Co_reopen nl Ln xs (d + 8) 1000 p0 p1 p2 σ F := by
  refine w_Co_reopen ⟨is_mk (ik_1000 h0), f_fill (ik_1000 h0) (ik_1007 h0) (ir_3_1000 h0) ?_⟩
  have h1 : i_fc (st_fill σ 15 p0.toInt64 p1.toInt64 p2.toInt64 0) := h0
  intro _
  rw [ir_7_1000 h1, ir_3_1000 h1, ir_1_1000 h1, Option.getD_some]
  refine ⟨is_mk (ik_1039 h1), p_perfF h1 fl_0 (by decide) (by decide) (fun _ => h)⟩
theorem p_Co_share {p0 : Int32} {p1 : Int32} {p2 : Int32} {p3 : Int64} {F : Int32 → am_S → Prop} (h0 : i_fc σ) (h : F (-2) (st_fill σ 17 p0.toInt64 p1.toInt64 p2.toInt64 p3)) : k_Co_share nl Ln xs (d + 8) 1000 p0 p1 p2 p3 σ F := by
  refine w_Co_share ⟨is_mk (ik_1000 h0), f_fill (ik_1000 h0) (ik_1007 h0) (ir_3_1000 h0) ?_⟩
  have h1 : i_fc (st_fill σ 17 p0.toInt64 p1.toInt64 p2.toInt64 p3) := h0
  intro _
  rw [ir_7_1000 h1, ir_3_1000 h1, ir_1_1000 h1, Option.getD_some]
  refine ⟨is_mk (ik_1039 h1), p_perfF h1 fl_0 (by decide) (by decide) (fun _ => h)⟩
theorem p_Co_salvage {p0 : Int32} {p1 : Int32} {p2 : Int64} {F : Int32 → am_S → Prop} (h0 : i_fc σ) (h : F (-2) (st_fill σ 18 p0.toInt64 p1.toInt64 p2 0)) : k_Co_salvage nl Ln xs (d + 8) 1000 p0 p1 p2 σ F := by
  refine w_Co_salvage ⟨is_mk (ik_1000 h0), f_fill (ik_1000 h0) (ik_1007 h0) (ir_3_1000 h0) ?_⟩
  have h1 : i_fc (st_fill σ 18 p0.toInt64 p1.toInt64 p2 0) := h0
  intro _
  rw [ir_7_1000 h1, ir_3_1000 h1, ir_1_1000 h1, Option.getD_some]
  refine ⟨is_mk (ik_1039 h1), p_perfF h1 fl_0 (by decide) (by decide) (fun _ => h)⟩
theorem p_Co_recourse {p0 : Int32} {p1 : Int32} {p2 : Int64} {F : Int32 → am_S → Prop} (h0 : i_fc σ) (h : F (-2) (st_fill σ 19 p0.toInt64 p1.toInt64 p2 0)) : k_Co_recourse nl Ln xs (d + 8) 1000 p0 p1 p2 σ F := by
  refine w_Co_recourse ⟨is_mk (ik_1000 h0), f_fill (ik_1000 h0) (ik_1007 h0) (ir_3_1000 h0) ?_⟩
  have h1 : i_fc (st_fill σ 19 p0.toInt64 p1.toInt64 p2 0) := h0
  intro _
  rw [ir_7_1000 h1, ir_3_1000 h1, ir_1_1000 h1, Option.getD_some]
  refine ⟨is_mk (ik_1039 h1), p_perfF h1 fl_0 (by decide) (by decide) (fun _ => h)⟩
theorem p_Co_end  {F : Int32 → am_S → Prop} (h0 : i_fc σ) (h : F (-3) (st_fill σ 21 0 0 0 0)) : k_Co_end nl Ln xs (d + 8) 1000  σ F := by
  refine w_Co_end ⟨is_mk (ik_1000 h0), f_fill (ik_1000 h0) (ik_1007 h0) (ir_3_1000 h0) ?_⟩
  have h1 : i_fc (st_fill σ 21 0 0 0 0) := h0
  intro _
  rw [ir_7_1000 h1, ir_3_1000 h1, ir_1_1000 h1, Option.getD_some]
  refine ⟨is_mk (ik_1039 h1), p_perfE h1 fl_0 (by decide) (by decide) (by decide) (fun _ => h)⟩
theorem p_Co_undo  {F : Int32 → am_S → Prop} (h0 : i_fc σ) (h : F (-3) (st_fill σ 22 0 0 0 0)) : k_Co_undo nl Ln xs (d + 8) 1000  σ F := by
  refine w_Co_undo ⟨is_mk (ik_1000 h0), f_fill (ik_1000 h0) (ik_1007 h0) (ir_3_1000 h0) ?_⟩
  have h1 : i_fc (st_fill σ 22 0 0 0 0) := h0
  intro _
  rw [ir_7_1000 h1, ir_3_1000 h1, ir_1_1000 h1, Option.getD_some]
  refine ⟨is_mk (ik_1039 h1), p_perfE h1 fl_0 (by decide) (by decide) (by decide) (fun _ => h)⟩
theorem p_Co_clauses {p0 : Int32} {F : Int32 → am_S → Prop} (h0 : i_fc σ) (h : F (-2) (st_fill σ 6 p0.toInt64 0 0 0)) : k_Co_clauses nl Ln xs (d + 8) 1000 p0 σ F := by
  refine w_Co_clauses ⟨is_mk (ik_1000 h0), f_fill (ik_1000 h0) (ik_1007 h0) (ir_3_1000 h0) ?_⟩
  have h1 : i_fc (st_fill σ 6 p0.toInt64 0 0 0) := h0
  intro _
  rw [ir_7_1000 h1, ir_3_1000 h1, ir_0_1000 h1, Option.getD_some]
  refine ⟨is_mk (ik_1039 h1), p_perfC h1 fl_0 (fun _ => ⟨fun _ => h, fun k => absurd (by decide) k⟩)⟩
theorem p_Co_correct {p0 p1 p2 p3 : Int32} {p4 : Int64} {p5 : Int32} {F : Int32 → am_S → Prop} (h0 : i_fc σ) (h : F (-2) (am_saL (am_saL (st_fill σ 16 p0.toInt64 p1.toInt64 p2.toInt64 p3.toInt64) 1007 5 p4) 1007 6 p5.toInt64)) : k_Co_correct nl Ln xs (d + 8) 1000 p0 p1 p2 p3 p4 p5 σ F := by
  refine w_Co_correct ⟨is_mk (ik_1000 h0), f_fill (ik_1000 h0) (ik_1007 h0) (ir_3_1000 h0) ?_⟩
  have h1 : i_fc (st_fill σ 16 p0.toInt64 p1.toInt64 p2.toInt64 p3.toInt64) := h0
  intro _
  rw [ir_3_1000 h1, Option.getD_some, z5]
  refine ⟨p_ar h1 (by decide) (by decide), ?_⟩
  intro s5 e5
  have h2 : i_fc s5 := by rw [e5]; exact h0
  rw [ir_3_1000 h2, Option.getD_some, z6]
  refine ⟨p_ar h2 (by decide) (by decide), ?_⟩
  intro s9 e9
  have h3 : i_fc s9 := by rw [e9, e5]; exact h0
  rw [ir_7_1000 h3, ir_3_1000 h3, ir_1_1000 h3, Option.getD_some]
  refine ⟨is_mk (ik_1039 h3), p_perfF (a := 16) h3 (by rw [e9, e5]; rfl) (by decide) (by decide) (fun _ => ?_)⟩
  rw [e9, e5]
  exact h
end
