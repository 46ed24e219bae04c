/-! THE FIRST CALL, asks of the class -/
abbrev NO : Int64 := -9223372036854775808
section
variable {nl : Bool} {Ln : Nat} {xs : Nat → Int32} {d : Nat} {σ : am_S}
theorem p_Co_owed {p0 p1 p2 : Int32} {F : Int64 → am_S → Prop} (h0 : i_fc σ) (h : F NO σ) : k_Co_owed nl Ln xs (d + 2) 1000 p0 p1 p2 σ F := by
  refine w_Co_owed ⟨is_mk (ik_1000 h0), ?_⟩
  rw [ir_7_1000 h0, Option.getD_some]
  exact ⟨is_mk (ik_1039 h0), p_caseAt h0 (fun _ => ⟨fun _ => h, fun k => absurd rfl k⟩)⟩
theorem p_Co_finding {F : Int32 → am_S → Prop} (h0 : i_fc σ) (h : F 0 σ) : k_Co_finding nl Ln xs (d + 1) 1000 σ F := by
  refine w_Co_finding ⟨is_mk (ik_1000 h0), ?_⟩
  rw [ir_9_1000 h0, Option.getD_some, ii_3006_1048 h0]
  exact ⟨is_mk (ik_1048 h0), h⟩
theorem p_Co_row {p0 p1 : Int32} {F : Int32 → am_S → Prop} (h0 : i_fc σ) (h1 : p1 = 0 ∨ p1 = 1 → F (-1) σ) (h2 : ¬ (p1 = 0 ∨ p1 = 1) → F (-2) σ) : k_Co_row nl Ln xs (d + 1) 1000 p0 p1 σ F := by
  have r : F (-1) σ → c_Co_row_12 nl Ln xs (d + 1) 1000 p0 p1 σ F := by
    intro h
    refine w_Co_row_12 ⟨fun _ => h, fun k => ⟨is_mk (ik_1000 h0), ?_⟩⟩
    rw [ir_9_1000 h0, Option.getD_some, ii_3004_1048 h0]
    exact ⟨is_mk (ik_1048 h0), fun k2 => absurd k2 k, fun _ => h⟩
  exact w_Co_row ⟨fun k => r (h1 (Or.inl k)), fun k => ⟨fun k2 => r (h1 (Or.inr k2)), fun k2 => h2 (fun q => q.elim k k2)⟩⟩
theorem p_ite {α : Type} {p : Int32} {a b : α} : (if p < 0 then a else (if p < (0 : Int32) then b else a)) = a := by
  by_cases h : p < 0
  · rw [if_pos h]
  · rw [if_neg h, if_neg h]
theorem p_Co_cents {p0 : Int32} {F : Int64 → am_S → Prop} (h0 : i_fc σ) (h : F 0 σ) : k_Co_cents nl Ln xs (d + 1) 1000 p0 σ F := by
  refine w_Co_cents ?_
  rw [ir_9_1000 h0, Option.getD_some, ii_3004_1048 h0]
  refine ⟨fun _ => is_mk (ik_1000 h0), fun _ => is_mk (ik_1048 h0), fun _ _ => is_mk (ik_1000 h0), fun _ _ => is_mk (ik_1048 h0), fun h1 h2 => absurd h2 h1, ?_⟩
  intro w e
  rw [p_ite] at e
  rw [e]
  exact h
theorem p_Co_trace {p0 : Int32} {F : Int32 → am_S → Prop} (h0 : i_fc σ) (h : F (-1) σ) : k_Co_trace nl Ln xs (d + 1) 1000 p0 σ F := by
  refine w_Co_trace ?_
  rw [ir_9_1000 h0, Option.getD_some, ii_3005_1048 h0]
  refine ⟨fun _ => is_mk (ik_1000 h0), fun _ => is_mk (ik_1048 h0), fun _ _ => is_mk (ik_1000 h0), fun _ _ => is_mk (ik_1048 h0), fun h1 h2 => absurd h2 h1, ?_⟩
  intro w e
  rw [p_ite] at e
  rw [e]
  exact h
theorem p_cover {p0 p1 : Int32} {F : Option Nat → am_S → Prop} (h0 : i_fc σ) (h : F none σ) : k_Co_coverAsked nl Ln xs (d + 2) 1000 p0 p1 σ F := by
  refine w_Co_coverAsked ⟨is_mk (ik_1000 h0), ?_⟩
  rw [ir_7_1000 h0, Option.getD_some]
  exact ⟨is_mk (ik_1039 h0), p_policyAt h0 (fun _ => ⟨fun _ => h, fun k => absurd rfl k⟩)⟩
theorem p_Co_tell {p0 p1 : Int32} {F : Int32 → am_S → Prop} (h0 : i_fc σ) (h : F (-2) σ) : k_Co_tell nl Ln xs (d + 3) 1000 p0 p1 σ F := w_Co_tell ⟨is_mk (ik_1000 h0), p_cover h0 (fun _ => ⟨fun _ => h, fun k => absurd rfl k⟩)⟩
theorem p_Co_used {p0 p1 p2 : Int32} {F : Int64 → am_S → Prop} (h0 : i_fc σ) (h : F NO σ) : k_Co_used nl Ln xs (d + 3) 1000 p0 p1 p2 σ F := w_Co_used ⟨is_mk (ik_1000 h0), p_cover h0 (fun _ => ⟨fun _ => h, fun k => absurd rfl k⟩)⟩
theorem p_Co_left {p0 p1 p2 : Int32} {F : Int64 → am_S → Prop} (h0 : i_fc σ) (h : F NO σ) : k_Co_left nl Ln xs (d + 3) 1000 p0 p1 p2 σ F := w_Co_left ⟨is_mk (ik_1000 h0), p_cover h0 (fun _ => ⟨fun _ => h, fun k => absurd rfl k⟩)⟩
theorem p_Co_of {p0 p1 : Int32} {F : Int32 → am_S → Prop} (h0 : i_fc σ) (h : F (-2) σ) : k_Co_of nl Ln xs (d + 2) 1000 p0 p1 σ F := by
  refine w_Co_of ⟨is_mk (ik_1000 h0), ?_⟩
  rw [ir_7_1000 h0, Option.getD_some]
  exact ⟨is_mk (ik_1039 h0), p_caseAt h0 (fun _ => ⟨fun _ => h, fun k => absurd rfl k⟩)⟩
theorem p_Co_letter {p0 : Int32} {F : Int32 → am_S → Prop} (h0 : i_fc σ) (h : F (-1) σ) : k_Co_letter nl Ln xs (d + 2) 1000 p0 σ F := by
  refine w_Co_letter ⟨is_mk (ik_1000 h0), ?_⟩
  rw [ir_2_1000 h0, Option.getD_some]
  refine ⟨is_mk (ik_1005 h0), w_By_byteAt ?_⟩
  rw [ii_1001_1005 h0]
  refine ⟨fun _ => is_mk (ik_1005 h0), fun _ _ => is_mk (ik_1005 h0), fun h1 h2 => absurd h2 h1, ?_⟩
  intro w e
  rw [p_ite] at e
  rw [e]
  exact fun _ => h
theorem p_isMoment {p0 : Int32} {F : Bool → am_S → Prop} (h0 : i_fc σ) (h : F (decide (¬ p0 < 0 ∧ ¬ 0 < p0)) σ) : k_Co_isMoment nl Ln xs (d + 1) 1000 p0 σ F := by
  refine w_Co_isMoment ?_
  rw [ir_7_1000 h0, Option.getD_some, ii_6015_1039 h0]
  exact ⟨fun _ => is_mk (ik_1000 h0), fun _ => is_mk (ik_1039 h0), h⟩
/-- what reserved, run and factor ask of their numbers -/
def okR (p0 p1 p2 : Int32) : Prop := (¬ p0 < 0 ∧ ¬ (2 : Int32) < p0) ∧ (¬ p1 < 0 ∧ p1 < 30) ∧ (¬ p2 < 0 ∧ ¬ 0 < p2)
theorem p_Co_reserved {p0 p1 p2 : Int32} {F : Int64 → am_S → Prop} (h0 : i_fc σ) (h1 : okR p0 p1 p2 → F 0 σ) (h2 : ¬ okR p0 p1 p2 → F NO σ) : k_Co_reserved nl Ln xs (d + 3) 1000 p0 p1 p2 σ F := by
  refine w_Co_reserved ⟨fun k => h2 (fun q => q.1.1 k), fun k => ⟨fun k2 => h2 (fun q => q.1.2 k2), fun k2 => w_Co_isYear ?_⟩⟩
  intro _
  refine ⟨fun k3 => ⟨is_mk (ik_1000 h0), p_isMoment h0 ?_⟩, fun k3 => h2 (fun q => k3 (decide_eq_true q.2.1))⟩
  intro _
  refine ⟨fun k4 => ?_, fun k4 => h2 (fun q => k4 (decide_eq_true q.2.2))⟩
  rw [ir_7_1000 h0, Option.getD_some]
  refine ⟨is_mk (ik_1039 h0), w_Bk_reservedOf (w_Bk_reservedOf_6 ⟨is_mk (ik_1039 h0), ?_⟩)⟩
  rw [ii_6014_1039 h0]
  exact ⟨fun k => absurd k (by decide), fun _ _ => h1 ⟨⟨k, k2⟩, of_decide_eq_true k3, of_decide_eq_true k4⟩⟩
theorem p_paid {p0 p1 p2 p3 p4 : Int32} {F : Int64 → am_S → Prop} (h0 : i_fc σ) (h : F 0 σ) : k_Bk_paidWithin nl Ln xs (d + 1) 1039 p0 p1 p2 p3 p4 σ F := by
  refine w_Bk_paidWithin (w_Bk_paidWithin_6 ⟨is_mk (ik_1039 h0), ?_⟩)
  rw [ii_6014_1039 h0]
  exact ⟨fun k => absurd k (by decide), fun _ => h⟩
def okU (p0 p1 p2 p3 : Int32) : Prop := (¬ p0 < 0 ∧ ¬ (1 : Int32) < p0) ∧ (¬ p1 < 0 ∧ p1 < 30) ∧ (¬ p2 < 0 ∧ p2 < 30) ∧ (¬ p3 < 0 ∧ ¬ 0 < p3)
theorem p_Co_run {p0 p1 p2 p3 : Int32} {F : Int64 → am_S → Prop} (h0 : i_fc σ) (h1 : okU p0 p1 p2 p3 → F 0 σ) (h2 : ¬ okU p0 p1 p2 p3 → F NO σ) : k_Co_run nl Ln xs (d + 3) 1000 p0 p1 p2 p3 σ F := by
  refine w_Co_run ⟨fun k => h2 (fun q => q.1.1 k), fun k => ⟨fun k2 => h2 (fun q => q.1.2 k2), fun k2 => w_Co_isYear ?_⟩⟩
  intro _
  refine ⟨fun k3 => w_Co_isYear ?_, fun k3 => h2 (fun q => k3 (decide_eq_true q.2.1))⟩
  intro _
  refine ⟨fun k4 => ⟨is_mk (ik_1000 h0), p_isMoment h0 ?_⟩, fun k4 => h2 (fun q => k4 (decide_eq_true q.2.2.1))⟩
  intro _
  refine ⟨fun k5 => ?_, fun k5 => h2 (fun q => k5 (decide_eq_true q.2.2.2))⟩
  rw [ir_7_1000 h0, Option.getD_some]
  refine ⟨is_mk (ik_1039 h0), p_paid h0 ?_⟩
  intro _
  rw [ir_7_1000 h0, Option.getD_some]
  refine ⟨is_mk (ik_1039 h0), p_paid h0 ?_⟩
  exact fun _ => h1 ⟨⟨k, k2⟩, of_decide_eq_true k3, of_decide_eq_true k4, of_decide_eq_true k5⟩
theorem p_Co_factor {p0 p1 p2 p3 p4 : Int32} {F : Int64 → am_S → Prop} (h0 : i_fc σ) (h : F NO σ) : k_Co_factor nl Ln xs (d + 3) 1000 p0 p1 p2 p3 p4 σ F := by
  refine w_Co_factor ⟨fun _ => h, fun _ => ⟨fun _ => h, fun _ => w_Co_isYear ?_⟩⟩
  intro _
  refine ⟨fun _ => w_Co_isYear ?_, fun _ => h⟩
  intro _
  refine ⟨fun _ => ⟨fun _ => h, fun _ => ⟨fun _ => h, fun _ => ⟨is_mk (ik_1000 h0), p_isMoment h0 ?_⟩⟩⟩, fun _ => h⟩
  intro _
  refine ⟨fun _ => ?_, fun _ => h⟩
  rw [ir_7_1000 h0, Option.getD_some]
  refine ⟨is_mk (ik_1039 h0), p_paid h0 ?_⟩
  intro _
  rw [ir_7_1000 h0, Option.getD_some]
  refine ⟨is_mk (ik_1039 h0), p_paid h0 ?_⟩
  exact fun _ => ⟨fun _ => h, fun k => absurd rfl k⟩
theorem p_Co_say {F : Int32 → am_S → Prop} (h0 : i_fc σ) (h : F 0 (am_sfI σ 1001 1005 0)) : k_Co_say nl Ln xs (d + 2) 1000 σ F := by
  refine w_Co_say ⟨is_mk (ik_1000 h0), ?_⟩
  rw [ir_2_1000 h0, Option.getD_some]
  refine ⟨is_mk (ik_1005 h0), w_By_clear ⟨is_mk (ik_1005 h0), ?_⟩⟩
  intro s2 e2 _
  have k0 : am_kd s2 1000 = (1, 0) := by have q := ik_1000 h0; rw [e2]; exact q
  have k8 : am_kd s2 1048 = (4, 0) := by have q := ik_1048 h0; rw [e2]; exact q
  have k5 : am_kd s2 1005 = (2, 0) := by have q := ik_1005 h0; rw [e2]; exact q
  have r9 : am_fR s2 9 1000 = some 1048 := by have q := ir_9_1000 h0; rw [e2]; exact q
  have r2 : am_fR s2 2 1000 = some 1005 := by have q := ir_2_1000 h0; rw [e2]; exact q
  have f4 : am_fI s2 3004 1048 = 0 := by rw [e2]; exact (rI_g (by decide)).trans (ii_3004_1048 h0)
  have f1 : am_fI s2 1001 1005 = 0 := by rw [e2]; exact rI_same
  refine w_Co_say_9 ⟨is_mk k0, ?_⟩
  rw [r9, r2, Option.getD_some, Option.getD_some, f4, f1]
  refine ⟨is_mk k8, fun k => absurd k (by decide), fun _ => ⟨is_mk k5, ?_⟩⟩
  rw [e2]
  exact h
def cnt (p : Int32) : Int32 := if p.toInt < 0 ∨ 10 < p.toInt then -2 else 0
theorem cnt0 {p v : Int32} (h : p = v) (hv : cnt v = 0) : cnt p = 0 := by rw [h]; exact hv
theorem p_Co_count {p0 : Int32} {F : Int32 → am_S → Prop} (h0 : i_fc σ) (h : F (cnt p0) σ) : k_Co_count nl Ln xs (d + 1) 1000 p0 σ F := by
  refine w_Co_count ?_
  rw [ir_7_1000 h0, ir_0_1000 h0, ir_2_1000 h0, ir_4_1000 h0]
  simp only [Option.getD_some]
  rw [ii_6011_1039 h0, ii_6012_1039 h0, ii_6013_1039 h0, ii_6014_1039 h0, ii_6015_1039 h0, ii_6016_1039 h0, ii_6017_1039 h0, ii_6018_1039 h0, ii_1001_1001 h0, ii_1001_1005 h0, ii_2001_1008 h0]
  have b := is_mk (ci := 6) (ik_1039 h0)
  have c := is_mk (ci := 0) (ik_1000 h0)
  refine ⟨fun k => ⟨c, b, ?_⟩, fun k => ⟨c, b, ?_⟩, fun k => ⟨c, b, ?_⟩, fun k => ⟨c, b, ?_⟩, fun k => ⟨c, b, ?_⟩, fun k => ⟨c, b, ?_⟩, fun k => ⟨c, b, ?_⟩, fun k => ⟨c, b, ?_⟩, fun k => ⟨c, is_mk (ik_1001 h0), ?_⟩, fun k => ⟨c, is_mk (ik_1005 h0), ?_⟩, fun k => ⟨c, is_mk (ik_1008 h0), ?_⟩, fun k => ?_⟩
  all_goals first
    | (rw [cnt0 k (by decide)] at h; exact h)
    | (unfold cnt at h; rw [if_pos k] at h; exact h)
end
