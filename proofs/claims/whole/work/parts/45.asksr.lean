/-! THE FIRST CALL, asks of the reference -/
theorem i32_add1 {x : Int32} (h0 : -1000 < x.toInt) (h : x.toInt < 1000000) : (x + 1).toInt = x.toInt + 1 := by
  rw [Int32.toInt_add]
  have : (1 : Int32).toInt = 1 := by decide
  rw [this]
  exact Int.bmod_eq_of_le (by omega) (by omega)
theorem lt64a {p c : Int32} {C : Int64} (h : c.toInt64 = C) : p.toInt64 < C ↔ p < c := by
  rw [← h, Int64.lt_iff_toInt_lt, Int32.lt_iff_toInt_lt]
  simp
theorem lt64b {p c : Int32} {C : Int64} (h : c.toInt64 = C) : C < p.toInt64 ↔ c < p := by
  rw [← h, Int64.lt_iff_toInt_lt, Int32.lt_iff_toInt_lt]
  simp
theorem q_rng {p lo hi : Int32} {L H : Int64} (h1 : lo.toInt64 = L) (h2 : hi.toInt64 = H) : decide (¬ (p.toInt64 < L) ∧ (¬ (H < p.toInt64))) = decide (¬ p < lo ∧ ¬ hi < p) := by
  exact decide_eq_decide.mpr (by rw [lt64a h1, lt64b h2])
theorem dtt {b : Bool} : decide (b = true) = b := by cases b <;> rfl
section
variable {nl : Bool} {Ln : Nat} {xs : Nat → Int32} {d : Nat} {σ : am_S}
theorem q_Rm_owed {p0 p1 p2 : Int32} {F : Int64 → am_S → Prop} (h0 : i_fm σ) (h : F NO σ) : k_Rm_owed nl Ln xs (d + 3) 1053 p0 p1 p2 σ F := by
  refine w_Rm_owed ⟨is_mk (ik_1053 h0), ?_⟩
  rw [ir_12016_1053 h0, Option.getD_some]
  exact ⟨is_mk (ik_1063 h0), q_isCase h0 (fun _ => ⟨fun k => absurd k (by decide), fun _ => h⟩)⟩
theorem q_Rm_finding {F : Int32 → am_S → Prop} (h0 : i_fm σ) (h : F 0 σ) : k_Rm_finding nl Ln xs (d + 1) 1053 σ F := by
  refine w_Rm_finding ⟨is_mk (ik_1053 h0), ?_⟩
  rw [ii_12008_1053 h0]
  exact h
theorem q_Rm_row {p0 p1 : Int32} {F : Int32 → am_S → Prop} (h0 : i_fm σ) (h1 : p1 = 0 ∨ p1 = 1 → F (-1) σ) (h2 : ¬ (p1 = 0 ∨ p1 = 1) → F (-2) σ) : k_Rm_row nl Ln xs (d + 2) 1053 p0 p1 σ F := by
  refine w_Rm_row ⟨fun k => h2 (by rintro (rfl | rfl) <;> exact absurd k (by decide)), fun k => ⟨fun k2 => h2 (by rintro (rfl | rfl) <;> exact absurd k2 (by decide)), fun k2 => ⟨is_mk (ik_1053 h0), w_Rm_in ?_⟩⟩⟩
  intro _
  rw [ii_12012_1053 h0, q_in0]
  refine ⟨fun q => absurd q (by decide), fun q => absurd q (by decide), ?_⟩
  intro w e
  rw [if_neg (by decide)] at e
  rw [e]
  exact h1 (by grind)
theorem q_Rm_cents {p0 : Int32} {F : Int64 → am_S → Prop} (h0 : i_fm σ) (h : F 0 σ) : k_Rm_cents nl Ln xs (d + 2) 1053 p0 σ F := by
  refine w_Rm_cents ⟨is_mk (ik_1053 h0), w_Rm_in ?_⟩
  intro _
  rw [ii_12012_1053 h0, q_in0]
  refine ⟨fun q => absurd q (by decide), ?_⟩
  intro w e
  rw [if_neg (by decide)] at e
  rw [e]
  exact h
theorem q_Rm_trace {p0 : Int32} {F : Int32 → am_S → Prop} (h0 : i_fm σ) (h : F (-1) σ) : k_Rm_trace nl Ln xs (d + 2) 1053 p0 σ F := by
  refine w_Rm_trace ⟨is_mk (ik_1053 h0), w_Rm_in ?_⟩
  intro _
  rw [ii_12014_1053 h0, q_in0]
  refine ⟨fun q => absurd q (by decide), ?_⟩
  intro w e
  rw [if_neg (by decide)] at e
  rw [e]
  exact h
theorem q_Rm_letter {p0 : Int32} {F : Int32 → am_S → Prop} (h0 : i_fm σ) (h : F (-1) σ) : k_Rm_letter nl Ln xs (d + 2) 1053 p0 σ F := by
  refine w_Rm_letter ⟨is_mk (ik_1053 h0), w_Rm_in ?_⟩
  intro _
  rw [ii_12005_1053 h0, q_in0]
  refine ⟨fun q => absurd q (by decide), ?_⟩
  intro w e
  rw [if_neg (by decide)] at e
  rw [e]
  exact h
theorem q_Rm_tell {p0 p1 : Int32} {F : Int32 → am_S → Prop} (h0 : i_fm σ) (h : F (-2) σ) : k_Rm_tell nl Ln xs (d + 4) 1053 p0 p1 σ F := by
  refine w_Rm_tell ⟨is_mk (ik_1053 h0), ?_⟩
  rw [ir_12016_1053 h0, Option.getD_some]
  exact ⟨is_mk (ik_1063 h0), q_isCover h0 (fun _ => ⟨fun k => absurd k (by decide), fun _ => h⟩)⟩
theorem q_Rm_used {p0 p1 p2 : Int32} {F : Int64 → am_S → Prop} (h0 : i_fm σ) (h : F NO σ) : k_Rm_used nl Ln xs (d + 4) 1053 p0 p1 p2 σ F := by
  refine w_Rm_used ⟨is_mk (ik_1053 h0), ?_⟩
  rw [ir_12016_1053 h0, Option.getD_some]
  exact ⟨is_mk (ik_1063 h0), q_isCover h0 (fun _ => ⟨fun k => absurd k (by decide), fun _ => h⟩)⟩
theorem q_Rm_left {p0 p1 p2 : Int32} {F : Int64 → am_S → Prop} (h0 : i_fm σ) (h : F NO σ) : k_Rm_left nl Ln xs (d + 5) 1053 p0 p1 p2 σ F := by
  refine w_Rm_left ⟨is_mk (ik_1053 h0), q_Rm_used h0 (fun _ => ⟨fun _ => ?_, fun k => absurd rfl k⟩)⟩
  intro w e
  rw [if_pos rfl] at e
  rw [e]
  exact h
theorem q_Rm_of {p0 p1 : Int32} {F : Int32 → am_S → Prop} (h0 : i_fm σ) (h : F (-2) σ) : k_Rm_of nl Ln xs (d + 3) 1053 p0 p1 σ F := by
  refine w_Rm_of ⟨is_mk (ik_1053 h0), ?_⟩
  rw [ir_12016_1053 h0, Option.getD_some]
  exact ⟨is_mk (ik_1063 h0), q_isCase h0 (fun _ => ⟨fun k => absurd k (by decide), fun _ => h⟩)⟩
theorem q_isMoment {p0 : Int32} {F : Bool → am_S → Prop} (h0 : i_fm σ) (h : F (decide (¬ p0 < 0 ∧ ¬ 0 < p0)) σ) : k_Rm_isMoment nl Ln xs (d + 2) 1053 p0 σ F := by
  refine w_Rm_isMoment ⟨is_mk (ik_1053 h0), ?_⟩
  rw [ir_12016_1053 h0, Option.getD_some, ii_13000_1063 h0]
  refine ⟨is_mk (ik_1063 h0), w_Rm_in ?_⟩
  intro _
  rw [dtt, q_rng (lo := 0) (hi := 0) (by decide) (by decide)]
  exact h
theorem q_Rm_reserved {p0 p1 p2 : Int32} {F : Int64 → am_S → Prop} (h0 : i_fm σ) (h1 : okR p0 p1 p2 → F 0 σ) (h2 : ¬ okR p0 p1 p2 → F NO σ) : k_Rm_reserved nl Ln xs (d + 4) 1053 p0 p1 p2 σ F := by
  refine w_Rm_reserved (w_Rm_in ?_)
  intro _
  rw [q_rng (lo := 0) (hi := 2) (by decide) (by decide)]
  refine ⟨fun k1 => w_Rm_in ?_, fun k1 => h2 (fun q => k1 (decide_eq_true q.1))⟩
  intro _
  rw [q_rng (lo := 0) (hi := 29) (by decide) (by decide)]
  refine ⟨fun k2 => ⟨is_mk (ik_1053 h0), q_isMoment h0 ?_⟩, fun k2 => h2 (fun q => k2 (decide_eq_true ⟨q.2.1.1, by have := q.2.1.2; grind⟩))⟩
  intro _
  refine ⟨fun k3 => w_Rm_reserved_42 ⟨is_mk (ik_1053 h0), ?_⟩, fun k3 => h2 (fun q => k3 (decide_eq_true q.2.2))⟩
  rw [ir_12016_1053 h0, Option.getD_some, ii_13045_1063 h0]
  have e2 := of_decide_eq_true k2
  exact ⟨is_mk (ik_1063 h0), fun k => absurd k (by decide), fun _ => h1 ⟨of_decide_eq_true k1, ⟨e2.1, by have := e2.2; grind⟩, of_decide_eq_true k3⟩⟩
theorem q_runs {p0 p1 p2 p3 : Int32} {F : Int64 → am_S → Prop} (h0 : i_fm σ) (h : F 0 σ) : k_Rm_runs nl Ln xs (d + 1) 1053 p0 p1 p2 p3 σ F := by
  refine w_Rm_runs (w_Rm_runs_6 ⟨is_mk (ik_1053 h0), ?_⟩)
  rw [ir_12016_1053 h0, Option.getD_some, ii_13045_1063 h0]
  exact ⟨is_mk (ik_1063 h0), fun k => absurd k (by decide), fun _ => h⟩
theorem q_Rm_run {p0 p1 p2 p3 : Int32} {F : Int64 → am_S → Prop} (h0 : i_fm σ) (h1 : okU p0 p1 p2 p3 → F 0 σ) (h2 : ¬ okU p0 p1 p2 p3 → F NO σ) : k_Rm_run nl Ln xs (d + 4) 1053 p0 p1 p2 p3 σ F := by
  refine w_Rm_run (w_Rm_in ?_)
  intro _
  rw [q_rng (lo := 0) (hi := 1) (by decide) (by decide)]
  refine ⟨fun k1 => w_Rm_in ?_, fun k1 => h2 (fun q => k1 (decide_eq_true q.1))⟩
  intro _
  rw [q_rng (lo := 0) (hi := 29) (by decide) (by decide)]
  refine ⟨fun k2 => w_Rm_in ?_, fun k2 => h2 (fun q => k2 (decide_eq_true ⟨q.2.1.1, by have := q.2.1.2; grind⟩))⟩
  intro _
  rw [q_rng (lo := 0) (hi := 29) (by decide) (by decide)]
  refine ⟨fun k3 => ⟨is_mk (ik_1053 h0), q_isMoment h0 ?_⟩, fun k3 => h2 (fun q => k3 (decide_eq_true ⟨q.2.2.1.1, by have := q.2.2.1.2; grind⟩))⟩
  intro _
  have e2 := of_decide_eq_true k2
  have e3 := of_decide_eq_true k3
  exact ⟨fun k4 => q_runs h0 (fun _ => h1 ⟨of_decide_eq_true k1, ⟨e2.1, by have := e2.2; grind⟩, ⟨e3.1, by have := e3.2; grind⟩, of_decide_eq_true k4⟩), fun k4 => h2 (fun q => k4 (decide_eq_true q.2.2.2))⟩
theorem q_fac80 {p0 j y p3 p4 x10 : Int32} {F : Int64 → am_S → Prop} (h0 : i_fm σ) (hj : j.toInt < 30) (H : ∀ v, c_Rm_factor_67 nl Ln xs (d + 2) 1053 p0 j y p3 p4 0 0 (x10 + 1) v σ F) : ∀ (n : Nat) (x11 : Int32), 0 ≤ x11.toInt → j.toInt + 1 - x11.toInt ≤ n → c_Rm_factor_80 nl Ln xs (d + 2) 1053 p0 j y p3 p4 0 0 x10 x11 σ F := by
  intro n
  induction n with
  | zero =>
    intro x11 h1 h2
    refine w_Rm_factor_80 ⟨fun _ => ⟨is_mk (ik_1053 h0), q_runs h0 ?_⟩, fun k => absurd (Int32.lt_iff_toInt_lt.mpr (by omega)) k⟩
    intro _ v e
    rw [e]
    exact H _
  | succ n ih =>
    intro x11 h1 h2
    refine w_Rm_factor_80 ⟨fun _ => ⟨is_mk (ik_1053 h0), q_runs h0 ?_⟩, fun k => ⟨is_mk (ik_1053 h0), q_runs h0 ?_⟩⟩
    · intro _ v e
      rw [e]
      exact H _
    · intro _ v e
      rw [e]
      have k2 : ¬ j.toInt < x11.toInt := fun q => k (Int32.lt_iff_toInt_lt.mpr q)
      have e3 := i32_add1 (x := x11) (by omega) (by omega)
      exact ih _ (by omega) (by omega)
theorem q_fac67 {p0 j y p3 p4 : Int32} {F : Int64 → am_S → Prop} (h0 : i_fm σ) (hj : j.toInt < 30) (hj0 : 0 ≤ j.toInt) (hy : y.toInt < 30) (hy0 : 0 ≤ y.toInt) (h : F NO σ) : ∀ (n : Nat) (x10 : Int32) (v : Option Value), 0 ≤ x10.toInt → 40 - x10.toInt ≤ n → c_Rm_factor_67 nl Ln xs (d + 2) 1053 p0 j y p3 p4 0 0 x10 v σ F := by
  have e1 : ((y - j) - (1 : Int32)).toInt = y.toInt - j.toInt - 1 := by
    have c1 : (1 : Int32).toInt = 1 := by decide
    rw [Int32.toInt_sub, Int32.toInt_sub, c1, Int.bmod_eq_of_le (n := y.toInt - j.toInt) (by omega) (by omega)]
    exact Int.bmod_eq_of_le (by omega) (by omega)
  intro n
  induction n with
  | zero =>
    intro x10 v h1 h2
    refine w_Rm_factor_67 ⟨fun _ => ⟨fun _ => h, fun k => absurd rfl k⟩, fun k => absurd (Int32.lt_iff_toInt_lt.mpr (by rw [e1]; omega)) k⟩
  | succ n ih =>
    intro x10 v h1 h2
    refine w_Rm_factor_67 ⟨fun _ => ⟨fun _ => h, fun k => absurd rfl k⟩, fun k => ?_⟩
    have k2 : ¬ (y.toInt - j.toInt - 1) < x10.toInt := fun q => k (Int32.lt_iff_toInt_lt.mpr (by rw [e1]; exact q))
    have e3 := i32_add1 (x := x10) (by omega) (by omega)
    exact q_fac80 h0 hj (fun v => ih _ v (by omega) (by omega)) 40 0 (by decide) (by have : (0 : Int32).toInt = 0 := by decide
                                                                                     omega)
theorem q_Rm_factor {p0 p1 p2 p3 p4 : Int32} {F : Int64 → am_S → Prop} (h0 : i_fm σ) (h : F NO σ) : k_Rm_factor nl Ln xs (d + 4) 1053 p0 p1 p2 p3 p4 σ F := by
  refine w_Rm_factor (w_Rm_in ?_)
  intro _
  refine ⟨fun k1 => w_Rm_in ?_, fun k1 => h⟩
  intro _
  rw [q_rng (lo := 0) (hi := 29) (by decide) (by decide)]
  refine ⟨fun k2 => w_Rm_in ?_, fun k2 => h⟩
  intro _
  rw [q_rng (lo := 0) (hi := 29) (by decide) (by decide)]
  refine ⟨fun k3 => w_Rm_in ?_, fun k3 => h⟩
  intro _
  refine ⟨fun k4 => ⟨is_mk (ik_1053 h0), q_isMoment h0 ?_⟩, fun _ => h⟩
  intro _
  refine ⟨fun _ => ?_, fun _ => h⟩
  have e2 := of_decide_eq_true k2
  have e3 := of_decide_eq_true k3
  have c0 : (0 : Int32).toInt = 0 := by decide
  have c29 : (29 : Int32).toInt = 29 := by decide
  simp only [Int32.lt_iff_toInt_lt, c0, c29] at e2 e3
  exact q_fac67 h0 (by omega) (by omega) (by omega) (by omega) h 40 0 none (by decide) (by omega)
theorem q_Rm_say {F : Int32 → am_S → Prop} (h0 : i_fm σ) (h : F 0 (am_sfI σ 12005 1053 0)) : k_Rm_say nl Ln xs (d + 2) 1053 σ F := by
  refine w_Rm_say ⟨is_mk (ik_1053 h0), ?_⟩
  intro s2 e2
  have k3 : am_kd s2 1053 = (13, 0) := by have q := ik_1053 h0; rw [e2]; exact q
  have f4 : am_fI s2 12012 1053 = 0 := by rw [e2]; exact (rI_g (by decide)).trans (ii_12012_1053 h0)
  have f1 : am_fI s2 12005 1053 = 0 := by rw [e2]; exact rI_same
  refine w_Rm_say_7 ⟨is_mk k3, ?_⟩
  rw [f4, f1]
  refine ⟨fun k => absurd k (by decide), fun _ => ?_⟩
  rw [e2]
  exact h
theorem q_Rm_count {p0 : Int32} {F : Int32 → am_S → Prop} (h0 : i_fm σ) (h : F (cnt p0) σ) : k_Rm_count nl Ln xs (d + 1) 1053 p0 σ F := by
  refine w_Rm_count ?_
  rw [ir_12016_1053 h0]
  simp only [Option.getD_some]
  rw [ii_13001_1063 h0, ii_13002_1063 h0, ii_13035_1063 h0, ii_13045_1063 h0, ii_13000_1063 h0, ii_13060_1063 h0, ii_13061_1063 h0, ii_13063_1063 h0, ii_12003_1053 h0, ii_12005_1053 h0, ii_12006_1053 h0]
  have b := is_mk (ci := 13) (ik_1063 h0)
  have c := is_mk (ci := 12) (ik_1053 h0)
  refine ⟨fun k => ⟨c, b, ?_⟩, fun k => ⟨c, b, ?_⟩, fun k => ⟨c, b, ?_⟩, fun k => ⟨c, b, ?_⟩, fun k => ⟨c, b, ?_⟩, fun k => ⟨c, b, ?_⟩, fun k => ⟨c, b, ?_⟩, fun k => ⟨c, b, ?_⟩, fun k => ⟨c, ?_⟩, fun k => ⟨c, ?_⟩, fun k => ⟨c, ?_⟩, fun k => ?_⟩
  all_goals first
    | (rw [cnt0 k (by decide)] at h; exact h)
    | (unfold cnt at h; rw [if_pos k] at h; exact h)
end
