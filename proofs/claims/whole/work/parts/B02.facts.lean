/-! THE CLASS: entries that are known, facts of a case -/
section
variable {nl : Bool} {Ln : Nat} {xs : Nat → Int32} {d : Nat} {σ : am_S} {w : ow_T} {k : Nat × Nat}
def qT (act which at' : Int32) (t : mTell) : Bool := decide (t.1 = act) && (decide (t.2.2.1 = which) && decide (¬ at' < t.2.2.2.1))
theorem en_known {act which at' : Int32} {hd : Option Nat} {F : Option Nat → am_S → Prop} {l : List mTell} (h : ChT σ w k hd l) (K1 : l.find? (qT act which at') = none → F none σ) (K2 : ∀ t e, l.find? (qT act which at') = some t → EnT σ w k e t → F (some e) σ) : k_En_known nl Ln xs (d + 1) hd act which at' σ F := by
  have loop : ∀ (l : List mTell) (h0 : Option Nat), ChT σ w k h0 l → (l.find? (qT act which at') = none → F none σ) → (∀ t e, l.find? (qT act which at') = some t → EnT σ w k e t → F (some e) σ) → c_En_known_3 nl Ln xs (d + 1) hd act which at' h0 σ F := by
    intro l
    induction l with
    | nil =>
      intro h0 hc K1 _
      have hc : h0 = none := hc
      rw [hc]
      exact w_En_known_3 ⟨fun _ => K1 rfl, fun q => absurd rfl q⟩
    | cons t l ih =>
      intro h0 hc K1 K2
      obtain ⟨c, rfl, hq, hl⟩ := hc
      obtain ⟨q1, q2, q3, q4, q5, q6, q7⟩ := id hq
      refine w_En_known_3 ⟨fun q => absurd q (by simp), fun _ => ⟨is_mk q2, ?_⟩⟩
      rw [Option.getD_some, q3, q4, q5]
      have go : qT act which at' t = false → c_En_known_3 nl Ln xs (d + 1) hd act which at' (am_fR σ 7005 c) σ F := fun e => by
        have e' : ¬ qT act which at' t = true := by rw [e]; decide
        refine ih _ hl (fun g => K1 ?_) (fun t' e' g => K2 t' e' ?_)
        · rw [List.find?_cons_of_neg e']; exact g
        · rw [List.find?_cons_of_neg (by rw [e]; decide)]; exact g
      refine ⟨fun h1 => ⟨fun h2 => ⟨fun h3 => ?_, fun h3 => ?_⟩, fun h2 => ?_⟩, fun h1 => ?_⟩
      · rintro v6 rfl
        exact go (by simp [qT, h3])
      · exact K2 t c (List.find?_cons_of_pos (by simp [qT, h1, h2, h3])) hq
      · rintro v8 rfl
        exact go (by simp [qT, h2])
      · rintro v10 rfl
        exact go (by simp [qT, h1])
  exact w_En_known (loop l hd h K1 K2)
def qF (act which at' : Int32) (f : mFact) : Bool := decide (f.1 = act) && (decide (f.2.2.2.1 = which) && decide (¬ at' < f.2.2.1))
theorem en_knownF {act which at' : Int32} {hd : Option Nat} {F : Option Nat → am_S → Prop} {l : List mFact} (ha : act = 12) (h : ChF σ w k hd l) (K1 : l.find? (qF act which at') = none → F none σ) (K2 : ∀ f e, l.find? (qF act which at') = some f → EnF σ w k e f → F (some e) σ) : k_En_known nl Ln xs (d + 1) hd act which at' σ F := by
  have loop : ∀ (l : List mFact) (h0 : Option Nat), ChF σ w k h0 l → (l.find? (qF act which at') = none → F none σ) → (∀ t e, l.find? (qF act which at') = some t → EnF σ w k e t → F (some e) σ) → c_En_known_3 nl Ln xs (d + 1) hd act which at' h0 σ F := by
    intro l
    induction l with
    | nil =>
      intro h0 hc K1 _
      have hc : h0 = none := hc
      rw [hc]
      exact w_En_known_3 ⟨fun _ => K1 rfl, fun q => absurd rfl q⟩
    | cons t l ih =>
      intro h0 hc K1 K2
      obtain ⟨c, rfl, hq, hl⟩ := hc
      obtain ⟨q1, q2, q3, q4, q5, q6, q7⟩ := id hq
      refine w_En_known_3 ⟨fun q => absurd q (by simp), fun _ => ⟨is_mk q2, ?_⟩⟩
      rw [Option.getD_some, q3, q5]
      have go : qF act which at' t = false → c_En_known_3 nl Ln xs (d + 1) hd act which at' (am_fR σ 7005 c) σ F := fun e => by
        have e' : ¬ qF act which at' t = true := by rw [e]; decide
        refine ih _ hl (fun g => K1 ?_) (fun t' e' g => K2 t' e' ?_)
        · rw [List.find?_cons_of_neg e']; exact g
        · rw [List.find?_cons_of_neg (by rw [e]; decide)]; exact g
      refine ⟨fun h1 => ?_, fun h1 => ?_⟩
      · rw [q6 (Or.inl (by rw [h1, ha]))]
        refine ⟨fun h2 => ⟨fun h3 => ?_, fun h3 => ?_⟩, fun h2 => ?_⟩
        · rintro v6 rfl
          exact go (by simp [qF, h3])
        · exact K2 t c (List.find?_cons_of_pos (by simp [qF, h1, h2, h3])) hq
        · rintro v8 rfl
          exact go (by simp [qF, h2])
      · rintro v10 rfl
        exact go (by simp [qF, h1])
  exact w_En_known (loop l hd h K1 K2)
theorem en_counts {c : Nat} {f : mFact} {act at' day : Int32} {F : Bool → am_S → Prop} (h : EnF σ w k c f) (K : F (decide (f.1 = act) && m_counts f day at') σ) : k_En_counts nl Ln xs (d + 1) c act at' day σ F := by
  obtain ⟨q1, q2, q3, q4, q5, q6, q7⟩ := h
  refine w_En_counts ⟨is_mk q2, ?_⟩
  rw [q3, q4, q5]
  have e : decide ((f.1 = act) ∧ (¬ (at' < f.2.2.1) ∧ (¬ (day < f.2.1)))) = (decide (f.1 = act) && m_counts f day at') := by
    unfold m_counts
    by_cases h1 : f.1 = act <;> by_cases h2 : at' < f.2.2.1 <;> by_cases h3 : day < f.2.1 <;> simp [h1, h2, h3]
  rw [e]
  exact K
/-- a case's cell, as far as its facts go -/
def CsF (σ : am_S) (w : ow_T) (k : Nat × Nat) (c : Nat) (fs : List mFact) : Prop := w c = k ∧ am_kd σ c = (12, 0) ∧ ChF σ w k (am_fR σ 11005 c) fs.reverse
theorem cs_lastFact {c : Nat} {fs : List mFact} {act at' day : Int32} {F : Option Nat → am_S → Prop} (h : CsF σ w k c fs) (K1 : fs.reverse.find? (fun f => decide (f.1 = act) && m_counts f day at') = none → F none σ) (K2 : ∀ f e, fs.reverse.find? (fun f => decide (f.1 = act) && m_counts f day at') = some f → EnF σ w k e f → F (some e) σ) : k_Cs_lastFact nl Ln xs (d + 2) c act at' day σ F := by
  have loop : ∀ (l : List mFact) (h0 : Option Nat), ChF σ w k h0 l → (l.find? (fun f => decide (f.1 = act) && m_counts f day at') = none → F none σ) → (∀ t e, l.find? (fun f => decide (f.1 = act) && m_counts f day at') = some t → EnF σ w k e t → F (some e) σ) → c_Cs_lastFact_6 nl Ln xs (d + 2) c act at' day h0 σ F := by
    intro l
    induction l with
    | nil =>
      intro h0 hc K1 _
      have hc : h0 = none := hc
      rw [hc]
      exact w_Cs_lastFact_6 ⟨fun _ => K1 rfl, fun q => absurd rfl q⟩
    | cons t l ih =>
      intro h0 hc K1 K2
      obtain ⟨e, rfl, hq, hl⟩ := hc
      refine w_Cs_lastFact_6 ⟨fun q => absurd q (by simp), fun _ => ⟨is_mk hq.2.1, ?_⟩⟩
      rw [Option.getD_some]
      refine en_counts hq (fun _ => ⟨fun g => ?_, fun g => ?_⟩)
      · exact K2 t e (List.find?_cons_of_pos g) hq
      · rintro v6 rfl
        refine ih _ hl (fun q => K1 ?_) (fun t' e' q => K2 t' e' ?_)
        · rw [List.find?_cons_of_neg (p := fun f => decide (f.1 = act) && m_counts f day at') g]; exact q
        · rw [List.find?_cons_of_neg (p := fun f => decide (f.1 = act) && m_counts f day at') g]; exact q
  refine w_Cs_lastFact ⟨is_mk h.2.1, ?_⟩
  rintro v2 rfl
  exact loop _ _ h.2.2 K1 K2
/-- closed and reopened, by moments -/
theorem open_find {at' day : Int32} : ∀ (l : List mFact), l.Pairwise (fun f g => g.2.2.1.toInt < f.2.2.1.toInt) → ((l.find? (fun f => m_counts f day at' && (decide (f.1 = 14) || decide (f.1 = 15)))).map (fun f => decide (f.1 = 15))).getD true = (match l.find? (fun f => decide (f.1 = 14) && m_counts f day at'), l.find? (fun f => decide (f.1 = 15) && m_counts f day at') with
    | none, _ => true
    | some _, none => false
    | some a, some b => decide (a.2.2.1 < b.2.2.1))
  | [], _ => rfl
  | f :: l, hp => by
    have hp' := (List.pairwise_cons.mp hp)
    have ih := open_find (at' := at') (day := day) l hp'.2
    by_cases hc : m_counts f day at' = true
    · by_cases h14 : f.1 = 14
      · have h15 : ¬ f.1 = 15 := fun q => by rw [h14] at q; exact absurd q (by decide)
        rw [List.find?_cons_of_pos (by simp [hc, h14]), List.find?_cons_of_pos (by simp [hc, h14]), List.find?_cons_of_neg (by simp [h15])]
        cases hb : l.find? (fun f => decide (f.1 = 15) && m_counts f day at') with
        | none => simp [h15]
        | some b =>
          have hm := hp'.1 b (List.mem_of_find?_eq_some hb)
          have : ¬ f.2.2.1 < b.2.2.1 := by rw [i32lt]; omega
          simp [h15, this]
      · by_cases h15 : f.1 = 15
        · rw [List.find?_cons_of_pos (by simp [hc, h15]), List.find?_cons_of_neg (by simp [h14]), List.find?_cons_of_pos (p := fun f => decide (f.1 = 15) && m_counts f day at') (by simp [hc, h15])]
          cases ha : l.find? (fun f => decide (f.1 = 14) && m_counts f day at') with
          | none => simp [h15]
          | some a =>
            have hm := hp'.1 a (List.mem_of_find?_eq_some ha)
            have : a.2.2.1 < f.2.2.1 := by rw [i32lt]; omega
            simp [h15, this]
        · rw [List.find?_cons_of_neg (by simp [h14, h15]), List.find?_cons_of_neg (by simp [h14]), List.find?_cons_of_neg (by simp [h15])]
          exact ih
    · rw [List.find?_cons_of_neg (by simp [hc]), List.find?_cons_of_neg (by simp [hc]), List.find?_cons_of_neg (by simp [hc])]
      exact ih
theorem m_last_map2 {α β : Type} (q : α → Bool) (g : α → β) : ∀ (l : List α) (z : β), m_last q g z l = ((l.reverse.find? q).map g).getD z
  | [], z => rfl
  | x :: l, z => by
    rw [m_last, m_last_map2 q g l, List.reverse_cons, List.find?_append]
    cases h : l.reverse.find? q with
    | some y => rfl
    | none =>
      by_cases hq : q x = true
      · simp [hq]
      · simp [hq]
theorem cs_isOpen {c : Nat} {fs : List mFact} {at' day : Int32} {F : Bool → am_S → Prop} (h : CsF σ w k c fs) (hw : WfFs fs) (K : F (m_open fs day at') σ) : k_Cs_isOpen nl Ln xs (d + 3) c at' day σ F := by
  have hp : fs.reverse.Pairwise (fun f g => g.2.2.1.toInt < f.2.2.1.toInt) := by
    rw [List.pairwise_reverse]
    exact hw.2.2.imp fun h => h.2
  have e := open_find (at' := at') (day := day) fs.reverse hp
  have em : m_open fs day at' = ((fs.reverse.find? (fun f => m_counts f day at' && (decide (f.1 = 14) || decide (f.1 = 15)))).map (fun f => decide (f.1 = 15))).getD true := m_last_map2 _ _ _ _
  rw [em, e] at K
  refine w_Cs_isOpen ⟨is_mk h.2.1, (cs_lastFact (d := d) h (fun g1 _ => ?_) (fun a ea g1 ha _ => ?_))⟩
  · rw [g1] at K
    refine (cs_lastFact (d := d) h (fun g2 _ => ?_) (fun b eb g2 hb _ => ?_))
    · exact ⟨fun q => absurd rfl q, fun q => absurd rfl q, by rw [decide_eq_true (Or.inl rfl)]; exact K⟩
    · exact ⟨fun q => absurd rfl q, fun q => absurd rfl q, by rw [decide_eq_true (Or.inl rfl)]; exact K⟩
  · rw [g1] at K
    refine (cs_lastFact (d := d) h (fun g2 _ => ?_) (fun b eb g2 hb _ => ?_))
    · rw [g2] at K
      exact ⟨fun _ q => absurd rfl q, fun _ q => absurd rfl q, by rw [decide_eq_false (by simp)]; exact K⟩
    · rw [g2] at K
      refine ⟨fun _ _ => is_mk hb.2.1, fun _ _ => is_mk ha.2.1, ?_⟩
      rw [Option.getD_some, Option.getD_some, ha.2.2.2.2.1, hb.2.2.2.2.1]
      have ed : decide ((some ea : Option Nat) = none ∨ (¬ (some eb : Option Nat) = none ∧ a.2.2.1 < b.2.2.1)) = decide (a.2.2.1 < b.2.2.1) := by simp
      rw [ed]
      exact K
theorem cs_sumOf {c : Nat} {fs : List mFact} {act at' day : Int32} {F : Int64 → am_S → Prop} (h : CsF σ w k c fs) (K : F (m_sumf (fun f => decide (f.1 = act) && m_counts f day at') m_fc fs) σ) : k_Cs_sumOf nl Ln xs (d + 1) c act at' day σ F := by
  have loop : ∀ (l : List mFact) (h0 : Option Nat) (acc : Int64), ChF σ w k h0 l → F (acc + m_sumf (fun f => decide (f.1 = act) && m_counts f day at') m_fc l) σ → c_Cs_sumOf_9 nl Ln xs (d + 1) c act at' day acc h0 σ F := by
    intro l
    induction l with
    | nil =>
      intro h0 acc hc K
      have hc : h0 = none := hc
      rw [hc]
      rw [m_sumf, Int64.add_zero] at K
      exact w_Cs_sumOf_9 ⟨fun _ => K, fun q => absurd rfl q⟩
    | cons t l ih =>
      intro h0 acc hc K
      obtain ⟨e, rfl, hq, hl⟩ := hc
      obtain ⟨q1, q2, q3, q4, q5, q6, q7, q8, q9⟩ := id hq
      rw [m_sumf, ← Int64.add_assoc] at K
      refine w_Cs_sumOf_9 ⟨fun q => absurd q (by simp), fun _ => ⟨is_mk q2, ?_⟩⟩
      rw [Option.getD_some, q3, q4, q5, q8]
      rintro w7 e7 v9 rfl
      refine ih _ _ hl ?_
      have ew : w7 = acc + (if (decide (t.1 = act) && m_counts t day at') = true then m_fc t else 0) := by
        rw [e7]
        unfold m_counts
        by_cases h1 : t.1 = act <;> by_cases h2 : at' < t.2.2.1 <;> by_cases h3 : day < t.2.1 <;> simp [h1, h2, h3]
      rw [ew]
      exact K
  refine w_Cs_sumOf ⟨is_mk h.2.1, ?_⟩
  rintro v2 rfl
  exact loop _ _ 0 h.2.2 (by rw [Int64.zero_add, m_sumf_rev]; exact K)
theorem cs_paidOfInterest {c : Nat} {fs : List mFact} {at' : Int32} {F : Int64 → am_S → Prop} (h : CsF σ w k c fs) (K : F (m_sumf (fun f => decide (¬ at' < f.2.2.1)) m_fi fs) σ) : k_Cs_paidOfInterest nl Ln xs (d + 1) c at' σ F := by
  have loop : ∀ (l : List mFact) (h0 : Option Nat) (acc : Int64), ChF σ w k h0 l → F (acc + m_sumf (fun f => decide (¬ at' < f.2.2.1)) m_fi l) σ → c_Cs_paidOfInterest_8 nl Ln xs (d + 1) c at' acc h0 σ F := by
    intro l
    induction l with
    | nil =>
      intro h0 acc hc K
      have hc : h0 = none := hc
      rw [hc]
      rw [m_sumf, Int64.add_zero] at K
      exact w_Cs_paidOfInterest_8 ⟨fun _ => K, fun q => absurd rfl q⟩
    | cons t l ih =>
      intro h0 acc hc K
      obtain ⟨e, rfl, hq, hl⟩ := hc
      obtain ⟨q1, q2, q3, q4, q5, q6, q7, q8, q9⟩ := id hq
      rw [m_sumf, ← Int64.add_assoc] at K
      refine w_Cs_paidOfInterest_8 ⟨fun q => absurd q (by simp), fun _ => ⟨is_mk q2, ?_⟩⟩
      rw [Option.getD_some, q5, q9]
      rintro w5 e5 v7 rfl v9 rfl
      refine ih _ _ hl ?_
      have ew : w5 = (if decide (¬ at' < t.2.2.1) = true then m_fi t else 0) := by
        rw [e5]
        by_cases h2 : at' < t.2.2.1 <;> simp [h2]
      rw [ew]
      exact K
  refine w_Cs_paidOfInterest ⟨is_mk h.2.1, ?_⟩
  rintro v2 rfl
  exact loop _ _ 0 h.2.2 (by rw [Int64.zero_add, m_sumf_rev]; exact K)
end
