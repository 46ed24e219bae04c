/-! THE CLASS: a fact: what goes before it -/
def seE (v : Nat) (q : Nat × Nat) : Prop := q.1 = 2 ∧ ((1008 ≤ q.2 ∧ q.2 ≤ 1021) ∨ (1027 ≤ q.2 ∧ q.2 ≤ 1033) ∨ (v ≤ q.2 ∧ q.2 ≤ v + 4))
section
variable {nl : Bool} {Ln : Nat} {xs : Nat → Int32} {d : Nat} {σ σ' : am_S} {w : ow_T} {b v gl nu : Nat} {X : Stx} {M : mOff} {V : Nat × Nat × Nat × Nat × Nat} {Cc : Nat × Nat} {fnd : Int32}
theorem SeC.eff (r : SeC v σ σ') (hv : v = 1022 ∨ v = 1048) (hO : ∀ c, fixW c → w c = (2, c)) (o : OwI σ w) : Eff (seE v) σ w σ' w := by
  refine ⟨fun c hc => o c (by rw [← r.2.1]; exact hc), fun q hq _ c hc => ⟨hc, r.eqc (fun z => hq ?_) (fun z => hq ?_) (fun z => hq ?_)⟩⟩
  · rw [← hc, hO c (by unfold fixW; omega)]
    exact ⟨rfl, Or.inl z⟩
  · rw [← hc, hO c (by unfold fixW; omega)]
    exact ⟨rfl, Or.inr (Or.inl z)⟩
  · rw [← hc, hO c (by unfold fixW; omega)]
    exact ⟨rfl, Or.inr (Or.inr z)⟩
theorem Wst.se {wk ab v2 : Nat} (h : Wst σ wk ab v2) (r : SeC v σ σ') : Wst σ' wk ab v2 := by
  obtain ⟨k1, k2, ⟨v1, ⟨v2, v3, v4, v5⟩, v6⟩, ⟨⟨a1, a2, a3, a4, a5, a6⟩, a7⟩, e13, ka⟩ := h
  exact ⟨by rw [r.kd]; exact k1, (r.fR (by decide) (by decide)).trans k2, ⟨by rw [r.kd]; exact v1, ⟨(r.fR (by decide) (by decide)).trans v2, (r.fR (by decide) (by decide)).trans v3, (r.fR (by decide) (by decide)).trans v4, (r.fR (by decide) (by decide)).trans v5⟩, by rw [r.kd]; exact v6⟩, ⟨⟨(r.fR (by decide) (by decide)).trans a1, (r.fR (by decide) (by decide)).trans a2, (r.fR (by decide) (by decide)).trans a3, (r.fR (by decide) (by decide)).trans a4, (r.fR (by decide) (by decide)).trans a5, (r.fR (by decide) (by decide)).trans a6⟩, by rw [r.kd]; exact a7⟩, (r.fR (by decide) (by decide)).trans e13, by rw [r.kd]; exact ka⟩
/-- all stands behind settling -/
theorem Bks.se (hb : 1189 ≤ b ∨ b = 1039) (A : Bks σ w v X b M gl nu V Cc) (r : SeC v σ σ') : Bks σ' w v X b M gl nu V Cc ∧ Eff (seE v) σ w σ' w := by
  obtain ⟨⟨⟨o, n⟩, S, R, J⟩, B, Rm⟩ := A
  have E := r.eff J.1 J.2.1 o
  have hv := J.1
  refine ⟨⟨⟨⟨E.1, by rw [r.2.1]; exact n⟩, S.eff E (fun q hq z => ?_), rdl_eff R E (fun c c1 c2 z => ?_) (fun z => absurd z.1 (by decide)), J.1, J.2.1, J.2.2.1.se r, J.2.2.2.1.se r, (r.fR (by decide) (by decide)).trans J.2.2.2.2⟩, B.fr (fun j => E.bk (fun z => ?_) B.1.1.2.2.1), Rm.eq ⟨rfl, rfl, rfl, rfl⟩ ⟨r.2.1, r.2.2.1⟩⟩, E⟩
  · rcases hq with h | h
    · have := z.1
      omega
    · rw [h] at z
      have z2 := z.2
      simp only at z2
      omega
  · have z2 := z.2
    simp only at z2
    omega
  · have : b = 2 := z.1
    omega
theorem seE_bk (q : Nat × Nat) (h : seE v q) : bkK b v q := Or.inr (Or.inr ⟨h.1, by
  rcases h.2 with h | h | h
  · exact Or.inl h
  · exact Or.inr (Or.inl ⟨h.1, by omega⟩)
  · exact Or.inr (Or.inr h)⟩)
/-- the last closing, for one that is not in force -/
theorem open_none {fs : List mFact} {day at' : Int32} (h : ∀ f ∈ fs, ¬ (f.1 = 14 ∧ m_counts f day at' = true)) : m_open fs day at' = true := by
  unfold m_open
  have : ∀ (l : List mFact) (z : Bool), z = true → (∀ f ∈ l, ¬ (f.1 = 14 ∧ m_counts f day at' = true)) → m_last (fun f => m_counts f day at' && (decide (f.1 = 14) || decide (f.1 = 15))) (fun f => decide (f.1 = 15)) z l = true := by
    intro l
    induction l with
    | nil => intro z hz _; exact hz
    | cons f l ih =>
      intro z hz hl
      rw [m_last]
      refine ih _ ?_ (fun g hg => hl g (List.mem_cons_of_mem _ hg))
      split
      · rename_i hq
        rw [Bool.and_eq_true, Bool.or_eq_true] at hq
        rcases hq.2 with h14 | h15
        · exact absurd ⟨of_decide_eq_true h14, hq.1⟩ (hl f List.mem_cons_self)
        · exact h15
      · exact hz
  exact this fs true rfl h
theorem closed_find (fs : List mFact) : m_closed fs = ((fs.reverse.find? (fun f => decide (f.1 = 14))).map (fun f => f.2.1)).getD 0 := m_last_map2 _ _ _ _
theorem bk_isLate {i cc : Nat} {x : mCase} {day g : Int32} {F : Bool → am_S → Prop} (hBD : BkD σ w b (o_pol M) (o_tel M) (o_los M) (o_cas M)) (hw : WfO M) (hN : BkN σ b M) (hi : (o_cas M)[i]? = some x) (hcc : am_aR σ (bA σ b 6006) i = some cc) (hop : m_open x.2.2.2.2.2 10949 (o_now M) = false) (hd : 0 ≤ day.toInt ∧ day.toInt ≤ 10949) (K : ∀ bo : Bool, (bo = true ↔ ((g = 0 ∧ 30 < day.toInt - (m_closed x.2.2.2.2.2).toInt) ∨ (g = 1 ∧ 365 < day.toInt - (m_closed x.2.2.2.2.2).toInt))) → F bo σ) : k_Bk_isLate nl Ln xs (d + 3) b (some cc) day g σ F := by
  obtain ⟨c', c1, c2, -⟩ := hBD.2.2.2.2.1 i x hi
  have ec : c' = cc := Option.some.inj (c1.symm.trans hcc)
  subst ec
  have hx := hw.1.2.2.2.2 x (List.mem_of_getElem? hi)
  have hmo := hw.2.2.2.1 x (List.mem_of_getElem? hi)
  have tD : (10949 : Int32).toInt = 10949 := by decide
  have cnt : ∀ f ∈ x.2.2.2.2.2, m_counts f 10949 (o_now M) = true := fun f hf => by
    unfold m_counts
    have h1 := hmo.2.2 f hf
    have h2 := (hx.2.2.2.2.1.2.1 f hf).2.2.2.1
    rw [Bool.and_eq_true]
    exact ⟨decide_eq_true (by rw [i32lt]; omega), decide_eq_true (by rw [i32lt, tD]; omega)⟩
  have efind : x.2.2.2.2.2.reverse.find? (fun f => decide (f.1 = 14) && m_counts f 10949 (o_now M)) = x.2.2.2.2.2.reverse.find? (fun f => decide (f.1 = 14)) := find_congr (fun f hf => by rw [cnt f (List.mem_reverse.mp hf), Bool.and_true])
  refine w_Bk_isLate ⟨is_mk hBD.1.2.1, is_mk c2.1.2.1, ?_⟩
  rw [Option.getD_some, hN.2.2.2.2.1]
  refine cs_lastFact (d := d) c2.1 (fun hnone _ => ?_) (fun f e hf hE _ => ?_)
  · exfalso
    have := open_none (fs := x.2.2.2.2.2) (day := 10949) (at' := o_now M) (fun f hf z => by
      have := List.find?_eq_none.mp hnone f (List.mem_reverse.mpr hf)
      rw [Bool.and_eq_true] at this
      exact this ⟨decide_eq_true z.1, z.2⟩)
    rw [hop] at this
    exact absurd this (by decide)
  · refine ⟨fun _ => is_mk hE.2.1, ?_⟩
    rintro w8 rfl
    rw [if_neg (by simp), Option.getD_some, hE.2.2.2.1]
    have ecl : m_closed x.2.2.2.2.2 = f.2.1 := by
      rw [closed_find, ← efind, hf]
      rfl
    rw [ecl] at K
    have hfm : f ∈ x.2.2.2.2.2 := List.mem_reverse.mp (List.mem_of_find?_eq_some hf)
    have hfd := (hx.2.2.2.2.1.2.1 f hfm).2.2
    have esub : (day - f.2.1).toInt = day.toInt - f.2.1.toInt := i32sub (by omega) (by omega)
    have t30 : (30 : Int32).toInt = 30 := by decide
    have t365 : (365 : Int32).toInt = 365 := by decide
    refine w_Bk_isLate_31 (K _ ?_)
    rw [decide_eq_true_iff, i32lt, i32lt, t30, t365, esub]
    constructor
    · intro z
      rcases z with ⟨z1, z2 | z2⟩ | z
      · exact Or.inl ⟨z1, z2⟩
      · exact Or.inr z2
      · exact Or.inr z.2
    · intro z
      rcases z with z | z
      · exact Or.inl ⟨z.1, Or.inl z.2⟩
      · exact Or.inr ⟨fun h => by rw [h] at z; exact absurd z.1 (by decide), z⟩
end
