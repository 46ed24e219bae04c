/-! THE PARSER of the reference: a clause's rows may be written meanwhile -/
def clA : List Nat := [21, 22, 23, 24, 25, 26]
/-- what a clause may change: of the rows of clauses only place p, of the nodes none below n0 -/
def Cf (σ σ' : am_S) (o n0 p : Nat) : Prop := Rc o paF clA [] σ σ' ∧ (∀ i, i < n0 → am_aI σ' (o + 24) i = am_aI σ (o + 24) i ∧ am_aI σ' (o + 25) i = am_aI σ (o + 25) i ∧ am_aI σ' (o + 26) i = am_aI σ (o + 26) i) ∧ ∀ i, i ≠ p → am_aI σ' (o + 21) i = am_aI σ (o + 21) i ∧ am_aI σ' (o + 22) i = am_aI σ (o + 22) i ∧ am_aI σ' (o + 23) i = am_aI σ (o + 23) i
section
variable {σ σ1 σ2 : am_S} {o n0 n1 p : Nat} {t : List Int32} {s op nn e : Nat}
theorem Cf.rf : Cf σ σ o n0 p := ⟨Rc.rf, fun _ _ => ⟨rfl, rfl, rfl⟩, fun _ _ => ⟨rfl, rfl, rfl⟩⟩
theorem Cf.trans (h : Cf σ σ1 o n0 p) (h2 : Cf σ1 σ2 o n1 p) (hn : n0 ≤ n1) : Cf σ σ2 o n0 p := ⟨h.1.trans h2.1, fun i hi => ⟨(h2.2.1 i (by omega)).1.trans (h.2.1 i hi).1, (h2.2.1 i (by omega)).2.1.trans (h.2.1 i hi).2.1, (h2.2.1 i (by omega)).2.2.trans (h.2.1 i hi).2.2⟩, fun i hi => ⟨(h2.2.2 i hi).1.trans (h.2.2 i hi).1, (h2.2.2 i hi).2.1.trans (h.2.2 i hi).2.1, (h2.2.2 i hi).2.2.trans (h.2.2 i hi).2.2⟩⟩
theorem Cf.of (h0 : 1063 ≤ o) (f : Pf σ σ1 o n0) : Cf σ σ1 o n0 p := ⟨f.1.mono (by simp) (by decide) (by simp), f.2, fun i _ => ⟨f.1.aI h0 (by simp) (by decide), f.1.aI h0 (by simp) (by decide), f.1.aI h0 (by simp) (by decide)⟩⟩
theorem Cf.wr {k : Nat} {v : Int32} (h0 : 1063 ≤ o) (hk : k = 21 ∨ k = 22 ∨ k = 23) (e : σ1 = am_saI σ (o + k) p v) : Cf σ σ1 o n0 p := by
  have r : Rc o [] [k] [] σ σ1 := by rw [e]; exact Rc.saI (by simp)
  refine ⟨r.mono (by simp) (by intro x hx; rw [List.mem_singleton] at hx; rw [hx]; rcases hk with h | h | h <;> rw [h] <;> decide) (by simp), fun i _ => ⟨r.aI h0 (by simp) (by simp; omega), r.aI h0 (by simp) (by simp; omega), r.aI h0 (by simp) (by simp; omega)⟩, fun i hi => ?_⟩
  have one : ∀ q, am_aI σ1 (o + q) i = am_aI σ (o + q) i := by
    intro q
    by_cases hq : q = k
    · rw [hq, saI_all e, if_neg hi]
    · exact r.aI h0 (by simp) (by simp; exact hq)
  exact ⟨one 21, one 22, one 23⟩
theorem PS.aw {as : List Nat} (P : PS σ o t s op nn) (r : Rc o [] as [] σ σ1) (h : 62 ∉ as) : PS σ1 o t s op nn := by
  obtain ⟨hK, hM, hT, hk, h97, h98, h31⟩ := P
  exact ⟨hK.rc r, hM.rc r, hT.rc r hK.lo (by simp) h, ⟨hk.1, hk.2.1, (r.fI (by simp)).trans hk.2.2.1, (r.fI (by simp)).trans hk.2.2.2.1, (r.fI (by simp)).trans hk.2.2.2.2.1, (r.fI (by simp)).trans hk.2.2.2.2.2.1, fun q => (r.fL (by simp)).trans (hk.2.2.2.2.2.2 q)⟩, (r.fI (by simp)).trans h97, (r.fI (by simp)).trans h98, (r.fI (by simp)).trans h31⟩
theorem PE.aw {as : List Nat} (P : PE σ o e nn) (r : Rc o [] as [] σ σ1) : PE σ1 o e nn := by
  obtain ⟨hK, hM, he, h97, h31⟩ := P
  exact ⟨hK.rc r, hM.rc r, he, (r.fI (by simp)).trans h97, (r.fI (by simp)).trans h31⟩
end
