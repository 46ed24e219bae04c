/-! THE CLASS: the other working leaves this one's cells as they are -/
section
variable {σ σ1 : am_S} {wk ab v wk2 ab2 v2 c : Nat} {fs as vs va : List Nat}
theorem Wc.oth (h : Wc wk2 ab2 v2 fs as vs va σ σ1) (h1 : c ≠ wk2) (h2 : c ≠ v2) (h3 : ∀ j ∈ as, c ≠ ab2 + j) (h4 : ∀ j ∈ va, c ≠ v2 + j) : am_eqc σ σ1 c := by
  refine ⟨by rw [h.1], fun q => ?_⟩
  obtain ⟨a1, a2, a3⟩ := h.2.2.2.1 q c (fun z => h1 z.2) (fun z => h2 z.2)
  obtain ⟨b1, b2, b3⟩ := h.2.2.2.2 c h3 h4 q
  exact ⟨a1, a2, a3, b1, b2, b3⟩
/-- the cells of this working and those of the other are apart -/
def Apart (wk ab v wk2 ab2 v2 : Nat) : Prop := wk = 1008 ∧ ab = 1027 ∧ (v = 1022 ∨ v = 1048) ∧ wk2 = 1009 ∧ ab2 = 1015 ∧ v2 = 1010
theorem Wc.mine (h : Wc wk2 ab2 v2 fs as vs va σ σ1) (ha : Apart wk ab v wk2 ab2 v2) (h3 : ∀ j ∈ as, j ≤ 6) (h4 : ∀ j ∈ va, 1 ≤ j ∧ j ≤ 4) (hc : c = wk ∨ (ab ≤ c ∧ c ≤ ab + 6) ∨ (v ≤ c ∧ c ≤ v + 4)) : am_eqc σ σ1 c := by
  unfold Apart at ha
  refine h.oth (by omega) (by omega) (fun j hj => ?_) (fun j hj => ?_)
  · have := h3 j hj
    omega
  · have := h4 j hj
    omega
end
