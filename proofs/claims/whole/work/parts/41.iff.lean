/-! THE FIRST CALL: the class and the reference as they begin -/
theorem is_iff {σ : am_S} {n ci : Nat} : am_is σ (some n) ci ↔ (am_kd σ n).1 = ci + 1 := ⟨fun ⟨m, e, h⟩ => by cases e; exact h, fun h => ⟨n, rfl, h⟩⟩
theorem ar_iff {σ : am_S} {n k : Nat} {i : Int32} : am_ar σ k (some n) i ↔ (am_kd σ n).1 = k ∧ 0 ≤ i.toInt ∧ i.toInt < (am_kd σ n).2 := ⟨fun ⟨m, e, h⟩ => by cases e; exact h, fun h => ⟨n, rfl, h⟩⟩
