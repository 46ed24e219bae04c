/-! a run that doesn't touch the script is a run with every script, and with more room -/
def am_zle (z0 z : am_Z) : Prop := ∀ n, am_rk z0 n ≠ 0 → am_rk z n = am_rk z0 n ∧ am_rl z n = am_rl z0 n ∧ am_rv z n = am_rv z0 n
section AmZ
variable {a1 : Nat → Nat → Option (Instr × Nat)} {a2 : Nat → Nat → Nat × Nat × Nat} {a3 : Nat → Nat → Int32} {a4 : Nat → Nat → Int64} {a5 : Nat → Nat → Nat} {a6 : Nat → Nat} {a7 : Nat → Nat × Nat} {a8 : Nat → Nat} {z0 z : am_Z}
theorem am_h_z (hz : am_zle z0 z) {x : Nat} {i : Instr} {len pc : Nat} {L : List (Option Value)} {st : List Value} {σ : am_S} {q : Nat × List (Option Value) × List Value × am_S} (h : am_h (a1, a2, a3, a4, a5, a6, a7, a8, z0) x i len pc L st σ = some q) : am_h (a1, a2, a3, a4, a5, a6, a7, a8, z) x i len pc L st σ = some q := by
  cases i with
  | getfield idx =>
    simp only [am_h] at h ⊢
    split at h
    · split at h
      · rename_i hA; exact (if_pos hA).trans h
      · rename_i hA
        split at h
        · rename_i hB
          refine (if_neg hA).trans ?_
          have e := hz _ (by rw [hB.2.2.2]; decide)
          rw [if_pos ⟨hB.1, hB.2.1, hB.2.2.1, e.1.trans hB.2.2.2⟩]
          exact h
        · cases h
    · cases h
  | arraylength =>
    simp only [am_h] at h ⊢
    split at h
    · split at h
      · rename_i hA; exact (if_pos hA).trans h
      · rename_i hA
        split at h
        · rename_i hB
          refine (if_neg hA).trans ?_
          have e := hz _ (by rcases hB.2.2 with h | h <;> rw [h] <;> decide)
          rw [e.1, e.2.1, if_pos hB]
          exact h
        · cases h
    · cases h
  | iaload =>
    simp only [am_h] at h ⊢
    split at h
    · split at h
      · rename_i hA; exact (if_pos hA).trans h
      · rename_i hA
        split at h
        · rename_i hB
          refine (if_neg hA).trans ?_
          have e := hz _ (by rw [hB.2.2.1]; decide)
          rw [e.1, e.2.1, e.2.2, if_pos hB]
          exact h
        · cases h
    · cases h
  | baload =>
    simp only [am_h] at h ⊢
    split at h
    · split at h
      · rename_i hA; exact (if_pos hA).trans h
      · rename_i hA
        split at h
        · rename_i hB
          refine (if_neg hA).trans ?_
          have e := hz _ (by rw [hB.2.2.1]; decide)
          rw [e.1, e.2.1, e.2.2, if_pos hB]
          exact h
        · cases h
    · cases h
  | aastore =>
    simp only [am_h] at h ⊢
    split at h
    · exact h
    · split at h
      · rename_i hA; exact (if_pos hA).trans h
      · rename_i hA
        split at h
        · rename_i hB
          refine (if_neg hA).trans ?_
          have e := hz _ (by rw [hB.2.2.2.2.1]; decide)
          rw [e.1]
          exact (if_pos hB).trans h
        · cases h
    · cases h
  | _ => exact h
theorem am_call_z (hz : am_zle z0 z) {x : Nat} {i : Instr} {len : Nat} {st : List Value} {σ : am_S} {q : Nat × Nat × List Value × List Value} (h : am_call (a1, a2, a3, a4, a5, a6, a7, a8, z0) x i len st σ = some q) : am_call (a1, a2, a3, a4, a5, a6, a7, a8, z) x i len st σ = some q := by
  cases i with
  | invokevirtual idx =>
    simp only [am_call] at h ⊢
    split at h
    · rename_i heq
      have heq' : (List.take (am_mi (a1, a2, a3, a4, a5, a6, a7, a8, z) (am_lnk (a1, a2, a3, a4, a5, a6, a7, a8, z) x idx).snd.fst).snd st).reverse = _ := heq
      split at h
      · rename_i hA
        rw [heq']
        simp only
        rw [if_pos ?_]
        · exact h
        · refine ⟨hA.1, hA.2.1, hA.2.2.1, ?_⟩
          rcases hA.2.2.2 with hB | hB
          · exact Or.inl hB
          · have e := hz _ (by rw [hB.2.2]; decide)
            exact Or.inr ⟨hB.1, hB.2.1, e.1.trans hB.2.2⟩
      · cases h
    · cases h
  | _ => exact h
/-- where the one makes no call, the other makes none: of instructions that are no calls by objects -/
theorem am_call_zn {x : Nat} {i : Instr} {len : Nat} {st : List Value} {σ : am_S} (hi : ∀ idx, i ≠ .invokevirtual idx) (h : am_call (a1, a2, a3, a4, a5, a6, a7, a8, z0) x i len st σ = none) : am_call (a1, a2, a3, a4, a5, a6, a7, a8, z) x i len st σ = none := by
  cases i with
  | invokevirtual idx => exact absurd rfl (hi idx)
  | _ => exact h
theorem am_x_z (hz : am_zle z0 z) : ∀ (f fr lo fr' lo' x pc : Nat) (L : List (Option Value)) (st : List Value) (σ : am_S) (r : Option Value × am_S), fr ≤ fr' → lo ≤ lo' → am_x (a1, a2, a3, a4, a5, a6, a7, a8, z0) f fr lo x pc L st σ = some r → am_x (a1, a2, a3, a4, a5, a6, a7, a8, z) f fr' lo' x pc L st σ = some r := by
  intro f
  induction f with
  | zero => intro fr lo fr' lo' x pc L st σ r _ _ h; simp [am_x] at h
  | succ f ih =>
    intro fr lo fr' lo' x pc L st σ r hfr hlo h
    rw [am_x] at h ⊢
    cases hi : am_ins (a1, a2, a3, a4, a5, a6, a7, a8, z0) x pc with
    | none => rw [hi] at h; cases h
    | some q =>
      obtain ⟨i, len⟩ := q
      have hi' : am_ins (a1, a2, a3, a4, a5, a6, a7, a8, z) x pc = some (i, len) := hi
      rw [hi] at h
      try rw [hi']
      simp only at h ⊢
      cases hr : am_ret i len st with
      | some v => rw [hr] at h; exact h
      | none =>
        rw [hr] at h
        simp only at h ⊢
        cases hc : am_call (a1, a2, a3, a4, a5, a6, a7, a8, z0) x i len st σ with
        | some q =>
          obtain ⟨kd, y, as, r0⟩ := q
          rw [hc] at h
          rw [am_call_z hz hc]
          simp only at h ⊢
          by_cases h13 : kd = 13
          · rw [if_pos h13] at h ⊢
            split at h
            · rename_i hq; rw [if_pos ⟨by omega, by omega, hq.2.2⟩]; exact ih _ _ _ _ _ _ _ _ _ _ hfr hlo h
            · cases h
          · rw [if_neg h13] at h ⊢
            by_cases h14 : kd = 14
            · rw [if_pos h14] at h ⊢
              cases hq : am_cp σ r0 with
              | none => rw [hq] at h; cases h
              | some w =>
                rw [hq] at h
                simp only at h ⊢
                split at h
                · rename_i hq2; rw [if_pos ⟨by omega, by omega, hq2.2.2⟩]; exact ih _ _ _ _ _ _ _ _ _ _ hfr hlo h
                · cases h
            · rw [if_neg h14] at h ⊢
              split at h
              · rename_i hq
                have hq2 : 1 ≤ fr' ∧ (am_mi (a1, a2, a3, a4, a5, a6, a7, a8, z) y).1 + 19 ≤ lo' ∧ (r0.map fun v => v.category).sum ≤ 8 ∧ (am_in as).length ≤ (am_mi (a1, a2, a3, a4, a5, a6, a7, a8, z) y).1 := ⟨by omega, Nat.le_trans hq.2.1 hlo, hq.2.2⟩
                rw [if_pos hq2]
                split at h
                · rename_i v1 σ1 hq3
                  have e := ih _ _ (fr' - 1) (lo' - ((am_mi (a1, a2, a3, a4, a5, a6, a7, a8, z) y).1 + 19)) _ _ _ _ _ _ (Nat.sub_le_sub_right hfr 1) (Nat.sub_le_sub_right hlo _) hq3
                  have e2 : am_x (a1, a2, a3, a4, a5, a6, a7, a8, z) f (fr' - 1) (lo' - ((am_mi (a1, a2, a3, a4, a5, a6, a7, a8, z) y).1 + 19)) y 0 (am_lo (am_mi (a1, a2, a3, a4, a5, a6, a7, a8, z) y).1 as) [] σ = some (v1, σ1) := e
                  rw [e2]
                  exact ih _ _ _ _ _ _ _ _ _ _ hfr hlo h
                · cases h
              · cases h
        | none =>
          rw [hc] at h
          simp only at h
          by_cases hv : ∃ idx, i = .invokevirtual idx
          · obtain ⟨idx, rfl⟩ := hv
            exfalso
            cases hh : am_h (a1, a2, a3, a4, a5, a6, a7, a8, z0) x (.invokevirtual idx) len pc L st σ with
            | none => rw [hh] at h; cases h
            | some q => simp [am_h, am_p, am_g] at hh
          · rw [am_call_zn (fun idx e => hv ⟨idx, e⟩) hc]
            simp only
            cases hh : am_h (a1, a2, a3, a4, a5, a6, a7, a8, z0) x i len pc L st σ with
            | none => rw [hh] at h; cases h
            | some q =>
              obtain ⟨p1, L1, s1, σ1⟩ := q
              rw [hh] at h
              rw [am_h_z hz hh]
              simp only at h ⊢
              exact ih _ _ _ _ _ _ _ _ _ _ hfr hlo h
end AmZ
