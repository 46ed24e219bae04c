/-! A CALCULUS WITHOUT FUEL: am_wp says that the interpreter ends from here, with Q of the answer and the state -/
theorem am_x_more {T : am_T} : ∀ (f fr lo x pc : Nat) (L : List (Option Value)) (st : List Value) (σ : am_S) (r : Option Value × am_S), am_x T f fr lo x pc L st σ = some r → am_x T (f + 1) fr lo x pc L st σ = some r := by
  intro f
  induction f with
  | zero => intro fr lo x pc L st σ r h; simp [am_x] at h
  | succ f ih =>
    intro fr lo x pc L st σ r h
    rw [am_x] at h ⊢
    cases hi : am_ins T x pc with
    | none => rw [hi] at h; cases h
    | some q =>
      obtain ⟨i, len⟩ := q
      rw [hi] at h
      simp only at h ⊢
      cases hr : am_ret i len st with
      | some v => rw [hr] at h; exact h
      | none =>
        rw [hr] at h
        simp only at h ⊢
        cases hc : am_call T x i len st σ with
        | some q =>
          obtain ⟨kd, y, as, r0⟩ := q
          rw [hc] at h
          simp only at h ⊢
          by_cases h13 : kd = 13
          · rw [if_pos h13] at h ⊢
            split at h
            · rename_i hq; rw [if_pos hq]; exact ih _ _ _ _ _ _ _ _ h
            · cases h
          · rw [if_neg h13] at h ⊢
            by_cases h14 : kd = 14
            · rw [if_pos h14] at h ⊢
              cases hq : am_cp σ r0 with
              | none => rw [hq] at h; cases h
              | some w =>
                rw [hq] at h
                simp only at h ⊢
                split at h
                · rename_i hq2; rw [if_pos hq2]; exact ih _ _ _ _ _ _ _ _ h
                · cases h
            · rw [if_neg h14] at h ⊢
              split at h
              · rename_i hq
                rw [if_pos hq]
                split at h
                · rename_i v1 σ1 hq2
                  rw [ih _ _ _ _ _ _ _ _ hq2]
                  exact ih _ _ _ _ _ _ _ _ h
                · cases h
              · cases h
        | none =>
          rw [hc] at h
          simp only at h ⊢
          cases hh : am_h T x i len pc L st σ with
          | none => rw [hh] at h; cases h
          | some q =>
            rw [hh] at h
            exact ih _ _ _ _ _ _ _ _ h
theorem am_x_le {T : am_T} {f f' fr lo x pc : Nat} {L : List (Option Value)} {st : List Value} {σ : am_S} {r : Option Value × am_S} (h : am_x T f fr lo x pc L st σ = some r) (hf : f ≤ f') : am_x T f' fr lo x pc L st σ = some r := by
  induction hf with
  | refl => exact h
  | step _ ih => exact am_x_more _ _ _ _ _ _ _ _ _ ih
def am_wp (T : am_T) (fr lo x pc : Nat) (L : List (Option Value)) (st : List Value) (σ : am_S) (Q : Option Value → am_S → Prop) : Prop := ∃ (f : Nat) (v : Option Value) (σ1 : am_S), am_x T f fr lo x pc L st σ = some (v, σ1) ∧ Q v σ1
/-- one step that is no call and no return -/
def am_1 (T : am_T) (x pc : Nat) (L : List (Option Value)) (st : List Value) (σ : am_S) : Option (Nat × List (Option Value) × List Value × am_S) := match am_ins T x pc with
  | none => none
  | some (i, len) => match am_ret i len st with
    | some _ => none
    | none => match am_call T x i len st σ with
      | some _ => none
      | none => am_h T x i len pc L st σ
def am_n (T : am_T) (x : Nat) : Nat → Nat → List (Option Value) → List Value → am_S → Option (Nat × List (Option Value) × List Value × am_S)
  | 0, pc, L, st, σ => some (pc, L, st, σ)
  | k + 1, pc, L, st, σ => match am_1 T x pc L st σ with
    | none => none
    | some (pc', L', st', σ') => am_n T x k pc' L' st' σ'
section AmV
variable {T : am_T} {fr lo x pc : Nat} {L : List (Option Value)} {st : List Value} {σ : am_S} {Q : Option Value → am_S → Prop}
theorem am_wp.mono {Q' : Option Value → am_S → Prop} (h : am_wp T fr lo x pc L st σ Q) (hq : ∀ v σ1, Q v σ1 → Q' v σ1) : am_wp T fr lo x pc L st σ Q' := by
  obtain ⟨f, v, σ1, h1, h2⟩ := h
  exact ⟨f, v, σ1, h1, hq _ _ h2⟩
theorem am_wp_1 {pc' : Nat} {L' : List (Option Value)} {st' : List Value} {σ' : am_S} (h : am_1 T x pc L st σ = some (pc', L', st', σ')) (k : am_wp T fr lo x pc' L' st' σ' Q) : am_wp T fr lo x pc L st σ Q := by
  obtain ⟨f, v, σ1, h1, h2⟩ := k
  refine ⟨f + 1, v, σ1, ?_, h2⟩
  unfold am_1 at h
  rw [am_x]
  cases hi : am_ins T x pc with
  | none => rw [hi] at h; cases h
  | some q =>
    obtain ⟨i, len⟩ := q
    rw [hi] at h
    simp only at h ⊢
    cases hr : am_ret i len st with
    | some v => rw [hr] at h; cases h
    | none =>
      rw [hr] at h
      simp only at h ⊢
      cases hc : am_call T x i len st σ with
      | some q => rw [hc] at h; cases h
      | none =>
        rw [hc] at h
        simp only at h ⊢
        rw [h]
        exact h1
theorem am_wp_n : ∀ (n : Nat) {pc pc' : Nat} {L L' : List (Option Value)} {st st' : List Value} {σ σ' : am_S}, am_n T x n pc L st σ = some (pc', L', st', σ') → am_wp T fr lo x pc' L' st' σ' Q → am_wp T fr lo x pc L st σ Q := by
  intro n
  induction n with
  | zero => intro pc pc' L L' st st' σ σ' h k; cases h; exact k
  | succ n ih =>
    intro pc pc' L L' st st' σ σ' h k
    rw [am_n] at h
    cases h1 : am_1 T x pc L st σ with
    | none => rw [h1] at h; cases h
    | some q =>
      obtain ⟨p1, L1, s1, σ1⟩ := q
      rw [h1] at h
      exact am_wp_1 h1 (ih h k)
theorem am_wp_ret {i : Instr} {len : Nat} {v : Option Value} (hi : am_ins T x pc = some (i, len)) (hr : am_ret i len st = some v) (hc : am_rcok (am_ak T (100000 + x)) v = true) (hq : Q v σ) : am_wp T fr lo x pc L st σ Q := by
  refine ⟨1, v, σ, ?_, hq⟩
  rw [am_x, hi]
  simp only
  rw [hr]
  simp only
  rw [if_pos hc]
theorem am_call_ret {i : Instr} {len : Nat} {q : Nat × Nat × List Value × List Value} (h : am_call T x i len st σ = some q) : am_ret i len st = none := by
  cases i <;> first
    | rfl
    | (simp only [am_call] at h; cases h)
theorem am_wp_call {i : Instr} {len kd y : Nat} {as r : List Value} (hi : am_ins T x pc = some (i, len)) (hc : am_call T x i len st σ = some (kd, y, as, r)) (h13 : kd ≠ 13) (h14 : kd ≠ 14) (hroom : 1 ≤ fr ∧ (am_mi T y).1 + 19 ≤ lo ∧ (r.map fun v => v.category).sum ≤ 8 ∧ (am_in as).length ≤ (am_mi T y).1)
    (k : am_wp T (fr - 1) (lo - ((am_mi T y).1 + 19)) y 0 (am_lo (am_mi T y).1 as) [] σ (fun v σ' => am_wp T fr lo x (pc + 3) L (v.toList ++ r) σ' Q)) : am_wp T fr lo x pc L st σ Q := by
  obtain ⟨f, v, σ1, h1, f2, v2, σ2, h2, h3⟩ := k
  refine ⟨max f f2 + 1, v2, σ2, ?_, h3⟩
  rw [am_x, hi]
  simp only
  rw [am_call_ret hc]
  simp only
  rw [hc]
  simp only
  rw [if_neg h13, if_neg h14, if_pos hroom, am_x_le h1 (Nat.le_max_left _ _)]
  simp only
  exact am_x_le h2 (Nat.le_max_right _ _)
theorem am_wp_obj {i : Instr} {len y : Nat} {as r : List Value} (hi : am_ins T x pc = some (i, len)) (hc : am_call T x i len st σ = some (13, y, as, r)) (hroom : 1 ≤ fr ∧ 20 ≤ lo ∧ (r.map fun v => v.category).sum ≤ 8) (k : am_wp T fr lo x (pc + 3) L r σ Q) : am_wp T fr lo x pc L st σ Q := by
  obtain ⟨f, v, σ1, h1, h2⟩ := k
  refine ⟨f + 1, v, σ1, ?_, h2⟩
  rw [am_x, hi]
  simp only
  rw [am_call_ret hc]
  simp only
  rw [hc]
  simp only
  rw [if_pos trivial, if_pos hroom]
  exact h1
theorem am_wp_cp {i : Instr} {len y : Nat} {as r r' : List Value} {σ' : am_S} (hi : am_ins T x pc = some (i, len)) (hc : am_call T x i len st σ = some (14, y, as, r)) (hcp : am_cp σ r = some (r', σ')) (hroom : 1 ≤ fr ∧ 30 ≤ lo ∧ (r'.map fun v => v.category).sum ≤ 8) (k : am_wp T fr lo x (pc + 3) L r' σ' Q) : am_wp T fr lo x pc L st σ Q := by
  obtain ⟨f, v, σ1, h1, h2⟩ := k
  refine ⟨f + 1, v, σ1, ?_, h2⟩
  rw [am_x, hi]
  simp only
  rw [am_call_ret hc]
  simp only
  rw [hc]
  simp only
  rw [if_neg (by decide), if_pos trivial, hcp]
  simp only
  rw [if_pos hroom]
  exact h1
end AmV
