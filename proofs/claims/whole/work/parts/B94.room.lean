/-! THE CLASS: the room at any time -/
section
variable {σ : am_S} {w : ow_T} {τ : am_S} {v b gl nu : Nat} {X : Stx} {sp : Option Nat} {g : Grw} {D : mTop}
theorem DskC.room (R : DskC τ σ w v X b sp g gl nu D) : am_nx σ ≤ 61000 ∧ am_sl σ ≤ 8922250 := by
  obtain ⟨C, hb, ht, T, ⟨tx, Tx⟩, S, -, A, hf, hsp, hrf⟩ := R
  obtain ⟨lg, -, l2⟩ := A.2.1.2.2.2.1
  obtain ⟨⟨r1, r2, r3, r4, r5⟩, R2, R3⟩ := A.2.2
  have q1 := g13 T.2.2.1
  have q2 := g13 Tx.2.2.1
  have q3 := g13 S.2.2.1
  have q4 := g13 l2.2.2.1
  have p1 := T.2.2.1
  have p2 := Tx.2.2.1
  have p3 := S.2.2.1
  have p4 := l2.2.2.1
  have h5 : (if sp = none then 0 else 20 + g.2.2.2) ≤ 33 ∧ (if sp = none then 0 else 5000 + 128 * 2 ^ g.2.2.2) ≤ 1060000 := by
    cases sp with
    | none => exact ⟨by simp, by simp⟩
    | some b2 =>
      obtain ⟨-, -, B2⟩ := hsp b2 rfl
      obtain ⟨lg2, -, l3⟩ := B2.2.2.2.1
      have q5 := g13 l3.2.2.1
      have p5 := l3.2.2.1
      rw [if_neg (by simp), if_neg (by simp)]
      generalize 2 ^ g.2.2.2 = z at q5 ⊢
      omega
  unfold grC at R2 R3
  simp only at R2 R3 r1 r2 r3 r4 r5
  generalize (if sp = none then 0 else 20 + g.2.2.2) = y1 at R2 h5
  generalize (if sp = none then 0 else 5000 + 128 * 2 ^ g.2.2.2) = y2 at R3 h5
  generalize 2 ^ g.1 = z1 at q1 R3
  generalize 2 ^ g.2.1 = z2 at q2 R3
  generalize 2 ^ g.2.2.1 = z3 at q3 R3
  generalize 2 ^ gl = z4 at q4 R3
  omega
end
