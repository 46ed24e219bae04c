/-! THE MODEL: what was used of a cover is never the answer of a refusal -/
section
variable {P : List mPol} {T : List mTell} {Ls : List mLoss} {year at' : Int32} {p : Nat}
theorem used_rng : ∀ (l : List mCase), (∀ c ∈ l, WfCas P Ls c) → l.length ≤ 100 → -(40000000000000 * (l.length : Int)) ≤ (m_usedL P T Ls year at' p l).toInt ∧ (m_usedL P T Ls year at' p l).toInt ≤ 40000000000000 * (l.length : Int)
  | [], _, _ => by
    show -(40000000000000 * ((0 : Nat) : Int)) ≤ (0 : Int64).toInt ∧ (0 : Int64).toInt ≤ 40000000000000 * ((0 : Nat) : Int)
    decide
  | c :: l, h, hl => by
    rw [List.length_cons] at hl
    have ih := used_rng l (fun x hx => h x (List.mem_cons_of_mem _ hx)) (by omega)
    have hF := (h c List.mem_cons_self).2.2.2.2.1
    have h1 : 0 ≤ (m_paidOf c.2.2.2.2.2 at').toInt ∧ (m_paidOf c.2.2.2.2.2 at').toInt ≤ 40000000000000 := by
      have := sumf_rng (q := fun f => decide (f.1 = 13) && decide (¬ at' < f.2.2.1)) (v := fun f => m_fc f - m_fi f) c.2.2.2.2.2 (fun f hf => by
        obtain ⟨-, -, k3, k4, k5, k6, k7, k8, -⟩ := hF.2.1 f hf
        rw [i64sub (by omega) (by omega)]
        omega) hF.1
      have h40 := hF.1
      unfold m_paidOf
      omega
    have h2 : 0 ≤ (m_recOf c.2.2.2.2.2 at').toInt ∧ (m_recOf c.2.2.2.2.2 at').toInt ≤ 40000000000000 := by
      have := sumf_rng (q := fun f => decide (f.1 = 19) && decide (¬ at' < f.2.2.1)) (v := m_fc) c.2.2.2.2.2 (fun f hf => by
        obtain ⟨-, -, k3, k4, k5, k6, k7, k8, -⟩ := hF.2.1 f hf
        omega) hF.1
      have h40 := hF.1
      unfold m_recOf
      omega
    have h3 : -40000000000000 ≤ (if m_of P T Ls year at' p c = true then m_paidOf c.2.2.2.2.2 at' - m_recOf c.2.2.2.2.2 at' else 0).toInt ∧ (if m_of P T Ls year at' p c = true then m_paidOf c.2.2.2.2.2 at' - m_recOf c.2.2.2.2.2 at' else 0).toInt ≤ 40000000000000 := by
      by_cases hq : m_of P T Ls year at' p c = true
      · rw [if_pos hq, i64sub (by omega) (by omega)]
        omega
      · rw [if_neg hq]
        decide
    rw [m_usedL, List.length_cons, i64add (by omega) (by omega)]
    omega
end
theorem used_no {D : mTop} (hw : WfO (d_off D)) (at' p year : Int32) : d_used D p year at' = d_no ↔ ¬ (m_isCov (o_pol (d_off D)) p.toInt64 ∧ (0 ≤ year.toInt ∧ year.toInt ≤ 29) ∧ (0 ≤ at'.toInt ∧ at'.toInt ≤ (o_now (d_off D)).toInt)) := by
  unfold d_used
  by_cases h : m_isCov (o_pol (d_off D)) p.toInt64 ∧ (0 ≤ year.toInt ∧ year.toInt ≤ 29) ∧ (0 ≤ at'.toInt ∧ at'.toInt ≤ (o_now (d_off D)).toInt)
  · rw [if_pos h]
    refine ⟨fun z => ?_, fun z => absurd h z⟩
    have hr := used_rng (P := o_pol (d_off D)) (T := o_tel (d_off D)) (year := year) (at' := at') (p := p.toInt.toNat) (o_cas (d_off D)) hw.1.2.2.2.2 hw.1.c100
    have hc := hw.1.c100
    rw [z] at hr
    have : d_no.toInt = -9223372036854775808 := by decide
    omega
  · rw [if_neg h]
    exact ⟨fun _ => h, fun _ => rfl⟩
