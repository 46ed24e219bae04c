/-! THE MODEL: what acts keep: who was told of, which acts tell, nothing is held outside a batch -/
def CkA (M : mOff) : Prop := ActT (o_tel M) ∧ WhoT (o_pol M) (o_tel M) ∧ (o_und M = false → o_hel M = [])
theorem q_ite {Q : mAns → Prop} {c : Prop} [Decidable c] {x y : mAns} (h1 : c → Q x) (h2 : ¬ c → Q y) : Q (if c then x else y) := by
  by_cases h : c
  · rw [if_pos h]; exact h1 h
  · rw [if_neg h]; exact h2 h
def CkQ (r : mAns) : Prop := CkA r.2.1
section
variable {M : mOff} {fnd : Int32} {n : Nat} {a : mArg} {t : List Int32}
theorem ck_same {x y : Int32} (h : CkA M) : CkQ (x, M, y) := h
theorem ck_tell {most who : Nat} {which ans : Int32} {v : Int64} {C : List mCl} (h : CkA M) (hn : n = 2 ∨ n = 4 ∨ n = 5 ∨ n = 6 ∨ n = 7) (hw : n ≠ 2 → who < (o_pol M).length) : CkQ (m_tellA M fnd n most a t who which v C ans) := by
  unfold m_tellA
  refine q_ite (Q := CkQ) (fun _ => h) (fun _ => ⟨fun s hs => ?_, fun s hs h2 => ?_, h.2.2⟩)
  · have hs : s ∈ o_tel M ++ [(Int32.ofNat n, who, which, o_now M + 1, v, C)] := hs
    rcases List.mem_append.mp hs with hs | hs
    · exact h.1 s hs
    · rw [List.mem_singleton.mp hs]
      rcases hn with rfl | rfl | rfl | rfl | rfl
      · exact Or.inl rfl
      · exact Or.inr (Or.inl rfl)
      · exact Or.inr (Or.inr (Or.inl rfl))
      · exact Or.inr (Or.inr (Or.inr (Or.inl rfl)))
      · exact Or.inr (Or.inr (Or.inr (Or.inr rfl)))
  · have hs : s ∈ o_tel M ++ [(Int32.ofNat n, who, which, o_now M + 1, v, C)] := hs
    rcases List.mem_append.mp hs with hs | hs
    · exact h.2.1 s hs h2
    · rw [List.mem_singleton.mp hs] at h2 ⊢
      refine hw (fun z => h2 ?_)
      rw [z]
      rfl
theorem ck_loss {kind day hund : Int32} {wh : Option Nat} (h : CkA M) : CkQ (m_addLoss M fnd n a kind day wh hund) := by
  unfold m_addLoss
  exact q_ite (Q := CkQ) (fun _ => h) (fun _ => h)
theorem act_ck (h : CkA M) (wo : WfO M) (hnow : (o_now M).toInt ≤ 2000000000) : CkA (m_act M fnd n a t).2.1 := by
  have pol : ∀ {v : Int64}, m_isPol (o_pol M) v → m_ix v < (o_pol M).length := fun {v} hv => by unfold m_ix; omega
  by_cases hf : 12 ≤ n ∧ n ≤ 19
  · by_cases hu : o_und M = true
    · rw [act_hold hf hu]
      refine q_ite (Q := CkQ) (fun _ => h) (fun _ => ⟨h.1, h.2.1, fun z => ?_⟩)
      have z : o_und M = false := z
      rw [hu] at z
      cases z
    · have hu : o_und M = false := by cases h : o_und M <;> simp_all
      rw [act_fact hf hu]
      have hx := fact_wf (a := a) (fnd := fnd) wo hf.1 hf.2 (by omega)
      have h2 : CkA (m_fact M fnd n a).2.1 := by
        rcases hx with ⟨u1, u2⟩ | ⟨it, u1, u2, u3, u4⟩
        · rw [u1]
          exact h
        · rw [u1]
          exact h
      show CkA (if (m_fact M fnd n a).1 = 1 then _ else (m_fact M fnd n a).2.1)
      by_cases h1 : (m_fact M fnd n a).1 = 1
      · rw [if_pos h1]
        exact h2
      · rw [if_neg h1]
        exact h2
  · by_cases hu : o_und M = decide (n = 21 ∨ n = 22)
    · have hgo : ¬ (o_und M ≠ decide (n = 21 ∨ n = 22)) := fun z => z hu
      have he : CkQ (m_end M fnd) := by
        unfold m_end
        dsimp only
        split
        · exact ⟨h.1, h.2.1, fun _ => rfl⟩
        · exact ⟨h.1, h.2.1, fun _ => rfl⟩
      have hp : ∀ hc : m_isCov (o_pol M) (a 0), CkQ (match m_parse t with
        | .inl e => (-10 - Int32.ofNat e, M, fnd)
        | .inr C => m_tellA M fnd 6 150 a t (m_ix (a 0)) 0 0 C (Int32.ofNat C.length)) := fun hc => by
        cases m_parse t with
        | inl e => exact h
        | inr C => exact ck_tell h (by omega) (fun _ => pol hc.1)
      have nn : ∀ {p : Prop}, ¬ ¬ p → p := fun {p} z => Classical.byContradiction z
      show CkQ (m_act M fnd n a t)
      unfold m_act
      rw [if_neg hf, if_neg hgo]
      refine q_ite (Q := CkQ) (fun _ => q_ite (Q := CkQ) (fun _ => h) (fun _ => h)) (fun _ => ?_)
      refine q_ite (Q := CkQ) (fun _ => q_ite (Q := CkQ) (fun _ => h) (fun _ => ck_tell h (by omega) (fun z => absurd rfl z))) (fun _ => ?_)
      refine q_ite (Q := CkQ) (fun _ => q_ite (Q := CkQ) (fun _ => h) (fun _ => q_ite (Q := CkQ) (fun _ => h) (fun _ => ⟨h.1, fun s hs h2 => ?_, h.2.2⟩))) (fun _ => ?_)
      · have := h.2.1 s hs h2
        show s.2.1 < (o_pol M ++ [_]).length
        rw [len_app]
        omega
      refine q_ite (Q := CkQ) (fun _ => q_ite (Q := CkQ) (fun _ => h) (fun hc => q_ite (Q := CkQ) (fun _ => h) (fun _ => ck_tell h (by omega) (fun _ => pol (nn hc).1)))) (fun _ => ?_)
      refine q_ite (Q := CkQ) (fun _ => q_ite (Q := CkQ) (fun _ => h) (fun hc => ck_tell h (by omega) (fun _ => pol (nn hc).1.1))) (fun _ => ?_)
      refine q_ite (Q := CkQ) (fun _ => q_ite (Q := CkQ) (fun _ => h) (fun hc => q_ite (Q := CkQ) (fun _ => h) (fun _ => hp (nn hc).1))) (fun _ => ?_)
      refine q_ite (Q := CkQ) (fun _ => q_ite (Q := CkQ) (fun _ => h) (fun hc => ck_tell h (by omega) (fun _ => pol (nn hc).1.1))) (fun _ => ?_)
      refine q_ite (Q := CkQ) (fun _ => q_ite (Q := CkQ) (fun _ => h) (fun _ => ck_loss h)) (fun _ => ?_)
      refine q_ite (Q := CkQ) (fun _ => q_ite (Q := CkQ) (fun _ => h) (fun _ => q_ite (Q := CkQ) (fun _ => h) (fun _ => ck_loss h))) (fun _ => ?_)
      refine q_ite (Q := CkQ) (fun _ => q_ite (Q := CkQ) (fun _ => h) (fun _ => q_ite (Q := CkQ) (fun _ => h) (fun _ => q_ite (Q := CkQ) (fun _ => h) (fun _ => h)))) (fun _ => ?_)
      refine q_ite (Q := CkQ) (fun _ => q_ite (Q := CkQ) (fun _ => h) (fun _ => q_ite (Q := CkQ) (fun _ => h) (fun _ => q_ite (Q := CkQ) (fun _ => h) (fun _ => h)))) (fun _ => ?_)
      refine q_ite (Q := CkQ) (fun _ => ⟨h.1, h.2.1, fun z => ?_⟩) (fun _ => ?_)
      · have z : true = false := z
        cases z
      exact q_ite (Q := CkQ) (fun _ => he) (fun _ => ⟨h.1, h.2.1, fun _ => rfl⟩)
    · rw [act_state hf hu]
      exact h
end
