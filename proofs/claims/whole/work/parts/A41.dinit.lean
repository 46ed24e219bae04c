/-! THE DESK of the reference at the beginning -/
theorem i_kw : ∀ nl : Bool, (∀ k, k < 6 → am_aR (i_2 nl) 1061 k = some (k + 2)) ∧ ∀ k, k < 13 → am_aR (i_2 nl) 1062 k = some (k + 8) := by decide +kernel
theorem of_in2 : of_L.all (fun q => i_lR2.contains (q.1, 1063, some (1063 + q.2.1)) && (i_lk2.contains (1063 + q.2.1, q.2.2.1, q.2.2.2) && (i_lR2.contains (q.1, 1126, some (1126 + q.2.1)) && i_lk2.contains (1126 + q.2.1, q.2.2.1, q.2.2.2)))) = true := by decide +kernel
theorem mo_in2 : mo_L.all (fun q => i_lR2.contains (q.1, 1053, some q.2.1) && i_lk2.contains (q.2.1, q.2.2.1, q.2.2.2)) = true := by decide +kernel
section
variable {σ : am_S}
theorem offK_init (h0 : i_fm σ) : OffK σ 1063 ∧ OffK σ 1126 := by
  have h := fun q hq => List.all_eq_true.mp of_in2 q hq
  refine ⟨⟨Or.inl rfl, i_K h0 1063 14 0 (by decide +kernel), i_R h0 13099 1063 (some 1053) (by decide +kernel), fun q hq => ?_⟩, ⟨Or.inr rfl, i_K h0 1126 14 0 (by decide +kernel), i_R h0 13099 1126 (some 1053) (by decide +kernel), fun q hq => ?_⟩⟩
  · have := h q hq
    rw [Bool.and_eq_true, Bool.and_eq_true] at this
    exact ⟨i_R h0 _ _ _ this.1, i_K h0 _ _ _ this.2.1⟩
  · have := h q hq
    rw [Bool.and_eq_true, Bool.and_eq_true, Bool.and_eq_true] at this
    exact ⟨i_R h0 _ _ _ this.2.2.1, i_K h0 _ _ _ this.2.2.2⟩
theorem modK_init (h0 : i_fm σ) : ModK σ := by
  refine ⟨i_K h0 1053 13 0 (by decide +kernel), fun q hq => ?_⟩
  have := List.all_eq_true.mp mo_in2 q hq
  rw [Bool.and_eq_true] at this
  exact ⟨i_R h0 _ _ _ this.1, i_K h0 _ _ _ this.2⟩
theorem off_empty {o : Nat} (hK : OffK σ o) (z : ∀ g ∈ ceF, am_fI σ g o = 0) : OffR σ o m_new := by
  have nil : ∀ {α : Type} {c : Nat} {f : α → Int32}, rwI σ c ([] : List α) f := fun i x hx => by simp at hx
  have nilL : ∀ {α : Type} {c : Nat} {f : α → Int64}, rwL σ c ([] : List α) f := fun i x hx => by simp at hx
  exact ⟨hK, ⟨z _ (by decide), z _ (by decide), z _ (by decide), z _ (by decide), z _ (by decide)⟩, ⟨z _ (by decide), nil, nil, nil⟩, ⟨z _ (by decide), nil, nil, nil⟩, ⟨z _ (by decide), nil, nil, nil, nil⟩, ⟨z _ (by decide), nil, nil, nilL, nil⟩, ⟨z _ (by decide), nil, nil, nil⟩, ⟨z _ (by decide), nil, nil, fun i hi h0 => absurd h0 (by decide), 0, z _ (by decide), Nat.zero_le _, nil, nil, fun j c hc => absurd (show ([] : List mCl)[j]? = some c from hc) (by simp)⟩, ⟨z _ (by decide), nil, nil, nil, nil, nil, nil, fun i l hl => absurd (show ([] : List mLoss)[i]? = some l from hl) (by simp)⟩, ⟨z _ (by decide), nil, nil, nil, nil, nil, nil, fun i l hl => absurd (show ([] : List mCase)[i]? = some l from hl) (by simp)⟩, ⟨z _ (by decide), nil, fun i h hh => absurd (show ([] : List mDeed)[i]? = some h from hh) (by simp)⟩, ⟨z _ (by decide), fun i hi => absurd (show i < ([] : List Int32).length from hi) (by simp)⟩⟩
theorem dsk_init (h0 : i_fm σ) (hk : KwR σ) (hr : RwR σ) : DskR σ 1063 1126 d_new := by
  have z : ∀ g ∈ ceF, am_fI σ g 1063 = 0 := by
    have h : ceF.all (fun g => i_lI2.contains (g, 1063)) = true := by decide +kernel
    exact fun g hg => i_I h0 g 1063 (List.all_eq_true.mp h g hg)
  have f : ∀ g ∈ [12003, 12005, 12006, 12007, 12008, 12012, 12014], am_fI σ g 1053 = 0 := by
    have h : [12003, 12005, 12006, 12007, 12008, 12012, 12014].all (fun g => i_lI2.contains (g, 1053)) = true := by decide +kernel
    exact fun g hg => i_I h0 g 1053 (List.all_eq_true.mp h g hg)
  exact ⟨Or.inl ⟨rfl, rfl⟩, ⟨i_R h0 12016 1053 (some 1063) (by decide +kernel), i_R h0 12017 1053 (some 1126) (by decide +kernel)⟩, ⟨off_empty (offK_init h0).1 z, (offK_init h0).2⟩, ⟨modK_init h0, hk, hr⟩, ⟨f _ (by decide), Nat.zero_le _, fun b hb => absurd (show b ∈ ([] : List Int32) from hb) (by simp), fun i x hx => absurd (show ([] : List Int32)[i]? = some x from hx) (by simp)⟩, ⟨f _ (by decide), fun b hb => absurd (show b ∈ ([] : List Int32) from hb) (by simp), fun i x hx => absurd (show ([] : List Int32)[i]? = some x from hx) (by simp)⟩, ⟨f _ (by decide), f _ (by decide), f _ (by decide)⟩, ⟨⟨f _ (by decide), fun i x hx => absurd (show ([] : List mRow)[i]? = some x from hx) (by simp), fun i x hx => absurd (show ([] : List mRow)[i]? = some x from hx) (by simp), fun i x hx => absurd (show ([] : List mRow)[i]? = some x from hx) (by simp)⟩, f _ (by decide), fun i _ x hx => absurd (show ([] : List Int32)[i]? = some x from hx) (by simp)⟩⟩
end
/-- the goal out of the loop of the law: the reference's desk stands -/
theorem i_goalB {N : Nat} (H : ∀ (nl : Bool) (Ln : Nat) (xs : Nat → Int32) (σ : am_S), Ln ≤ N → am_I σ → i_fact σ → DskR σ 1063 1126 d_new → c_Law_law_18 nl Ln xs 1600 (some 1000) (some 1053) (0 : Int32) σ (fun b σ => b = true ∧ am_nx σ ≤ 61000 ∧ am_sl σ ≤ 8922250)) : wg N := by
  intro nl L xs hL
  have h : am_C (TT nl L xs) (1599 + 1) 352 0 [some (am_ov (some 999)), none, none, none] [] am_s0 (am_qB (fun b σ => b = true ∧ am_nx σ ≤ 61000 ∧ am_sl σ ≤ 8922250)) := by
    refine w_Law_law ?_
    rintro _ rfl _ _
    refine i_kCo (by decide) ?_
    intro _ v5 e5
    rintro _ rfl _ _
    refine i_kRm (by decide) ?_
    intro _ v11 e11
    rw [e5, e11, i_nx1]
    exact fun hI => H nl L xs _ hL hI (i_fact2 nl) (dsk_init (i_fact2 nl).2.1 (i_kw nl).1 (i_kw nl).2) hI
  obtain ⟨f, v, σ1, h1, h2⟩ := h am_s0_I 2048 84000 ⟨by decide, by decide⟩
  unfold am_qB at h2
  split at h2
  · rcases h2 with ⟨_, h2, _⟩ | ⟨rfl, _, h2⟩
    · cases h2
    · exact ⟨f, σ1, h1, h2⟩
  · exact h2.elim
