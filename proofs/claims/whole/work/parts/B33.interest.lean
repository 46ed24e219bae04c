/-! THE CLASS: the row of INTEREST -/
theorem pd_paid {at' : Int32} : ∀ (l : List mFact), (∀ f ∈ l, WfFac f) → m_paidOf l at' = c_pd at' l
  | [], _ => rfl
  | f :: l, h => by
    have i1 := pd_paid (at' := at') l (fun g hg => h g (List.mem_cons_of_mem _ hg))
    have w := h f List.mem_cons_self
    have h9 : ¬ (10949 : Int32) < f.2.1 := by rw [i32lt, show (10949 : Int32).toInt = 10949 by decide]; have := w.2.2.2.1; omega
    have hk : c_kn at' f = (decide (f.1 = 13) && decide (¬ at' < f.2.2.1)) := by
      unfold c_kn m_counts
      rw [decide_eq_true h9, Bool.and_true]
    unfold m_paidOf at i1 ⊢
    rw [m_sumf, c_pd, i1, hk]
section
variable {nl : Bool} {Ln : Nat} {xs : Nat → Int32} {d : Nat} {σ σ1 : am_S} {w : ow_T} {wk ab v b : Nat} {P : List mPol} {T : List mTell} {Ls : List mLoss} {Cs : List mCase} {i : Nat} {x : mCase} {cc lc : Nat} {day at' : Int32} {C : List mCl} {p pc : Nat} {q : mPol} {hd : Option Nat} {sum worth s : Int64} {rows : List mRow} {tr : List Int32} {fnd : Int32} {ov : Bool}
theorem wk_cents2 {F : Int64 → am_S → Prop} (hw : WfD P T Ls Cs) (hs0 : 0 ≤ s.toInt) (hs1 : s.toInt ≤ 10000000000000) (X : WkX σ w wk ab v b P T Ls Cs i x cc lc day at' C p pc q hd sum worth s rows tr fnd ov) (K : F (m_days2 s day at' 0 x.2.2.2.1 x.2.2.2.2.2) σ) : k_Wk_centsByDays nl Ln xs (d + 3) wk σ F := by
  have wc := hw.2.2.2.2 x (List.mem_of_getElem? X.1.2.2.1.2.1)
  have hf := wc.2.2.2.2.1
  have hp : x.2.2.2.2.2.Pairwise (fun f g => f.2.1.toInt ≤ g.2.1.toInt) := hf.2.2.imp (fun h => h.1)
  have z0 : (0 : Int64).toInt = 0 := by decide
  have h40 := hf.1
  refine wk_centsByDays hw X ?_
  have e := bd_fd (s := s) (at' := at') (notice := x.2.2.2.1) (p0 := 0) _ x.2.2.2.2.2 0 day rfl hp (fun f hm => (hf.2.1 f hm).2.2.2.1) (fun f hm => (hf.2.1 f hm).2.2.1)
  rw [q_8, q_8, fd_days hs0 hs1 _ 0 _ hf.2.1 hp h40 (by rw [z0]; omega) (by rw [z0]; omega)] at e
  rw [pd_paid _ hf.2.1, e]
  exact K
theorem wk_interestRow {F : am_S → Prop} (hw : WfD P T Ls Cs) (hC : ∀ c ∈ C, WfCl c) (h13 : rows.length < 13) (hs0 : 0 ≤ s.toInt) (hs1 : s.toInt ≤ 10000000000000) (hd0 : 0 ≤ (m_days2 s day at' 0 x.2.2.2.1 x.2.2.2.2.2).toInt) (X : WkX σ w wk ab v b P T Ls Cs i x cc lc day at' C p pc q hd sum worth s rows tr 0 false)
    (K1 : m_told C 9 ≠ -1 ∧ m_great (m_days2 s day at' 0 x.2.2.2.1 x.2.2.2.2.2) (m_told C 9) = true → ∀ σ', WkX σ' w wk ab v b P T Ls Cs i x cc lc day at' C p pc q hd sum worth s rows tr 5 true → WkC wk ab v σ σ' → F σ')
    (K2 : ¬ (m_told C 9 ≠ -1 ∧ m_great (m_days2 s day at' 0 x.2.2.2.1 x.2.2.2.2.2) (m_told C 9) = true) → ∀ it, it = (if m_told C 9 = -1 then 0 else m_days2 s day at' 0 x.2.2.2.1 x.2.2.2.2.2 * m_told C 9 / 3650000) → ∀ σ', WkX σ' w wk ab v b P T Ls Cs i x cc lc day at' C p pc q hd sum worth (s + it) (if it = 0 then rows else rows ++ [(11, 0, it)]) tr 0 false → WkC wk ab v σ σ' → F σ') : k_Wk_interestRow nl Ln xs (d + 4) wk σ F := by
  have z0 : (0 : Int64).toInt = 0 := by decide
  have hr := told_rng2 hC 9
  -- the row itself
  have row : ∀ (a it : Int64), a / 3650000 = it → (it = (if m_told C 9 = -1 then 0 else m_days2 s day at' 0 x.2.2.2.1 x.2.2.2.2.2 * m_told C 9 / 3650000)) → ¬ (m_told C 9 ≠ -1 ∧ m_great (m_days2 s day at' 0 x.2.2.2.1 x.2.2.2.2.2) (m_told C 9) = true) → am_is σ (some wk) 2 ∧ am_is σ (am_fR σ 2002 wk) 3 ∧ (am_fI σ 3007 ((am_fR σ 2002 wk).getD 0) = 0 → k_Wk_addRow nl Ln xs (d + 3) wk 11 0 (a / 3650000) σ (fun s7 => am_ext σ s7 → F s7)) ∧ (¬ am_fI σ 3007 ((am_fR σ 2002 wk).getD 0) = 0 → F σ) := by
    intro a it ea ei hn
    have V := X.1.1.2.2.2.2.1
    rw [X.1.1.2.2.2.1, Option.getD_some, V.2.2.2.2, ea]
    refine ⟨is_mk X.1.1.2.2.1, is_mk V.1.1, fun _ => wk_addRow (d := d + 1) X.1 h13 (fun s7 B7 r7 _ => K2 hn it ei s7 ?_ r7), fun y => absurd rfl y⟩
    have X7 := X.rw B7 r7
    by_cases h0 : it = 0
    · rw [if_pos ⟨h0, by decide⟩] at X7
      rw [if_pos h0]
      exact X7
    · rw [if_neg (fun z => h0 z.1)] at X7
      rw [if_neg h0]
      exact X7
  refine w_Wk_interestRow ⟨is_mk X.1.1.2.2.1, wk_num (d := d + 1) (op := 8) (code := 9) hC X (by decide) (by decide) (by decide) (fun _ => ?_)⟩
  rw [show Int32.ofNat 9 = 9 from rfl]
  by_cases h9 : m_told C 9 = -1
  · rw [if_pos h9]
    refine ⟨fun _ => w_Wk_interestRow_23 ⟨is_mk X.1.1.2.2.1, wk_times (d := d + 2) X.1 (by rw [z0]; omega) (by rw [z0]; omega) (fun hg => absurd hg (by decide)) (fun _ _ => ?_)⟩, fun y => absurd rfl y⟩
    exact row _ _ rfl (by rw [if_pos h9]; decide) (fun z => z.1 h9)
  · rw [if_neg h9]
    have hr0 : 0 ≤ (m_told C 9).toInt := by
      rcases hr with y | y
      · exact absurd y h9
      · exact y.1
    refine ⟨fun h0 => w_Wk_interestRow_23 ⟨is_mk X.1.1.2.2.1, ?_⟩, fun h0 => wk_cents2 (d := d) hw hs0 hs1 X (fun _ => w_Wk_interestRow_23 ⟨is_mk X.1.1.2.2.1, wk_times (d := d + 2) X.1 hd0 hr0 (fun hg s2 B2 r2 _ => ?_) (fun hg _ => ?_)⟩)⟩
    · rw [h0]
      refine wk_times (d := d + 2) X.1 (by rw [z0]; omega) (by rw [z0]; omega) (fun hg => absurd hg (by decide)) (fun _ _ => ?_)
      refine row _ _ rfl ?_ (fun z => ?_)
      · rw [if_neg h9, h0]
        rw [show m_days2 s day at' 0 x.2.2.2.1 x.2.2.2.2.2 * 0 = 0 from (q_5 _ _).trans (q_7 _)]
        decide
      · have z2 := z.2
        rw [h0] at z2
        unfold m_great at z2
        rw [z0, Int.mul_zero] at z2
        exact absurd z2 (by decide)
    · have X2 := X.tm B2 r2
      have V2 := X2.1.1.2.2.2.2.1
      rw [X2.1.1.2.2.2.1, Option.getD_some, V2.2.2.2.2]
      exact ⟨is_mk X2.1.1.2.2.1, is_mk V2.1.1, fun y => absurd y (by decide), fun _ => K1 ⟨h9, hg⟩ s2 X2 (r2.mono (by simp) (by simp) (by decide) (by simp))⟩
    · refine row _ _ rfl (by rw [if_neg h9]) (fun z => ?_)
      rw [hg] at z
      exact absurd z.2 (by decide)
end
