/-! THE CLASS: the cover and its clauses; amounts as corrected -/
section
variable {nl : Bool} {Ln : Nat} {xs : Nat → Int32} {d : Nat} {σ σ1 : am_S} {w : ow_T} {wk ab v b : Nat} {P : List mPol} {T : List mTell} {Ls : List mLoss} {Cs : List mCase} {i : Nat} {x : mCase} {cc lc : Nat} {day at' : Int32} {s : Int64} {rows : List mRow} {tr : List Int32} {fnd : Int32} {ov : Bool} {fs as vs va : List Nat}
theorem wk_times {a c : Int64} {F : Int64 → am_S → Prop} (B : WkB σ w wk ab v b P T Ls Cs i x cc lc day at' s rows tr fnd ov) (ha : 0 ≤ a.toInt) (hc : 0 ≤ c.toInt) (K1 : m_great a c = true → ∀ σ', WkB σ' w wk ab v b P T Ls Cs i x cc lc day at' s rows tr 5 true → Wc wk ab v [] [] [3006, 3007] [] σ σ' → F 0 σ') (K2 : m_great a c = false → F (a * c) σ) : k_Wk_times nl Ln xs (d + 1) wk a c σ F := by
  have hg : (¬ c = 0 ∧ (4611686018427387904 : Int64) / c < a) ↔ m_great a c = true := by
    rw [great_iff hc ha]
    unfold m_great
    rw [Int.mul_comm]
  have hn : ¬ (¬ c = 0 ∧ (4611686018427387904 : Int64) / c < a) → m_great a c = false := fun z => by
    cases h : m_great a c with
    | false => rfl
    | true => exact absurd (hg.mpr h) z
  obtain ⟨⟨hv, hk, k1, k2, hV, hB, hO, e5, e6, e7⟩, b1, b2, ⟨b5, b6, b7⟩, b8⟩ := id B
  refine w_Wk_times ⟨fun q => K2 (hn (fun z => z.1 q)), fun q => ⟨q, fun q2 => ?_, fun q2 => K2 (hn (fun z => q2 z.2))⟩⟩
  rw [k2, Option.getD_some]
  refine ⟨is_mk k1, is_mk hV.1.1, ?_⟩
  intro s6 q6
  have r6 : Wc wk ab v [] [] [3006, 3007] [] σ s6 := by rw [q6]; exact Wc.vfI (by decide)
  rw [(r6.fR (by simp) (by decide)).trans k2, Option.getD_some]
  refine ⟨is_mk (by rw [r6.kd]; exact hV.1.1), ?_⟩
  intro s10 q10
  have r10 : Wc wk ab v [] [] [3006, 3007] [] σ s10 := r6.trans (by rw [q10]; exact Wc.vfI (by decide))
  refine K1 (hg.mp ⟨q, q2⟩) s10 (B.wc (s' := s) (ov' := true) (fnd' := 5) r10 (by decide) (by simp) (by simp) ?_ ((r10.fL (by simp) (by decide)).trans b7)) r10
  obtain ⟨v1, v2, v3, v4, v5⟩ := hV
  exact ⟨v1.wc r10 (by decide), ⟨(r10.fI (by simp) (by decide)).trans v2.1, v2.2.1.eq fun i => r10.wI hv (by decide) (by simp) (by simp), v2.2.2.1.eq fun i => r10.wI hv (by decide) (by simp) (by simp), v2.2.2.2.eq fun i => r10.wL hv (by decide) (by simp) (by simp)⟩, ⟨(r10.fI (by simp) (by decide)).trans v3.1, fun i hi y hy => (r10.wI hv (by decide) (by simp) (by simp)).trans (v3.2 i hi y hy)⟩, by rw [q10, rI_g (by decide), q6]; exact rI_same, by rw [q10]; exact rI_same⟩
/-- a row that takes away -/
theorem wk_less {code arg : Int32} {cents : Int64} {F : am_S → Prop} (B : WkB σ w wk ab v b P T Ls Cs i x cc lc day at' s rows tr fnd ov) (hl : rows.length < 13) (hc : 2 < code.toInt) (K : ∀ σ', WkB σ' w wk ab v b P T Ls Cs i x cc lc day at' (m_less (rows, s) code arg cents).2 (m_less (rows, s) code arg cents).1 tr fnd ov → WkC wk ab v σ σ' → F σ') : k_Wk_addRow nl Ln xs (d + 2) wk code arg (-cents) σ F := by
  refine wk_addRow B hl (fun s' B' r => K s' ?_ r)
  unfold m_less
  have e1 : s + -cents = s - cents := by grind
  by_cases h : cents = 0
  · rw [if_pos h]
    rw [h] at B'
    rw [if_pos ⟨rfl, hc⟩, show s + -(0 : Int64) = s by grind] at B'
    exact B'
  · rw [if_neg h]
    have hn : ¬ (-cents = 0 ∧ 2 < code.toInt) := fun z => h (by have := z.1; grind)
    rw [if_neg hn, e1] at B'
    exact B'
/-- the year's sum -/
theorem sum_look {p : Nat} {year : Int32} : m_sum T p year at' = ((tlP T p).reverse.find? (qT 5 year at')).map tVal := by
  have el := look_tlP (T := T) (act := 5) (which := year) (at' := at') (p := p) (by decide)
  unfold m_sum
  rw [el]
  cases (tlP T p).reverse.find? (qT 5 year at') <;> rfl
def fdF : List Nat := [2006, 2007, 2010]
theorem wk_findCover {F : am_S → Prop} (hw : WfD P T Ls Cs) (B : WkB σ w wk ab v b P T Ls Cs i x cc lc day at' s rows tr fnd ov)
    (K1 : ∀ σ' n, ((m_cover P T x at' = none ∧ n = 1) ∨ ∃ p, m_cover P T x at' = some p ∧ (((m_year (m_ld Ls x) < m_year (P.getD p mPol0).2.1 ∨ m_year (P.getD p mPol0).2.2 < m_year (m_ld Ls x)) ∧ n = 3) ∨ (¬ (m_year (m_ld Ls x) < m_year (P.getD p mPol0).2.1 ∨ m_year (P.getD p mPol0).2.2 < m_year (m_ld Ls x)) ∧ m_sum T p (m_year (m_ld Ls x)) at' = none ∧ n = 1))) → WkB σ' w wk ab v b P T Ls Cs i x cc lc day at' s rows tr n true → Wc wk ab v fdF [] [3006, 3007] [] σ σ' → F σ')
    (K2 : ∀ σ' p pc q hd sum, m_cover P T x at' = some p → ¬ (m_year (m_ld Ls x) < m_year (P.getD p mPol0).2.1 ∨ m_year (P.getD p mPol0).2.2 < m_year (m_ld Ls x)) → m_sum T p (m_year (m_ld Ls x)) at' = some sum → WkB σ' w wk ab v b P T Ls Cs i x cc lc day at' s rows tr fnd ov → WkP σ' w wk b P (m_cls T p at') p pc q hd → am_fL σ' 2010 wk = sum → Wc wk ab v fdF [] [3006, 3007] [] σ σ' → F σ') : k_Wk_findCover nl Ln xs (d + 3) wk σ F := by
  obtain ⟨⟨hv, hk, k1, k2, hV, hB, hO, e5, e6, e7⟩, b1, ⟨b2, b3, b4⟩, ⟨b5, b6, b7⟩, b8⟩ := id B
  have fail : ∀ {s2 : am_S} {n : Int32}, ((m_cover P T x at' = none ∧ n = 1) ∨ ∃ p, m_cover P T x at' = some p ∧ (((m_year (m_ld Ls x) < m_year (P.getD p mPol0).2.1 ∨ m_year (P.getD p mPol0).2.2 < m_year (m_ld Ls x)) ∧ n = 3) ∨ (¬ (m_year (m_ld Ls x) < m_year (P.getD p mPol0).2.1 ∨ m_year (P.getD p mPol0).2.2 < m_year (m_ld Ls x)) ∧ m_sum T p (m_year (m_ld Ls x)) at' = none ∧ n = 1))) → WkB s2 w wk ab v b P T Ls Cs i x cc lc day at' s rows tr fnd ov → Wc wk ab v fdF [] [3006, 3007] [] σ s2 → am_is s2 (am_fR s2 2002 wk) 3 ∧ k_Vw_fail nl Ln xs (d + 2) ((am_fR s2 2002 wk).getD 0) n s2 (fun s10 => am_ext s2 s10 → F s10) := by
    intro s2 n hn B2 r2
    rw [B2.1.2.2.2.1, Option.getD_some]
    refine ⟨is_mk B2.1.2.2.2.2.1.1.1, vw_fail B2.1.2.2.2.2.1 hv (fun s3 V3 r3 _ => ?_)⟩
    exact K1 s3 n hn (B2.wc (s' := s) r3 (by decide) (by simp) (by simp) V3 ((r3.fL (by simp) (by decide)).trans B2.2.2.2.1.2.2)) (r2.trans (r3.mono (by simp) (by simp) (by simp) (by simp)))
  refine w_Wk_findCover ⟨is_mk k1, ?_⟩
  rw [b1, Option.getD_some, b2, b6]
  refine ⟨is_mk hB.1.2.1, bk_coverOf (d := d) hB hw b3 b4 (fun hm _ => ?_) (fun p pc q hm hp hpc hq h6 _ => ?_)⟩
  · intro s5 q5
    have r5' : Wc wk ab v fdF [] [] [] σ s5 := by rw [q5]; exact Wc.sfR (by decide)
    have r5 : Wc wk ab v fdF [] [3006, 3007] [] σ s5 := r5'.mono (by simp) (by simp) (by simp) (by simp)
    have B5 := B.wc (s' := s) r5 (by decide) (by simp) (by simp) (hV.wc r5' hv (by decide) (by simp)) ((r5.fL (by decide) (by decide)).trans b7)
    have e0 : am_fR s5 2006 wk = none := by rw [q5]; exact rR_same
    rw [e0]
    exact ⟨fun _ => fail (Or.inl ⟨hm, rfl⟩) B5 r5, fun z => absurd rfl z⟩
  · intro s5 q5
    have r5' : Wc wk ab v fdF [] [] [] σ s5 := by rw [q5]; exact Wc.sfR (by decide)
    have r5 : Wc wk ab v fdF [] [3006, 3007] [] σ s5 := r5'.mono (by simp) (by simp) (by simp) (by simp)
    have B5 := B.wc (s' := s) r5 (by decide) (by simp) (by simp) (hV.wc r5' hv (by decide) (by simp)) ((r5.fL (by decide) (by decide)).trans b7)
    have f5 := r5.frB hv (by simp) (by simp) hO hB.1.2.2.1
    have e0 : am_fR s5 2006 wk = some pc := by rw [q5]; exact rR_same
    obtain ⟨lc', l1, l2, -⟩ := hB.2.2.2.1 _ _ (getD_some mLoss0 e7)
    have el : lc' = lc := Option.some.inj (l1.symm.trans e6)
    subst el
    have l25 := l2.fr (f5 _)
    have q5' := hq.fr (f5 _)
    have gp : P.getD p mPol0 = q := getD_of mPol0 hp
    rw [e0]
    refine ⟨fun z => absurd z (by simp), fun _ => ?_⟩
    rw [Option.getD_some, B5.1.2.2.2.2.2.2.2.1, Option.getD_some]
    refine ⟨is_mk l25.2.1, ?_⟩
    rw [l25.2.2.2.2.2.1]
    rintro v13 rfl
    refine ⟨is_mk q5'.2.1, w_Po_hasYear ⟨is_mk q5'.2.1, ?_⟩⟩
    rw [q5'.2.2.2.2.2.1, q5'.2.2.2.2.2.2.1]
    have ey : (Ls.getD x.2.2.1 mLoss0).2.1 / 365 = m_year (m_ld Ls x) := rfl
    have ey1 : q.2.1 / 365 = m_year q.2.1 := rfl
    have ey2 : q.2.2 / 365 = m_year q.2.2 := rfl
    rw [ey, ey1, ey2, e0, Option.getD_some, B5.2.2.2.1.2.1]
    intro _
    refine ⟨fun hy => ?_, fun hy => ?_⟩
    · have hy := of_decide_eq_true hy
      have hy' : ¬ (m_year (m_ld Ls x) < m_year (P.getD p mPol0).2.1 ∨ m_year (P.getD p mPol0).2.2 < m_year (m_ld Ls x)) := by
        rw [gp]
        exact fun z => z.elim hy.1 hy.2
      have es := sum_look (T := T) (at' := at') (p := p) (year := m_year (m_ld Ls x))
      refine ⟨is_mk q5'.2.1, en_known q5'.2.2.2.2.2.2.2 (fun g _ => ⟨fun _ => ?_, fun z => absurd rfl z⟩) (fun t e g he _ => ⟨fun z => absurd z (by simp), fun _ => ⟨is_mk he.2.1, ?_⟩⟩)⟩
      · rw [g] at es
        exact fail (Or.inr ⟨p, hm, Or.inr ⟨hy', es, rfl⟩⟩) B5 r5
      · rw [g] at es
        rw [Option.getD_some, he.2.2.2.2.2.1]
        intro s27 q27
        have r27' : Wc wk ab v fdF [] [] [] s5 s27 := by rw [q27]; exact Wc.sfL (by decide)
        have f27 := r27'.frB hv (by simp) (by simp) hO hB.1.2.2.1
        have e27 : am_fR s27 2006 wk = some pc := by rw [q27]; exact e0
        rw [e27, Option.getD_some, (show am_fI s27 2009 wk = at' by rw [q27]; exact B5.2.2.2.1.2.1)]
        have q27' := q5'.fr (f27 _)
        refine ⟨is_mk q27'.2.1, po_clausesAt (d := d) q27' (fun hd hcl _ => ?_)⟩
        intro s33 q33
        have r33' : Wc wk ab v fdF [] [] [] s27 s33 := by rw [q33]; exact Wc.sfR (by decide)
        have f33 := r33'.frB hv (by simp) (by simp) hO hB.1.2.2.1
        have ra' : Wc wk ab v fdF [] [] [] σ s33 := (r5'.trans r27').trans r33'
        have ra : Wc wk ab v fdF [] [3006, 3007] [] σ s33 := ra'.mono (by simp) (by simp) (by simp) (by simp)
        have fa := ra'.frB hv (by simp) (by simp) hO hB.1.2.2.1
        refine K2 s33 p pc q hd (tVal t) hm hy' es (B.wc (s' := s) ra (by decide) (by simp) (by simp) (hV.wc ra' hv (by decide) (by simp)) ((ra.fL (by decide) (by decide)).trans b7)) ⟨by rw [q33, rR_g (by decide)]; exact e27, hp, ?_, h6, by rw [q33]; exact rR_same, ClN.fr hcl (f33 _)⟩ ?_ ra
        · rw [bA.fr hB.1.1 (fa 2), (fa 2 _ hB.1.2.2.2.2.1.2.1).2.aR]
          exact hpc
        · rw [q33]
          show am_fL s27 2010 wk = _
          rw [q27]
          exact rL_same
    · refine fail (Or.inr ⟨p, hm, Or.inl ⟨?_, rfl⟩⟩) B5 r5
      rw [gp]
      by_cases z1 : m_year (m_ld Ls x) < m_year q.2.1
      · exact Or.inl z1
      · by_cases z2 : m_year q.2.2 < m_year (m_ld Ls x)
        · exact Or.inr z2
        · exact absurd (decide_eq_true ⟨z1, z2⟩) hy
end
