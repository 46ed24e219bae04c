/-! THE PARSER of the reference: AND, OR from their beginning -/
section
variable {nl : Bool} {Ln : Nat} {xs : Nat → Int32} {t : List Int32} {o f : Nat}
theorem BothOK_step (hN : NotOK nl Ln xs t o f) (hL : BothL nl Ln xs t o f) : BothOK nl Ln xs t o (f + 1) := by
  intro d σ s op nn acc F hop hf P hw hb K
  have hR : m_cond (f + 1) 1 op acc (m_tk t s) = (match m_cond f 0 op acc (m_tk t s) with
      | .inl e => .inl e
      | .inr (u, r) => if (m_hd r).1 = 13 then m_cond f 2 op u r else .inr (u, r)) := rfl
  rw [hR] at K
  obtain ⟨w1, w2, w3, w4⟩ := ws_txt (29, 13) (by decide)
  have w4 : 2 ≤ (txt 29).length := w4
  refine w_Ro_both ⟨is_mk P.1.2.1, ?_⟩
  refine hN d σ s op nn acc _ hop (by omega) P hw hb ⟨?_, ?_, ?_⟩
  · intro e he σ2 nn2 x P2 h1 h2 f2 _
    rw [he] at K
    exact ((r_condE (d := d + 3 * (20 - op) + 9) P2 (fun x => K.1 e rfl σ2 _ x P2 h1 h2 f2)).1 _)
  · intro u r he h26 σ2 nn2 x P2 h1 h2 f2 _
    rw [he] at K
    have hne : ¬ (m_hd r).1 = 13 := by omega
    exact ((r_condE (d := d + 3 * (20 - op) + 9) P2 (fun x => K.2.1 u r (if_neg hne) h26 σ2 _ x P2 h1 h2 f2)).1 _)
  · intro u r he σ2 s2 nn2 x P2 g3 g4 g5 h1 h2 hx hc f2 _
    rw [he] at K
    have hs2 := P2.le
    by_cases h5 : (m_hd r).1 = 13
    · have K : CdK t σ o s op nn (if (m_hd r).1 = 13 then m_cond f 2 op u r else .inr (u, r)) F := K
      rw [if_pos h5, ← g3] at K
      rw [← g3] at h5 g5
      exact hL d σ2 s2 op nn2 x u F hop (by omega) P2 (hw.pf f2) (by omega) h5 (hc _) hx (K.tr f2 (by omega) hs2 (by omega) (by omega) (by omega))
    · refine w_Ro_both_5 ⟨is_mk P2.1.2.1, ?_⟩
      refine (r_takes (d := d + 3 * (20 - op) + 4) (i := 13) P2 w1 w2 w3 (by omega) (fun q => absurd (by rw [← g3]; exact q) h5) (fun _ _ => ⟨fun q => absurd q (by decide), fun _ => ?_⟩))
      exact K.2.2 u r (if_neg h5) σ2 s2 nn2 x P2 g3 g4 g5 h1 h2 hx hc f2
theorem CondOK_step (hN : BothOK nl Ln xs t o f) (hL : CondL nl Ln xs t o f) : CondOK nl Ln xs t o (f + 1) := by
  intro d σ s op nn acc F hop hf P hw hb K
  have hR : m_cond (f + 1) 3 op acc (m_tk t s) = (match m_cond f 1 op acc (m_tk t s) with
      | .inl e => .inl e
      | .inr (u, r) => if (m_hd r).1 = 12 then m_cond f 4 op u r else .inr (u, r)) := rfl
  rw [hR] at K
  obtain ⟨w1, w2, w3, w4⟩ := ws_txt (30, 12) (by decide)
  have w4 : 2 ≤ (txt 30).length := w4
  refine w_Ro_cond ⟨is_mk P.1.2.1, ?_⟩
  refine hN d σ s op nn acc _ hop (by omega) P hw hb ⟨?_, ?_, ?_⟩
  · intro e he σ2 nn2 x P2 h1 h2 f2 _
    rw [he] at K
    exact ((r_condE (d := d + 3 * (20 - op) + 10) P2 (fun x => K.1 e rfl σ2 _ x P2 h1 h2 f2)).2 _)
  · intro u r he h26 σ2 nn2 x P2 h1 h2 f2 _
    rw [he] at K
    have hne : ¬ (m_hd r).1 = 12 := by omega
    exact ((r_condE (d := d + 3 * (20 - op) + 10) P2 (fun x => K.2.1 u r (if_neg hne) h26 σ2 _ x P2 h1 h2 f2)).2 _)
  · intro u r he σ2 s2 nn2 x P2 g3 g4 g5 h1 h2 hx hc f2 _
    rw [he] at K
    have hs2 := P2.le
    by_cases h5 : (m_hd r).1 = 12
    · have K : CdK t σ o s op nn (if (m_hd r).1 = 12 then m_cond f 4 op u r else .inr (u, r)) F := K
      rw [if_pos h5, ← g3] at K
      rw [← g3] at h5 g5
      exact hL d σ2 s2 op nn2 x u F hop (by omega) P2 (hw.pf f2) (by omega) h5 (hc _) hx (K.tr f2 (by omega) hs2 (by omega) (by omega) (by omega))
    · refine w_Ro_cond_5 ⟨is_mk P2.1.2.1, ?_⟩
      refine (r_takes (d := d + 3 * (20 - op) + 5) (i := 12) P2 w1 w2 w3 (by omega) (fun q => absurd (by rw [← g3]; exact q) h5) (fun _ _ => ⟨fun q => absurd q (by decide), fun _ => ?_⟩))
      exact K.2.2 u r (if_neg h5) σ2 s2 nn2 x P2 g3 g4 g5 h1 h2 hx hc f2
end
