/-! THE PARSER of the reference: chains of AND and OR -/
theorem CdK.tr {t : List Int32} {σ σ1 : am_S} {o s s1 op nn nn1 : Nat} {R : mPR} {F : Int32 → am_S → Prop} (K : CdK t σ o s op nn R F) (f : Pf σ σ1 o nn) (hs : s ≤ s1) (hs1 : s1 ≤ t.length) (hn : nn ≤ nn1) (hb : 2 * nn1 + s ≤ 2 * nn + s1) (hl : (m_tk t s1).length ≤ (m_tk t s).length) : CdK t σ1 o s1 op nn1 R F := by
  refine ⟨fun e h σ' nn' x P h1 h2 f' => K.1 e h σ' nn' x P (by omega) (by omega) (f.trans f' hn), fun tr r h h26 σ' nn' x P h1 h2 f' => K.2.1 tr r h h26 σ' nn' x P (by omega) (by omega) (f.trans f' hn), fun tr r h σ' s' nn' x P g1 g2 g3 g4 g5 g6 g7 f' => K.2.2 tr r h σ' s' nn' x P g1 (by omega) (by omega) (by omega) (by omega) g6 g7 (f.trans f' hn)⟩
def NotOK (nl : Bool) (Ln : Nat) (xs : Nat → Int32) (t : List Int32) (o f : Nat) : Prop := ∀ (d : Nat) (σ : am_S) (s op nn : Nat) (acc : mF) (F : Int32 → am_S → Prop), op ≤ 20 → 4 * (m_tk t s).length + 1 ≤ f → PS σ o t s op nn → KwR σ → 2 * nn + (t.length - s) ≤ 60000 → CdK t σ o s op nn (m_cond f 0 op acc (m_tk t s)) F → k_Ro_not nl Ln xs (d + 3 * (20 - op) + 10) o σ F
def BothOK (nl : Bool) (Ln : Nat) (xs : Nat → Int32) (t : List Int32) (o f : Nat) : Prop := ∀ (d : Nat) (σ : am_S) (s op nn : Nat) (acc : mF) (F : Int32 → am_S → Prop), op ≤ 20 → 4 * (m_tk t s).length + 2 ≤ f → PS σ o t s op nn → KwR σ → 2 * nn + (t.length - s) ≤ 60000 → CdK t σ o s op nn (m_cond f 1 op acc (m_tk t s)) F → k_Ro_both nl Ln xs (d + 3 * (20 - op) + 11) o σ F
def CondOK (nl : Bool) (Ln : Nat) (xs : Nat → Int32) (t : List Int32) (o f : Nat) : Prop := ∀ (d : Nat) (σ : am_S) (s op nn : Nat) (acc : mF) (F : Int32 → am_S → Prop), op ≤ 20 → 4 * (m_tk t s).length + 3 ≤ f → PS σ o t s op nn → KwR σ → 2 * nn + (t.length - s) ≤ 60000 → CdK t σ o s op nn (m_cond f 3 op acc (m_tk t s)) F → k_Ro_cond nl Ln xs (d + 3 * (20 - op) + 12) o σ F
def BothL (nl : Bool) (Ln : Nat) (xs : Nat → Int32) (t : List Int32) (o f : Nat) : Prop := ∀ (d : Nat) (σ : am_S) (s op nn x1 : Nat) (acc : mF) (F : Int32 → am_S → Prop), op ≤ 20 → 4 * (m_tk t s).length + 2 ≤ f → PS σ o t s op nn → KwR σ → 2 * nn + (t.length - s) ≤ 60000 → (m_hd (m_tk t s)).1 = 13 → CndR σ o acc 1 x1 → x1 < nn → CdK t σ o s op nn (m_cond f 2 op acc (m_tk t s)) F → c_Ro_both_5 nl Ln xs (d + 3 * (20 - op) + 11) o (Int32.ofNat x1) σ F
def CondL (nl : Bool) (Ln : Nat) (xs : Nat → Int32) (t : List Int32) (o f : Nat) : Prop := ∀ (d : Nat) (σ : am_S) (s op nn x1 : Nat) (acc : mF) (F : Int32 → am_S → Prop), op ≤ 20 → 4 * (m_tk t s).length + 3 ≤ f → PS σ o t s op nn → KwR σ → 2 * nn + (t.length - s) ≤ 60000 → (m_hd (m_tk t s)).1 = 12 → CndR σ o acc 0 x1 → x1 < nn → CdK t σ o s op nn (m_cond f 4 op acc (m_tk t s)) F → c_Ro_cond_5 nl Ln xs (d + 3 * (20 - op) + 12) o (Int32.ofNat x1) σ F
section
variable {nl : Bool} {Ln : Nat} {xs : Nat → Int32} {t : List Int32} {o f : Nat}
theorem BothL_step (hN : NotOK nl Ln xs t o f) (hL : BothL nl Ln xs t o f) : BothL nl Ln xs t o (f + 1) := by
  intro d σ s op nn x1 acc F hop hf P hw hb hhd hacc hx1 K
  have hl1 := tk_len P
  have hR : m_cond (f + 1) 2 op acc (m_tk t s) = (match m_cond f 0 op acc (m_tk t s).tail with
      | .inl e => .inl e
      | .inr (u, r) => if (m_hd r).1 = 13 then m_cond f 2 op (.append acc u) r else .inr (.tag 1 (.append acc u), r)) := rfl
  rw [hR] at K
  obtain ⟨w1, w2, w3, w4⟩ := ws_txt (29, 13) (by decide)
  have w4 : 2 ≤ (txt 29).length := w4
  refine w_Ro_both_5 ⟨is_mk P.1.2.1, ?_⟩
  refine (r_takes (d := d + 3 * (20 - op) + 4) (i := 13) P w1 w2 w3 (by omega) (fun _ σ1 s1 g1 g2 P1 f1 _ => ⟨fun _ => ?_, fun q => absurd rfl q⟩) (fun q => absurd hhd q))
  have hs1 := P1.le
  refine hN d σ1 s1 op nn acc _ hop (by rw [g2]; omega) P1 (hw.pf f1) (by omega) ⟨?_, ?_, ?_⟩
  · intro e he σ2 nn2 x P2 h1 h2 f2 _
    rw [g2] at he
    rw [he] at K
    refine r_nodeE P2 (by omega) (fun σ3 P3 f3 _ => ?_)
    exact ((r_condE (d := d + 3 * (20 - op) + 9) P3 (fun x => K.1 e rfl σ3 _ x P3 (by omega) (by omega) ((f1.trans f2 (Nat.le_refl _)).trans f3 h1))).1 _)
  · intro u r he h26 σ2 nn2 x P2 h1 h2 f2 _
    rw [g2] at he
    rw [he] at K
    have hne : ¬ (m_hd r).1 = 13 := by omega
    refine r_nodeE P2 (by omega) (fun σ3 P3 f3 _ => ?_)
    exact ((r_condE (d := d + 3 * (20 - op) + 9) P3 (fun x => K.2.1 (.tag 1 (.append acc u)) r (if_neg hne) h26 σ3 _ x P3 (by omega) (by omega) ((f1.trans f2 (Nat.le_refl _)).trans f3 h1))).1 _)
  · intro u r he σ2 s2 nn2 x P2 g3 g4 g5 h1 h2 hx hc f2 _
    rw [g2] at he g5
    rw [he] at K
    have hs2 := P2.le
    refine r_nodeP P2 (by omega) (fun σ3 P3 fa fb fc f3 _ => ?_)
    have fall : Pf σ σ3 o nn := (f1.trans f2 (Nat.le_refl _)).trans f3 h1
    have hc3 : CndR σ3 o (.append acc u) 1 nn2 := by
      refine ⟨⟨by decide, by rw [fa]; rfl⟩, x1, x, by omega, hx, fb, fc, cnd_pf hacc fall hx1, cnd_pf (hc 1) f3 hx⟩
    by_cases h5 : (m_hd r).1 = 13
    · have K : CdK t σ o s op nn (if (m_hd r).1 = 13 then m_cond f 2 op (.append acc u) r else .inr (.tag 1 (.append acc u), r)) F := K
      rw [if_pos h5, ← g3] at K
      rw [← g3] at h5 g5
      exact hL d σ3 s2 op (nn2 + 1) nn2 (.append acc u) F hop (by omega) P3 ((hw.pf fall)) (by omega) h5 hc3 (by omega) (K.tr fall (by omega) hs2 (by omega) (by omega) (by omega))
    · refine w_Ro_both_5 ⟨is_mk P3.1.2.1, ?_⟩
      refine (r_takes (d := d + 3 * (20 - op) + 4) (i := 13) P3 w1 w2 w3 (by omega) (fun q => absurd (by rw [← g3]; exact q) h5) (fun _ _ => ⟨fun q => absurd q (by decide), fun _ => ?_⟩))
      refine K.2.2 (.tag 1 (.append acc u)) r (if_neg h5) σ3 s2 (nn2 + 1) nn2 P3 g3 (by omega) (by omega) (by omega) (by omega) (by omega) (fun q => ?_) fall
      show (if 1 = 2 then _ else CndR σ3 o (.append acc u) 1 nn2)
      rw [if_neg (by decide)]
      exact hc3
theorem CondL_step (hN : BothOK nl Ln xs t o f) (hL : CondL nl Ln xs t o f) : CondL nl Ln xs t o (f + 1) := by
  intro d σ s op nn x1 acc F hop hf P hw hb hhd hacc hx1 K
  have hl1 := tk_len P
  have hR : m_cond (f + 1) 4 op acc (m_tk t s) = (match m_cond f 1 op acc (m_tk t s).tail with
      | .inl e => .inl e
      | .inr (u, r) => if (m_hd r).1 = 12 then m_cond f 4 op (.append acc u) r else .inr (.tag 0 (.append acc u), r)) := rfl
  rw [hR] at K
  obtain ⟨w1, w2, w3, w4⟩ := ws_txt (30, 12) (by decide)
  have w4 : 2 ≤ (txt 30).length := w4
  refine w_Ro_cond_5 ⟨is_mk P.1.2.1, ?_⟩
  refine (r_takes (d := d + 3 * (20 - op) + 5) (i := 12) P w1 w2 w3 (by omega) (fun _ σ1 s1 g1 g2 P1 f1 _ => ⟨fun _ => ?_, fun q => absurd rfl q⟩) (fun q => absurd hhd q))
  have hs1 := P1.le
  refine hN d σ1 s1 op nn acc _ hop (by rw [g2]; omega) P1 (hw.pf f1) (by omega) ⟨?_, ?_, ?_⟩
  · intro e he σ2 nn2 x P2 h1 h2 f2 _
    rw [g2] at he
    rw [he] at K
    refine r_nodeE P2 (by omega) (fun σ3 P3 f3 _ => ?_)
    exact ((r_condE (d := d + 3 * (20 - op) + 10) P3 (fun x => K.1 e rfl σ3 _ x P3 (by omega) (by omega) ((f1.trans f2 (Nat.le_refl _)).trans f3 h1))).2 _)
  · intro u r he h26 σ2 nn2 x P2 h1 h2 f2 _
    rw [g2] at he
    rw [he] at K
    have hne : ¬ (m_hd r).1 = 12 := by omega
    refine r_nodeE P2 (by omega) (fun σ3 P3 f3 _ => ?_)
    exact ((r_condE (d := d + 3 * (20 - op) + 10) P3 (fun x => K.2.1 (.tag 0 (.append acc u)) r (if_neg hne) h26 σ3 _ x P3 (by omega) (by omega) ((f1.trans f2 (Nat.le_refl _)).trans f3 h1))).2 _)
  · intro u r he σ2 s2 nn2 x P2 g3 g4 g5 h1 h2 hx hc f2 _
    rw [g2] at he g5
    rw [he] at K
    have hs2 := P2.le
    refine r_nodeP P2 (by omega) (fun σ3 P3 fa fb fc f3 _ => ?_)
    have fall : Pf σ σ3 o nn := (f1.trans f2 (Nat.le_refl _)).trans f3 h1
    have hc3 : CndR σ3 o (.append acc u) 0 nn2 := by
      refine ⟨⟨by decide, by rw [fa]; rfl⟩, x1, x, by omega, hx, fb, fc, cnd_pf hacc fall hx1, cnd_pf (hc 0) f3 hx⟩
    by_cases h5 : (m_hd r).1 = 12
    · have K : CdK t σ o s op nn (if (m_hd r).1 = 12 then m_cond f 4 op (.append acc u) r else .inr (.tag 0 (.append acc u), r)) F := K
      rw [if_pos h5, ← g3] at K
      rw [← g3] at h5 g5
      exact hL d σ3 s2 op (nn2 + 1) nn2 (.append acc u) F hop (by omega) P3 ((hw.pf fall)) (by omega) h5 hc3 (by omega) (K.tr fall (by omega) hs2 (by omega) (by omega) (by omega))
    · refine w_Ro_cond_5 ⟨is_mk P3.1.2.1, ?_⟩
      refine (r_takes (d := d + 3 * (20 - op) + 5) (i := 12) P3 w1 w2 w3 (by omega) (fun q => absurd (by rw [← g3]; exact q) h5) (fun _ _ => ⟨fun q => absurd q (by decide), fun _ => ?_⟩))
      refine K.2.2 (.tag 0 (.append acc u)) r (if_neg h5) σ3 s2 (nn2 + 1) nn2 P3 g3 (by omega) (by omega) (by omega) (by omega) (by omega) (fun q => ?_) fall
      show (if 0 = 2 then _ else CndR σ3 o (.append acc u) 0 nn2)
      rw [if_neg (by decide)]
      exact hc3
end
