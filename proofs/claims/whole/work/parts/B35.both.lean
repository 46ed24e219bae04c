/-! THE CLASS: both workings: what settle may change, what stands -/
def Ovr (R : mRes) : Prop := (R.2.2.1 ≠ 0 ∨ R.2.2.2.1 = true) → R.2.2.2.2 = 0
section
variable {P : List mPol} {T : List mTell} {Ls : List mLoss} {x : mCase} {day at' : Int32} {p : Nat} {C : List mCl}
theorem ovr_no {r : List mRow} {t : List Int32} {s : Int64} : Ovr (r, t, 0, false, s) := fun h => by
  rcases h with h | h
  · exact absurd rfl h
  · exact absurd h (show ¬ (false = true) by decide)
theorem ovr_z {r : List mRow} {t : List Int32} {n : Int32} {o : Bool} : Ovr (r, t, n, o, 0) := fun _ => rfl
theorem ovr_G {w : Int64} {rs : List mRow × Int64} {tr : List Int32} {al : Nat → Option Int64} {ord : List Nat} : Ovr (m_sG T at' p w rs tr al ord) := by
  unfold m_sG
  split
  · exact ovr_no
  · split
    · exact ovr_no
    · exact ovr_z
theorem ovr_F {w : Int64} {rs : List mRow × Int64} {tr : List Int32} {sf : mTr Int32} : Ovr (m_sF T x day at' p C w rs tr sf) := ovr_G
theorem ovr_E {sum w : Int64} {tr : List Int32} {av : mTr Bool} : Ovr (m_sE P T Ls x day at' p C sum w tr av) := by
  unfold m_sE
  split
  · exact ovr_F
  · split
    · exact ovr_z
    · split
      · exact ovr_z
      · exact ovr_F
theorem ovr_D {sum w : Int64} {tr : List Int32} {wt : mTr Int32} : Ovr (m_sD P T Ls x day at' p C sum w tr wt) := by
  unfold m_sD
  split
  · exact ovr_z
  · exact ovr_E
theorem ovr_C {sum w : Int64} {tr : List Int32} {o : mTr (Bool × Int32)} : Ovr (m_sC P T Ls x day at' p C sum w tr o) := by
  unfold m_sC
  split
  · exact ovr_z
  · exact ovr_D
theorem ovr_B {sum : Int64} {w : mTr Int64} : Ovr (m_sB P T Ls x day at' p C sum w) := by
  unfold m_sB
  split
  · exact ovr_z
  · split
    · exact ovr_z
    · exact ovr_C
theorem begin_ovr : Ovr (m_begin P T Ls x day at') := by
  unfold m_begin
  split
  · exact ovr_z
  · split
    · exact ovr_z
    · split
      · exact ovr_z
      · exact ovr_B
end
def seF : List Nat := [2001, 2003, 2004, 2005, 2006, 2007, 2008, 2009, 2010, 2011, 2012]
def seV : List Nat := [3004, 3005, 3006, 3007]
def SeC (v : Nat) (σ σ' : am_S) : Prop := am_kd σ' = am_kd σ ∧ am_nx σ' = am_nx σ ∧ am_sl σ' = am_sl σ ∧ (∀ g c, ¬ (g ∈ seF ∧ (c = 1008 ∨ c = 1009)) → ¬ (g ∈ seV ∧ (c = v ∨ c = 1010)) → am_fI σ' g c = am_fI σ g c ∧ am_fL σ' g c = am_fL σ g c ∧ am_fR σ' g c = am_fR σ g c) ∧ ∀ c, (∀ j, j ≤ 6 → c ≠ 1027 + j ∧ c ≠ 1015 + j) → (∀ j, 1 ≤ j → j ≤ 4 → c ≠ v + j ∧ c ≠ 1010 + j) → ∀ i, am_aI σ' c i = am_aI σ c i ∧ am_aL σ' c i = am_aL σ c i ∧ am_aR σ' c i = am_aR σ c i
section
variable {σ σ1 σ2 : am_S} {w : ow_T} {v g c : Nat} {fs as vs va : List Nat}
theorem SeC.rf : SeC v σ σ := ⟨rfl, rfl, rfl, fun _ _ _ _ => ⟨rfl, rfl, rfl⟩, fun _ _ _ _ => ⟨rfl, rfl, rfl⟩⟩
theorem SeC.trans (h : SeC v σ σ1) (h2 : SeC v σ1 σ2) : SeC v σ σ2 := by
  obtain ⟨a1, a2, a3, a4, a5⟩ := h
  obtain ⟨b1, b2, b3, b4, b5⟩ := h2
  refine ⟨b1.trans a1, b2.trans a2, b3.trans a3, fun g c q1 q2 => ?_, fun c q1 q2 i => ?_⟩
  · obtain ⟨x1, x2, x3⟩ := a4 g c q1 q2
    obtain ⟨y1, y2, y3⟩ := b4 g c q1 q2
    exact ⟨y1.trans x1, y2.trans x2, y3.trans x3⟩
  · obtain ⟨x1, x2, x3⟩ := a5 c q1 q2 i
    obtain ⟨y1, y2, y3⟩ := b5 c q1 q2 i
    exact ⟨y1.trans x1, y2.trans x2, y3.trans x3⟩
theorem SeC.of1 (h : Wc 1008 1027 v fs as vs va σ σ1) (h1 : ∀ x ∈ fs, x ∈ seF) (h2 : ∀ j ∈ as, j ≤ 6) (h3 : ∀ x ∈ vs, x ∈ seV) (h4 : ∀ j ∈ va, 1 ≤ j ∧ j ≤ 4) : SeC v σ σ1 :=
  ⟨h.1, h.2.1, h.2.2.1, fun g c q1 q2 => h.2.2.2.1 g c (fun z => q1 ⟨h1 g z.1, Or.inl z.2⟩) (fun z => q2 ⟨h3 g z.1, Or.inl z.2⟩), fun c q1 q2 i => h.2.2.2.2 c (fun j hj => (q1 j (h2 j hj)).1) (fun j hj => (q2 j (h4 j hj).1 (h4 j hj).2).1) i⟩
theorem SeC.of2 (h : Wc 1009 1015 1010 fs as vs va σ σ1) (h1 : ∀ x ∈ fs, x ∈ seF) (h2 : ∀ j ∈ as, j ≤ 6) (h3 : ∀ x ∈ vs, x ∈ seV) (h4 : ∀ j ∈ va, 1 ≤ j ∧ j ≤ 4) : SeC v σ σ1 :=
  ⟨h.1, h.2.1, h.2.2.1, fun g c q1 q2 => h.2.2.2.1 g c (fun z => q1 ⟨h1 g z.1, Or.inr z.2⟩) (fun z => q2 ⟨h3 g z.1, Or.inr z.2⟩), fun c q1 q2 i => h.2.2.2.2 c (fun j hj => (q1 j (h2 j hj)).2) (fun j hj => (q2 j (h4 j hj).1 (h4 j hj).2).2) i⟩
theorem SeC.kd (h : SeC v σ σ1) : am_kd σ1 = am_kd σ := h.1
theorem SeC.fR (h : SeC v σ σ1) (h1 : g ∉ seF) (h2 : g ∉ seV) : am_fR σ1 g c = am_fR σ g c := (h.2.2.2.1 g c (fun z => h1 z.1) (fun z => h2 z.1)).2.2
theorem SeC.fI (h : SeC v σ σ1) (h1 : g ∉ seF) (h2 : g ∉ seV) : am_fI σ1 g c = am_fI σ g c := (h.2.2.2.1 g c (fun z => h1 z.1) (fun z => h2 z.1)).1
theorem SeC.fL (h : SeC v σ σ1) (h1 : g ∉ seF) (h2 : g ∉ seV) : am_fL σ1 g c = am_fL σ g c := (h.2.2.2.1 g c (fun z => h1 z.1) (fun z => h2 z.1)).2.1
/-- cells beside those of both workings and the view -/
theorem SeC.eqc (h : SeC v σ σ1) (h1 : ¬ (1008 ≤ c ∧ c ≤ 1021)) (h2 : ¬ (1027 ≤ c ∧ c ≤ 1033)) (h3 : ¬ (v ≤ c ∧ c ≤ v + 4)) : am_eqc σ σ1 c := by
  refine ⟨by rw [h.1], fun q => ?_⟩
  obtain ⟨a1, a2, a3⟩ := h.2.2.2.1 q c (fun z => by omega) (fun z => by omega)
  obtain ⟨b1, b2, b3⟩ := h.2.2.2.2 c (fun j hj => by omega) (fun j hj hk => by omega) q
  exact ⟨a1, a2, a3, b1, b2, b3⟩
theorem SeC.frB {b : Nat} (h : SeC v σ σ1) (hv : v = 1022 ∨ v = 1048) (hO : ∀ c, fixW c → w c = (2, c)) (hb : 1000 ≤ b) : FrB σ w σ1 w b := by
  intro j c hc
  refine ⟨hc, ?_⟩
  have hf : ¬ fixW c := fun z => by
    rw [hO c z] at hc
    have := congrArg Prod.fst hc
    simp at this
    omega
  unfold fixW at hf
  exact h.eqc (by omega) (by omega) (by omega)
end
section
variable {σ σ1 : am_S} {w : ow_T} {wk ab v b : Nat} {P : List mPol} {T : List mTell} {Ls : List mLoss} {Cs : List mCase} {i : Nat} {x : mCase} {cc lc : Nat} {day at' : Int32} {C : List mCl} {p pc : Nat} {q : mPol} {hd : Option Nat} {sum worth s : Int64} {rows : List mRow} {tr : List Int32} {fnd : Int32} {ov : Bool}
theorem VwD.eqc (h : VwD σ v rows tr fnd ov) (e : ∀ j, j ≤ 4 → am_eqc σ σ1 (v + j)) : VwD σ1 v rows tr fnd ov := by
  have e0 : am_eqc σ σ1 v := e 0 (by omega)
  obtain ⟨⟨k1, ⟨k2, k3, k4, k5⟩, k6, k7, k8, k9⟩, ⟨h2, h3, h4, h5⟩, ⟨h6, h7⟩, h8, h9⟩ := h
  exact ⟨⟨e0.kd.trans k1, ⟨e0.fR.trans k2, e0.fR.trans k3, e0.fR.trans k4, e0.fR.trans k5⟩, (e 1 (by omega)).kd.trans k6, (e 2 (by omega)).kd.trans k7, (e 3 (by omega)).kd.trans k8, (e 4 (by omega)).kd.trans k9⟩, ⟨e0.fI.trans h2, h3.eq fun i => (e 1 (by omega)).aI, h4.eq fun i => (e 2 (by omega)).aI, h5.eq fun i => (e 3 (by omega)).aL⟩, ⟨e0.fI.trans h6, fun i hi x hx => ((e 4 (by omega)).aI).trans (h7 i hi x hx)⟩, e0.fI.trans h8, e0.fI.trans h9⟩
/-- working stands where its cells are as they were -/
theorem WkX.keep (X : WkX σ w wk ab v b P T Ls Cs i x cc lc day at' C p pc q hd sum worth s rows tr fnd ov) (hk : am_kd σ1 = am_kd σ) (e0 : am_eqc σ σ1 wk) (ea : am_eqc σ σ1 ab) (ev : ∀ j, j ≤ 4 → am_eqc σ σ1 (v + j)) (f : FrB σ w σ1 w b) : WkX σ1 w wk ab v b P T Ls Cs i x cc lc day at' C p pc q hd sum worth s rows tr fnd ov := by
  obtain ⟨⟨⟨hv, hlk, k1, k2, hV, hB, hO, e5, e6, e7⟩, b1, ⟨b2, b3, b4⟩, ⟨b5, b6, b7⟩, ⟨a1, a2, a3, a4, a5, a6⟩, a7⟩, ⟨q1, q2, q3, q4, q5, q6⟩, ⟨m1, m2, m3, m4⟩, S, W⟩ := X
  refine ⟨⟨⟨hv, by unfold LowK; rw [hk]; exact hlk, e0.kd.trans k1, e0.fR.trans k2, hV.eqc ev, hB.fr f, hO, e0.fR.trans e5, ?_, e7⟩, e0.fR.trans b1, ⟨e0.fR.trans b2, b3, ?_⟩, ⟨e0.fI.trans b5, e0.fI.trans b6, e0.fL.trans b7⟩, ⟨e0.fR.trans a1, e0.fR.trans a2, e0.fR.trans a3, e0.fR.trans a4, e0.fR.trans a5, e0.fR.trans a6⟩, by rw [hk]; exact a7⟩, ⟨e0.fR.trans q1, q2, ?_, q4, e0.fR.trans q5, ClN.fr q6 (f _)⟩, ⟨e0.fR.trans m1, by rw [hk]; exact m2, fun i hi => ⟨ea.aL.trans (m3 i hi).1, ea.aL.trans (m3 i hi).2⟩, fun i h1 h2 => ⟨ea.aL.trans (m4 i h1 h2).1, ea.aL.trans (m4 i h1 h2).2⟩⟩, e0.fL.trans S, e0.fL.trans W⟩
  · rw [bA.fr hB.1.1 (f 2), (f 2 _ hB.1.2.2.2.2.2.1.2.1).2.aR]
    exact e6
  · rw [bA.fr hB.1.1 (f 2), (f 2 _ hB.1.2.2.2.2.2.2.1.2.1).2.aR]
    exact b4
  · rw [bA.fr hB.1.1 (f 2), (f 2 _ hB.1.2.2.2.2.1.2.1).2.aR]
    exact q3
/-- what working begins with stands -/
theorem WkI.se {v2 : Nat} (I : WkI σ w wk ab v2 b P T Ls Cs) (r : SeC v σ σ1) (hv : v = 1022 ∨ v = 1048) : WkI σ1 w wk ab v2 b P T Ls Cs := by
  obtain ⟨h1, hk, k1, k2, ⟨v1, ⟨v2, v3, v4, v5⟩, v6⟩, hB, hO, ⟨⟨a1, a2, a3, a4, a5, a6⟩, a7⟩, e13, ka⟩ := I
  refine ⟨h1, by unfold LowK; rw [r.kd]; exact hk, by rw [r.kd]; exact k1, (r.fR (by decide) (by decide)).trans k2, ⟨by rw [r.kd]; exact v1, ⟨(r.fR (by decide) (by decide)).trans v2, (r.fR (by decide) (by decide)).trans v3, (r.fR (by decide) (by decide)).trans v4, (r.fR (by decide) (by decide)).trans v5⟩, by rw [r.kd]; exact v6⟩, hB.fr (r.frB hv hO hB.1.2.2.1), hO, ⟨⟨(r.fR (by decide) (by decide)).trans a1, (r.fR (by decide) (by decide)).trans a2, (r.fR (by decide) (by decide)).trans a3, (r.fR (by decide) (by decide)).trans a4, (r.fR (by decide) (by decide)).trans a5, (r.fR (by decide) (by decide)).trans a6⟩, by rw [r.kd]; exact a7⟩, (r.fR (by decide) (by decide)).trans e13, by rw [r.kd]; exact ka⟩
end
