/-! THE CLASS: what stands beside the books; a book with all that it has -/
abbrev Stx : Type := List Nat × List Nat × List (Nat × Nat × Nat) × List Nat × List Nat
def Wst (σ : am_S) (wk ab v : Nat) : Prop := am_kd σ wk = (3, 0) ∧ am_fR σ 2002 wk = some v ∧ VwK σ v ∧ WkA σ wk ab ∧ am_fR σ 2013 wk = some ab ∧ am_kd σ ab = (1001, 12)
def WkJ (σ : am_S) (w : ow_T) (v : Nat) : Prop := (v = 1022 ∨ v = 1048) ∧ (∀ c, fixW c → w c = (2, c)) ∧ Wst σ 1008 1027 v ∧ Wst σ 1009 1015 1010 ∧ am_fR σ 2000 1008 = some 1009
def EnvR (σ : am_S) (w : ow_T) (v : Nat) (X : Stx) : Prop := (OwI σ w ∧ 1189 ≤ am_nx σ) ∧ Stk σ w X.1 X.2.1 X.2.2.1 X.2.2.2.1 ∧ (RdK σ w ∧ Fls σ w (1, 5) 9 8004 (am_fR σ 4006 1034) X.2.2.2.2) ∧ WkJ σ w v
def sumN (f : Nat → Nat) : Nat → Nat
  | 0 => 0
  | n + 1 => sumN f n + f n
def MdN (σ : am_S) (w : ow_T) (k : Nat × Nat) (h : Option Nat) (l : List Nat) : Prop := Rch (am_fR σ 8004) h l ∧ ∀ c ∈ l, w c = k ∧ am_kd σ c = (9, 0) ∧ 1000 ≤ c
/-- the nodes of all that was told, entry by entry -/
def MdT (σ : am_S) (w : ow_T) (k : Nat × Nat) : Nat → Option Nat → List Nat → Prop
  | 0, _, ns => ns = []
  | n + 1, h, ns => ∃ c n1 n2, h = some c ∧ (w c = k ∧ am_kd σ c = (8, 0)) ∧ MdN σ w k (am_fR σ 7004 c) n1 ∧ ns = n1 ++ n2 ∧ MdT σ w k n (am_fR σ 7005 c) n2
def MdB (σ : am_S) (w : ow_T) (b : Nat) (P : List mPol) (T : List mTell) (ns : Nat → List Nat) : Prop := ∀ i, i < P.length → (ns i).Nodup ∧ ∃ c, am_aR σ (bA σ b 6004) i = some c ∧ w c = (b, 100 + i) ∧ MdT σ w (b, 100 + i) (tlP T i).length (am_fR σ 9004 c) (ns i)
def BookR (σ : am_S) (w : ow_T) (b : Nat) (M : mOff) (gl nu : Nat) : Prop := BkD σ w b (o_pol M) (o_tel M) (o_los M) (o_cas M) ∧ BkN σ b M ∧ BkH σ b (o_hel M) ∧ (∃ lg, am_fR σ 6003 b = some lg ∧ ByR σ w (b, 3) lg gl (o_log M)) ∧ ∃ ns, MdB σ w b (o_pol M) (o_tel M) ns ∧ nu = sumN (fun i => (ns i).length) (o_pol M).length
/-- the rows of a book -/
def bkAs : List Nat := [6004, 6005, 6006, 6007, 6008, 6009]
/-- a book's own cells: which numbers, which rows may have changed -/
def Bc (b : Nat) (fs as : List Nat) (σ : am_S) (w : ow_T) (σ' : am_S) (w' : ow_T) : Prop := (∀ c, w c = (b, 2) → w' c = (b, 2) ∧ am_kd σ' c = am_kd σ c) ∧ (∀ g, g ∉ fs → am_fI σ' g b = am_fI σ g b) ∧ (∀ g, g ≠ 6010 → am_fR σ' g b = am_fR σ g b) ∧ ∀ g, g ∈ bkAs → g ∉ as → ∀ i, am_aI σ' (bA σ b g) i = am_aI σ (bA σ b g) i ∧ am_aL σ' (bA σ b g) i = am_aL σ (bA σ b g) i ∧ am_aR σ' (bA σ b g) i = am_aR σ (bA σ b g) i
section
variable {σ σ' σ'' : am_S} {w w' w'' : ow_T} {k : Nat × Nat} {b v : Nat} {fs as : List Nat} {P : List mPol} {T : List mTell} {Ls : List mLoss} {Cs : List mCase}
theorem MdN.fr {h : Option Nat} {l : List Nat} (hh : MdN σ w k h l) (f : Fr σ w σ' w' k) : MdN σ' w' k h l := ⟨hh.1.mono (fun c hc => (f c (hh.2 c hc).1).2.fR), fun c hc => ⟨(f c (hh.2 c hc).1).1, (f c (hh.2 c hc).1).2.kd.trans (hh.2 c hc).2.1, (hh.2 c hc).2.2⟩⟩
theorem MdT.fr : ∀ {n : Nat} {h : Option Nat} {ns : List Nat}, MdT σ w k n h ns → Fr σ w σ' w' k → MdT σ' w' k n h ns
  | 0, _, _, hh, _ => hh
  | n + 1, _, _, hh, f => by
    obtain ⟨c, n1, n2, h1, ⟨h2, h3⟩, h4, h5, h6⟩ := hh
    have e := f c h2
    exact ⟨c, n1, n2, h1, ⟨e.1, e.2.kd.trans h3⟩, by rw [e.2.fR]; exact h4.fr f, h5, by rw [e.2.fR]; exact MdT.fr h6 f⟩
theorem Bc.eA (h : Bc b fs as σ w σ' w') {g : Nat} (hg : g ≠ 6010) : bA σ' b g = bA σ b g := by
  unfold bA
  rw [h.2.2.1 g hg]
theorem Bc.trans (h : Bc b fs as σ w σ' w') (h2 : Bc b fs as σ' w' σ'' w'') : Bc b fs as σ w σ'' w'' := by
  refine ⟨fun c hc => ⟨(h2.1 c (h.1 c hc).1).1, (h2.1 c (h.1 c hc).1).2.trans (h.1 c hc).2⟩, fun g hg => (h2.2.1 g hg).trans (h.2.1 g hg), fun g hg => (h2.2.2.1 g hg).trans (h.2.2.1 g hg), fun g hg ha i => ?_⟩
  have x := h.2.2.2 g hg ha i
  have y := h2.2.2.2 g hg ha i
  rw [h.eA (by unfold bkAs at hg; intro z; rw [z] at hg; exact absurd hg (by decide))] at y
  exact ⟨y.1.trans x.1, y.2.1.trans x.2.1, y.2.2.trans x.2.2⟩
theorem Bc.mono {fs' as' : List Nat} (h : Bc b fs as σ w σ' w') (h1 : ∀ x ∈ fs, x ∈ fs') (h2 : ∀ x ∈ as, x ∈ as') : Bc b fs' as' σ w σ' w' := ⟨h.1, fun g hg => h.2.1 g (fun z => hg (h1 g z)), h.2.2.1, fun g hg ha => h.2.2.2 g hg (fun z => ha (h2 g z))⟩
theorem BkK.arr (hK : BkK σ w b) {g : Nat} (hg : g ∈ bkAs) : ∃ kd len, ArK σ w b g kd len ∧ (kd, len) = ([(2009, 100), (2010, 200), (2011, 100), (1000, 8), (1001, 420), (1000, 100)] : List (Nat × Nat)).getD (g - 6004) (0, 0) := by
  obtain ⟨-, -, -, -, a1, a2, a3, a4, a5, a6⟩ := hK
  unfold bkAs at hg
  simp only [List.mem_cons, List.mem_nil_iff, or_false] at hg
  rcases hg with rfl | rfl | rfl | rfl | rfl | rfl
  · exact ⟨_, _, a1, rfl⟩
  · exact ⟨_, _, a2, rfl⟩
  · exact ⟨_, _, a3, rfl⟩
  · exact ⟨_, _, a4, rfl⟩
  · exact ⟨_, _, a5, rfl⟩
  · exact ⟨_, _, a6, rfl⟩
/-- the cells of the book are other cells -/
theorem BkK.ne (hK : BkK σ w b) {g g' : Nat} (hg : g ∈ bkAs) (hg' : g' ∈ bkAs) (h : g ≠ g') : bA σ b g ≠ bA σ b g' := by
  obtain ⟨k1, l1, a1, e1⟩ := hK.arr hg
  obtain ⟨k2, l2, a2, e2⟩ := hK.arr hg'
  intro z
  have h1 := a1.2.2
  rw [z, a2.2.2, e1, e2] at h1
  unfold bkAs at hg hg'
  simp only [List.mem_cons, List.mem_nil_iff, or_false] at hg hg'
  rcases hg with rfl | rfl | rfl | rfl | rfl | rfl <;> rcases hg' with rfl | rfl | rfl | rfl | rfl | rfl <;> first | exact h rfl | exact absurd h1 (by decide)
theorem BkK.nb (hK : BkK σ w b) {g : Nat} (hg : g ∈ bkAs) : bA σ b g ≠ b := by
  obtain ⟨k1, l1, a1, e1⟩ := hK.arr hg
  intro z
  have h1 := a1.2.2
  rw [z, hK.2.1, e1] at h1
  unfold bkAs at hg
  simp only [List.mem_cons, List.mem_nil_iff, or_false] at hg
  rcases hg with rfl | rfl | rfl | rfl | rfl | rfl <;> exact absurd h1 (by decide)
theorem Bc.of (hK : BkK σ w b) (f : Fr σ w σ' w' (b, 2)) : Bc b fs as σ w σ' w' := by
  have e := (f b hK.1).2
  refine ⟨fun c hc => ⟨(f c hc).1, (f c hc).2.kd⟩, fun g _ => e.fI, fun g _ => e.fR, fun g hg _ i => ?_⟩
  obtain ⟨k1, l1, a1, -⟩ := hK.arr hg
  have e := (f _ a1.2.1).2
  exact ⟨e.aI, e.aL, e.aR⟩
theorem Bc.sfI {g : Nat} {x : Int32} (hg : g ∈ fs) : Bc b fs as σ w (am_sfI σ g b x) w := ⟨fun _ h => ⟨h, rfl⟩, fun g' h => rI_g (fun z => h (by rw [z]; exact hg)), fun _ _ => rfl, fun _ _ _ _ => ⟨rfl, rfl, rfl⟩⟩
theorem Bc.sfR {x : Option Nat} : Bc b fs as σ w (am_sfR σ 6010 b x) w := ⟨fun _ h => ⟨h, rfl⟩, fun _ _ => rfl, fun _ hg => rR_g hg, fun _ _ _ _ => ⟨rfl, rfl, rfl⟩⟩
theorem Bc.saI (hK : BkK σ w b) {g i : Nat} {x : Int32} (hg : g ∈ bkAs) (ha : g ∈ as) : Bc b fs as σ w (am_saI σ (bA σ b g) i x) w := ⟨fun _ h => ⟨h, rfl⟩, fun _ _ => rfl, fun _ _ => rfl, fun g' h1 h2 _ => ⟨aI_n (hK.ne h1 hg (fun z => h2 (by rw [z]; exact ha))), rfl, rfl⟩⟩
theorem Bc.saL (hK : BkK σ w b) {g i : Nat} {x : Int64} (hg : g ∈ bkAs) (ha : g ∈ as) : Bc b fs as σ w (am_saL σ (bA σ b g) i x) w := ⟨fun _ h => ⟨h, rfl⟩, fun _ _ => rfl, fun _ _ => rfl, fun g' h1 h2 _ => ⟨rfl, aL_n (hK.ne h1 hg (fun z => h2 (by rw [z]; exact ha))), rfl⟩⟩
theorem Bc.saR (hK : BkK σ w b) {g i : Nat} {x : Option Nat} (hg : g ∈ bkAs) (ha : g ∈ as) : Bc b fs as σ w (am_saR σ (bA σ b g) i x) w := ⟨fun _ h => ⟨h, rfl⟩, fun _ _ => rfl, fun _ _ => rfl, fun g' h1 h2 _ => ⟨rfl, rfl, aR_n (hK.ne h1 hg (fun z => h2 (by rw [z]; exact ha)))⟩⟩
theorem ArK.bc {g kd len : Nat} (h : ArK σ w b g kd len) (c : Bc b fs as σ w σ' w') (hg : g ≠ 6010) : ArK σ' w' b g kd len := by
  unfold ArK
  rw [c.eA hg, c.2.2.1 g hg, (c.1 _ h.2.1).2]
  exact ⟨h.1, (c.1 _ h.2.1).1, h.2.2⟩
theorem BkK.bc (hK : BkK σ w b) (c : Bc b fs as σ w σ' w') : BkK σ' w' b := by
  obtain ⟨h1, h2, h3, ⟨h4, h5, h6⟩, a1, a2, a3, a4, a5, a6⟩ := hK
  exact ⟨(c.1 b h1).1, (c.1 b h1).2.trans h2, h3, ⟨(c.2.2.1 _ (by decide)).trans h4, (c.2.2.1 _ (by decide)).trans h5, (c.2.2.1 _ (by decide)).trans h6⟩, a1.bc c (by decide), a2.bc c (by decide), a3.bc c (by decide), a4.bc c (by decide), a5.bc c (by decide), a6.bc c (by decide)⟩
theorem Bc.row (c : Bc b fs as σ w σ' w') {g i : Nat} (hg : g ∈ bkAs) (ha : g ∉ as) : am_aI σ' (bA σ' b g) i = am_aI σ (bA σ b g) i ∧ am_aL σ' (bA σ' b g) i = am_aL σ (bA σ b g) i ∧ am_aR σ' (bA σ' b g) i = am_aR σ (bA σ b g) i := by
  rw [c.eA (by unfold bkAs at hg; intro z; rw [z] at hg; exact absurd hg (by decide))]
  exact c.2.2.2 g hg ha i
theorem BkP.bc (h : BkP σ w b P T) (c : Bc b fs as σ w σ' w') (ha : 6004 ∉ as) (f : ∀ i, i < P.length → Fr σ w σ' w' (b, 100 + i)) : BkP σ' w' b P T := fun i p hp => by
  obtain ⟨q, q1, q2⟩ := h i p hp
  exact ⟨q, (c.row (by decide) ha).2.2.trans q1, q2.fr (f i (lt_of_get hp))⟩
theorem BkL.bc (h : BkL σ w b Ls) (c : Bc b fs as σ w σ' w') (ha : 6005 ∉ as) (f : ∀ i, i < Ls.length → Fr σ w σ' w' (b, 300 + i)) : BkL σ' w' b Ls := fun i l hl => by
  obtain ⟨q, q1, q2, q3⟩ := h i l hl
  have fi := f i (lt_of_get hl)
  refine ⟨q, (c.row (by decide) ha).2.2.trans q1, q2.fr fi, ?_⟩
  rw [(fi q q2.1).2.fR, q3]
  cases l.2.2.1 with
  | none => rfl
  | some u => exact (c.row (by decide) ha).2.2.symm
theorem BkC.bc (h : BkC σ w b Cs) (c : Bc b fs as σ w σ' w') (ha : 6004 ∉ as) (hl : 6005 ∉ as) (hc : 6006 ∉ as) (f : ∀ i, i < Cs.length → Fr σ w σ' w' (b, 600 + i)) : BkC σ' w' b Cs := fun i x hx => by
  obtain ⟨q, q1, q2, q3, q4⟩ := h i x hx
  have fi := f i (lt_of_get hx)
  have e := (fi q q2.1.1).2
  refine ⟨q, (c.row (by decide) hc).2.2.trans q1, q2.fr fi, ?_, ?_⟩
  · rw [e.fR, q3]; exact (c.row (by decide) ha).2.2.symm
  · rw [e.fR, q4]; exact (c.row (by decide) hl).2.2.symm
theorem BkH.bc {H : List mDeed} (h : BkH σ b H) (c : Bc b fs as σ w σ' w') (ha : 6008 ∉ as) : BkH σ' b H := fun i x hx => by
  obtain ⟨q1, q2⟩ := h i x hx
  exact ⟨(c.row (by decide) ha).2.1.trans q1, fun j hj => (c.row (by decide) ha).2.1.trans (q2 j hj)⟩
theorem BkT.bc (h : BkT σ w b T) (c : Bc b fs as σ w σ' w') (ha : 6007 ∉ as) (hr : am_fR σ' 6010 b = am_fR σ 6010 b) (f : Fr σ w σ' w' (b, 1)) : BkT σ' w' b T := ⟨fun q hq => (c.row (by decide) ha).1.trans (h.1 q hq), by rw [hr]; exact ChT.fr h.2 f⟩
theorem BkN.bc {M : mOff} (h : BkN σ b M) (c : Bc b fs as σ w σ' w') (hf : [6011, 6012, 6013, 6014, 6015, 6016, 6017, 6018, 6019].all (fun x => ! fs.contains x) = true) : BkN σ' b M := by
  have q : ∀ x ∈ [6011, 6012, 6013, 6014, 6015, 6016, 6017, 6018, 6019], x ∉ fs := fun x hx => by have := List.all_eq_true.mp hf x hx; simpa using this
  obtain ⟨h1, h2, h3, h4, h5, h6, h7, h8, h9⟩ := h
  exact ⟨(c.2.1 _ (q _ (by decide))).trans h1, (c.2.1 _ (q _ (by decide))).trans h2, (c.2.1 _ (q _ (by decide))).trans h3, (c.2.1 _ (q _ (by decide))).trans h4, (c.2.1 _ (q _ (by decide))).trans h5, (c.2.1 _ (q _ (by decide))).trans h6, (c.2.1 _ (q _ (by decide))).trans h7, (c.2.1 _ (q _ (by decide))).trans h8, (c.2.1 _ (q _ (by decide))).trans h9⟩
theorem MdB.bc {ns : Nat → List Nat} (h : MdB σ w b P T ns) (c : Bc b fs as σ w σ' w') (ha : 6004 ∉ as) (f : ∀ i, i < P.length → Fr σ w σ' w' (b, 100 + i)) : MdB σ' w' b P T ns := fun i hi => by
  obtain ⟨h1, q, h2, h3, h4⟩ := h i hi
  have e := f i hi q h3
  exact ⟨h1, q, (c.row (by decide) ha).2.2.trans h2, e.1, by rw [e.2.fR]; exact h4.fr (f i hi)⟩
theorem BookR.fr {M : mOff} {gl nu : Nat} (h : BookR σ w b M gl nu) (f : FrB σ w σ' w' b) : BookR σ' w' b M gl nu := by
  obtain ⟨hD, hN, hH, ⟨lg, l1, l2⟩, ns, m1, m2⟩ := h
  have c : Bc b [] [] σ w σ' w' := Bc.of hD.1 (f 2)
  exact ⟨hD.fr f, hN.bc c (by decide), hH.bc c (by simp), ⟨lg, (c.2.2.1 _ (by decide)).trans l1, l2.fr (f 3)⟩, ns, m1.bc c (by simp) (fun i _ => f _), m2⟩
theorem Eff.bk {K : Nat × Nat → Prop} {j : Nat} (E : Eff K σ w σ' w') (h : ¬ K (b, j)) (hb : 1000 ≤ b) : Fr σ w σ' w' (b, j) := E.2 (b, j) h (fun z => by have := congrArg Prod.fst z; simp at this; omega)
theorem Wst.eqc {wk ab v : Nat} (h : Wst σ wk ab v) (hV : WkV wk ab v) (e : ∀ c, fixW c → am_eqc σ σ' c) : Wst σ' wk ab v := by
  obtain ⟨k1, k2, ⟨v1, ⟨v2, v3, v4, v5⟩, v6, v7, v8, v9⟩, ⟨⟨a1, a2, a3, a4, a5, a6⟩, b1, b2, b3, b4, b5, b6⟩, e13, ka⟩ := h
  unfold WkV at hV
  have fw : ∀ c, (c = wk ∨ (ab ≤ c ∧ c ≤ ab + 6) ∨ (v ≤ c ∧ c ≤ v + 4)) → am_eqc σ σ' c := fun c hc => e c (by unfold fixW; omega)
  have ew := fw wk (Or.inl rfl)
  have ev := fw v (by omega)
  exact ⟨ew.kd.trans k1, ew.fR.trans k2, ⟨ev.kd.trans v1, ⟨ev.fR.trans v2, ev.fR.trans v3, ev.fR.trans v4, ev.fR.trans v5⟩, (fw (v + 1) (by omega)).kd.trans v6, (fw (v + 2) (by omega)).kd.trans v7, (fw (v + 3) (by omega)).kd.trans v8, (fw (v + 4) (by omega)).kd.trans v9⟩, ⟨⟨ew.fR.trans a1, ew.fR.trans a2, ew.fR.trans a3, ew.fR.trans a4, ew.fR.trans a5, ew.fR.trans a6⟩, (fw (ab + 1) (by omega)).kd.trans b1, (fw (ab + 2) (by omega)).kd.trans b2, (fw (ab + 3) (by omega)).kd.trans b3, (fw (ab + 4) (by omega)).kd.trans b4, (fw (ab + 5) (by omega)).kd.trans b5, (fw (ab + 6) (by omega)).kd.trans b6⟩, ew.fR.trans e13, (fw ab (by omega)).kd.trans ka⟩
theorem WkJ.v1 (J : WkJ σ w v) : WkV 1008 1027 v := ⟨Or.inl ⟨rfl, rfl⟩, Or.inr J.1⟩
theorem WkJ.eff {K : Nat × Nat → Prop} (J : WkJ σ w v) (E : Eff K σ w σ' w') (hK : ∀ c, fixW c → ¬ K (2, c)) : WkJ σ' w' v := by
  have f : ∀ c, fixW c → w' c = (2, c) ∧ am_eqc σ σ' c := fun c hc => E.2 (2, c) (hK c hc) (by simp) c (J.2.1 c hc)
  exact ⟨J.1, fun c hc => (f c hc).1, J.2.2.1.eqc J.v1 (fun c hc => (f c hc).2), J.2.2.2.1.eqc ⟨Or.inr ⟨rfl, rfl⟩, Or.inl rfl⟩ (fun c hc => (f c hc).2), (f 1008 (by unfold fixW; omega)).2.fR.trans J.2.2.2.2⟩
theorem RdK.eff {K : Nat × Nat → Prop} (R : RdK σ w) (E : Eff K σ w σ' w') (hK : ∀ c, 1034 ≤ c → c ≤ 1037 → ¬ K (2, c)) : RdK σ' w' := by
  have f : ∀ c, 1034 ≤ c → c ≤ 1037 → w' c = (2, c) ∧ am_eqc σ σ' c := fun c h1 h2 => E.2 (2, c) (hK c h1 h2) (by simp) c (R.1 c h1 h2)
  obtain ⟨h1, h2, ⟨h3, h4, h5⟩, h6, h7, h8⟩ := R
  have e := (f 1034 (by omega) (by omega)).2
  exact ⟨fun c c1 c2 => (f c c1 c2).1, e.kd.trans h2, ⟨e.fR.trans h3, e.fR.trans h4, e.fR.trans h5⟩, (f 1035 (by omega) (by omega)).2.kd.trans h6, (f 1036 (by omega) (by omega)).2.kd.trans h7, (f 1037 (by omega) (by omega)).2.kd.trans h8⟩
theorem Stk.eff {K : Nat × Nat → Prop} {lE lP lC : List Nat} {lL : List (Nat × Nat × Nat)} (S : Stk σ w lE lP lL lC) (E : Eff K σ w σ' w') (hK : ∀ q, stK q → ¬ K q) : Stk σ' w' lE lP lL lC := by
  obtain ⟨⟨h1, h2⟩, a0, a1, a2, a3⟩ := S
  have f := fun q (hq : stK q) (h0 : q ≠ (0, 0)) => E.2 q (hK q hq) h0
  have c := f (2, 1038) (Or.inr rfl) (by simp) 1038 h1
  refine ⟨⟨c.1, c.2.kd.trans h2⟩, ?_, ?_, ?_, ?_⟩
  · rw [c.2.fR]; exact a0.fr (f _ (Or.inl ⟨rfl, by decide⟩) (by simp))
  · rw [c.2.fR]; exact a1.fr (f _ (Or.inl ⟨rfl, by decide⟩) (by simp))
  · rw [c.2.fR]; exact a2.fr (f _ (Or.inl ⟨rfl, by decide⟩) (by simp))
  · rw [c.2.fR]; exact a3.fr (f _ (Or.inl ⟨rfl, by decide⟩) (by simp))
/-- the reader with its stock stands -/
theorem rdl_eff {K : Nat × Nat → Prop} {lN : List Nat} (R : RdK σ w ∧ Fls σ w (1, 5) 9 8004 (am_fR σ 4006 1034) lN) (E : Eff K σ w σ' w') (hK : ∀ c, 1034 ≤ c → c ≤ 1037 → ¬ K (2, c)) (h5 : ¬ K (1, 5)) : RdK σ' w' ∧ Fls σ' w' (1, 5) 9 8004 (am_fR σ' 4006 1034) lN := by
  refine ⟨R.1.eff E hK, ?_⟩
  rw [(E.2 (2, 1034) (hK 1034 (by omega) (by omega)) (by simp) 1034 (R.1.1 1034 (by omega) (by omega))).2.fR]
  exact R.2.fr (E.2 _ h5 (by simp))
/-- only the book's cells were touched: all beside it stands -/
theorem EnvR.bk {X : Stx} {K : Nat × Nat → Prop} (V : EnvR σ w v X) (E : Eff K σ w σ' w') (hb : 1189 ≤ b ∨ b = 1039) (hK : ∀ q, K q → q.1 = b) (hn : 1189 ≤ am_nx σ') : EnvR σ' w' v X := by
  obtain ⟨⟨o, n⟩, S, R, J⟩ := V
  refine ⟨⟨E.1, hn⟩, S.eff E (fun q hq z => ?_), rdl_eff R E (fun c _ _ z => ?_) (fun z => ?_), J.eff E (fun c _ z => ?_)⟩
  · have := hK q z
    rcases hq with h | h
    · omega
    · rw [h] at this
      have : 2 = b := this
      omega
  · have : 2 = b := hK _ z
    omega
  · have : 1 = b := hK _ z
    omega
  · have : 2 = b := hK _ z
    omega
end
