/-! THE CLASS: working: which cells may have changed -/
def WkV (wk ab v : Nat) : Prop := ((wk = 1008 ∧ ab = 1027) ∨ (wk = 1009 ∧ ab = 1015)) ∧ (v = 1010 ∨ v = 1022 ∨ v = 1048)
def Wc (wk ab v : Nat) (fs as vs va : List Nat) (σ σ' : am_S) : Prop := am_kd σ' = am_kd σ ∧ am_nx σ' = am_nx σ ∧ am_sl σ' = am_sl σ ∧ (∀ g c, ¬ (g ∈ fs ∧ c = wk) → ¬ (g ∈ vs ∧ c = v) → am_fI σ' g c = am_fI σ g c ∧ am_fL σ' g c = am_fL σ g c ∧ am_fR σ' g c = am_fR σ g c) ∧ ∀ c, (∀ j ∈ as, c ≠ ab + j) → (∀ j ∈ va, c ≠ v + j) → ∀ i, am_aI σ' c i = am_aI σ c i ∧ am_aL σ' c i = am_aL σ c i ∧ am_aR σ' c i = am_aR σ c i
def fixW (c : Nat) : Prop := (1008 ≤ c ∧ c ≤ 1033) ∨ (1048 ≤ c ∧ c ≤ 1052)
section
variable {σ σ1 σ2 : am_S} {wk ab v g c i k : Nat} {fs as vs va fs' as' vs' va' : List Nat}
theorem Wc.rf : Wc wk ab v fs as vs va σ σ := ⟨rfl, rfl, rfl, fun _ _ _ _ => ⟨rfl, rfl, rfl⟩, fun _ _ _ _ => ⟨rfl, rfl, rfl⟩⟩
theorem Wc.trans (h : Wc wk ab v fs as vs va σ σ1) (h2 : Wc wk ab v fs as vs va σ1 σ2) : Wc wk ab v fs as vs va σ σ2 := by
  obtain ⟨a1, a2, a3, a4, a5⟩ := h
  obtain ⟨b1, b2, b3, b4, b5⟩ := h2
  refine ⟨b1.trans a1, b2.trans a2, b3.trans a3, fun g c q1 q2 => ?_, fun c q1 q2 i => ?_⟩
  · obtain ⟨x1, x2, x3⟩ := a4 g c q1 q2
    obtain ⟨y1, y2, y3⟩ := b4 g c q1 q2
    exact ⟨y1.trans x1, y2.trans x2, y3.trans x3⟩
  · obtain ⟨x1, x2, x3⟩ := a5 c q1 q2 i
    obtain ⟨y1, y2, y3⟩ := b5 c q1 q2 i
    exact ⟨y1.trans x1, y2.trans x2, y3.trans x3⟩
theorem Wc.mono (h : Wc wk ab v fs as vs va σ σ1) (h1 : ∀ x ∈ fs, x ∈ fs') (h2 : ∀ x ∈ as, x ∈ as') (h3 : ∀ x ∈ vs, x ∈ vs') (h4 : ∀ x ∈ va, x ∈ va') : Wc wk ab v fs' as' vs' va' σ σ1 :=
  ⟨h.1, h.2.1, h.2.2.1, fun g c q1 q2 => h.2.2.2.1 g c (fun z => q1 ⟨h1 g z.1, z.2⟩) (fun z => q2 ⟨h3 g z.1, z.2⟩), fun c q1 q2 i => h.2.2.2.2 c (fun j hj => q1 j (h2 j hj)) (fun j hj => q2 j (h4 j hj)) i⟩
theorem Wc.sfI {x : Int32} (hg : g ∈ fs) : Wc wk ab v fs as vs va σ (am_sfI σ g wk x) := ⟨rfl, rfl, rfl, fun g' c q1 _ => ⟨by
    by_cases h : g' = g
    · exact rI_n (fun z => q1 ⟨by rw [h]; exact hg, z⟩)
    · exact rI_g h, rfl, rfl⟩, fun _ _ _ _ => ⟨rfl, rfl, rfl⟩⟩
theorem Wc.sfL {x : Int64} (hg : g ∈ fs) : Wc wk ab v fs as vs va σ (am_sfL σ g wk x) := ⟨rfl, rfl, rfl, fun g' c q1 _ => ⟨rfl, by
    by_cases h : g' = g
    · exact rL_n (fun z => q1 ⟨by rw [h]; exact hg, z⟩)
    · exact rL_g h, rfl⟩, fun _ _ _ _ => ⟨rfl, rfl, rfl⟩⟩
theorem Wc.sfR {x : Option Nat} (hg : g ∈ fs) : Wc wk ab v fs as vs va σ (am_sfR σ g wk x) := ⟨rfl, rfl, rfl, fun g' c q1 _ => ⟨rfl, rfl, by
    by_cases h : g' = g
    · exact rR_n (fun z => q1 ⟨by rw [h]; exact hg, z⟩)
    · exact rR_g h⟩, fun _ _ _ _ => ⟨rfl, rfl, rfl⟩⟩
theorem Wc.vfI {x : Int32} (hg : g ∈ vs) : Wc wk ab v fs as vs va σ (am_sfI σ g v x) := ⟨rfl, rfl, rfl, fun g' c _ q1 => ⟨by
    by_cases h : g' = g
    · exact rI_n (fun z => q1 ⟨by rw [h]; exact hg, z⟩)
    · exact rI_g h, rfl, rfl⟩, fun _ _ _ _ => ⟨rfl, rfl, rfl⟩⟩
theorem Wc.saI {x : Int32} (hk : k ∈ as) : Wc wk ab v fs as vs va σ (am_saI σ (ab + k) i x) := ⟨rfl, rfl, rfl, fun _ _ _ _ => ⟨rfl, rfl, rfl⟩, fun c q _ _ => ⟨aI_n (q k hk), rfl, rfl⟩⟩
theorem Wc.saL {x : Int64} (hk : k ∈ as) : Wc wk ab v fs as vs va σ (am_saL σ (ab + k) i x) := ⟨rfl, rfl, rfl, fun _ _ _ _ => ⟨rfl, rfl, rfl⟩, fun c q _ _ => ⟨rfl, aL_n (q k hk), rfl⟩⟩
theorem Wc.vaI {x : Int32} (hk : k ∈ va) : Wc wk ab v fs as vs va σ (am_saI σ (v + k) i x) := ⟨rfl, rfl, rfl, fun _ _ _ _ => ⟨rfl, rfl, rfl⟩, fun c _ q _ => ⟨aI_n (q k hk), rfl, rfl⟩⟩
theorem Wc.vaL {x : Int64} (hk : k ∈ va) : Wc wk ab v fs as vs va σ (am_saL σ (v + k) i x) := ⟨rfl, rfl, rfl, fun _ _ _ _ => ⟨rfl, rfl, rfl⟩, fun c _ q _ => ⟨rfl, aL_n (q k hk), rfl⟩⟩
theorem Wc.kd (h : Wc wk ab v fs as vs va σ σ1) : am_kd σ1 = am_kd σ := h.1
theorem Wc.fI (h : Wc wk ab v fs as vs va σ σ1) (h1 : g ∉ fs) (h2 : g ∉ vs) : am_fI σ1 g c = am_fI σ g c := (h.2.2.2.1 g c (fun z => h1 z.1) (fun z => h2 z.1)).1
theorem Wc.fL (h : Wc wk ab v fs as vs va σ σ1) (h1 : g ∉ fs) (h2 : g ∉ vs) : am_fL σ1 g c = am_fL σ g c := (h.2.2.2.1 g c (fun z => h1 z.1) (fun z => h2 z.1)).2.1
theorem Wc.fR (h : Wc wk ab v fs as vs va σ σ1) (h1 : g ∉ fs) (h2 : g ∉ vs) : am_fR σ1 g c = am_fR σ g c := (h.2.2.2.1 g c (fun z => h1 z.1) (fun z => h2 z.1)).2.2
theorem Wc.aI (h : Wc wk ab v fs as vs va σ σ1) (hv : WkV wk ab v) (hk : k ≤ 6) (h1 : k ∉ as) (h2 : ∀ j ∈ va, 1 ≤ j ∧ j ≤ 4) : am_aI σ1 (ab + k) i = am_aI σ (ab + k) i := (h.2.2.2.2 (ab + k) (fun j hj e => h1 (Nat.add_left_cancel e ▸ hj)) (fun j hj e => by have := h2 j hj; unfold WkV at hv; omega) i).1
theorem Wc.aL (h : Wc wk ab v fs as vs va σ σ1) (hv : WkV wk ab v) (hk : k ≤ 6) (h1 : k ∉ as) (h2 : ∀ j ∈ va, 1 ≤ j ∧ j ≤ 4) : am_aL σ1 (ab + k) i = am_aL σ (ab + k) i := (h.2.2.2.2 (ab + k) (fun j hj e => h1 (Nat.add_left_cancel e ▸ hj)) (fun j hj e => by have := h2 j hj; unfold WkV at hv; omega) i).2.1
theorem Wc.wI (h : Wc wk ab v fs as vs va σ σ1) (hv : WkV wk ab v) (hk : 1 ≤ k ∧ k ≤ 4) (h1 : k ∉ va) (h2 : ∀ j ∈ as, j ≤ 6) : am_aI σ1 (v + k) i = am_aI σ (v + k) i := (h.2.2.2.2 (v + k) (fun j hj e => by have := h2 j hj; unfold WkV at hv; omega) (fun j hj e => h1 (Nat.add_left_cancel e ▸ hj)) i).1
theorem Wc.wL (h : Wc wk ab v fs as vs va σ σ1) (hv : WkV wk ab v) (hk : 1 ≤ k ∧ k ≤ 4) (h1 : k ∉ va) (h2 : ∀ j ∈ as, j ≤ 6) : am_aL σ1 (v + k) i = am_aL σ (v + k) i := (h.2.2.2.2 (v + k) (fun j hj e => by have := h2 j hj; unfold WkV at hv; omega) (fun j hj e => h1 (Nat.add_left_cancel e ▸ hj)) i).2.1
/-- cells beside those of working are as they were -/
theorem Wc.eqc (h : Wc wk ab v fs as vs va σ σ1) (hv : WkV wk ab v) (h1 : ∀ j ∈ as, j ≤ 6) (h2 : ∀ j ∈ va, 1 ≤ j ∧ j ≤ 4) (hc : ¬ fixW c) : am_eqc σ σ1 c := by
  unfold WkV at hv
  unfold fixW at hc
  refine ⟨by rw [h.1], fun q => ?_⟩
  obtain ⟨a1, a2, a3⟩ := h.2.2.2.1 q c (fun z => by omega) (fun z => by omega)
  obtain ⟨b1, b2, b3⟩ := h.2.2.2.2 c (fun j hj => by have := h1 j hj; omega) (fun j hj => by have := h2 j hj; omega) q
  exact ⟨a1, a2, a3, b1, b2, b3⟩
theorem Wc.frB {w : ow_T} {b : Nat} (h : Wc wk ab v fs as vs va σ σ1) (hv : WkV wk ab v) (h1 : ∀ j ∈ as, j ≤ 6) (h2 : ∀ j ∈ va, 1 ≤ j ∧ j ≤ 4) (hO : ∀ c, fixW c → w c = (2, c)) (hb : 1000 ≤ b) : FrB σ w σ1 w b := by
  intro j c hc
  refine ⟨hc, h.eqc hv h1 h2 (fun z => ?_)⟩
  rw [hO c z] at hc
  have := congrArg Prod.fst hc
  simp at this
  omega
end
/-! views -/
def VwK (σ : am_S) (v : Nat) : Prop := am_kd σ v = (4, 0) ∧ (am_fR σ 3000 v = some (v + 1) ∧ am_fR σ 3001 v = some (v + 2) ∧ am_fR σ 3002 v = some (v + 3) ∧ am_fR σ 3003 v = some (v + 4)) ∧ am_kd σ (v + 1) = (1000, 13) ∧ am_kd σ (v + 2) = (1000, 13) ∧ am_kd σ (v + 3) = (1001, 13) ∧ am_kd σ (v + 4) = (1000, 200)
def VwD (σ : am_S) (v : Nat) (rows : List mRow) (tr : List Int32) (fnd : Int32) (ov : Bool) : Prop := VwK σ v ∧ (am_fI σ 3004 v = Int32.ofNat rows.length ∧ rwI σ (v + 1) rows (fun r => r.1) ∧ rwI σ (v + 2) rows (fun r => r.2.1) ∧ rwL σ (v + 3) rows (fun r => r.2.2)) ∧ (am_fI σ 3005 v = Int32.ofNat (min tr.length 200) ∧ ∀ i, i < 200 → ∀ x, tr[i]? = some x → am_aI σ (v + 4) i = x) ∧ am_fI σ 3006 v = fnd ∧ am_fI σ 3007 v = b2i ov
section
variable {nl : Bool} {Ln : Nat} {xs : Nat → Int32} {d : Nat} {σ σ1 : am_S} {wk ab v : Nat} {fs as vs va : List Nat} {rows : List mRow} {tr : List Int32} {fnd : Int32} {ov : Bool}
theorem VwK.wc (h : VwK σ v) (hr : Wc wk ab v fs as vs va σ σ1) (hf : [3000, 3001, 3002, 3003].all (fun x => ! fs.contains x && ! vs.contains x) = true) : VwK σ1 v := by
  have q : ∀ x ∈ [3000, 3001, 3002, 3003], x ∉ fs ∧ x ∉ vs := fun x hx => by have := List.all_eq_true.mp hf x hx; simpa using this
  obtain ⟨h1, ⟨h2, h3, h4, h5⟩, h6⟩ := h
  refine ⟨by rw [hr.kd]; exact h1, ⟨?_, ?_, ?_, ?_⟩, by rw [hr.kd]; exact h6⟩
  · exact (hr.fR (q _ (by decide)).1 (q _ (by decide)).2).trans h2
  · exact (hr.fR (q _ (by decide)).1 (q _ (by decide)).2).trans h3
  · exact (hr.fR (q _ (by decide)).1 (q _ (by decide)).2).trans h4
  · exact (hr.fR (q _ (by decide)).1 (q _ (by decide)).2).trans h5
/-- the view stands -/
theorem VwD.wc (h : VwD σ v rows tr fnd ov) (hr : Wc wk ab v fs as [] [] σ σ1) (hv : WkV wk ab v) (hf : [3000, 3001, 3002, 3003, 3004, 3005, 3006, 3007].all (fun x => ! fs.contains x) = true) (ha : ∀ j ∈ as, j ≤ 6) : VwD σ1 v rows tr fnd ov := by
  have q : ∀ x ∈ [3000, 3001, 3002, 3003, 3004, 3005, 3006, 3007], x ∉ fs := fun x hx => by have := List.all_eq_true.mp hf x hx; simpa using this
  obtain ⟨h1, ⟨h2, h3, h4, h5⟩, ⟨h6, h7⟩, h8, h9⟩ := h
  obtain ⟨k1, ⟨k2, k3, k4, k5⟩, k6⟩ := h1
  exact ⟨⟨by rw [hr.kd]; exact k1, ⟨(hr.fR (q _ (by decide)) (by simp)).trans k2, (hr.fR (q _ (by decide)) (by simp)).trans k3, (hr.fR (q _ (by decide)) (by simp)).trans k4, (hr.fR (q _ (by decide)) (by simp)).trans k5⟩, by rw [hr.kd]; exact k6⟩, ⟨(hr.fI (q _ (by decide)) (by simp)).trans h2, h3.eq fun i => hr.wI hv (by decide) (by simp) ha, h4.eq fun i => hr.wI hv (by decide) (by simp) ha, h5.eq fun i => hr.wL hv (by decide) (by simp) ha⟩, ⟨(hr.fI (q _ (by decide)) (by simp)).trans h6, fun i hi x hx => (hr.wI hv (by decide) (by simp) ha).trans (h7 i hi x hx)⟩, (hr.fI (q _ (by decide)) (by simp)).trans h8, (hr.fI (q _ (by decide)) (by simp)).trans h9⟩
theorem vw_addRow {code arg : Int32} {cents : Int64} {F : am_S → Prop} (h : VwD σ v rows tr fnd ov) (hv : WkV wk ab v) (hl : rows.length < 13) (K : ∀ σ', VwD σ' v (rows ++ [(code, arg, cents)]) tr fnd ov → Wc wk ab v [] [] [3004] [1, 2, 3] σ σ' → F σ') : k_Vw_addRow nl Ln xs (d + 1) v code arg cents σ F := by
  have h0 := h
  obtain ⟨⟨k1, ⟨k2, k3, k4, k5⟩, k6, k7, k8, k9⟩, ⟨h2, h3, h4, h5⟩, ⟨h6, h7⟩, h8, h9⟩ := h
  have b0 : 0 ≤ (Int32.ofNat rows.length).toInt ∧ (Int32.ofNat rows.length).toInt < 13 := by rw [n32 (by omega)]; omega
  have nc : (Int32.ofNat rows.length).toNatClampNeg = rows.length := n32c (by omega)
  refine w_Vw_addRow ⟨is_mk k1, ?_⟩
  rw [h2, k2, Option.getD_some, nc]
  refine ⟨fun _ => ⟨ar_mk k6 b0.1 b0.2, ?_⟩, fun q => absurd (show Int32.ofNat rows.length < Int32.ofNat 13 by rw [n32lt (by omega) (by omega)]; omega) q⟩
  intro s4 q4
  have r4 : Wc wk ab v [] [] [3004] [1, 2, 3] σ s4 := by rw [q4]; exact Wc.vaI (by decide)
  rw [(show am_fI s4 3004 v = Int32.ofNat rows.length from by rw [q4]; exact h2), (show am_fR s4 3001 v = some (v + 2) from by rw [q4]; exact k3), Option.getD_some, nc]
  refine ⟨ar_mk (by rw [r4.kd]; exact k7) b0.1 b0.2, ?_⟩
  intro s8 q8
  have r8 : Wc wk ab v [] [] [3004] [1, 2, 3] σ s8 := r4.trans (by rw [q8]; exact Wc.vaI (by decide))
  rw [(show am_fI s8 3004 v = Int32.ofNat rows.length from by rw [q8, q4]; exact h2), (show am_fR s8 3002 v = some (v + 3) from by rw [q8, q4]; exact k4), Option.getD_some, nc]
  refine ⟨ar_mk (by rw [r8.kd]; exact k8) b0.1 b0.2, ?_⟩
  intro s12 q12
  have r12 : Wc wk ab v [] [] [3004] [1, 2, 3] σ s12 := r8.trans (by rw [q12]; exact Wc.vaL (by decide))
  rw [(show am_fI s12 3004 v = Int32.ofNat rows.length from by rw [q12, q8, q4]; exact h2), n32s]
  intro s15 q15
  have r15 : Wc wk ab v [] [] [3004] [1, 2, 3] σ s15 := r12.trans (by rw [q15]; exact Wc.vfI (by decide))
  refine K s15 ⟨⟨by rw [r15.kd]; exact k1, ⟨(r15.fR (by simp) (by decide)).trans k2, (r15.fR (by simp) (by decide)).trans k3, (r15.fR (by simp) (by decide)).trans k4, (r15.fR (by simp) (by decide)).trans k5⟩, by rw [r15.kd]; exact ⟨k6, k7, k8, k9⟩⟩, ⟨by rw [q15, List.length_append]; exact rI_same, h3.push fun i => ?_, h4.push fun i => ?_, h5.push fun i => ?_⟩, ⟨(r15.fI (by simp) (by decide)).trans h6, fun i hi x hx => (r15.wI hv (by decide) (by decide) (by simp)).trans (h7 i hi x hx)⟩, (r15.fI (by simp) (by decide)).trans h8, (r15.fI (by simp) (by decide)).trans h9⟩ r15
  · rw [q15]
    show am_aI s12 (v + 1) i = _
    rw [q12]
    show am_aI s8 (v + 1) i = _
    rw [saI_ne q8 (by omega), saI_all q4]
  · rw [q15]
    show am_aI s12 (v + 2) i = _
    rw [q12]
    show am_aI s8 (v + 2) i = _
    rw [saI_all q8, saI_ne q4 (by omega)]
  · rw [q15]
    show am_aL s12 (v + 3) i = _
    rw [saL_all q12, q8, q4]
theorem vw_fail {x : Int32} {F : am_S → Prop} (h : VwD σ v rows tr fnd ov) (hv : WkV wk ab v) (K : ∀ σ', VwD σ' v rows tr x true → Wc wk ab v [] [] [3006, 3007] [] σ σ' → F σ') : k_Vw_fail nl Ln xs (d + 1) v x σ F := by
  obtain ⟨⟨k1, ⟨k2, k3, k4, k5⟩, k6⟩, ⟨h2, h3, h4, h5⟩, ⟨h6, h7⟩, h8, h9⟩ := h
  refine w_Vw_fail ⟨is_mk k1, ?_⟩
  intro s2 q2 s5 q5
  have r5 : Wc wk ab v [] [] [3006, 3007] [] σ s5 := by rw [q5, q2]; exact (Wc.vfI (by decide)).trans (Wc.vfI (by decide))
  exact K s5 ⟨⟨by rw [r5.kd]; exact k1, ⟨(r5.fR (by simp) (by decide)).trans k2, (r5.fR (by simp) (by decide)).trans k3, (r5.fR (by simp) (by decide)).trans k4, (r5.fR (by simp) (by decide)).trans k5⟩, by rw [r5.kd]; exact k6⟩, ⟨(r5.fI (by simp) (by decide)).trans h2, h3.eq fun i => r5.wI hv (by decide) (by simp) (by simp), h4.eq fun i => r5.wI hv (by decide) (by simp) (by simp), h5.eq fun i => r5.wL hv (by decide) (by simp) (by simp)⟩, ⟨(r5.fI (by simp) (by decide)).trans h6, fun i hi x hx => (r5.wI hv (by decide) (by simp) (by simp)).trans (h7 i hi x hx)⟩, by rw [q5, rI_g (by decide), q2]; exact rI_same, by rw [q5]; exact rI_same⟩ r5
theorem vw_clear {F : am_S → Prop} (h : VwK σ v) (hv : WkV wk ab v) (K : ∀ σ', VwD σ' v [] [] 0 false → Wc wk ab v [] [] [3004, 3005, 3006, 3007] [] σ σ' → F σ') : k_Vw_clear nl Ln xs (d + 1) v σ F := by
  refine w_Vw_clear ⟨is_mk h.1, ?_⟩
  intro s2 q2 s5 q5 s8 q8 s11 q11
  have r : Wc wk ab v [] [] [3004, 3005, 3006, 3007] [] σ s11 := by rw [q11, q8, q5, q2]; exact (((Wc.vfI (by decide)).trans (Wc.vfI (by decide))).trans (Wc.vfI (by decide))).trans (Wc.vfI (by decide))
  exact K s11 ⟨h.wc r (by decide), ⟨by rw [q11, rI_g (by decide), q8, rI_g (by decide), q5, rI_g (by decide), q2]; exact rI_same, fun i x hx => by simp at hx, fun i x hx => by simp at hx, fun i x hx => by simp at hx⟩, ⟨by rw [q11, rI_g (by decide), q8, rI_g (by decide), q5]; exact rI_same, fun i _ x hx => by simp at hx⟩, by rw [q11, rI_g (by decide), q8]; exact rI_same, by rw [q11]; exact rI_same⟩ r
theorem vw_total {F : Int64 → am_S → Prop} (h : VwD σ v rows tr fnd ov) (hl : rows.length ≤ 13) (K : F (m_total rows) σ) : k_Vw_total nl Ln xs (d + 1) v σ F := by
  obtain ⟨⟨k1, ⟨k2, k3, k4, k5⟩, k6, k7, k8, k9⟩, ⟨h2, h3, h4, h5⟩, -⟩ := h
  have loop : ∀ (m n : Nat) (acc : Int64), n + m = rows.length → F (acc + m_total (rows.drop n)) σ → c_Vw_total_4 nl Ln xs (d + 1) v acc (Int32.ofNat n) σ F := by
    intro m
    induction m with
    | zero =>
      intro n acc hn K
      rw [List.drop_eq_nil_of_le (by omega), m_total, Int64.add_zero] at K
      refine w_Vw_total_4 ⟨is_mk k1, ?_⟩
      rw [h2]
      refine ⟨fun q => ?_, fun _ => K⟩
      rw [n32lt (by omega) (by omega)] at q
      omega
    | succ m ih =>
      intro n acc hn K
      obtain ⟨r, hr⟩ := get_ex (show n < rows.length by omega)
      rw [drop_get hr, m_total, ← Int64.add_assoc] at K
      refine w_Vw_total_4 ⟨is_mk k1, ?_⟩
      rw [h2, k4, Option.getD_some, n32c (by omega), h5 _ _ hr]
      refine ⟨fun _ => ⟨ar_mk k8 (by rw [n32 (by omega)]; omega) (by rw [n32 (by omega)]; omega), ?_⟩, fun q => absurd (by rw [n32lt (by omega) (by omega)]; omega) q⟩
      rintro v4 rfl
      rw [n32s]
      exact ih (n + 1) _ (by omega) K
  exact w_Vw_total (loop rows.length 0 0 (by omega) (by rw [Int64.zero_add]; exact K))
theorem vw_centsOf {code : Int32} {F : Int64 → am_S → Prop} (h : VwD σ v rows tr fnd ov) (hl : rows.length ≤ 13) (K : F (((rows.find? (fun r => decide (r.1 = code))).map (fun r => r.2.2)).getD 0) σ) : k_Vw_centsOf nl Ln xs (d + 1) v code σ F := by
  obtain ⟨⟨k1, ⟨k2, k3, k4, k5⟩, k6, k7, k8, k9⟩, ⟨h2, h3, h4, h5⟩, -⟩ := h
  have loop : ∀ (m n : Nat), n + m = rows.length → F ((((rows.drop n).find? (fun r => decide (r.1 = code))).map (fun r => r.2.2)).getD 0) σ → c_Vw_centsOf_2 nl Ln xs (d + 1) v code (Int32.ofNat n) σ F := by
    intro m
    induction m with
    | zero =>
      intro n hn K
      rw [List.drop_eq_nil_of_le (by omega)] at K
      refine w_Vw_centsOf_2 ⟨is_mk k1, ?_⟩
      rw [h2]
      refine ⟨fun q => ?_, fun _ => K⟩
      rw [n32lt (by omega) (by omega)] at q
      omega
    | succ m ih =>
      intro n hn K
      obtain ⟨r, hr⟩ := get_ex (show n < rows.length by omega)
      rw [drop_get hr] at K
      have b0 : 0 ≤ (Int32.ofNat n).toInt ∧ (Int32.ofNat n).toInt < 13 := by rw [n32 (by omega)]; omega
      refine w_Vw_centsOf_2 ⟨is_mk k1, ?_⟩
      rw [h2, k2, k4, Option.getD_some, Option.getD_some, n32c (by omega), h5 _ _ hr, h3 _ _ hr]
      refine ⟨fun _ => ⟨ar_mk k6 b0.1 b0.2, fun g => ⟨ar_mk k8 b0.1 b0.2, ?_⟩, fun g => ?_⟩, fun q => absurd (by rw [n32lt (by omega) (by omega)]; omega) q⟩
      · rw [List.find?_cons_of_pos (p := fun r : mRow => decide (r.1 = code)) (decide_eq_true g)] at K
        exact K
      · rw [List.find?_cons_of_neg (p := fun r : mRow => decide (r.1 = code)) (by simp [g])] at K
        rw [n32s]
        exact ih (n + 1) (by omega) K
  exact w_Vw_centsOf (loop rows.length 0 (by omega) K)
end
