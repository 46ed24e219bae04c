/-! THE CLASS: the desk while acts are taken in: b the book, b2 the fresh one -/
def vof (M : mOff) (nu : Nat) : Nat × Nat × Nat × Nat × Nat := (ne M, (o_pol M).length, (o_los M).length, (o_cas M).length, nu)
def TkB (τ σ : am_S) (w : ow_T) (v b7 b : Nat) (sp : Option Nat) (g : Grw) (gl nu : Nat) (D : mTop) : Prop := CoR σ w v b7 sp ∧ (1189 ≤ b ∨ b = 1039) ∧ am_fI σ 10 1000 = Int32.ofNat (d_tak D) ∧ ByR σ w (2, 1001) 1001 g.1 (d_tap D) ∧ ByR σ w (2, 1005) 1005 g.2.2.1 (d_let D) ∧ ((∃ ov, VwD σ (2070 - v) (d_lok D).2.1 (d_lok D).2.2 (d_lok D).1 ov) ∧ (d_lok D).2.1.length ≤ 13) ∧ BookR σ w b (d_off D) gl nu ∧ RefF τ σ w
def TkD (τ σ : am_S) (w : ow_T) (v : Nat) (X : Stx) (b b2 : Nat) (sp : Option Nat) (g : Grw) (gl nu gl2 nu2 : Nat) (D : mTop) (M2 : mOff) (fnd : Int32) : Prop := TkB τ σ w v b b sp g gl nu D ∧ ((1189 ≤ b2 ∨ b2 = 1039) ∧ b2 ≠ b) ∧ (∃ tx, ByR σ w (2, 1003) 1003 g.2.1 tx) ∧ Bks σ w v X b2 M2 gl2 nu2 (vof (d_off D) nu) (grC (g.1, g.2.1, g.2.2.1, gl) (some b)) ∧ am_fI σ 2001 1008 = fnd
/-- where the tape is read -/
def RdQ (σ : am_S) (a : Nat) : Prop := am_fI σ 1002 1001 = Int32.ofNat a ∧ am_fI σ 1003 1001 = 0
section
variable {σ s : am_S} {w ws : ow_T} {τ : am_S} {v b b2 gl nu gl2 nu2 : Nat} {X : Stx} {sp : Option Nat} {g : Grw} {D : mTop} {M2 : mOff} {fnd : Int32}
theorem TkB.eff {b7 : Nat} {K : Nat × Nat → Prop} (R : TkB τ σ w v b7 b sp g gl nu D) (hv : v = 1022 ∨ v = 1048) (hO : ∀ c, fixW c → w c = (2, c)) (hb2 : (1189 ≤ b2 ∨ b2 = 1039) ∧ b2 ≠ b) (E : Eff K σ w s ws) (hK : ∀ q, K q → bkK b2 v q ∨ q = (2, 1003) ∨ q = (2, 1007) ∨ q = (2, 1001)) (h7 : ws 1007 = (2, 1007) ∧ am_kd s 1007 = (1001, 7)) (hT : ByR s ws (2, 1001) 1001 g.1 (d_tap D)) : TkB τ s ws v b7 b sp g gl nu D := by
  obtain ⟨C, hb, ht, T, S, ⟨⟨ov, L⟩, hl13⟩, B, hrf⟩ := R
  have no : ∀ c, (c = 1000 ∨ c = 1005 ∨ (2070 - v ≤ c ∧ c ≤ 2070 - v + 4)) → ¬ K (2, c) := fun c hc z => by
    rcases hK _ z with z | z | z | z
    · rcases z with z | z | z
      · have : 2 = b2 := z
        omega
      · exact absurd z (show ¬ (2 : Nat) = 1 by decide)
      · have z2 := z.2
        simp only at z2
        omega
    · have : c = 1003 := congrArg Prod.snd z
      omega
    · have : c = 1007 := congrArg Prod.snd z
      omega
    · have : c = 1001 := congrArg Prod.snd z
      omega
  have fr : ∀ c, (c = 1000 ∨ c = 1005 ∨ (2070 - v ≤ c ∧ c ≤ 2070 - v + 4)) → Fr σ w s ws (2, c) := fun c hc => E.2 (2, c) (no c hc) (by simp)
  have e0 := fr 1000 (by omega) 1000 C.1.1
  obtain ⟨⟨c1, c2⟩, ⟨c3, c4, c5, c6⟩, ⟨c7, c8, c9⟩, c10, c11, c12, c13, c14⟩ := C
  refine ⟨⟨⟨e0.1, e0.2.kd.trans c2⟩, ⟨e0.2.fR.trans c3, e0.2.fR.trans c4, e0.2.fR.trans c5, e0.2.fR.trans c6⟩, ⟨e0.2.fR.trans c7, e0.2.fR.trans c8, e0.2.fR.trans c9⟩, e0.2.fR.trans c10, e0.2.fR.trans c11, e0.2.fR.trans c12, h7⟩, hb, e0.2.fI.trans ht, hT, S.fr (fr 1005 (by omega)), ⟨⟨ov, L.eqc (fun j hj => (fr _ (by omega) _ (hO _ (by unfold fixW; omega))).2)⟩, hl13⟩, B.fr (fun j => E.bk (fun z => ?_) (by omega)), hrf.eff E (fun z => ?_)⟩
  · rcases hK _ z with z | z | z | z
    · rcases z with z | z | z
      · exact hb2.2 z.symm
      · have : b = 1 := z
        omega
      · have : b = 2 := z.1
        omega
    · have : b = 2 := congrArg Prod.fst z
      omega
    · have : b = 2 := congrArg Prod.fst z
      omega
    · have : b = 2 := congrArg Prod.fst z
      omega
  · rcases hK _ z with z | z | z | z
    · rcases z with z | z | z
      · have : 9 = b2 := z
        omega
      · exact absurd z (show ¬ (9 : Nat) = 1 by decide)
      · exact absurd z.1 (show ¬ (9 : Nat) = 2 by decide)
    · exact absurd (congrArg Prod.fst z) (show ¬ (9 : Nat) = 2 by decide)
    · exact absurd (congrArg Prod.fst z) (show ¬ (9 : Nat) = 2 by decide)
    · exact absurd (congrArg Prod.fst z) (show ¬ (9 : Nat) = 2 by decide)
theorem TkD.co (R : TkD τ σ w v X b b2 sp g gl nu gl2 nu2 D M2 fnd) : CoR σ w v b sp := R.1.1
theorem TkD.tap (R : TkD τ σ w v X b b2 sp g gl nu gl2 nu2 D M2 fnd) : ByR σ w (2, 1001) 1001 g.1 (d_tap D) := R.1.2.2.2.1
theorem TkD.ow (R : TkD τ σ w v X b b2 sp g gl nu gl2 nu2 D M2 fnd) : OwI σ w := R.2.2.2.1.1.1.1
theorem TkD.vv (R : TkD τ σ w v X b b2 sp g gl nu gl2 nu2 D M2 fnd) : v = 1022 ∨ v = 1048 := R.2.2.2.1.1.2.2.2.1
theorem TkD.fx (R : TkD τ σ w v X b b2 sp g gl nu gl2 nu2 D M2 fnd) : ∀ c, fixW c → w c = (2, c) := R.2.2.2.1.1.2.2.2.2.1
theorem TkD.w8 (R : TkD τ σ w v X b b2 sp g gl nu gl2 nu2 D M2 fnd) : w 1008 = (2, 1008) := R.fx 1008 (by unfold fixW; omega)
/-- a number was read -/
theorem TkD.rd (R : TkD τ σ w v X b b2 sp g gl nu gl2 nu2 D M2 fnd) (f : RdF 1001 σ s) : TkD τ s w v X b b2 sp g gl nu gl2 nu2 D M2 fnd := by
  have E := f.eff R.ow R.tap.1
  obtain ⟨T, hb2, ⟨tx, Tx⟩, A, hf⟩ := id R
  refine ⟨T.eff R.vv R.fx hb2 E (fun q hq => Or.inr (Or.inr (Or.inr hq))) ⟨R.co.2.2.2.2.2.2.1, by rw [f.1]; exact R.co.2.2.2.2.2.2.2⟩ (f.by R.tap), hb2, ⟨tx, Tx.fr (E.2 (2, 1003) (snd_ne (by decide)) (by simp))⟩, A.byt hb2.1 E (by decide) (by rw [f.2.1]; exact Nat.le_refl _) (A.2.2.eq ⟨rfl, rfl, rfl, rfl⟩ ⟨f.2.1, f.2.2.1⟩), ?_⟩
  exact (f.2.2.2.1 1008 (by decide)).fI.trans hf
/-- the deed was written -/
theorem TkD.deed (R : TkD τ σ w v X b b2 sp g gl nu gl2 nu2 D M2 fnd) (o : Only 1007 σ s) : TkD τ s w v X b b2 sp g gl nu gl2 nu2 D M2 fnd := by
  have w7 := R.co.2.2.2.2.2.2.1
  have E : Eff (fun q => q = (2, 1007)) σ w s w := ⟨fun c hc => R.ow c (by rw [← o.2.1]; exact hc), fun q hq _ c hc => ⟨hc, o.2.2.2.1 c (fun z => hq (by rw [← hc, z]; exact w7))⟩⟩
  obtain ⟨T, hb2, ⟨tx, Tx⟩, A, hf⟩ := id R
  exact ⟨T.eff R.vv R.fx hb2 E (fun q hq => Or.inr (Or.inr (Or.inl hq))) ⟨w7, by rw [o.1]; exact R.co.2.2.2.2.2.2.2⟩ (R.tap.fr (E.2 (2, 1001) (snd_ne (by decide)) (by simp))), hb2, ⟨tx, Tx.fr (E.2 (2, 1003) (snd_ne (by decide)) (by simp))⟩, A.byt hb2.1 E (by decide) (by rw [o.2.1]; exact Nat.le_refl _) (A.2.2.eq ⟨rfl, rfl, rfl, rfl⟩ ⟨o.2.1, o.2.2.1⟩), (o.2.2.2.2 _ _).1.trans hf⟩
/-- the text was written -/
theorem TkD.txt {g' : Nat} {L : List Int32} (R : TkD τ σ w v X b b2 sp g gl nu gl2 nu2 D M2 fnd) (hB : ByR s ws (2, 1003) 1003 g' L) (hc : ByC σ w s ws (2, 1003) g.2.1 g') (hx : am_nx σ ≤ am_nx s) : TkD τ s ws v X b b2 sp (g.1, g', g.2.2) gl nu gl2 nu2 D M2 fnd := by
  obtain ⟨E, e1, e2⟩ := hc
  obtain ⟨T, hb2, -, A, hf⟩ := id R
  have e7 := E.2 (2, 1007) (snd_ne (by decide)) (by simp) 1007 R.co.2.2.2.2.2.2.1
  refine ⟨?_, hb2, ⟨L, hB⟩, A.byt hb2.1 E (by decide) hx ?_, (E.2 (2, 1008) (snd_ne (by decide)) (by simp) 1008 R.w8).2.fI.trans hf⟩
  · have := T.eff R.vv R.fx hb2 E (fun q hq => Or.inr (Or.inl hq)) ⟨e7.1, e7.2.kd.trans R.co.2.2.2.2.2.2.2⟩ (R.tap.fr (E.2 (2, 1001) (snd_ne (by decide)) (by simp)))
    exact this
  · obtain ⟨R1, R2, R3⟩ := A.2.2
    unfold grC at R2 R3
    simp only at R2 R3
    refine ⟨R1, ?_, ?_⟩
    · unfold grC
      simp only
      rw [if_neg (by simp)] at R2 ⊢
      omega
    · unfold grC
      simp only
      rw [if_neg (by simp)] at R3 ⊢
      generalize 128 * 2 ^ g.1 = q1 at R3 ⊢
      generalize 128 * 2 ^ g.2.2.1 = q2 at R3 ⊢
      generalize 128 * 2 ^ gl = q3 at R3 ⊢
      generalize 128 * 2 ^ g.2.1 = q4 at R3 e2
      generalize 128 * 2 ^ g' = q5 at e2 ⊢
      generalize 128 * 2 ^ gl2 = q6 at R3 ⊢
      omega
/-- the fresh book did an act -/
theorem TkD.act {X' : Stx} {M' : mOff} {gl' nu' : Nat} {fnd' : Int32} (R : TkD τ σ w v X b b2 sp g gl nu gl2 nu2 D M2 fnd) (E : Eff (bkK b2 v) σ w s ws) (A' : Bks s ws v X' b2 M' gl' nu' (vof (d_off D) nu) (grC (g.1, g.2.1, g.2.2.1, gl) (some b))) (hf' : am_fI s 2001 1008 = fnd') : TkD τ s ws v X' b b2 sp g gl nu gl' nu' D M' fnd' := by
  obtain ⟨T, hb2, ⟨tx, Tx⟩, A, hf⟩ := id R
  have hv := R.vv
  have no : ∀ c, c < 1008 → ¬ bkK b2 v (2, c) := fun c hc z => by
    rcases z with z | z | z
    · have : 2 = b2 := z
      omega
    · exact absurd z (show ¬ (2 : Nat) = 1 by decide)
    · have z2 := z.2
      simp only at z2
      omega
  have e7 := E.2 (2, 1007) (no 1007 (by decide)) (by simp) 1007 R.co.2.2.2.2.2.2.1
  exact ⟨T.eff R.vv R.fx hb2 E (fun q hq => Or.inl hq) ⟨e7.1, e7.2.kd.trans R.co.2.2.2.2.2.2.2⟩ (R.tap.fr (E.2 (2, 1001) (no 1001 (by decide)) (by simp))), hb2, ⟨tx, Tx.fr (E.2 (2, 1003) (no 1003 (by decide)) (by simp))⟩, A', hf'⟩
end
