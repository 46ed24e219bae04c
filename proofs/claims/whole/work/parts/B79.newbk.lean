/-! THE CLASS: a book is cleared -/
section
variable {nl : Bool} {Ln : Nat} {xs : Nat → Int32} {d : Nat} {σ : am_S} {w : ow_T} {b v gl nu : Nat} {X : Stx} {M : mOff} {V : Nat × Nat × Nat × Nat × Nat} {Cc : Nat × Nat}
theorem bk_clear {F : am_S → Prop} (hb : 1189 ≤ b ∨ b = 1039) (h100 : (o_pol M).length ≤ 100) (h200 : (o_los M).length ≤ 200) (hc100 : (o_cas M).length ≤ 100) (A : Bks σ w v X b M gl nu V Cc)
    (K : ∀ s' w' X', Bks s' w' v X' b m_new gl 0 V Cc → Eff (bkK b v) σ w s' w' → am_fI s' 2001 1008 = am_fI σ 2001 1008 → F s') : k_Bk_clear nl Ln xs (d + 5) b σ F := by
  obtain ⟨Ev, B, R⟩ := id A
  obtain ⟨⟨hK, hNm, hP, hL, hC, hT⟩, hN, hH, ⟨lg, lg1, lg2⟩, ns, m1, m2⟩ := id B
  obtain ⟨wb, kb, hb1, ⟨f0, f1, f2⟩, a4, a5, a6, a7, a8, a9⟩ := id hK
  refine w_Bk_clear ⟨is_mk kb, bk_giveBack (d := d) hb h100 h200 hc100 A (fun s2 w2 G _ => ?_)⟩
  intro s4 e4 s7 e7 s10 e10 s13 e13 s16 e16 s19 e19 s22 e22 s25 e25 s28 e28 s31 e31
  have own := G.own hb1
  have fr3 : Fr σ w s2 w2 (b, 3) := G.fr hb1 (by decide) (by omega)
  obtain ⟨Y, ⟨S, Rk, Lk⟩, E, kx, y1, y2, y3, y4, y5⟩ := id G
  have wb2 := (own b wb).1
  have eb := (own b wb).2
  have K2 : BkK s2 w2 b := hK.bc (Bc.of (fs := []) (as := []) hK own)
  have lg2' := lg2.fr fr3
  have e31' : ∀ y, y ≠ b → am_eqc s2 s31 y := fun y hy => by
    rw [e31, e28, e25, e22, e19, e16, e13, e10, e7, e4]
    exact (((((((((eqc_sfR hy).trans (eqc_sfI hy)).trans (eqc_sfI hy)).trans (eqc_sfI hy)).trans (eqc_sfI hy)).trans (eqc_sfI hy)).trans (eqc_sfI hy)).trans (eqc_sfI hy)).trans (eqc_sfI hy)).trans (eqc_sfI hy)
  have c31 : Bc b [6011, 6012, 6013, 6014, 6015, 6016, 6017, 6018, 6019] [6007] s2 w2 s31 w2 := by
    rw [e31, e28, e25, e22, e19, e16, e13, e10, e7, e4]
    exact (((((((((Bc.sfR).trans (Bc.sfI (by decide))).trans (Bc.sfI (by decide))).trans (Bc.sfI (by decide))).trans (Bc.sfI (by decide))).trans (Bc.sfI (by decide))).trans (Bc.sfI (by decide))).trans (Bc.sfI (by decide))).trans (Bc.sfI (by decide))).trans (Bc.sfI (by decide))
  have k31 : am_kd s31 = am_kd s2 ∧ am_nx s31 = am_nx s2 ∧ am_sl s31 = am_sl s2 := by rw [e31, e28, e25, e22, e19, e16, e13, e10, e7, e4]; exact ⟨rfl, rfl, rfl⟩
  have r10 : am_fR s31 6010 b = none := by
    rw [e31, e28, e25, e22, e19, e16, e13, e10, e7, e4]
    exact rR_same
  have num : (am_fI s31 6011 b = 0 ∧ am_fI s31 6012 b = 0 ∧ am_fI s31 6013 b = 0 ∧ am_fI s31 6014 b = 0 ∧ am_fI s31 6015 b = 0) ∧ am_fI s31 6016 b = 0 ∧ am_fI s31 6017 b = 0 ∧ am_fI s31 6018 b = 0 ∧ am_fI s31 6019 b = 0 := by
    rw [e31, e28, e25, e22, e19, e16, e13, e10, e7]
    refine ⟨⟨?_, ?_, ?_, ?_, ?_⟩, ?_, ?_, ?_, ?_⟩
    · iterate 8 rw [rI_g (by decide)]
      exact rI_same
    · iterate 7 rw [rI_g (by decide)]
      exact rI_same
    · iterate 6 rw [rI_g (by decide)]
      exact rI_same
    · iterate 5 rw [rI_g (by decide)]
      exact rI_same
    · iterate 4 rw [rI_g (by decide)]
      exact rI_same
    · iterate 3 rw [rI_g (by decide)]
      exact rI_same
    · iterate 2 rw [rI_g (by decide)]
      exact rI_same
    · rw [rI_g (by decide)]
      exact rI_same
    · exact rI_same
  have f3 : am_fR s31 6003 b = some lg := (c31.2.2.1 _ (by decide)).trans (eb.fR.trans lg1)
  have lgb : lg ≠ b := fun z => by
    have h := lg2.1
    rw [z, wb] at h
    exact absurd (congrArg Prod.snd h) (show ¬ (2 : Nat) = 3 by decide)
  have elg := e31' lg lgb
  have klg : am_kd s31 lg = (2, 0) := elg.kd.trans lg2'.2.1
  rw [f3, Option.getD_some]
  refine ⟨is_mk klg, w_By_clear ⟨is_mk klg, ?_⟩⟩
  intro s33 e33 _
  have wlg : w2 lg = (b, 3) := lg2'.1
  have f7 : am_fR s33 6007 b = some (bA σ b 6007) := by
    rw [e33]
    exact (c31.2.2.1 _ (by decide)).trans (eb.fR.trans a7.1)
  obtain ⟨t, et⟩ : ∃ t, t = bA σ b 6007 := ⟨_, rfl⟩
  rw [← et] at f7
  have wt : w2 t = (b, 2) := by rw [et]; exact (own _ a7.2.1).1
  have kt : am_kd s33 t = (1000, 8) := by
    rw [e33]
    show am_kd s31 t = _
    rw [k31.1, kx.1, et]
    exact a7.2.2
  rw [f7]
  refine arr_fill2 (d := d + 3) kt (by decide) (fun s37 o37 ht _ => ?_)
  -- all the changes together
  have tlg : t ≠ lg := fun z => by
    rw [z, wlg] at wt
    exact absurd (congrArg Prod.snd wt) (show ¬ (3 : Nat) = 2 by decide)
  have E31 : Eff (fun q => q = (b, 2)) s2 w2 s31 w2 := ⟨fun y hy => E.1 y (by rw [← k31.2.1]; exact hy), fun q hq _ y hy => ⟨hy, e31' y (fun z => hq (by rw [← hy, z]; exact wb2))⟩⟩
  have E33 : Eff (fun q => q = (b, 3)) s31 w2 s33 w2 := by rw [e33]; exact Eff.sfI E31.1 wlg
  have E37 : Eff (fun q => q = (b, 2)) s33 w2 s37 w2 := ⟨fun y hy => E33.1 y (by rw [← o37.2.1]; exact hy), fun q hq _ y hy => ⟨hy, o37.2.2.2.1 y (fun z => hq (by rw [← hy, z]; exact wt))⟩⟩
  have EB : Eff (fun q => q.1 = b) s2 w2 s37 w2 := ((E31.mono (fun q hq => by rw [hq])).trans (E33.mono (fun q hq => by rw [hq]))).trans (E37.mono (fun q hq => by rw [hq]))
  have k37 : am_nx s37 = am_nx σ ∧ am_sl s37 = am_sl σ := by
    rw [o37.2.1, o37.2.2.1, e33]
    exact ⟨k31.2.1.trans kx.2.1, k31.2.2.trans kx.2.2⟩
  have c33 : Bc b [6011, 6012, 6013, 6014, 6015, 6016, 6017, 6018, 6019] [6007] s31 w2 s33 w2 := Bc.of (K2.bc c31) (E33.bk (fun z => absurd (congrArg Prod.snd z) (show ¬ (2 : Nat) = 3 by decide)) hb1)
  have K33 := (K2.bc c31).bc c33
  have t33 : bA s33 b 6007 = t := by
    unfold bA
    rw [f7]
    rfl
  have c37 : Bc b [6011, 6012, 6013, 6014, 6015, 6016, 6017, 6018, 6019] [6007] s33 w2 s37 w2 := (bc_only (a := 6007) K33 (by decide) (by rw [t33]; exact o37)).mono (by simp) (by simp)
  have fI37 : ∀ g, am_fI s37 g b = am_fI s31 g b := fun g => by
    rw [(o37.2.2.2.2 g b).1, e33]
    exact rI_n (fun z => lgb z.symm)
  have hbK : ∀ q, gvK b (o_cas M).length (o_los M).length (o_pol M).length q → bkK b v q := fun q hq => by
    rcases hq with z | z | z | z | z
    · rcases z with h | h
      · exact Or.inr (Or.inl h.1)
      · rw [h]
        exact Or.inr (Or.inr ⟨rfl, Or.inr (Or.inl ⟨by decide, by decide⟩)⟩)
    · rw [z]
      exact Or.inr (Or.inl rfl)
    · rw [z]
      exact Or.inr (Or.inr ⟨rfl, Or.inr (Or.inl ⟨by decide, by decide⟩)⟩)
    · rw [z]
      exact Or.inl rfl
    · exact Or.inl z.1
  have EF : Eff (bkK b v) σ w s37 w2 := (E.mono hbK).trans (EB.mono (fun q hq => Or.inl hq))
  have Jx : WkJ s2 w2 v := Ev.2.2.2.eff E (fun c hc z => by
    unfold fixW at hc
    rcases z with z | z | z | z | z
    · rcases z with h | h
      · exact absurd h.1 (show ¬ (2 : Nat) = 1 by decide)
      · have : c = 1038 := congrArg Prod.snd h
        omega
    · exact absurd (congrArg Prod.fst z) (show ¬ (2 : Nat) = 1 by decide)
    · have : c = 1034 := congrArg Prod.snd z
      omega
    · have : 2 = b := congrArg Prod.fst z
      omega
    · have : 2 = b := z.1
      omega)
  have Ev2 : EnvR s2 w2 v Y := ⟨⟨E.1, by rw [kx.2.1]; exact Ev.1.2⟩, S, ⟨Rk, Lk⟩, Jx⟩
  have lgx : ByR s37 w2 (b, 3) lg gl [] := by
    obtain ⟨b1, b2, b3, b4, b5, m, b6, b7, b8, b9, b10⟩ := lg2'
    have mb : m ≠ b := fun z => by
      rw [z, wb2] at b7
      exact absurd (congrArg Prod.snd b7) (show ¬ (2 : Nat) = 3 by decide)
    have mt : m ≠ t := fun z => by
      rw [z, wt] at b7
      exact absurd (congrArg Prod.snd b7) (show ¬ (2 : Nat) = 3 by decide)
    have ml : m ≠ lg := fun z => by
      rw [z, b2] at b8
      have := congrArg Prod.fst b8
      exact absurd this (show ¬ (2 : Nat) = 1002 by decide)
    have em : am_eqc s2 s37 m := ((e31' m mb).trans (by rw [e33]; exact eqc_sfI ml)).trans (o37.2.2.2.1 m mt)
    have el := o37.2.2.2.1 lg (fun z => tlg z.symm)
    refine ⟨b1, ?_, b3, by simp, ?_, m, ?_, b7, em.kd.trans b8, fun i hi => absurd hi (by simp), fun i hi => by rw [em.aI]; exact b10 i hi⟩
    · rw [el.kd, e33]
      exact klg
    · rw [el.fI, e33]
      exact rI_same
    · rw [el.fR, e33]
      exact elg.fR.trans b6
  refine K s37 w2 Y ⟨Ev2.bk EB hb (fun q hq => hq) (by rw [k37.1]; exact Ev.1.2), ⟨⟨K33.bc c37, ⟨?_, ?_, ?_⟩, fun i p hp => absurd hp (by show ¬ ([] : List mPol)[i]? = some p; simp), fun i p hp => absurd hp (by show ¬ ([] : List mLoss)[i]? = some p; simp), fun i p hp => absurd hp (by show ¬ ([] : List mCase)[i]? = some p; simp), ?_⟩, ?_, fun i p hp => absurd hp (by show ¬ ([] : List mDeed)[i]? = some p; simp), ⟨lg, ?_, lgx⟩, fun _ => [], fun i hi => absurd hi (by show ¬ i < 0; omega), rfl⟩, ?_⟩ EF ?_
  · rw [fI37]; exact num.1.2.1
  · rw [fI37]; exact num.1.2.2.1
  · rw [fI37]; exact num.1.2.2.2.1
  · refine ⟨fun q hq => ?_, ?_⟩
    · have : bA s37 b 6007 = t := by rw [c37.eA (by decide), t33]
      rw [this, ht q (by omega)]
      rfl
    · rw [(o37.2.2.2.2 6010 b).2.2, e33]
      exact r10
  · refine ⟨?_, ?_, ?_, ?_, ?_, ?_, ?_, ?_, ?_⟩
    · rw [fI37]; exact num.1.1
    · rw [fI37]; exact num.1.2.1
    · rw [fI37]; exact num.1.2.2.1
    · rw [fI37]; exact num.1.2.2.2.1
    · rw [fI37]; exact num.1.2.2.2.2
    · rw [fI37]; exact num.2.1
    · rw [fI37]; exact num.2.2.1
    · rw [fI37]; exact num.2.2.2.1
    · rw [fI37]; exact num.2.2.2.2
  · rw [(o37.2.2.2.2 6003 b).2.2, e33]
    exact f3
  · have n0 : ne m_new = 0 := rfl
    unfold Room at R ⊢
    rw [n0, k37.1, k37.2, y1, y2, y3, y4, y5]
    have l1 : (o_pol m_new).length = 0 := rfl
    have l2 : (o_los m_new).length = 0 := rfl
    have l3 : (o_cas m_new).length = 0 := rfl
    rw [l1, l2, l3]
    generalize 128 * 2 ^ gl = q1 at R ⊢
    omega
  · have h1 := EB.2 (2, 1008) (fun z => by
      have : 2 = b := z
      omega) (by simp) 1008 (Jx.2.1 1008 (by unfold fixW; omega))
    have h2 := E.2 (2, 1008) (fun z => by
      rcases z with z | z | z | z | z
      · rcases z with h | h
        · exact absurd h.1 (show ¬ (2 : Nat) = 1 by decide)
        · exact absurd (congrArg Prod.snd h) (show ¬ (1008 : Nat) = 1038 by decide)
      · exact absurd (congrArg Prod.fst z) (show ¬ (2 : Nat) = 1 by decide)
      · exact absurd (congrArg Prod.snd z) (show ¬ (1008 : Nat) = 1034 by decide)
      · have : 2 = b := congrArg Prod.fst z
        omega
      · have : 2 = b := z.1
        omega) (by simp) 1008 (Ev.2.2.2.2.1 1008 (by unfold fixW; omega))
    exact h1.2.fI.trans h2.2.fI
end
