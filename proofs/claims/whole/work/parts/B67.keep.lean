/-! THE CLASS: a fact is put to its case -/
section
variable {nl : Bool} {Ln : Nat} {xs : Nat → Int32} {d : Nat} {σ : am_S} {w : ow_T} {b v gl nu D o len n i cc : Nat} {X : Stx} {M : mOff} {V : Nat × Nat × Nat × Nat × Nat} {Cc : Nat × Nat} {fnd : Int32} {a : mArg} {x : mCase} {it : Int64}
def DdO (σ : am_S) (w : ow_T) (b D : Nat) : Prop := w D = (2, 1007) ∨ D = bA σ b 6008
def fcM (n : Nat) (a : mArg) (mom : Int32) (it : Int64) (c : mCase) : mCase := (c.1, c.2.1, c.2.2.1, c.2.2.2.1, c.2.2.2.2.1, c.2.2.2.2.2 ++ [m_factOf n a mom it])
theorem bk_keep {F : Int32 → am_S → Prop} (hb : 1189 ≤ b ∨ b = 1039) (hV : Vok V) (hne : ne M ≤ 4860) (h100 : (o_pol M).length ≤ 100) (h200 : (o_los M).length ≤ 200) (hc100 : (o_cas M).length ≤ 100) (h19 : n ≤ 19) (hia : m_ix (a 0) = i) (hi : (o_cas M)[i]? = some x) (hcc : am_aR σ (bA σ b 6006) i = some cc) (hsz : x.2.2.2.2.2.length ≤ 40) (hD : DdR σ D o len n a) (hDo : DdO σ w b D) (A : Bks σ w v X b M gl nu V Cc)
    (K1 : x.2.2.2.2.2.length = 40 → F (-7) σ)
    (K2 : x.2.2.2.2.2.length ≠ 40 → ∀ σ' w' X', Bks σ' w' v X' b (m_keep M n a it) gl nu V Cc → Eff (bkK b v) σ w σ' w' → am_fI σ' 2001 1008 = am_fI σ 2001 1008 → F 1 σ') : c_Bk_doFact_234 nl Ln xs (d + 3) b (some D) (Int32.ofNat o) (Int32.ofNat n) (some cc) (a 1).toInt32 (m_cOf n a) it σ F := by
  obtain ⟨Ev, B, R⟩ := id A
  obtain ⟨⟨hK, hNm, hP, hL, hC, hT⟩, hN, hH, ⟨lg, lg1, lg2⟩, ns, m1, m2⟩ := id B
  obtain ⟨-, -, hb1, ⟨f0, f1, f2⟩, a4, a5, a6, a7, a8, a9⟩ := id hK
  obtain ⟨c', z1, z2, z3, z4⟩ := hC i x hi
  have ecc : c' = cc := Option.some.inj (z1.symm.trans hcc)
  subst ecc
  obtain ⟨⟨y1, y2, y3⟩, y4, y5, y6, y7, y8⟩ := id z2
  have t40 : (40 : Int32).toInt = 40 := by decide
  have hil := lt_of_get hi
  refine w_Bk_doFact_234 ⟨is_mk y2, ?_⟩
  rw [Option.getD_some, y8, i32lt, n32 (by omega), t40]
  refine ⟨fun hlt => ⟨is_mk hK.2.1, ?_⟩, fun hge => K1 (by omega)⟩
  have hne40 : x.2.2.2.2.2.length ≠ 40 := by omega
  rw [hN.2.2.2.2.1]
  intro s4 e4
  obtain ⟨⟨o0, n0⟩, S0, R0, J0⟩ := id Ev
  have nst := nst_b hb1
  have E4 : Eff (fun q => q = (b, 2)) σ w s4 w := by rw [e4]; exact Eff.sfI o0 hK.1
  have B4 : Bc b [6015] [] σ w s4 w := by rw [e4]; exact Bc.sfI (by decide)
  have S4 := S0.eff E4 (fun q hq z => nst _ (by rw [← z]; exact hq))
  have wD : w D ≠ (b, 600 + i) ∧ w D ≠ (1, 1) ∧ w D ≠ (0, 0) ∧ D ≠ b := by
    rcases hDo with h | h
    · rw [h]
      refine ⟨fun z => ?_, by simp, by simp, fun z => ?_⟩
      · have : 2 = b := congrArg Prod.fst z
        omega
      · rw [z, hK.1] at h
        have : b = 2 := congrArg Prod.fst h
        omega
    · rw [h, a8.2.1]
      refine ⟨fun z => ?_, fun z => ?_, fun z => ?_, hK.nb (by decide)⟩
      · have : 2 = 600 + i := congrArg Prod.snd z
        omega
      · have : b = 1 := congrArg Prod.fst z
        omega
      · have : b = 0 := congrArg Prod.fst z
        omega
  have D4 : DdR s4 D o len n a := hD.eq (by rw [e4]; exact eqc_sfI wD.2.2.2)
  have f4 : ∀ g c, am_fR s4 g c = am_fR σ g c := fun g c => by rw [e4]
  have x4 : am_nx s4 = am_nx σ ∧ am_sl s4 = am_sl σ := by rw [e4]; exact ⟨rfl, rfl⟩
  have n4 : am_fI s4 6015 b = o_now M + 1 := by rw [e4]; exact rI_same
  have ccb : c' ≠ b := fun z => by
    rw [z, hK.1] at y1
    have : 2 = 600 + i := congrArg Prod.snd y1
    omega
  rw [f4 6002 b, f2, Option.getD_some, Option.getD_some, D4.h3, n4, f4 11005 c']
  refine ⟨D4.s3, S4.cell, ?_⟩
  refine sk_drawEntry (d := d) (k := (b, 600 + i)) S4 E4.1 (by rw [x4.1]; omega) (fun s9 w9 c En S9 E9 hwc nx9 sl9 _ => ?_)
  obtain ⟨⟨c1, c2, c3⟩, c4, c5, c6, c7, c8, c9⟩ := En
  have cD : D ≠ c := fun z => by
    rcases hwc with h | h
    · exact wD.2.1 (by rw [z]; exact h)
    · exact wD.2.2.1 (by rw [z]; exact h)
  have ccc : c' ≠ c := fun z => by
    rw [← z, y1] at hwc
    rcases hwc with h | h
    · have : b = 1 := congrArg Prod.fst h
      omega
    · have : b = 0 := congrArg Prod.fst h
      omega
  have wcc9 : w9 c' = (b, 600 + i) := (E9.bk (nst _) hb1 c' y1).1
  have D9 : DdR s9 D o len n a := by
    rcases hDo with h | h
    · exact D4.eq (E9.2 (2, 1007) (fun z => by
        rcases z with h | h
        · exact absurd h.1 (by decide)
        · exact absurd (congrArg Prod.snd h) (by decide)) (by simp) D h).2
    · exact D4.eq (E9.bk (nst 2) hb1 D (by rw [h]; exact a8.2.1)).2
  refine ⟨is_mk c2, ?_⟩
  rw [Option.getD_some]
  intro s12 e12
  have D12 : DdR s12 D o len n a := D9.eq (by rw [e12]; exact eqc_sfI cD)
  rw [D12.h4]
  refine ⟨D12.s4, ?_⟩
  intro s16 e16
  have D16 : DdR s16 D o len n a := D12.eq (by rw [e16]; exact eqc_sfI cD)
  rw [D16.h6]
  refine ⟨D16.s6, ?_⟩
  intro s20 e20 s23 e23 s26 e26 s29 e29
  have ec : ∀ y, y ≠ c → y ≠ c' → am_eqc s9 s29 y := fun y h1 h2 => by
    rw [e29, e26, e23, e20, e16, e12]
    exact (((((eqc_sfI h1).trans (eqc_sfI h1)).trans (eqc_sfI h1)).trans (eqc_sfL h1)).trans (eqc_sfR h2)).trans (eqc_sfI h2)
  have k29 : am_kd s29 = am_kd s9 ∧ am_nx s29 = am_nx s9 ∧ am_sl s29 = am_sl s9 := by rw [e29, e26, e23, e20, e16, e12]; exact ⟨rfl, rfl, rfl⟩
  have ecc9 : am_eqc s4 s9 c' := (E9.bk (nst _) hb1 c' y1).2
  have i4c : ∀ g, am_fI s4 g c' = am_fI σ g c' := fun g => by rw [e4]; exact rI_n ccb
  have icc : ∀ g, g ≠ 11006 → am_fI s29 g c' = am_fI σ g c' := fun g hg => by
    rw [e29, rI_g hg, e26]
    show am_fI s23 g c' = _
    rw [e23]
    show am_fI s20 g c' = _
    rw [e20, rI_n ccc, e16, rI_n ccc, e12, rI_n ccc, ecc9.fI, i4c]
  have rcc : ∀ g, g ≠ 11005 → am_fR s29 g c' = am_fR σ g c' := fun g hg => by
    rw [e29]
    show am_fR s26 g c' = _
    rw [e26, rR_g hg, e23]
    show am_fR s20 g c' = _
    rw [e20]
    show am_fR s16 g c' = _
    rw [e16]
    show am_fR s12 g c' = _
    rw [e12]
    show am_fR s9 g c' = _
    rw [ecc9.fR, f4]
  have r05 : am_fR s29 11005 c' = some c := by
    rw [e29]
    show am_fR s26 11005 c' = _
    rw [e26]
    exact rR_same
  have r06 : am_fI s29 11006 c' = Int32.ofNat (x.2.2.2.2.2.length + 1) := by
    rw [e29, rI_same, e26]
    show am_fI s23 11006 c' + 1 = _
    rw [e23]
    show am_fI s20 11006 c' + 1 = _
    rw [e20, rI_n ccc, e16, rI_n ccc, e12, rI_n ccc, ecc9.fI, i4c, y8, n32s]
  have w29 : ∀ {j : Nat} {y : Nat}, w9 y = (b, j) → j ≠ 600 + i → y ≠ c ∧ y ≠ c' := fun {j y} hy hj => ⟨fun z => hj (by rw [z, c1] at hy; exact (congrArg Prod.snd hy).symm), fun z => hj (by rw [z, wcc9] at hy; exact (congrArg Prod.snd hy).symm)⟩
  have E29 : Eff (fun q => q = (b, 600 + i)) s9 w9 s29 w9 := ⟨fun y hy => E9.1 y (by rw [← k29.2.1]; exact hy), fun q hq _ y hy => ⟨hy, ec y (fun z => hq (by rw [← hy, z]; exact c1)) (fun z => hq (by rw [← hy, z]; exact wcc9))⟩⟩
  have EE : Eff (fun q => stK q ∨ q = (b, 2) ∨ q = (b, 600 + i)) σ w s29 w9 := ((E4.mono (fun q h => Or.inr (Or.inl h))).trans (E9.mono (fun q h => Or.inl h))).trans (E29.mono (fun q h => Or.inr (Or.inr h)))
  have hKK : ∀ q, (stK q ∨ q = (b, 2) ∨ q = (b, 600 + i)) → stK q ∨ q.1 = b := fun q h => by
    rcases h with h | h | h
    · exact Or.inl h
    · rw [h]; exact Or.inr rfl
    · rw [h]; exact Or.inr rfl
  have fr : ∀ j, j ≠ 2 → j ≠ 600 + i → Fr σ w s29 w9 (b, j) := fun j h1 h2 => EE.bk (fun z => by
    rcases z with h | h | h
    · exact nst j h
    · exact h1 (congrArg Prod.snd h)
    · exact h2 (congrArg Prod.snd h)) hb1
  have B9 : Bc b [6015] [] s4 w s9 w9 := Bc.of (hK.bc B4) (E9.bk (nst 2) hb1)
  have B29 : Bc b [6015] [] s9 w9 s29 w9 := Bc.of ((hK.bc B4).bc B9) (E29.bk (fun z => by have : 2 = 600 + i := congrArg Prod.snd z; omega) hb1)
  have Bk := (B4.trans B9).trans B29
  -- the facts there were
  have fk : Fq σ w s29 w9 (b, 600 + i) c' := fun y hy hyc => by
    have h4 : am_eqc σ s4 y := by
      rw [e4]
      refine eqc_sfI (fun z => ?_)
      rw [z, hK.1] at hy
      have : 2 = 600 + i := congrArg Prod.snd hy
      omega
    have h9 := E9.bk (nst _) hb1 y hy
    have yc : y ≠ c := fun z => by
      rw [← z, hy] at hwc
      rcases hwc with h | h
      · have : b = 1 := congrArg Prod.fst h
        omega
      · have : b = 0 := congrArg Prod.fst h
        omega
    exact ⟨h9.1, (h4.trans h9.2).trans (ec y yc hyc)⟩
  have ic : ∀ g, g ≠ 7006 → g ≠ 7007 → g ≠ 7008 → am_fI s29 g c = am_fI s9 g c := fun g g1 g2 g3 => by
    rw [e29, rI_n (fun z => ccc z.symm), e26]
    show am_fI s23 g c = _
    rw [e23]
    show am_fI s20 g c = _
    rw [e20, rI_g g3, e16, rI_g g2, e12, rI_g g1]
  have rc : ∀ g, am_fR s29 g c = am_fR s9 g c := fun g => by
    rw [e29]
    show am_fR s26 g c = _
    rw [e26, rR_n (fun z => ccc z.symm), e23, e20, e16, e12]
  have eF : EnF s29 w9 (b, 600 + i) c (m_factOf n a (o_now M + 1) it) := by
    refine ⟨c1, by rw [k29.1]; exact c2, (ic _ (by decide) (by decide) (by decide)).trans c4, ?_, (ic _ (by decide) (by decide) (by decide)).trans c6, fun hf => ?_, fun hf => ⟨?_, ?_⟩, ?_, ?_⟩
    · rw [e29, rI_n (fun z => ccc z.symm), e26]
      show am_fI s23 7006 c = _
      rw [e23]
      show am_fI s20 7006 c = _
      rw [e20, rI_g (by decide), e16, rI_g (by decide), e12]
      exact rI_same
    · rw [ic _ (by decide) (by decide) (by decide), c5]
      have hn : n = 12 ∨ n = 15 ∨ n = 16 ∨ n = 17 := by
        have key : ∀ {m : Nat}, m < 100 → Int32.ofNat n = Int32.ofNat m → n = m := fun hm h => by
          rw [i32e, n32 (by omega), n32 (by omega)] at h
          omega
        rcases hf with h | h | h | h
        · exact Or.inl (key (m := 12) (by decide) h)
        · exact Or.inr (Or.inl (key (m := 15) (by decide) h))
        · exact Or.inr (Or.inr (Or.inl (key (m := 16) (by decide) h)))
        · exact Or.inr (Or.inr (Or.inr (key (m := 17) (by decide) h)))
      exact (if_pos hn).symm
    · have hn : n = 16 := by
        have hf : Int32.ofNat n = Int32.ofNat 16 := hf
        rw [i32e, n32 (by omega), n32 (by omega)] at hf
        omega
      rw [e29, rI_n (fun z => ccc z.symm), e26]
      show am_fI s23 7007 c = _
      rw [e23]
      show am_fI s20 7007 c = _
      rw [e20, rI_g (by decide), e16, rI_same]
      exact (if_pos hn).symm
    · have hn : n = 16 := by
        have hf : Int32.ofNat n = Int32.ofNat 16 := hf
        rw [i32e, n32 (by omega), n32 (by omega)] at hf
        omega
      rw [e29, rI_n (fun z => ccc z.symm), e26]
      show am_fI s23 7008 c = _
      rw [e23]
      show am_fI s20 7008 c = _
      rw [e20, rI_same]
      exact (if_pos hn).symm
    · rw [e29]
      show am_fL s26 7003 c = _
      rw [e26]
      show am_fL s23 7003 c = _
      rw [e23, rL_g (by decide), e20]
      show am_fL s16 7003 c = _
      rw [e16]
      show am_fL s12 7003 c = _
      rw [e12]
      exact c7
    · rw [e29]
      show am_fL s26 7009 c = _
      rw [e26]
      show am_fL s23 7009 c = _
      rw [e23]
      exact rL_same
  have hne8 : am_kd σ c' ≠ (8, 0) := by rw [y2]; decide
  have emo : (o_cas M).modify (m_ix (a 0)) (fcM n a (o_now M + 1) it) = o_cas (m_keep M n a it) := rfl
  have nxe : am_nx s29 = am_nx σ + (if X.1 = [] then 1 else 0) := by rw [k29.2.1, nx9, x4.1]
  have sle : am_sl s29 = am_sl σ + (if X.1 = [] then 10 else 0) := by rw [k29.2.2, sl9, x4.2]
  have lmod : (o_cas (m_keep M n a it)).length = (o_cas M).length := by rw [← emo, List.length_modify]
  refine K2 hne40 s29 w9 (X.1.tail, X.2) ⟨eff_env Ev EE hb hKK (S9.eff E29 (fun q hq z => nst _ (by rw [← z]; exact hq))) rfl (by rw [nxe]; omega), ⟨⟨hK.bc Bk, ⟨(Bk.2.1 _ (by decide)).trans hNm.1, (Bk.2.1 _ (by decide)).trans hNm.2.1, by rw [lmod]; exact (Bk.2.1 _ (by decide)).trans hNm.2.2⟩, hP.bc Bk (by simp) (fun j hj => fr _ (by omega) (by omega)), hL.bc Bk (by simp) (fun j hj => fr _ (by omega) (by omega)), ?_, hT.bc Bk (by simp) ?_ (fr 1 (by decide) (by omega))⟩, ?_, hH.bc Bk (by simp), ⟨lg, (Bk.2.2.1 _ (by decide)).trans lg1, lg2.fr (fr 3 (by decide) (by omega))⟩, ns, m1.bc Bk (by simp) (fun j hj => fr _ (by omega) (by omega)), m2⟩, ?_⟩ (EE.mono (bkK_of hKK)) (i2001 Ev EE hb hKK)
  · intro j x' hx'
    rw [← emo, hia] at hx'
    rcases get_mod hx' with ⟨rfl, x0, hx0, rfl⟩ | ⟨hne', hx0⟩
    · have ex : x0 = x := Option.some.inj (hx0.symm.trans hi)
      subst ex
      refine ⟨c', (Bk.row (by decide) (by simp)).2.2.trans hcc, ⟨⟨wcc9, by rw [k29.1, ecc9.kd, e4]; exact y2, ?_⟩, y4, (icc _ (by decide)).trans y5, (icc _ (by decide)).trans y6, (icc _ (by decide)).trans y7, ?_⟩, ?_, ?_⟩
      · show ChF s29 w9 _ (am_fR s29 11005 c') (x0.2.2.2.2.2 ++ [_]).reverse
        rw [List.reverse_append, r05]
        refine ⟨c, rfl, eF, ?_⟩
        rw [rc, c9]
        exact y3.fq fk hne8
      · show am_fI s29 11006 c' = Int32.ofNat (x0.2.2.2.2.2 ++ [_]).length
        rw [len_app]
        exact r06
      · rw [rcc _ (by decide), z3]
        exact (Bk.row (by decide) (by simp)).2.2.symm
      · rw [rcc _ (by decide), z4]
        exact (Bk.row (by decide) (by simp)).2.2.symm
    · obtain ⟨q0, q1, q2, q3, q4⟩ := hC j x' hx0
      have fi := fr (600 + j) (by omega) (by omega)
      have e := (fi q0 q2.1.1).2
      refine ⟨q0, (Bk.row (by decide) (by simp)).2.2.trans q1, q2.fr fi, ?_, ?_⟩
      · rw [e.fR, q3]
        exact (Bk.row (by decide) (by simp)).2.2.symm
      · rw [e.fR, q4]
        exact (Bk.row (by decide) (by simp)).2.2.symm
  · rw [(E29.bk (fun z => by have : 2 = 600 + i := congrArg Prod.snd z; omega) hb1 b (E9.bk (nst 2) hb1 b hK.1).1).2.fR, (E9.bk (nst 2) hb1 b hK.1).2.fR, f4]
  · obtain ⟨h1, h2, h3, h4, h5, h6, h7, h8, h9⟩ := hN
    have e15 : am_fI s29 6015 b = o_now M + 1 := by
      rw [(E29.bk (fun z => by have : 2 = 600 + i := congrArg Prod.snd z; omega) hb1 b (E9.bk (nst 2) hb1 b hK.1).1).2.fI, (E9.bk (nst 2) hb1 b hK.1).2.fI, n4]
    exact ⟨(Bk.2.1 _ (by decide)).trans h1, (Bk.2.1 _ (by decide)).trans h2, (Bk.2.1 _ (by decide)).trans h3, by rw [lmod]; exact (Bk.2.1 _ (by decide)).trans h4, e15, (Bk.2.1 _ (by decide)).trans h6, (Bk.2.1 _ (by decide)).trans h7, (Bk.2.1 _ (by decide)).trans h8, (Bk.2.1 _ (by decide)).trans h9⟩
  · have hneM : ne (m_keep M n a it) = ne M + 1 := by
      unfold ne
      rw [lmod]
      have e1 : sumN (fun j => ((o_cas (m_keep M n a it)).getD j mCase0).2.2.2.2.2.length) (o_cas M).length = sumN (fun j => ((o_cas M).getD j mCase0).2.2.2.2.2.length) (o_cas M).length + 1 := by
        refine sumN_upd (p := i) hil ?_ (fun j hj hne' => ?_)
        · rw [← emo, hia, List.getD_eq_getElem?_getD, List.getElem?_modify_eq, hi, List.getD_eq_getElem?_getD, hi]
          show (x.2.2.2.2.2 ++ [_]).length = x.2.2.2.2.2.length + 1
          rw [len_app]
        · rw [← emo, hia, List.getD_eq_getElem?_getD, List.getElem?_modify_ne _ _ (fun z => hne' z.symm), ← List.getD_eq_getElem?_getD]
      rw [e1]
      rfl
    unfold Room at R ⊢
    rw [hneM, nxe, sle, lmod]
    show (X.1.tail.length + (ne M + 1) + V.1 ≤ 9800 ∧ X.2.1.length + (o_pol M).length + V.2.1 ≤ 200 ∧ X.2.2.1.length + (o_los M).length + V.2.2.1 ≤ 400 ∧ X.2.2.2.1.length + (o_cas M).length + V.2.2.2.1 ≤ 200 ∧ X.2.2.2.2.length + nu + V.2.2.2.2 ≤ 12000) ∧ _ ≤ 1189 + (X.1.tail.length + (ne M + 1) + V.1) + (X.2.1.length + (o_pol M).length + V.2.1) + 3 * (X.2.2.1.length + (o_los M).length + V.2.2.1) + (X.2.2.2.1.length + (o_cas M).length + V.2.2.2.1) + (X.2.2.2.2.length + nu + V.2.2.2.2) + gl + Cc.1 ∧ _ ≤ 1704035 + 10 * (X.1.tail.length + (ne M + 1) + V.1) + 6 * (X.2.1.length + (o_pol M).length + V.2.1) + 28 * (X.2.2.1.length + (o_los M).length + V.2.2.1) + 8 * (X.2.2.2.1.length + (o_cas M).length + V.2.2.2.1) + 5 * (X.2.2.2.2.length + nu + V.2.2.2.2) + 128 * 2 ^ gl + Cc.2
    have hv := hV.1
    cases hX : X.1 with
    | nil =>
      rw [hX] at R
      rw [if_pos rfl, if_pos rfl]
      simp only [List.tail_nil, List.length_nil] at R ⊢
      omega
    | cons y l =>
      rw [hX] at R
      rw [if_neg (by simp), if_neg (by simp)]
      simp only [List.tail_cons, List.length_cons] at R ⊢
      omega
end
