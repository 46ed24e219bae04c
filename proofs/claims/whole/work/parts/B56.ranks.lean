/-! THE CLASS: persons, ranks, policies -/
def Bks (σ : am_S) (w : ow_T) (v : Nat) (X : Stx) (b : Nat) (M : mOff) (gl nu : Nat) (V : Nat × Nat × Nat × Nat × Nat) (C : Nat × Nat) : Prop := EnvR σ w v X ∧ BookR σ w b M gl nu ∧ Room σ X M nu gl V C
section
variable {nl : Bool} {Ln : Nat} {xs : Nat → Int32} {d : Nat} {σ : am_S} {w : ow_T} {b v gl nu D len n : Nat} {X : Stx} {M : mOff} {V : Nat × Nat × Nat × Nat × Nat} {Cc : Nat × Nat} {fnd : Int32} {a : mArg}
theorem DdR.a1 (h : DdR σ D 0 len n a) : am_aL σ D (1 : Int32).toNatClampNeg = a 0 := h.2.2.2.2 0 (by decide)
theorem DdR.a2 (h : DdR σ D 0 len n a) : am_aL σ D (2 : Int32).toNatClampNeg = a 1 := h.2.2.2.2 1 (by decide)
theorem DdR.a3 (h : DdR σ D 0 len n a) : am_aL σ D (3 : Int32).toNatClampNeg = a 2 := h.2.2.2.2 2 (by decide)
theorem DdR.a4 (h : DdR σ D 0 len n a) : am_aL σ D (4 : Int32).toNatClampNeg = a 3 := h.2.2.2.2 3 (by decide)
theorem DdR.r1 (h : DdR σ D 0 len n a) : am_ar σ 1001 (some D) 1 := (h.ar (j := 1) (by decide)).1
theorem DdR.r2 (h : DdR σ D 0 len n a) : am_ar σ 1001 (some D) 2 := (h.ar (j := 2) (by decide)).1
theorem DdR.r3 (h : DdR σ D 0 len n a) : am_ar σ 1001 (some D) 3 := (h.ar (j := 3) (by decide)).1
theorem DdR.r4 (h : DdR σ D 0 len n a) : am_ar σ 1001 (some D) 4 := (h.ar (j := 4) (by decide)).1
theorem nst_b (hb : 1000 ≤ b) (j : Nat) : ¬ stK (b, j) := fun z => by
  rcases z with h | h
  · have : b = 1 := h.1
    omega
  · have : b = 2 := congrArg Prod.fst h
    omega
theorem z64i : (0 : Int64).toInt = 0 := by decide
/-- numbers of the book alone have changed -/
theorem BookR.num {M1 : mOff} {fs : List Nat} {σ' : am_S} {w' : ow_T} (B : BookR σ w b M gl nu) (c : Bc b fs [] σ w σ' w') (hr : am_fR σ' 6010 b = am_fR σ 6010 b) (fr : ∀ j, j ≠ 2 → Fr σ w σ' w' (b, j)) (hN : BkN σ' b M1) (e : o_pol M1 = o_pol M ∧ o_tel M1 = o_tel M ∧ o_los M1 = o_los M ∧ o_cas M1 = o_cas M ∧ o_hel M1 = o_hel M ∧ o_log M1 = o_log M) : BookR σ' w' b M1 gl nu := by
  obtain ⟨⟨hK, hNm, hP, hL, hC, hT⟩, -, hH, ⟨lg, l1, l2⟩, ns, m1, m2⟩ := B
  obtain ⟨e1, e2, e3, e4, e5, e6⟩ := e
  unfold BookR
  rw [e1, e2, e3, e4, e5, e6]
  have hN' := hN
  unfold BkN at hN'
  rw [e1, e3, e4] at hN'
  exact ⟨⟨hK.bc c, ⟨hN'.2.1, hN'.2.2.1, hN'.2.2.2.1⟩, hP.bc c (by simp) (fun i _ => fr _ (by omega)), hL.bc c (by simp) (fun i _ => fr _ (by omega)), hC.bc c (by simp) (by simp) (by simp) (fun i _ => fr _ (by omega)), hT.bc c (by simp) hr (fr 1 (by decide))⟩, hN, hH.bc c (by simp), ⟨lg, (c.2.2.1 _ (by decide)).trans l1, l2.fr (fr 3 (by decide))⟩, ns, m1.bc c (by simp) (fun i _ => fr _ (by omega)), m2⟩
theorem Room.eq {M1 : mOff} {σ' : am_S} (R : Room σ X M nu gl V Cc) (e : o_pol M1 = o_pol M ∧ o_tel M1 = o_tel M ∧ (o_los M1).length = (o_los M).length ∧ o_cas M1 = o_cas M) (h : am_nx σ' = am_nx σ ∧ am_sl σ' = am_sl σ) : Room σ' X M1 nu gl V Cc := by
  obtain ⟨e1, e2, e3, e4⟩ := e
  unfold Room ne at R ⊢
  rw [e1, e2, e3, e4, h.1, h.2]
  exact R
theorem bk_makePerson {F : Int32 → am_S → Prop} (hb : 1189 ≤ b ∨ b = 1039) (hp : 0 ≤ (o_per M).toInt ∧ (o_per M).toInt ≤ 100) (A : Bks σ w v X b M gl nu V Cc)
    (K : ∀ r, r = (if o_per M = 100 then (-7, M, fnd) else (o_per M, m_done (m_setPer M (o_per M + 1)) 1 a [], fnd)) → ∀ ans M1 σ' w' X', Stg M fnd 1 a [] r ans M1 → Bks σ' w' v X' b M1 gl nu V Cc → Eff (bkK b v) σ w σ' w' → am_fI σ' 2001 1008 = am_fI σ 2001 1008 → F ans σ') : k_Bk_makePerson nl Ln xs (d + 1) b σ F := by
  obtain ⟨Ev, B, R⟩ := A
  have hK := B.1.1
  have e11 := B.2.1.1
  have t100 : (100 : Int32).toInt = 100 := by decide
  have one : (1 : Int32).toInt = 1 := by decide
  refine w_Bk_makePerson ⟨is_mk hK.2.1, ?_⟩
  rw [e11]
  refine ⟨fun h => ?_, fun h => ?_⟩
  · rw [i32lt, t100] at h
    have hne : ¬ o_per M = 100 := fun z => by rw [z, t100] at h; omega
    intro s3 q3
    have e3 : am_fI s3 6011 b = o_per M + 1 := by rw [q3]; exact rI_same
    rw [e3, i32as]
    have c3 : Bc b [6011] [] σ w s3 w := by rw [q3]; exact Bc.sfI (by decide)
    have E3 : Eff (fun q => q = (b, 2)) σ w s3 w := by rw [q3]; exact Eff.sfI Ev.1.1 hK.1
    have hb1 := hK.2.2.1
    have fr : ∀ j, j ≠ 2 → Fr σ w s3 w (b, j) := fun j hj => E3.bk (fun z => hj (congrArg Prod.snd z)) hb1
    have x3 : am_nx s3 = am_nx σ ∧ am_sl s3 = am_sl σ := by rw [q3]; exact ⟨rfl, rfl⟩
    refine K _ rfl _ (m_setPer M (o_per M + 1)) s3 w X (Or.inr ⟨hp.1, by rw [if_neg hne]⟩) ⟨Ev.bk E3 hb (fun q hq => by rw [hq]) (by rw [x3.1]; exact Ev.1.2), B.num c3 (by rw [q3]) fr ?_ ⟨rfl, rfl, rfl, rfl, rfl, rfl⟩, R.eq ⟨rfl, rfl, rfl, rfl⟩ x3⟩ (E3.mono (fun q hq => by rw [hq]; exact Or.inl rfl)) (by rw [q3]; exact rI_g (by decide))
    obtain ⟨h1, h2, h3, h4, h5, h6, h7, h8, h9⟩ := B.2.1
    exact ⟨e3, (c3.2.1 _ (by decide)).trans h2, (c3.2.1 _ (by decide)).trans h3, (c3.2.1 _ (by decide)).trans h4, (c3.2.1 _ (by decide)).trans h5, (c3.2.1 _ (by decide)).trans h6, (c3.2.1 _ (by decide)).trans h7, (c3.2.1 _ (by decide)).trans h8, (c3.2.1 _ (by decide)).trans h9⟩
  · rw [i32lt, t100] at h
    have he : o_per M = 100 := by rw [i32e, t100]; omega
    exact K _ rfl _ M σ w X (Or.inl ⟨by decide, by rw [if_pos he], rfl⟩) ⟨Ev, B, R⟩ (Eff.rf Ev.1.1) rfl
theorem bk_tellRank {F : Int32 → am_S → Prop} (hb : 1189 ≤ b ∨ b = 1039) (hV : Vok V) (hne : ne M ≤ 4860) (hc : m_cnt (o_tel M) 2 ≤ 60) (hD : DdR σ D 0 len 2 a) (hDw : w D ≠ (b, 2)) (A : Bks σ w v X b M gl nu V Cc)
    (K : ∀ r, r = (if ¬ (m_rg (a 0) 0 5 ∧ m_rg (a 1) 0 9) then (-2, M, fnd) else m_tellA M fnd 2 60 a [] 0 (a 0).toInt32 (a 1) [] 1) → ∀ ans M1 σ' w' X', Stg M fnd 2 a [] r ans M1 → Bks σ' w' v X' b M1 gl nu V Cc → Eff (bkK b v) σ w σ' w' → am_fI σ' 2001 1008 = am_fI σ 2001 1008 → F ans σ') : k_Bk_tellRank nl Ln xs (d + 3) b (some D) σ F := by
  obtain ⟨Ev, B, R⟩ := id A
  obtain ⟨⟨hK, hNm, hP, hL, hC, hT⟩, hN, hH, ⟨lg, lg1, lg2⟩, ns, m1, m2⟩ := id B
  obtain ⟨-, -, hb1, ⟨f0, f1, f2⟩, a4, a5, a6, a7, a8, a9⟩ := id hK
  have t6 : (6 : Int64).toInt = 6 := by decide
  have t9 : (9 : Int64).toInt = 9 := by decide
  have no : ∀ {x : Int32}, ¬ (m_rg (a 0) 0 5 ∧ m_rg (a 1) 0 9) → F (-2) σ := fun {x} h => K _ rfl _ M σ w X (Or.inl ⟨by decide, by rw [if_pos h], rfl⟩) A (Eff.rf Ev.1.1) rfl
  refine w_Bk_tellRank ?_
  rw [Option.getD_some, hD.a1, hD.a2]
  refine ⟨hD.r1, fun h => no (x := 0) (fun z => ?_), fun h1 => ⟨hD.r1, fun h2 => ⟨hD.r2, fun h => no (x := 0) (fun z => ?_), fun h3 => ⟨hD.r2, fun h => no (x := 0) (fun z => ?_), fun h4 => ?_⟩⟩, fun h => no (x := 0) (fun z => ?_)⟩⟩
  · rw [i64lt, z64i] at h
    have := z.1.1
    omega
  · rw [i64lt, z64i] at h
    have := z.2.1
    omega
  · rw [i64lt, t9] at h
    have := z.2.2
    omega
  · rw [i64lt, z64i] at h1 h3
    rw [i64lt, t6] at h2
    rw [i64lt, t9] at h4
    have hg : m_rg (a 0) 0 5 ∧ m_rg (a 1) 0 9 := ⟨⟨by omega, by omega⟩, ⟨by omega, by omega⟩⟩
    refine ⟨is_mk hK.2.1, bk_isToldOut (d := d + 1) (n := 2) (most := 60) hK hT.1 (by decide) hc (fun _ => ⟨fun h => ?_, fun h => ?_⟩)⟩
    · have hcm : m_cnt (o_tel M) (Int32.ofNat 2) = 60 := of_decide_eq_true h
      exact K _ rfl _ M σ w X (Or.inl ⟨by decide, by rw [if_neg (fun z => z hg)]; unfold m_tellA; rw [if_pos hcm], rfl⟩) A (Eff.rf Ev.1.1) rfl
    · have hcm : m_cnt (o_tel M) (Int32.ofNat 2) ≠ 60 := fun z => h (decide_eq_true z)
      rw [a7.1, Option.getD_some, show (2 : Int32).toNatClampNeg = 2 by decide, hT.1 2 (by decide), n32s]
      refine ⟨ar_mk a7.2.2 (by decide) (by decide), ar_mk a7.2.2 (by decide) (by decide), ?_⟩
      intro s7 e7
      obtain ⟨⟨o0, n0⟩, S0, R0, J0⟩ := id Ev
      have E7 : Eff (fun q => q = (b, 2)) σ w s7 w := by rw [e7]; exact Eff.saI o0 a7.2.1
      have B7 : Bc b [] [6007] σ w s7 w := by rw [e7]; exact Bc.saI hK (by decide) (by decide)
      have S7 : Stk s7 w X.1 X.2.1 X.2.2.1 X.2.2.2.1 := S0.eff E7 (fun q hq z => nst_b hb1 2 (by rw [← z]; exact hq))
      have D7 : DdR s7 D 0 len 2 a := hD.eq (by rw [e7]; exact eqc_saI (fun z => hDw (by rw [z]; exact a7.2.1)))
      have f7 : ∀ g c, am_fR s7 g c = am_fR σ g c := fun g c => by rw [e7]
      have i7 : ∀ g c, am_fI s7 g c = am_fI σ g c := fun g c => by rw [e7]
      have x7 : am_nx s7 = am_nx σ ∧ am_sl s7 = am_sl σ := by rw [e7]; exact ⟨rfl, rfl⟩
      rw [f7 6002 b, f2, Option.getD_some, f7 6010 b, i7 6015 b, hN.2.2.2.2.1, D7.a1, show am_aL s7 D 2 = a 1 from D7.a2]
      refine ⟨D7.r1, D7.r2, S7.cell, ?_⟩
      refine sk_drawEntry (d := d) (k := (b, 1)) S7 E7.1 (by rw [x7.1]; omega) (fun s12 w12 c En S12 E12 hwc nx12 sl12 _ => ?_)
      intro s14 e14
      obtain ⟨⟨c1, c2, c3⟩, c4, c5, c6, c7, c8, c9⟩ := En
      have nst := nst_b hb1
      have hwb : w12 b = (b, 2) := (E12.bk (nst 2) hb1 b hK.1).1
      have cb : c ≠ b := fun z => by
        rw [z, hwb] at c1
        exact absurd (show (2 : Nat) = 1 from congrArg Prod.snd c1) (by decide)
      have E14 : Eff (fun q => q = (b, 2)) s12 w12 s14 w12 := by rw [e14]; exact Eff.sfR E12.1 hwb
      have EE : Eff (fun q => stK q ∨ q = (b, 2)) σ w s14 w12 := ((E7.mono (fun q h => Or.inr h)).trans (E12.mono (fun q h => Or.inl h))).trans (E14.mono (fun q h => Or.inr h))
      have hKK : ∀ q, (stK q ∨ q = (b, 2)) → stK q ∨ q.1 = b := fun q h => by
        rcases h with h | h
        · exact Or.inl h
        · rw [h]; exact Or.inr rfl
      have fr : ∀ j, j ≠ 2 → Fr σ w s14 w12 (b, j) := fun j h1 => EE.bk (fun z => by
        rcases z with h | h
        · exact nst j h
        · exact h1 (congrArg Prod.snd h)) hb1
      have B12 : Bc b [] [6007] s7 w s12 w12 := Bc.of (hK.bc B7) (E12.bk (nst 2) hb1)
      have B14 : Bc b [] [6007] s12 w12 s14 w12 := by rw [e14]; exact Bc.sfR
      have Bk := (B7.trans B12).trans B14
      have r14 : ∀ g y, y ≠ b → am_fR s14 g y = am_fR s12 g y := fun g y hy => by rw [e14]; exact rR_n hy
      have i14 : ∀ g y, am_fI s14 g y = am_fI s12 g y := fun g y => by rw [e14]
      have l14 : ∀ g y, am_fL s14 g y = am_fL s12 g y := fun g y => by rw [e14]
      have kd14 : am_kd s14 = am_kd s12 := by rw [e14]
      have eT : EnT s14 w12 (b, 1) c (2, 0, (a 0).toInt32, o_now M + 1, a 1, []) := by
        refine ⟨c1, by rw [kd14]; exact c2, (i14 _ _).trans c4, (i14 _ _).trans c5, (i14 _ _).trans c6, (l14 _ _).trans c7, ?_⟩
        rw [r14 _ _ cb, c8]
        exact rfl
      have tl : ∀ i, tlP (o_tel M ++ [(2, 0, (a 0).toInt32, o_now M + 1, a 1, [])]) i = tlP (o_tel M) i := fun i => by rw [tlP_app, if_neg (fun z => z.2 rfl)]
      have tA2 : tlA (o_tel M ++ [(2, 0, (a 0).toInt32, o_now M + 1, a 1, [])]) 2 = tlA (o_tel M) 2 ++ [(2, 0, (a 0).toInt32, o_now M + 1, a 1, [])] := by rw [tlA_app, if_pos rfl]
      have nxe : am_nx s14 = am_nx σ + (if X.1 = [] then 1 else 0) := by rw [show am_nx s14 = am_nx s12 by rw [e14], nx12, x7.1]
      have sle : am_sl s14 = am_sl σ + (if X.1 = [] then 10 else 0) := by rw [show am_sl s14 = am_sl s12 by rw [e14], sl12, x7.2]
      refine K _ rfl _ (m_setTel M (o_tel M ++ [(2, 0, (a 0).toInt32, o_now M + 1, a 1, [])])) s14 w12 (X.1.tail, X.2) (Or.inr ⟨by decide, by rw [if_neg (fun z => z hg)]; unfold m_tellA; rw [if_neg hcm]; rfl⟩) ⟨eff_env Ev EE hb hKK (S12.eff E14 (fun q hq z => nst _ (by rw [← z]; exact hq))) rfl (by rw [nxe]; omega), ⟨⟨hK.bc Bk, ?_, ?_, ?_, ?_, ?_, ?_⟩, hN.bc Bk (by decide), hH.bc Bk (by decide), ⟨lg, (Bk.2.2.1 _ (by decide)).trans lg1, lg2.fr (fr 3 (by decide))⟩, ns, ?_, m2⟩, ?_⟩ (EE.mono (bkK_of hKK)) ?_
      · exact ⟨(Bk.2.1 _ (by simp)).trans hNm.1, (Bk.2.1 _ (by simp)).trans hNm.2.1, (Bk.2.1 _ (by simp)).trans hNm.2.2⟩
      · intro i q hq
        obtain ⟨q0, z1, z2⟩ := hP i q hq
        refine ⟨q0, (Bk.row (by decide) (by decide)).2.2.trans z1, ?_⟩
        show PoR s14 w12 (b, 100 + i) q0 i q (tlP (o_tel M ++ [_]) i)
        rw [tl]
        exact z2.fr (fr _ (by omega))
      · exact hL.bc Bk (by decide) (fun i _ => fr _ (by omega))
      · exact hC.bc Bk (by decide) (by decide) (by decide) (fun i _ => fr _ (by omega))
      · intro q hq
        show am_aI s14 (bA s14 b 6007) q = Int32.ofNat (m_cnt (o_tel M ++ [_]) (Int32.ofNat q))
        have e1 : am_aI s14 (bA s14 b 6007) q = am_aI s7 (bA σ b 6007) q := by
          rw [Bk.eA (by decide), e14]
          show am_aI s12 (bA σ b 6007) q = _
          exact (E12.bk (nst 2) hb1 _ a7.2.1).2.aI
        rw [e1, cnt_app, e7]
        show am_aI (am_saI σ (bA σ b 6007) 2 _) (bA σ b 6007) q = _
        rw [saI_all rfl]
        by_cases hqn : q = 2
        · rw [if_pos hqn, hqn]
          show _ = Int32.ofNat (m_cnt (o_tel M) (Int32.ofNat 2) + if (2 : Int32) = 2 then 1 else 0)
          rw [if_pos rfl]
        · rw [if_neg hqn, if_neg (fun z => hqn ?_), Nat.add_zero]
          · exact hT.1 q hq
          · have z : Int32.ofNat 2 = Int32.ofNat q := z
            rw [i32e, n32 (by omega), n32 (by omega)] at z
            omega
      · show ChT s14 w12 (b, 1) (am_fR s14 6010 b) (tlA (o_tel M ++ [_]) 2).reverse
        rw [tA2, List.reverse_append, show am_fR s14 6010 b = some c by rw [e14]; exact rR_same]
        refine ⟨c, rfl, eT, ?_⟩
        rw [r14 _ _ cb, c9]
        exact ChT.fr hT.2 (fr 1 (by decide))
      · intro i hi
        obtain ⟨y1, q0, y2, y3, y4⟩ := m1 i hi
        have e := fr (100 + i) (by omega) q0 y3
        refine ⟨y1, q0, (Bk.row (by decide) (by decide)).2.2.trans y2, e.1, ?_⟩
        show MdT s14 w12 (b, 100 + i) (tlP (o_tel M ++ [_]) i).length (am_fR s14 9004 q0) _
        rw [tl, e.2.fR]
        exact y4.fr (fr _ (by omega))
      · have hneM : ne (m_setTel M (o_tel M ++ [(2, 0, (a 0).toInt32, o_now M + 1, a 1, [])])) = ne M + 1 := by
          unfold ne
          show (tlA (o_tel M ++ [_]) 2).length + sumN (fun i => (tlP (o_tel M ++ [_]) i).length) (o_pol M).length + _ = _
          rw [tA2, sumN_congr (g := fun i => (tlP (o_tel M) i).length) (fun i _ => by rw [tl]), List.length_append, List.length_singleton]
          show _ + _ + sumN (fun i => ((o_cas M).getD i mCase0).2.2.2.2.2.length) (o_cas M).length = _
          omega
        unfold Room at R ⊢
        rw [hneM, nxe, sle]
        show (X.1.tail.length + (ne M + 1) + V.1 ≤ 9800 ∧ X.2.1.length + (o_pol M).length + V.2.1 ≤ 200 ∧ X.2.2.1.length + (o_los M).length + V.2.2.1 ≤ 400 ∧ X.2.2.2.1.length + (o_cas M).length + V.2.2.2.1 ≤ 200 ∧ X.2.2.2.2.length + nu + V.2.2.2.2 ≤ 12000) ∧ _ ≤ 1189 + (X.1.tail.length + (ne M + 1) + V.1) + (X.2.1.length + (o_pol M).length + V.2.1) + 3 * (X.2.2.1.length + (o_los M).length + V.2.2.1) + (X.2.2.2.1.length + (o_cas M).length + V.2.2.2.1) + (X.2.2.2.2.length + nu + V.2.2.2.2) + gl + Cc.1 ∧ _ ≤ 1704035 + 10 * (X.1.tail.length + (ne M + 1) + V.1) + 6 * (X.2.1.length + (o_pol M).length + V.2.1) + 28 * (X.2.2.1.length + (o_los M).length + V.2.2.1) + 8 * (X.2.2.2.1.length + (o_cas M).length + V.2.2.2.1) + 5 * (X.2.2.2.2.length + nu + V.2.2.2.2) + 128 * 2 ^ gl + Cc.2
        have hv := hV.1
        cases hX : X.1 with
        | nil =>
          rw [hX] at R
          rw [if_pos rfl, if_pos rfl]
          simp only [List.tail_nil, List.length_nil] at R ⊢
          omega
        | cons y l =>
          rw [hX] at R
          rw [if_neg (by simp), if_neg (by simp)]
          simp only [List.tail_cons, List.length_cons] at R ⊢
          omega
      · rw [i14, (E12.2 (2, 1008) (fun z => by
          rcases z with h | h
          · exact absurd h.1 (by decide)
          · exact absurd (congrArg Prod.snd h) (by decide)) (by simp) 1008 (J0.2.1 1008 (by unfold fixW; omega))).2.fI, i7]
  · rw [i64lt, t6] at h
    have := z.1.2
    omega
end
