/-! THE CLASS: losses, parts -/
section
variable {nl : Bool} {Ln : Nat} {xs : Nat → Int32} {d : Nat} {σ : am_S} {w : ow_T} {b v gl nu D len n : Nat} {X : Stx} {M : mOff} {V : Nat × Nat × Nat × Nat × Nat} {Cc : Nat × Nat} {fnd : Int32} {a : mArg}
theorem i2001 {K : Nat × Nat → Prop} {σ' : am_S} {w' : ow_T} (Ev : EnvR σ w v X) (E : Eff K σ w σ' w') (hb : 1189 ≤ b ∨ b = 1039) (hK : ∀ q, K q → stK q ∨ q.1 = b) : am_fI σ' 2001 1008 = am_fI σ 2001 1008 := (E.2 (2, 1008) (fun z => by
  rcases hK _ z with h | h
  · rcases h with h | h
    · exact absurd h.1 (by decide)
    · exact absurd (congrArg Prod.snd h) (by decide)
  · have : 2 = b := h
    omega) (by simp) 1008 (Ev.2.2.2.2.1 1008 (by unfold fixW; omega))).2.fI
theorem bk_addLoss {kind day hund : Int32} {wc wu : Option Nat} {F : Int32 → am_S → Prop} (hb : 1189 ≤ b ∨ b = 1039) (hV : Vok V) (h200 : (o_los M).length ≤ 200) (hWl : ∀ (i : Nat) (l : mLoss), (o_los M)[i]? = some l → ∀ u, l.2.2.1 = some u → u < i) (hWc : ∀ x ∈ o_cas M, x.2.2.1 < (o_los M).length) (hwc : wc = (match wu with
    | none => none
    | some u => am_aR σ (bA σ b 6005) u)) (hwu : ∀ u, wu = some u → u < (o_los M).length) (A : Bks σ w v X b M gl nu V Cc)
    (K : ∀ ans M1 σ' w' X', Stg M fnd n a [] (m_addLoss M fnd n a kind day wu hund) ans M1 → Bks σ' w' v X' b M1 gl nu V Cc → Eff (bkK b v) σ w σ' w' → am_fI σ' 2001 1008 = am_fI σ 2001 1008 → F ans σ') : k_Bk_addLoss nl Ln xs (d + 3) b kind day wc hund σ F := by
  have A0 := A
  obtain ⟨Ev, B, R⟩ := A
  obtain ⟨⟨hK, hNm, hP, hL, hC, hT⟩, hN, hH, ⟨lg, lg1, lg2⟩, ns, m1, m2⟩ := id B
  obtain ⟨-, -, hb1, ⟨f0, f1, f2⟩, a4, a5, a6, a7, a8, a9⟩ := id hK
  have t200 : (200 : Int32).toInt = 200 := by decide
  refine w_Bk_addLoss ⟨is_mk hK.2.1, ?_⟩
  rw [hNm.2.1, i32lt, n32 (by omega), t200]
  refine ⟨fun h6 => ?_, fun h6 => ?_⟩
  · have hlt : (o_los M).length < 200 := by omega
    obtain ⟨⟨o0, n0⟩, S0, R0, J0⟩ := id Ev
    rw [f2, Option.getD_some]
    refine ⟨S0.cell, ?_⟩
    refine sk_drawLoss (d := d) (k := (b, 300 + (o_los M).length)) S0 o0 (by omega) (fun s12 w12 c sr mr Ln1 S12 E12 nx12 sl12 _ => ?_)
    obtain ⟨⟨⟨c1, c2, c3⟩, ⟨s1, s2, s3⟩, y1, y2, y3⟩, c4, c5, c6, c7, c8, c9, c10, c11⟩ := Ln1
    have nst := nst_b hb1
    have fb := E12.bk (nst 2) hb1
    have ix : 0 ≤ (Int32.ofNat (o_los M).length).toInt ∧ (Int32.ofNat (o_los M).length).toInt < 200 := by rw [n32 (by omega)]; omega
    rw [a5.1, Option.getD_some, n32c (by omega)]
    refine ⟨ar_mk ((fb _ a5.2.1).2.kd.trans a5.2.2) ix.1 ix.2, fun x hx => by rw [← Option.some.inj hx, c2], ?_⟩
    intro s14 e14 s17 e17
    have B12 : Bc b [6013] [6005] σ w s12 w12 := Bc.of hK fb
    have K12 := hK.bc B12
    have eA12 : bA s12 b 6005 = bA σ b 6005 := B12.eA (by decide)
    have B14 : Bc b [6013] [6005] s12 w12 s14 w12 := by
      rw [e14, ← eA12]
      exact Bc.saR K12 (by decide) (by decide)
    have B17 : Bc b [6013] [6005] s14 w12 s17 w12 := by rw [e17]; exact Bc.sfI (by decide)
    have Bk := (B12.trans B14).trans B17
    have wA : w12 (bA σ b 6005) = (b, 2) := (fb _ a5.2.1).1
    have wb : w12 b = (b, 2) := (fb b hK.1).1
    have E14 : Eff (fun q => q = (b, 2)) s12 w12 s14 w12 := by rw [e14]; exact Eff.saR E12.1 wA
    have E17 : Eff (fun q => q = (b, 2)) s14 w12 s17 w12 := by rw [e17]; exact Eff.sfI E14.1 wb
    have EE : Eff (fun q => stK q ∨ q = (b, 2)) σ w s17 w12 := ((E12.mono (fun q h => Or.inl h)).trans (E14.mono (fun q h => Or.inr h))).trans (E17.mono (fun q h => Or.inr h))
    have hKK : ∀ q, (stK q ∨ q = (b, 2)) → stK q ∨ q.1 = b := fun q h => by
      rcases h with h | h
      · exact Or.inl h
      · rw [h]; exact Or.inr rfl
    have fr : ∀ j, j ≠ 2 → Fr σ w s17 w12 (b, j) := fun j h1 => EE.bk (fun z => by
      rcases z with h | h
      · exact nst j h
      · exact h1 (congrArg Prod.snd h)) hb1
    have e12 : am_fI s14 6013 b = Int32.ofNat (o_los M).length := by rw [e14]; exact (fb b hK.1).2.fI.trans hNm.2.1
    have e1712 : am_fI s17 6013 b = Int32.ofNat ((o_los M).length + 1) := by rw [e17, rI_same, e12, n32s]
    have ne2 : ∀ x, w12 x = (b, 300 + (o_los M).length) → x ≠ b ∧ x ≠ bA σ b 6005 := fun x hx => ⟨fun z => by
      rw [z, wb] at hx
      have : 2 = 300 + (o_los M).length := congrArg Prod.snd hx
      omega, fun z => by
      rw [z, wA] at hx
      have : 2 = 300 + (o_los M).length := congrArg Prod.snd hx
      omega⟩
    have eq17 : ∀ x, w12 x = (b, 300 + (o_los M).length) → am_eqc s12 s17 x := fun x hx => by
      rw [e17, e14]
      exact (eqc_saR (ne2 x hx).2).trans (eqc_sfI (ne2 x hx).1)
    have ec := eq17 c c1
    have es := eq17 sr s2
    have em := eq17 mr y2
    have row : ∀ i, am_aR s17 (bA s17 b 6005) i = if i = (o_los M).length then some c else am_aR σ (bA σ b 6005) i := fun i => by
      rw [Bk.eA (by decide), e17]
      show am_aR s14 (bA σ b 6005) i = _
      rw [e14, saR_all rfl]
      by_cases h : i = (o_los M).length
      · rw [if_pos h, if_pos h]
      · rw [if_neg h, if_neg h]
        exact (fb _ a5.2.1).2.aR
    have ans : am_fI s17 6013 b - 1 = Int32.ofNat (o_los M).length := by rw [e1712, ← n32s, i32as]
    rw [ans]
    have nxe : am_nx s17 = am_nx σ + (if X.2.2.1 = [] then 3 else 0) := by rw [show am_nx s17 = am_nx s12 by rw [e17, e14], nx12]
    have sle : am_sl s17 = am_sl σ + (if X.2.2.1 = [] then 28 else 0) := by rw [show am_sl s17 = am_sl s12 by rw [e17, e14], sl12]
    have wrow : ∀ u, u < (o_los M).length → am_aR s17 (bA s17 b 6005) u = am_aR σ (bA σ b 6005) u := fun u hu => by rw [row, if_neg (by omega)]
    refine K _ (m_setLos M (o_los M ++ [(kind, day, wu, hund, false, [])])) s17 w12 (X.1, X.2.1, X.2.2.1.tail, X.2.2.2) (Or.inr ⟨ix.1, by unfold m_addLoss; rw [if_neg (by omega)]⟩) ⟨eff_env Ev EE hb hKK ((S12.eff E14 (fun q hq z => nst _ (by rw [← z]; exact hq))).eff E17 (fun q hq z => nst _ (by rw [← z]; exact hq))) rfl (by rw [nxe]; omega), ⟨⟨hK.bc Bk, ⟨(Bk.2.1 _ (by decide)).trans hNm.1, ?_, (Bk.2.1 _ (by decide)).trans hNm.2.2⟩, hP.bc Bk (by decide) (fun i _ => fr _ (by omega)), ?_, ?_, hT.bc Bk (by decide) ?_ (fr 1 (by decide))⟩, ?_, hH.bc Bk (by decide), ⟨lg, (Bk.2.2.1 _ (by decide)).trans lg1, lg2.fr (fr 3 (by decide))⟩, ns, m1.bc Bk (by decide) (fun i _ => fr _ (by omega)), m2⟩, ?_⟩ (EE.mono (bkK_of hKK)) (i2001 Ev EE hb hKK)
    · show am_fI s17 6013 b = Int32.ofNat (o_los M ++ [_]).length
      rw [len_app]
      exact e1712
    · intro i l hl
      rcases get_app hl with hl | ⟨rfl, rfl⟩
      · obtain ⟨q0, z1, z2, z3⟩ := hL i l hl
        have hi := lt_of_get hl
        have fi := fr (300 + i) (by omega)
        refine ⟨q0, by rw [wrow i hi]; exact z1, z2.fr fi, ?_⟩
        rw [(fi q0 z2.1).2.fR, z3]
        cases hlu : l.2.2.1 with
        | none => rfl
        | some u =>
          have := hWl i l hl u hlu
          exact (wrow u (by omega)).symm
      · refine ⟨c, by rw [row, if_pos rfl], ⟨c1, ec.kd.trans c2, c3, ec.fI.trans c4, ec.fI.trans c5, ec.fI.trans c6, ec.fI.trans c8, ec.fI.trans c9, ec.fI.trans c10, ⟨sr, ec.fR.trans s1, s2, es.kd.trans s3, fun j x hx => absurd hx (by simp)⟩, mr, ec.fR.trans y1, y2, em.kd.trans y3, fun j x hx => absurd hx (by simp), fun j _ hj => ⟨em.aL.trans (c11 _ (by omega)), em.aL.trans (c11 _ (by omega))⟩⟩, ?_⟩
        rw [ec.fR, c7, hwc]
        show _ = (match wu with
          | none => none
          | some u => am_aR s17 (bA s17 b 6005) u)
        cases wu with
        | none => rfl
        | some u => exact (wrow u (hwu u rfl)).symm
    · intro i x hx
      obtain ⟨q0, z1, z2, z3, z4⟩ := hC i x hx
      have fi := fr (600 + i) (by omega)
      have e := (fi q0 z2.1.1).2
      refine ⟨q0, (Bk.row (by decide) (by decide)).2.2.trans z1, z2.fr fi, ?_, ?_⟩
      · rw [e.fR, z3]
        exact (Bk.row (by decide) (by decide)).2.2.symm
      · rw [e.fR, z4]
        exact (wrow _ (hWc x (List.mem_of_getElem? hx))).symm
    · rw [e17, e14]
      exact (fb b hK.1).2.fR
    · obtain ⟨h1, h2, h3, h4, h5, h6, h7, h8, h9⟩ := hN
      exact ⟨(Bk.2.1 _ (by decide)).trans h1, (Bk.2.1 _ (by decide)).trans h2, by show am_fI s17 6013 b = Int32.ofNat (o_los M ++ [_]).length; rw [len_app]; exact e1712, (Bk.2.1 _ (by decide)).trans h4, (Bk.2.1 _ (by decide)).trans h5, (Bk.2.1 _ (by decide)).trans h6, (Bk.2.1 _ (by decide)).trans h7, (Bk.2.1 _ (by decide)).trans h8, (Bk.2.1 _ (by decide)).trans h9⟩
    · unfold Room at R ⊢
      rw [show ne (m_setLos M (o_los M ++ [(kind, day, wu, hund, false, [])])) = ne M from rfl, nxe, sle]
      show (X.1.length + ne M + V.1 ≤ 9800 ∧ X.2.1.length + (o_pol M).length + V.2.1 ≤ 200 ∧ X.2.2.1.tail.length + (o_los M ++ [_]).length + V.2.2.1 ≤ 400 ∧ X.2.2.2.1.length + (o_cas M).length + V.2.2.2.1 ≤ 200 ∧ X.2.2.2.2.length + nu + V.2.2.2.2 ≤ 12000) ∧ _ ≤ 1189 + (X.1.length + ne M + V.1) + (X.2.1.length + (o_pol M).length + V.2.1) + 3 * (X.2.2.1.tail.length + (o_los M ++ [_]).length + V.2.2.1) + (X.2.2.2.1.length + (o_cas M).length + V.2.2.2.1) + (X.2.2.2.2.length + nu + V.2.2.2.2) + gl + Cc.1 ∧ _ ≤ 1704035 + 10 * (X.1.length + ne M + V.1) + 6 * (X.2.1.length + (o_pol M).length + V.2.1) + 28 * (X.2.2.1.tail.length + (o_los M ++ [_]).length + V.2.2.1) + 8 * (X.2.2.2.1.length + (o_cas M).length + V.2.2.2.1) + 5 * (X.2.2.2.2.length + nu + V.2.2.2.2) + 128 * 2 ^ gl + Cc.2
      rw [len_app]
      have hv := hV.2.2.1
      cases hX : X.2.2.1 with
      | nil =>
        rw [hX] at R
        rw [if_pos rfl, if_pos rfl]
        simp only [List.tail_nil, List.length_nil] at R ⊢
        omega
      | cons y l =>
        rw [hX] at R
        rw [if_neg (by simp), if_neg (by simp)]
        simp only [List.tail_cons, List.length_cons] at R ⊢
        omega
  · exact K _ M σ w X (Or.inl ⟨by decide, by unfold m_addLoss; rw [if_pos (by omega)], rfl⟩) A0 (Eff.rf Ev.1.1) rfl
theorem bk_makeLoss {F : Int32 → am_S → Prop} (hb : 1189 ≤ b ∨ b = 1039) (hV : Vok V) (h200 : (o_los M).length ≤ 200) (hWl : ∀ (i : Nat) (l : mLoss), (o_los M)[i]? = some l → ∀ u, l.2.2.1 = some u → u < i) (hWc : ∀ x ∈ o_cas M, x.2.2.1 < (o_los M).length) (hD : DdR σ D 0 len 8 a) (A : Bks σ w v X b M gl nu V Cc)
    (K : ∀ r, r = (if ¬ (m_rg (a 0) 0 4 ∧ m_rg (a 1) 0 10949) then (-2, M, fnd) else m_addLoss M fnd 8 a (a 0).toInt32 (a 1).toInt32 none 0) → ∀ ans M1 σ' w' X', Stg M fnd 8 a [] r ans M1 → Bks σ' w' v X' b M1 gl nu V Cc → Eff (bkK b v) σ w σ' w' → am_fI σ' 2001 1008 = am_fI σ 2001 1008 → F ans σ') : k_Bk_makeLoss nl Ln xs (d + 4) b (some D) σ F := by
  have A0 := A
  obtain ⟨Ev, B, R⟩ := A
  have t4 : (4 : Int64).toInt = 4 := by decide
  have tD : (10949 : Int64).toInt = 10949 := by decide
  have no : ¬ (m_rg (a 0) 0 4 ∧ m_rg (a 1) 0 10949) → F (-2) σ := fun h => K _ rfl _ M σ w X (Or.inl ⟨by decide, by rw [if_pos h], rfl⟩) A0 (Eff.rf Ev.1.1) rfl
  have hday : ∀ x : Int64, (¬ (x < 0) ∧ ¬ (10949 < x)) ↔ m_rg x 0 10949 := fun x => by
    unfold m_rg
    rw [i64lt, i64lt, z64i, tD]
    omega
  refine w_Bk_makeLoss ?_
  rw [Option.getD_some, hD.a1, hD.a2]
  refine ⟨hD.r1, fun h => no (fun z => ?_), fun h0 => ⟨hD.r1, fun h => no (fun z => ?_), fun h4 => ⟨hD.r2, w_Co_isDay (fun _ => ⟨fun h => ?_, fun h => no (fun z => h (decide_eq_true ((hday _).mpr z.2)))⟩)⟩⟩⟩
  · rw [i64lt, z64i] at h
    have := z.1.1
    omega
  · rw [i64lt, t4] at h
    have := z.1.2
    omega
  · have h := (hday _).mp (of_decide_eq_true h)
    rw [i64lt, z64i] at h0
    rw [i64lt, t4] at h4
    have hg : m_rg (a 0) 0 4 ∧ m_rg (a 1) 0 10949 := ⟨⟨by omega, by omega⟩, h⟩
    rw [hD.a1, hD.a2]
    refine ⟨hD.r1, hD.r2, is_mk B.1.1.2.1, ?_⟩
    refine bk_addLoss (d := d) (wu := none) (n := 8) (a := a) (fnd := fnd) hb hV h200 hWl hWc rfl (fun u hu => absurd hu (by simp)) A0 (fun ans M1 σ' w' X' S' A' E' f' _ => K _ rfl ans M1 σ' w' X' ?_ A' E' f')
    rw [if_neg (fun z => z hg)]
    exact S'
theorem bk_makePart {F : Int32 → am_S → Prop} (hb : 1189 ≤ b ∨ b = 1039) (hV : Vok V) (wl : WfLL (o_los M)) (hWc : ∀ x ∈ o_cas M, x.2.2.1 < (o_los M).length) (hD : DdR σ D 0 len 9 a) (A : Bks σ w v X b M gl nu V Cc)
    (K : ∀ r, r = (if ¬ ((0 ≤ (a 0).toInt ∧ (a 0).toInt < (o_los M).length) ∧ m_rg (a 1) 1 100) then (-2, M, fnd) else if m_parts5 (o_los M) 4 (m_ix (a 0)) = 4 then (-3, M, fnd) else m_addLoss M fnd 9 a 5 ((o_los M).getD (m_ix (a 0)) mLoss0).2.1 (some (m_ix (a 0))) (a 1).toInt32) → ∀ ans M1 σ' w' X', Stg M fnd 9 a [] r ans M1 → Bks σ' w' v X' b M1 gl nu V Cc → Eff (bkK b v) σ w σ' w' → am_fI σ' 2001 1008 = am_fI σ 2001 1008 → F ans σ') : k_Bk_makePart nl Ln xs (d + 4) b (some D) σ F := by
  have A0 := A
  obtain ⟨Ev, B, R⟩ := A
  have t1 : (1 : Int64).toInt = 1 := by decide
  have t100 : (100 : Int64).toInt = 100 := by decide
  have hWl : ∀ (i : Nat) (l : mLoss), (o_los M)[i]? = some l → ∀ u, l.2.2.1 = some u → u < i := fun i l hl => (wl.2.1 i l hl).2.1
  have no : ¬ ((0 ≤ (a 0).toInt ∧ (a 0).toInt < (o_los M).length) ∧ m_rg (a 1) 1 100) → F (-2) σ := fun h => K _ rfl _ M σ w X (Or.inl ⟨by decide, by rw [if_pos h], rfl⟩) A0 (Eff.rf Ev.1.1) rfl
  refine w_Bk_makePart ⟨hD.r1, is_mk B.1.1.2.1, ?_⟩
  rw [Option.getD_some, hD.a1]
  refine bk_lossAt B.1 wl.1 (fun h _ => ⟨fun _ => no (fun z => h z.1), fun z => absurd rfl z⟩) (fun lc l h hl hlc hLs _ => ⟨fun z => absurd z (by simp), fun _ => ⟨hD.r2, ?_⟩⟩)
  rw [hD.a2]
  refine ⟨fun h1 => no (fun z => ?_), fun h1 => ⟨hD.r2, fun h2 => no (fun z => ?_), fun h2 => ⟨is_mk hLs.2.1, ?_⟩⟩⟩
  · rw [i64lt, t1] at h1
    have := z.2.1
    omega
  · rw [i64lt, t100] at h2
    have := z.2.2
    omega
  · rw [i64lt, t1] at h1
    rw [i64lt, t100] at h2
    have hg : (0 ≤ (a 0).toInt ∧ (a 0).toInt < (o_los M).length) ∧ m_rg (a 1) 1 100 := ⟨h, by omega, by omega⟩
    have hi := lt_of_get hl
    have p4 : m_parts5 (o_los M) 4 (m_ix (a 0)) ≤ 4 := by
      have : ∀ (f i : Nat), m_parts5 (o_los M) f i ≤ f := by
        intro f
        induction f with
        | zero => intro i; exact Nat.le_refl _
        | succ f ih =>
          intro i
          unfold m_parts5
          split
          · omega
          · rename_i u _
            have := ih u
            omega
      exact this 4 _
    rw [Option.getD_some]
    refine ls_parts (d := d + 2) B.1 wl hi hlc (fun _ => ?_)
    rw [show (4 : Int32) = Int32.ofNat 4 from rfl, n32lt (by omega) (by omega)]
    refine ⟨fun h4 => ⟨hD.r2, ?_⟩, fun h4 => ?_⟩
    · have gl0 : (o_los M).getD (m_ix (a 0)) mLoss0 = l := getD_of mLoss0 hl
      rw [hLs.2.2.2.2.2.1, ← gl0, hD.a2]
      refine bk_addLoss (d := d) (wu := some (m_ix (a 0))) (n := 9) (a := a) (fnd := fnd) hb hV wl.1 hWl hWc hlc.symm (fun u hu => by rw [← Option.some.inj hu]; exact hi) A0 (fun ans M1 σ' w' X' S' A' E' f' _ => K _ rfl ans M1 σ' w' X' ?_ A' E' f')
      rw [if_neg (fun z => z hg), if_neg (by omega)]
      exact S'
    · exact K _ rfl _ M σ w X (Or.inl ⟨by decide, by rw [if_neg (fun z => z hg), if_pos (by omega)], rfl⟩) A0 (Eff.rf Ev.1.1) rfl
end
