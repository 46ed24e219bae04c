/-! THE CLASS: a case -/
section
variable {nl : Bool} {Ln : Nat} {xs : Nat → Int32} {d : Nat} {σ : am_S} {w : ow_T} {b v gl nu D len n : Nat} {X : Stx} {M : mOff} {V : Nat × Nat × Nat × Nat × Nat} {Cc : Nat × Nat} {fnd : Int32} {a : mArg}
def ntM (l : mLoss) : mLoss := (l.1, l.2.1, l.2.2.1, l.2.2.2.1, true, l.2.2.2.2.2)
def csM (M : mOff) (a : mArg) : mOff := m_setLos (m_setCas M (o_cas M ++ [(m_ix (a 0), (a 1).toInt32, m_ix (a 2), (a 3).toInt32, o_now M + 1, [])])) ((o_los M).modify (m_base (o_los M) (m_ix (a 2))) ntM)
theorem bk_makeCase {F : Int32 → am_S → Prop} (hb : 1189 ≤ b ∨ b = 1039) (hV : Vok V) (h100 : (o_pol M).length ≤ 100) (wl : WfLL (o_los M)) (hc100 : (o_cas M).length ≤ 100) (hWc : ∀ x ∈ o_cas M, x.2.2.1 < (o_los M).length ∧ 0 ≤ x.2.2.2.1.toInt) (hDw : w D = (2, 1007)) (hD : DdR σ D 0 len 11 a) (A : Bks σ w v X b M gl nu V Cc)
    (K : ∀ r, r = (if ¬ (m_isPol (o_pol M) (a 0) ∧ (if ((o_pol M).getD (m_ix (a 0)) mPol0).1 = 6 then m_rg (a 1) 0 3 else a 1 = -1) ∧ (0 ≤ (a 2).toInt ∧ (a 2).toInt < (o_los M).length) ∧ m_rg (a 3) 0 10949) then (-2, M, fnd)
    else if (a 3).toInt < ((o_los M).getD (m_ix (a 2)) mLoss0).2.1.toInt ∨ ((o_cas M) ≠ [] ∧ (a 3).toInt < ((o_cas M).getD ((o_cas M).length - 1) mCase0).2.2.2.1.toInt) then (-4, M, fnd)
    else if (o_cas M).length = 100 then (-7, M, fnd)
    else (Int32.ofNat (o_cas M).length, m_done (csM M a) 11 a [], fnd)) → ∀ ans M1 σ' w' X', Stg M fnd 11 a [] r ans M1 → Bks σ' w' v X' b M1 gl nu V Cc → Eff (bkK b v) σ w σ' w' → am_fI σ' 2001 1008 = am_fI σ 2001 1008 → F ans σ') : k_Bk_makeCase nl Ln xs (d + 3) b (some D) σ F := by
  have A0 := A
  obtain ⟨Ev, B, R⟩ := A
  have t4 : (4 : Int64).toInt = 4 := by decide
  have tD : (10949 : Int64).toInt = 10949 := by decide
  have hday : ∀ x : Int64, (¬ (x < 0) ∧ ¬ (10949 < x)) ↔ m_rg x 0 10949 := fun x => by
    unfold m_rg
    rw [i64lt, i64lt, z64i, tD]
    omega
  obtain ⟨⟨hK, hNm, hP, hL, hC, hT⟩, hN, hH, ⟨lg, lg1, lg2⟩, ns, m1, m2⟩ := id B
  obtain ⟨-, -, hb1, ⟨f0, f1, f2⟩, a4, a5, a6, a7, a8, a9⟩ := id hK
  have no : ¬ (m_isPol (o_pol M) (a 0) ∧ (if ((o_pol M).getD (m_ix (a 0)) mPol0).1 = 6 then m_rg (a 1) 0 3 else a 1 = -1) ∧ (0 ≤ (a 2).toInt ∧ (a 2).toInt < (o_los M).length) ∧ m_rg (a 3) 0 10949) → F (-2) σ := fun h => K _ rfl _ M σ w X (Or.inl ⟨by decide, by rw [if_pos h], rfl⟩) A0 (Eff.rf Ev.1.1) rfl
  refine w_Bk_makeCase ⟨hD.r1, is_mk hK.2.1, ?_⟩
  rw [Option.getD_some, hD.a1]
  refine bk_policyAt B.1 h100 (fun h _ => ⟨hD.r3, ?_⟩) (fun pc q h hq hpc hPo _ => ⟨hD.r3, ?_⟩)
  · exact bk_lossAt B.1 wl.1 (fun _ _ => ⟨fun _ => no (fun z => h z.1), fun z => absurd rfl z⟩) (fun _ _ _ _ _ _ _ => ⟨fun _ => no (fun z => h z.1), fun z => absurd rfl z⟩)
  rw [hD.a3]
  refine bk_lossAt B.1 wl.1 (fun h2 _ => ⟨fun z => absurd z (by simp), fun _ => ⟨fun _ => no (fun z => h2 z.2.2.1), fun z => absurd rfl z⟩⟩) (fun lc l h2 hl hlc hLs _ => ⟨fun z => absurd z (by simp), fun _ => ⟨fun z => absurd z (by simp), fun _ => ⟨hD.r4, w_Co_isDay (fun _ => ⟨fun h3 => ?_, fun h3 => ?_⟩)⟩⟩⟩)
  · rw [hD.a4] at h3
    have h3 := (hday _).mp (of_decide_eq_true h3)
    have gq : (o_pol M).getD (m_ix (a 0)) mPol0 = q := getD_of mPol0 hq
    have gl0 : (o_los M).getD (m_ix (a 2)) mLoss0 = l := getD_of mLoss0 hl
    subst gq
    subst gl0
    rw [Option.getD_some, hPo.2.2.2.2.1, hD.a2]
    refine ⟨is_mk hPo.2.1, fun _ => hD.r2, fun _ _ => hD.r2, fun _ => hD.r2, ?_⟩
    have hpl : ((((o_pol M).getD (m_ix (a 0)) mPol0).1 = 6 ∧ (¬ (a 1 < 0) ∧ (a 1 < 4))) ∨ (¬ ((o_pol M).getD (m_ix (a 0)) mPol0).1 = 6 ∧ (a 1 = -1))) ↔ (if ((o_pol M).getD (m_ix (a 0)) mPol0).1 = 6 then m_rg (a 1) 0 3 else a 1 = -1) := by
      by_cases h6 : ((o_pol M).getD (m_ix (a 0)) mPol0).1 = 6
      · rw [if_pos h6]
        unfold m_rg
        rw [i64lt, i64lt, z64i, t4]
        constructor
        · intro z
          rcases z with z | z
          · omega
          · exact absurd h6 z.1
        · intro z
          exact Or.inl ⟨h6, by omega⟩
      · rw [if_neg h6]
        constructor
        · intro z
          rcases z with z | z
          · exact absurd z.1 h6
          · exact z.2
        · intro z
          exact Or.inr ⟨h6, z⟩
    by_cases hp : ((((o_pol M).getD (m_ix (a 0)) mPol0).1 = 6 ∧ (¬ (a 1 < 0) ∧ (a 1 < 4))) ∨ (¬ ((o_pol M).getD (m_ix (a 0)) mPol0).1 = 6 ∧ (a 1 = -1)))
    · rw [if_pos hp]
      have hg : m_isPol (o_pol M) (a 0) ∧ (if ((o_pol M).getD (m_ix (a 0)) mPol0).1 = 6 then m_rg (a 1) 0 3 else a 1 = -1) ∧ (0 ≤ (a 2).toInt ∧ (a 2).toInt < (o_los M).length) ∧ m_rg (a 3) 0 10949 := ⟨h, hpl.mp hp, h2, h3⟩
      have d3 : (a 3).toInt32.toInt = (a 3).toInt := t32 (by omega) (by omega)
      have late : (a 3).toInt < ((o_los M).getD (m_ix (a 2)) mLoss0).2.1.toInt ∨ ((o_cas M) ≠ [] ∧ (a 3).toInt < ((o_cas M).getD ((o_cas M).length - 1) mCase0).2.2.2.1.toInt) → F (-4) σ := fun hd => K _ rfl _ M σ w X (Or.inl ⟨by decide, by rw [if_neg (fun z => z hg), if_pos hd], rfl⟩) A0 (Eff.rf Ev.1.1) rfl
      refine w_Bk_makeCase_86 ⟨fun z => absurd z (by decide), fun _ => ⟨hD.r4, ?_⟩⟩
      rw [Option.getD_some, hD.a4]
      rintro v3 rfl
      rw [Option.getD_some, hLs.2.2.2.2.2.1, hNm.2.2]
      have z0 : (0 : Int32).toInt = 0 := by decide
      have t100 : (100 : Int32).toInt = 100 := by decide
      -- it is made
      have go : ¬ ((a 3).toInt < ((o_los M).getD (m_ix (a 2)) mLoss0).2.1.toInt ∨ ((o_cas M) ≠ [] ∧ (a 3).toInt < ((o_cas M).getD ((o_cas M).length - 1) mCase0).2.2.2.1.toInt)) → c_Bk_makeCase_140 nl Ln xs (d + 3) b (some D) (some pc) (some lc) 1 (a 3).toInt32 σ F := by
        intro hd
        refine w_Bk_makeCase_140 ⟨is_mk hK.2.1, ?_⟩
        rw [hNm.2.2, i32lt, n32 (by omega), t100, Option.getD_some]
        refine ⟨fun h6 => ⟨is_mk hLs.2.1, ?_⟩, fun h6 => ?_⟩
        · refine ls_base (d := d + 1) B.1 wl (lt_of_get hl) hlc (fun bc hbl hbc _ => ?_)
          obtain ⟨bc', zb1, zb2, zb3⟩ := hL _ _ (getD_some mLoss0 hbl)
          have ebc : bc' = bc := Option.some.inj (zb1.symm.trans hbc)
          subst ebc
          obtain ⟨k0, hk0⟩ : ∃ k0, k0 = m_base (o_los M) (m_ix (a 2)) := ⟨_, rfl⟩
          rw [← hk0] at hbl hbc zb1 zb2 zb3
          refine ⟨is_mk zb2.2.1, ?_⟩
          rw [Option.getD_some]
          intro s7 e7
          have o0 := Ev.1.1
          have E7 : Eff (fun q => q = (b, 300 + k0)) σ w s7 w := by rw [e7]; exact Eff.sfI o0 zb2.1
          have nst := nst_b hb1
          have S7 := Ev.2.1.eff E7 (fun q hq z => nst _ (by rw [← z]; exact hq))
          have bcb : b ≠ bc' := fun z => by
            have := zb2.1
            rw [← z, hK.1] at this
            have : 2 = 300 + k0 := congrArg Prod.snd this
            omega
          have bcD : D ≠ bc' := fun z => by
            have := zb2.1
            rw [← z, hDw] at this
            have : 2 = b := congrArg Prod.fst this
            omega
          have D7 : DdR s7 D 0 len 11 a := hD.eq (by rw [e7]; exact eqc_sfI bcD)
          have f7 : ∀ g c, am_fR s7 g c = am_fR σ g c := fun g c => by rw [e7]
          have i7 : ∀ g, am_fI s7 g b = am_fI σ g b := fun g => by rw [e7]; exact rI_n bcb
          have x7 : am_nx s7 = am_nx σ ∧ am_sl s7 = am_sl σ := by rw [e7]; exact ⟨rfl, rfl⟩
          rw [f7 6002 b, f2, Option.getD_some, Option.getD_some, D7.a2, i7 6015, hN.2.2.2.2.1, f7 6006 b, a6.1, Option.getD_some, i7 6014, hNm.2.2, n32c (by omega)]
          refine ⟨D7.r2, S7.cell, ?_⟩
          refine sk_drawCase (d := d) (k := (b, 600 + (o_cas M).length)) S7 E7.1 (by rw [x7.1]; have := Ev.1.2; omega) (fun s12 w12 c Cn S12 E12 hwc nx12 sl12 _ => ?_)
          obtain ⟨⟨c1, c2, c3⟩, c4, c5, c6, c7, c8, c9, c10⟩ := Cn
          have fb7 : Fr σ w s7 w (b, 2) := E7.bk (fun z => by have : 2 = 300 + k0 := congrArg Prod.snd z; omega) hb1
          have fb12 := E12.bk (nst 2) hb1
          have fb := fb7.trans fb12
          have ix : 0 ≤ (Int32.ofNat (o_cas M).length).toInt ∧ (Int32.ofNat (o_cas M).length).toInt < 100 := by rw [n32 (by omega)]; omega
          refine ⟨ar_mk ((fb _ a6.2.1).2.kd.trans a6.2.2) ix.1 ix.2, fun x hx => by rw [← Option.some.inj hx, c2], ?_⟩
          intro s14 e14 s17 e17
          have B12 : Bc b [6014] [6006] σ w s12 w12 := Bc.of hK fb
          have K12 := hK.bc B12
          have eA12 : bA s12 b 6006 = bA σ b 6006 := B12.eA (by decide)
          have B14 : Bc b [6014] [6006] s12 w12 s14 w12 := by
            rw [e14, ← eA12]
            exact Bc.saR K12 (by decide) (by decide)
          have B17 : Bc b [6014] [6006] s14 w12 s17 w12 := by rw [e17]; exact Bc.sfI (by decide)
          have Bk := (B12.trans B14).trans B17
          have wA : w12 (bA σ b 6006) = (b, 2) := (fb _ a6.2.1).1
          have wb : w12 b = (b, 2) := (fb b hK.1).1
          have E14 : Eff (fun q => q = (b, 2)) s12 w12 s14 w12 := by rw [e14]; exact Eff.saR E12.1 wA
          have E17 : Eff (fun q => q = (b, 2)) s14 w12 s17 w12 := by rw [e17]; exact Eff.sfI E14.1 wb
          have EE : Eff (fun q => stK q ∨ q = (b, 2) ∨ q = (b, 300 + k0)) σ w s17 w12 := (((E7.mono (fun q h => Or.inr (Or.inr h))).trans (E12.mono (fun q h => Or.inl h))).trans (E14.mono (fun q h => Or.inr (Or.inl h)))).trans (E17.mono (fun q h => Or.inr (Or.inl h)))
          have hKK : ∀ q, (stK q ∨ q = (b, 2) ∨ q = (b, 300 + k0)) → stK q ∨ q.1 = b := fun q h => by
            rcases h with h | h | h
            · exact Or.inl h
            · rw [h]; exact Or.inr rfl
            · rw [h]; exact Or.inr rfl
          have fr : ∀ j, j ≠ 2 → j ≠ 300 + k0 → Fr σ w s17 w12 (b, j) := fun j h1 h2 => EE.bk (fun z => by
            rcases z with h | h | h
            · exact nst j h
            · exact h1 (congrArg Prod.snd h)
            · exact h2 (congrArg Prod.snd h)) hb1
          have hk200 : k0 < 200 := by have := wl.1; omega
          have e12 : am_fI s14 6014 b = Int32.ofNat (o_cas M).length := by rw [e14]; exact (fb b hK.1).2.fI.trans hNm.2.2
          have e1712 : am_fI s17 6014 b = Int32.ofNat ((o_cas M).length + 1) := by rw [e17, rI_same, e12, n32s]
          have ne2 : ∀ {j x : Nat}, j ≠ 2 → w12 x = (b, j) → x ≠ b ∧ x ≠ bA σ b 6006 := fun {j x} hj hx => ⟨fun z => by
            rw [z, wb] at hx
            exact hj (congrArg Prod.snd hx).symm, fun z => by
            rw [z, wA] at hx
            exact hj (congrArg Prod.snd hx).symm⟩
          have eq17 : ∀ {j x : Nat}, j ≠ 2 → w12 x = (b, j) → am_eqc s12 s17 x := fun {j x} hj hx => by
            rw [e17, e14]
            exact (eqc_saR (ne2 hj hx).2).trans (eqc_sfI (ne2 hj hx).1)
          have ec := eq17 (j := 600 + (o_cas M).length) (by omega) c1
          have row : ∀ i, am_aR s17 (bA s17 b 6006) i = if i = (o_cas M).length then some c else am_aR σ (bA σ b 6006) i := fun i => by
            rw [Bk.eA (by decide), e17]
            show am_aR s14 (bA σ b 6006) i = _
            rw [e14, saR_all rfl]
            by_cases h : i = (o_cas M).length
            · rw [if_pos h, if_pos h]
            · rw [if_neg h, if_neg h]
              exact (fb _ a6.2.1).2.aR
          have ans : am_fI s17 6014 b - 1 = Int32.ofNat (o_cas M).length := by rw [e1712, ← n32s, i32as]
          rw [ans]
          have nxe : am_nx s17 = am_nx σ + (if X.2.2.2.1 = [] then 1 else 0) := by rw [show am_nx s17 = am_nx s12 by rw [e17, e14], nx12, x7.1]
          have sle : am_sl s17 = am_sl σ + (if X.2.2.2.1 = [] then 8 else 0) := by rw [show am_sl s17 = am_sl s12 by rw [e17, e14], sl12, x7.2]
          refine K _ rfl _ (csM M a) s17 w12 (X.1, X.2.1, X.2.2.1, X.2.2.2.1.tail, X.2.2.2.2) (Or.inr ⟨ix.1, by rw [if_neg (fun z => z hg), if_neg hd, if_neg (by omega)]⟩) ⟨eff_env Ev EE hb hKK ((S12.eff E14 (fun q hq z => nst _ (by rw [← z]; exact hq))).eff E17 (fun q hq z => nst _ (by rw [← z]; exact hq))) rfl (by rw [nxe]; have := Ev.1.2; omega), ⟨⟨hK.bc Bk, ⟨(Bk.2.1 _ (by decide)).trans hNm.1, ?_, ?_⟩, hP.bc Bk (by decide) (fun i _ => fr _ (by omega) (by omega)), ?_, ?_, hT.bc Bk (by decide) ?_ (fr 1 (by decide) (by omega))⟩, ?_, hH.bc Bk (by decide), ⟨lg, (Bk.2.2.1 _ (by decide)).trans lg1, lg2.fr (fr 3 (by decide) (by omega))⟩, ns, m1.bc Bk (by decide) (fun i _ => fr _ (by omega) (by omega)), m2⟩, ?_⟩ (EE.mono (bkK_of hKK)) (i2001 Ev EE hb hKK)
          · show am_fI s17 6013 b = Int32.ofNat ((o_los M).modify _ _).length
            rw [List.length_modify]
            exact (Bk.2.1 _ (by decide)).trans hNm.2.1
          · show am_fI s17 6014 b = Int32.ofNat (o_cas M ++ [_]).length
            rw [len_app]
            exact e1712
          · intro i l' hl'
            rcases get_mod hl' with ⟨hik, l0, hl0, rfl⟩ | ⟨hne, hl0⟩
            · rw [← hk0] at hik hl0
              subst hik
              have el0 : (o_los M).getD i mLoss0 = l0 := getD_of mLoss0 hl0
              rw [el0] at zb2 zb3
              obtain ⟨q1, q2, q3, q4, q5, q6, q7, q8, q9, ⟨sr, s1, s2, s3, s4⟩, mr, y1, y2, y3, y4, y5⟩ := zb2
              have g7 : ∀ x, x ≠ bc' → am_eqc σ s7 x := fun x hx => by rw [e7]; exact eqc_sfI hx
              have w12k : ∀ {x : Nat}, w x = (b, 300 + i) → w12 x = (b, 300 + i) := fun {x} hx => (E12.bk (nst _) hb1 x hx).1
              have e12 : ∀ {x : Nat}, w x = (b, 300 + i) → am_eqc s7 s17 x := fun {x} hx => (E12.bk (nst _) hb1 x hx).2.trans (eq17 (by omega) (w12k hx))
              have eb := e12 q1
              have srb : sr ≠ bc' := fun z => by rw [z, q2] at s3; simp at s3
              have mrb : mr ≠ bc' := fun z => by rw [z, q2] at y3; simp at y3
              have es := (g7 sr srb).trans (e12 s2)
              have em := (g7 mr mrb).trans (e12 y2)
              have kb : am_kd s17 bc' = am_kd σ bc' := eb.kd.trans (by rw [e7])
              have ib : ∀ g, g ≠ 10008 → am_fI s17 g bc' = am_fI σ g bc' := fun g hg => eb.fI.trans (by rw [e7]; exact rI_g hg)
              have rb : ∀ g, am_fR s17 g bc' = am_fR σ g bc' := fun g => eb.fR.trans (f7 _ _)
              refine ⟨bc', (Bk.row (by decide) (by decide)).2.2.trans hbc, ⟨w12k q1, kb.trans q2, q3, (ib _ (by decide)).trans q4, (ib _ (by decide)).trans q5, (ib _ (by decide)).trans q6, (ib _ (by decide)).trans q7, (ib _ (by decide)).trans q8, ?_, ⟨sr, (rb _).trans s1, w12k s2, es.kd.trans s3, fun j x hx => es.aI.trans (s4 j x hx)⟩, mr, (rb _).trans y1, w12k y2, em.kd.trans y3, fun j x hx => ⟨em.aL.trans (y4 j x hx).1, em.aL.trans (y4 j x hx).2⟩, fun j h1 h2 => ⟨em.aL.trans (y5 j h1 h2).1, em.aL.trans (y5 j h1 h2).2⟩⟩, ?_⟩
              · rw [eb.fI, e7]
                exact rI_same
              · rw [rb, zb3]
                show _ = (match l0.2.2.1 with
                  | none => none
                  | some u => am_aR s17 (bA s17 b 6005) u)
                cases l0.2.2.1 with
                | none => rfl
                | some u => exact (Bk.row (by decide) (by decide)).2.2.symm
            · obtain ⟨c', z1, z2, z3⟩ := hL i l' hl0
              have fi := fr (300 + i) (by omega) (by omega)
              refine ⟨c', (Bk.row (by decide) (by decide)).2.2.trans z1, z2.fr fi, ?_⟩
              rw [(fi c' z2.1).2.fR, z3]
              cases l'.2.2.1 with
              | none => rfl
              | some u => exact (Bk.row (by decide) (by decide)).2.2.symm
          · intro i x hx
            rcases get_app hx with hx | ⟨rfl, rfl⟩
            · obtain ⟨q0, z1, z2, z3, z4⟩ := hC i x hx
              have fi := fr (600 + i) (by omega) (by omega)
              have e := (fi q0 z2.1.1).2
              refine ⟨q0, by rw [row, if_neg (by have := lt_of_get hx; omega)]; exact z1, z2.fr fi, ?_, ?_⟩
              · rw [e.fR, z3]
                exact (Bk.row (by decide) (by decide)).2.2.symm
              · rw [e.fR, z4]
                exact (Bk.row (by decide) (by decide)).2.2.symm
            · refine ⟨c, by rw [row, if_pos rfl], ⟨⟨c1, ec.kd.trans c2, by rw [ec.fR, c9]; exact rfl⟩, c3, ec.fI.trans c5, ec.fI.trans c7, ec.fI.trans c8, ec.fI.trans c10⟩, ?_, ?_⟩
              · rw [ec.fR, c4]
                exact ((Bk.row (by decide) (by decide)).2.2.trans hpc).symm
              · rw [ec.fR, c6]
                exact ((Bk.row (by decide) (by decide)).2.2.trans hlc).symm
          · rw [e17, e14]
            exact (fb b hK.1).2.fR
          · obtain ⟨h1, h2, h3, h4, h5, h6, h7, h8, h9⟩ := hN
            exact ⟨(Bk.2.1 _ (by decide)).trans h1, (Bk.2.1 _ (by decide)).trans h2, by show am_fI s17 6013 b = Int32.ofNat ((o_los M).modify _ _).length; rw [List.length_modify]; exact (Bk.2.1 _ (by decide)).trans h3, by show am_fI s17 6014 b = Int32.ofNat (o_cas M ++ [_]).length; rw [len_app]; exact e1712, (Bk.2.1 _ (by decide)).trans h5, (Bk.2.1 _ (by decide)).trans h6, (Bk.2.1 _ (by decide)).trans h7, (Bk.2.1 _ (by decide)).trans h8, (Bk.2.1 _ (by decide)).trans h9⟩
          · have hneM : ne (csM M a) = ne M := by
              unfold ne
              have hcs : o_cas (csM M a) = o_cas M ++ [(m_ix (a 0), (a 1).toInt32, m_ix (a 2), (a 3).toInt32, o_now M + 1, [])] := rfl
              rw [hcs, len_app, sumN]
              have e1 : sumN (fun i => ((o_cas M ++ [(m_ix (a 0), (a 1).toInt32, m_ix (a 2), (a 3).toInt32, o_now M + 1, [])]).getD i mCase0).2.2.2.2.2.length) (o_cas M).length = sumN (fun i => ((o_cas M).getD i mCase0).2.2.2.2.2.length) (o_cas M).length := sumN_congr (fun i hi => by
                rw [List.getD_eq_getElem?_getD, List.getElem?_append_left hi, ← List.getD_eq_getElem?_getD])
              rw [e1]
              have e2 : ((o_cas M ++ [(m_ix (a 0), (a 1).toInt32, m_ix (a 2), (a 3).toInt32, o_now M + 1, [])]).getD (o_cas M).length mCase0).2.2.2.2.2.length = 0 := by
                rw [List.getD_eq_getElem?_getD, List.getElem?_append_right (Nat.le_refl _), Nat.sub_self]
                rfl
              rw [e2]
              rfl
            unfold Room at R ⊢
            rw [hneM, nxe, sle]
            show (X.1.length + ne M + V.1 ≤ 9800 ∧ X.2.1.length + (o_pol M).length + V.2.1 ≤ 200 ∧ X.2.2.1.length + ((o_los M).modify _ _).length + V.2.2.1 ≤ 400 ∧ X.2.2.2.1.tail.length + (o_cas M ++ [_]).length + V.2.2.2.1 ≤ 200 ∧ X.2.2.2.2.length + nu + V.2.2.2.2 ≤ 12000) ∧ _ ≤ 1189 + (X.1.length + ne M + V.1) + (X.2.1.length + (o_pol M).length + V.2.1) + 3 * (X.2.2.1.length + ((o_los M).modify _ _).length + V.2.2.1) + (X.2.2.2.1.tail.length + (o_cas M ++ [_]).length + V.2.2.2.1) + (X.2.2.2.2.length + nu + V.2.2.2.2) + gl + Cc.1 ∧ _ ≤ 1704035 + 10 * (X.1.length + ne M + V.1) + 6 * (X.2.1.length + (o_pol M).length + V.2.1) + 28 * (X.2.2.1.length + ((o_los M).modify _ _).length + V.2.2.1) + 8 * (X.2.2.2.1.tail.length + (o_cas M ++ [_]).length + V.2.2.2.1) + 5 * (X.2.2.2.2.length + nu + V.2.2.2.2) + 128 * 2 ^ gl + Cc.2
            rw [len_app, List.length_modify]
            have hv := hV.2.2.2
            cases hX : X.2.2.2.1 with
            | nil =>
              rw [hX] at R
              rw [if_pos rfl, if_pos rfl]
              simp only [List.tail_nil, List.length_nil] at R ⊢
              omega
            | cons y l =>
              rw [hX] at R
              rw [if_neg (by simp), if_neg (by simp)]
              simp only [List.tail_cons, List.length_cons] at R ⊢
              omega
        · exact K _ rfl _ M σ w X (Or.inl ⟨by decide, by rw [if_neg (fun z => z hg), if_neg hd, if_pos (by omega)], rfl⟩) A0 (Eff.rf Ev.1.1) rfl
      refine ⟨is_mk hLs.2.1, fun h4 => late (Or.inl (by rw [i32lt, d3] at h4; exact h4)), fun h4 => ⟨is_mk hK.2.1, fun h5 => ?_, fun h5 => go (fun z => ?_)⟩⟩
      · rw [i32lt, n32 (by omega), z0] at h5
        obtain ⟨k1, hk1⟩ : ∃ k1, (o_cas M).length = k1 + 1 := ⟨(o_cas M).length - 1, by omega⟩
        have hl1 : k1 < (o_cas M).length := by omega
        obtain ⟨cl, q1, q2, -⟩ := hC k1 _ (getD_some mCase0 hl1)
        rw [hk1, n32m, a6.1, Option.getD_some, n32c (by omega), q1, Option.getD_some, q2.2.2.2.1]
        have hne : o_cas M ≠ [] := fun z => by rw [z] at hk1; simp at hk1
        refine ⟨ar_mk a6.2.2 (by rw [n32 (by omega)]; omega) (by rw [n32 (by omega)]; omega), is_mk q2.1.2.1, fun h6 => late (Or.inr ⟨hne, ?_⟩), fun h6 => go (fun z => ?_)⟩
        · rw [i32lt, d3] at h6
          rw [hk1]
          exact h6
        · rw [i32lt, d3] at h4 h6
          rcases z with z | z
          · exact h4 z
          · rw [hk1] at z
            exact h6 z.2
      · rw [i32lt, n32 (by omega), z0] at h5
        rw [i32lt, d3] at h4
        rcases z with z | z
        · exact h4 z
        · exact z.1 (List.length_eq_zero_iff.mp (by omega))
    · rw [if_neg hp]
      exact w_Bk_makeCase_86 ⟨fun _ => no (fun z => hp (hpl.mpr z.2.1)), fun z => absurd rfl z⟩
  · rw [hD.a4] at h3
    exact no (fun z => h3 (decide_eq_true ((hday _).mpr z.2.2.2)))
end
