/-! THE CLASS: items, cases -/
section
variable {nl : Bool} {Ln : Nat} {xs : Nat → Int32} {d : Nat} {σ : am_S} {w : ow_T} {b v gl nu D len n : Nat} {X : Stx} {M : mOff} {V : Nat × Nat × Nat × Nat × Nat} {Cc : Nat × Nat} {fnd : Int32} {a : mArg}
def itM (a : mArg) (l : mLoss) : mLoss := (l.1, l.2.1, l.2.2.1, l.2.2.2.1, l.2.2.2.2.1, l.2.2.2.2.2 ++ [((a 1).toInt32, a 2, a 3)])
theorem get_last {α : Type} {l : List α} {x y : α} (h : (l ++ [x])[l.length]? = some y) : y = x := by
  rw [List.getElem?_append_right (Nat.le_refl _), Nat.sub_self] at h
  exact (Option.some.inj h).symm
theorem bk_makeItem {F : Int32 → am_S → Prop} (hb : 1189 ≤ b ∨ b = 1039) (h100 : (o_pol M).length ≤ 100) (wl : WfLL (o_los M)) (hDw : w D = (2, 1007)) (hD : DdR σ D 0 len 10 a) (A : Bks σ w v X b M gl nu V Cc)
    (K : ∀ r, r = (if ¬ ((0 ≤ (a 0).toInt ∧ (a 0).toInt < (o_los M).length) ∧ ((o_los M).getD (m_ix (a 0)) mLoss0).1 ≠ 5 ∧ m_rg (a 1) 0 9 ∧ m_rg (a 2) 0 1000000000000 ∧ m_rg (a 3) 0 1000000000000) then (-2, M, fnd)
    else if ((o_los M).getD (m_ix (a 0)) mLoss0).2.2.2.2.1 = true then (-3, M, fnd)
    else if (m_items (o_los M) (m_ix (a 0))).length = 6 then (-7, M, fnd)
    else (Int32.ofNat ((m_items (o_los M) (m_ix (a 0))).length + 1), m_done (m_setLos M ((o_los M).modify (m_ix (a 0)) (itM a))) 10 a [], fnd)) → ∀ ans M1 σ' w' X', Stg M fnd 10 a [] r ans M1 → Bks σ' w' v X' b M1 gl nu V Cc → Eff (bkK b v) σ w σ' w' → am_fI σ' 2001 1008 = am_fI σ 2001 1008 → F ans σ') : k_Bk_makeItem nl Ln xs (d + 2) b (some D) σ F := by
  have A0 := A
  obtain ⟨Ev, B, R⟩ := A
  have t9 : (9 : Int64).toInt = 9 := by decide
  have t12 : (1000000000000 : Int64).toInt = 1000000000000 := by decide
  have hmon : ∀ x : Int64, (¬ (x < 0) ∧ ¬ (1000000000000 < x)) ↔ m_rg x 0 1000000000000 := fun x => by
    unfold m_rg
    rw [i64lt, i64lt, z64i, t12]
    omega
  have hsort : (¬ (a 1 < 0) ∧ ¬ (9 < a 1)) ↔ m_rg (a 1) 0 9 := by
    unfold m_rg
    rw [i64lt, i64lt, z64i, t9]
    omega
  have no : ¬ ((0 ≤ (a 0).toInt ∧ (a 0).toInt < (o_los M).length) ∧ ((o_los M).getD (m_ix (a 0)) mLoss0).1 ≠ 5 ∧ m_rg (a 1) 0 9 ∧ m_rg (a 2) 0 1000000000000 ∧ m_rg (a 3) 0 1000000000000) → F (-2) σ := fun h => K _ rfl _ M σ w X (Or.inl ⟨by decide, by rw [if_pos h], rfl⟩) A0 (Eff.rf Ev.1.1) rfl
  refine w_Bk_makeItem ⟨hD.r1, is_mk B.1.1.2.1, ?_⟩
  rw [Option.getD_some, hD.a1]
  refine bk_lossAt B.1 wl.1 (fun h _ => ⟨hD.r2, fun _ => hD.r2, w_Bk_makeItem_31 ⟨fun _ => no (fun z => h z.1), fun z => absurd rfl z⟩⟩) (fun lc l h hl hlc hLs _ => ⟨hD.r2, fun _ => hD.r2, w_Bk_makeItem_31 ⟨fun z => absurd z (by simp), fun _ => ⟨is_mk hLs.2.1, ?_⟩⟩⟩)
  have gl0 : (o_los M).getD (m_ix (a 0)) mLoss0 = l := getD_of mLoss0 hl
  subst gl0
  obtain ⟨q1, q2, q3, q4, q5, q6, q7, q8, q9, ⟨sr, s1, s2, s3, s4⟩, mr, y1, y2, y3, y4, y5⟩ := id hLs
  rw [Option.getD_some, Option.getD_some, q5, hD.a2]
  refine ⟨fun h5 => no (fun z => z.2.1 h5), fun h5 => ⟨fun hs => no (fun z => ?_), fun hs => ⟨hD.r3, w_Co_isMoney (fun _ => ⟨fun hm => ⟨hD.r4, ?_⟩, fun hm => ?_⟩)⟩⟩⟩
  · rw [if_pos (hsort.mpr z.2.2.1)] at hs
    exact absurd hs (by decide)
  · have hs : m_rg (a 1) 0 9 := by
      by_cases z : (¬ (a 1 < 0) ∧ ¬ (9 < a 1))
      · exact hsort.mp z
      · rw [if_neg z] at hs
        exact absurd rfl hs
    rw [hD.a3] at hm
    have hm := (hmon _).mp (of_decide_eq_true hm)
    rw [hD.a4]
    refine w_Co_isMoney (fun _ => ⟨fun hn => ?_, fun hn => no (fun z => hn (decide_eq_true ((hmon _).mpr z.2.2.2.2)))⟩)
    have hn := (hmon _).mp (of_decide_eq_true hn)
    have hg : (0 ≤ (a 0).toInt ∧ (a 0).toInt < (o_los M).length) ∧ ((o_los M).getD (m_ix (a 0)) mLoss0).1 ≠ 5 ∧ m_rg (a 1) 0 9 ∧ m_rg (a 2) 0 1000000000000 ∧ m_rg (a 3) 0 1000000000000 := ⟨h, h5, hs, hm, hn⟩
    rw [q9, q8]
    refine ⟨fun hnot => ?_, fun hnot => ?_⟩
    · have hnf : ((o_los M).getD (m_ix (a 0)) mLoss0).2.2.2.2.1 = false := by
        cases hb : ((o_los M).getD (m_ix (a 0)) mLoss0).2.2.2.2.1 with
        | false => rfl
        | true => rw [hb] at hnot; exact absurd hnot (by decide)
      have h6 : ((o_los M).getD (m_ix (a 0)) mLoss0).2.2.2.2.2.length ≤ 6 := (wl.2.1 _ _ hl).2.2.2
      obtain ⟨it, hit⟩ : ∃ it, it = ((o_los M).getD (m_ix (a 0)) mLoss0).2.2.2.2.2 := ⟨_, rfl⟩
      have emi : m_items (o_los M) (m_ix (a 0)) = it := hit.symm
      rw [← hit] at h6 q8 s4 y4 y5 ⊢
      rintro v14 rfl
      rw [show (6 : Int32) = Int32.ofNat 6 from rfl, n32lt (by omega) (by omega)]
      refine ⟨fun hlt => ⟨hD.r2, ?_⟩, fun hlt => ?_⟩
      · have nb : ∀ {x : Nat}, w x = (b, 300 + m_ix (a 0)) → x ≠ D := fun {x} hx z => by
          rw [z, hDw] at hx
          have : 2 = b := congrArg Prod.fst hx
          omega
        have i2 : (2 * Int32.ofNat it.length) = Int32.ofNat (2 * it.length) := by
          rw [i32e, i32mul (by rw [n32 (by omega), show (2 : Int32).toInt = 2 by decide]; omega) (by rw [n32 (by omega), show (2 : Int32).toInt = 2 by decide]; omega), n32 (by omega), n32 (by omega), show (2 : Int32).toInt = 2 by decide]
          omega
        rw [s1, Option.getD_some, n32c (by omega), hD.a2]
        refine ⟨ar_mk s3 (by rw [n32 (by omega)]; omega) (by rw [n32 (by omega)]; omega), ?_⟩
        intro s19 e19
        have D19 : DdR s19 D 0 len 10 a := hD.eq (by rw [e19]; exact eqc_saI (fun z => nb s2 z.symm))
        rw [show am_fR s19 10006 lc = some mr by rw [e19]; exact y1, Option.getD_some, i2, n32c (by omega), D19.a3]
        refine ⟨D19.r3, ar_mk (by rw [e19]; exact y3) (by rw [n32 (by omega)]; omega) (by rw [n32 (by omega)]; omega), ?_⟩
        intro s24 e24
        have D24 : DdR s24 D 0 len 10 a := D19.eq (by rw [e24]; exact eqc_saL (fun z => nb y2 z.symm))
        rw [show am_fR s24 10006 lc = some mr by rw [e24, e19]; exact y1, Option.getD_some, n32s, n32c (by omega), D24.a4]
        refine ⟨D24.r4, ar_mk (by rw [e24, e19]; exact y3) (by rw [n32 (by omega)]; omega) (by rw [n32 (by omega)]; omega), ?_⟩
        intro s29 e29
        rw [show am_fI s29 10007 lc = Int32.ofNat it.length by rw [e29, e24, e19]; exact q8, n32s]
        intro s32 e32
        rw [show am_fI s32 10007 lc = Int32.ofNat (it.length + 1) by rw [e32]; exact rI_same]
        obtain ⟨⟨hK, hNm, hP, hL, hC, hT⟩, hN, hH, ⟨lg, lg1, lg2⟩, ns, m1, m2⟩ := id B
        have hb1 := hK.2.2.1
        have o0 := Ev.1.1
        have E19 : Eff (fun q => q = (b, 300 + m_ix (a 0))) σ w s19 w := by rw [e19]; exact Eff.saI o0 s2
        have E24 : Eff (fun q => q = (b, 300 + m_ix (a 0))) s19 w s24 w := by rw [e24]; exact Eff.saL E19.1 y2
        have E29 : Eff (fun q => q = (b, 300 + m_ix (a 0))) s24 w s29 w := by rw [e29]; exact Eff.saL E24.1 y2
        have E32 : Eff (fun q => q = (b, 300 + m_ix (a 0))) s29 w s32 w := by rw [e32]; exact Eff.sfI E29.1 q1
        have EE := ((E19.trans E24).trans E29).trans E32
        have hKK : ∀ q, q = (b, 300 + m_ix (a 0)) → stK q ∨ q.1 = b := fun q h => by rw [h]; exact Or.inr rfl
        have fr : ∀ j, j ≠ 300 + m_ix (a 0) → Fr σ w s32 w (b, j) := fun j hj => EE.bk (fun z => hj (congrArg Prod.snd z)) hb1
        have f2 := fr 2 (by omega)
        have Bk : Bc b [] [] σ w s32 w := Bc.of hK f2
        have x32 : am_nx s32 = am_nx σ ∧ am_sl s32 = am_sl σ := by rw [e32, e29, e24, e19]; exact ⟨rfl, rfl⟩
        have kd32 : am_kd s32 = am_kd σ := by rw [e32, e29, e24, e19]
        have r32 : ∀ g c, am_fR s32 g c = am_fR σ g c := fun g c => by rw [e32, e29, e24, e19]
        have i32' : ∀ g c, g ≠ 10007 → am_fI s32 g c = am_fI σ g c := fun g c hg => by
          rw [e32, rI_g hg, e29, e24, e19]
        have srmr : sr ≠ mr := fun z => by rw [z, y3] at s3; simp at s3
        have aI32 : ∀ j, am_aI s32 sr j = if j = it.length then (a 1).toInt32 else am_aI σ sr j := fun j => by
          rw [e32]
          show am_aI s29 sr j = _
          rw [e29]
          show am_aI s24 sr j = _
          rw [e24]
          show am_aI s19 sr j = _
          exact saI_all e19 j
        have aL32 : ∀ j, am_aL s32 mr j = if j = 2 * it.length + 1 then a 3 else if j = 2 * it.length then a 2 else am_aL σ mr j := fun j => by
          rw [e32]
          show am_aL s29 mr j = _
          rw [saL_all e29, saL_all e24, e19]
        refine K _ rfl _ (m_setLos M ((o_los M).modify (m_ix (a 0)) (itM a))) s32 w X (Or.inr ⟨by rw [n32 (by omega)]; omega, by rw [if_neg (fun z => z hg), if_neg (by rw [hnf]; decide), emi, if_neg (by omega)]⟩) ⟨Ev.bk EE hb (fun q hq => by rw [hq]) (by rw [x32.1]; exact Ev.1.2), ⟨⟨hK.bc Bk, ⟨(Bk.2.1 _ (by simp)).trans hNm.1, ?_, (Bk.2.1 _ (by simp)).trans hNm.2.2⟩, hP.bc Bk (by simp) (fun i hi => fr _ ?_), ?_, hC.bc Bk (by simp) (by simp) (by simp) (fun i _ => fr _ ?_), hT.bc Bk (by simp) (r32 _ _) (fr 1 (by omega))⟩, ?_, hH.bc Bk (by simp), ⟨lg, (Bk.2.2.1 _ (by decide)).trans lg1, lg2.fr (fr 3 (by omega))⟩, ns, m1.bc Bk (by simp) (fun i hi => fr _ ?_), m2⟩, R.eq ⟨rfl, rfl, by show ((o_los M).modify _ _).length = _; rw [List.length_modify], rfl⟩ x32⟩ (EE.mono (bkK_of hKK)) (i2001 Ev EE hb hKK)
        · show am_fI s32 6013 b = Int32.ofNat ((o_los M).modify _ _).length
          rw [List.length_modify]
          exact (Bk.2.1 _ (by simp)).trans hNm.2.1
        · omega
        · intro i l' hl'
          rcases get_mod hl' with ⟨rfl, l0, hl0, rfl⟩ | ⟨hne, hl0⟩
          · have el0 : l0 = (o_los M).getD (m_ix (a 0)) mLoss0 := (getD_of mLoss0 hl0).symm
            subst el0
            obtain ⟨c', z1, z2, z3⟩ := hL _ _ hl0
            have ec : c' = lc := Option.some.inj (z1.symm.trans hlc)
            subst ec
            refine ⟨c', (Bk.row (by decide) (by simp)).2.2.trans hlc, ⟨q1, by rw [kd32]; exact q2, q3, (i32' _ _ (by decide)).trans q4, (i32' _ _ (by decide)).trans q5, (i32' _ _ (by decide)).trans q6, (i32' _ _ (by decide)).trans q7, ?_, (i32' _ _ (by decide)).trans q9, ⟨sr, (r32 _ _).trans s1, s2, by rw [kd32]; exact s3, fun j x hx => ?_⟩, mr, (r32 _ _).trans y1, y2, by rw [kd32]; exact y3, fun j x hx => ?_, fun j hj1 hj2 => ?_⟩, ?_⟩
            · show am_fI s32 10007 c' = Int32.ofNat (_ ++ [_]).length
              rw [← hit, len_app, e32]
              exact rI_same
            · have hx : (it ++ [((a 1).toInt32, a 2, a 3)])[j]? = some x := by rw [hit]; exact hx
              rw [aI32]
              rcases get_app hx with hx | ⟨rfl, rfl⟩
              · rw [if_neg (by have := lt_of_get hx; omega)]
                exact s4 j x hx
              · rw [if_pos rfl]
            · have hx : (it ++ [((a 1).toInt32, a 2, a 3)])[j]? = some x := by rw [hit]; exact hx
              rw [aL32, aL32]
              rcases get_app hx with hx | ⟨rfl, rfl⟩
              · have := lt_of_get hx
                rw [if_neg (by omega), if_neg (by omega), if_neg (by omega), if_neg (by omega)]
                exact y4 j x hx
              · rw [if_neg (by omega), if_pos rfl, if_pos rfl]
                exact ⟨rfl, rfl⟩
            · have hj1 : (it ++ [((a 1).toInt32, a 2, a 3)]).length ≤ j := by rw [hit]; exact hj1
              rw [len_app] at hj1
              rw [aL32, aL32, if_neg (by omega), if_neg (by omega), if_neg (by omega), if_neg (by omega)]
              exact y5 j (by omega) hj2
            · rw [r32, z3]
              show _ = (match ((o_los M).getD (m_ix (a 0)) mLoss0).2.2.1 with
                | none => none
                | some u => am_aR s32 (bA s32 b 6005) u)
              cases ((o_los M).getD (m_ix (a 0)) mLoss0).2.2.1 with
              | none => rfl
              | some u => exact (Bk.row (by decide) (by simp)).2.2.symm
          · obtain ⟨c', z1, z2, z3⟩ := hL i l' hl0
            have fi := fr (300 + i) (by omega)
            refine ⟨c', (Bk.row (by decide) (by simp)).2.2.trans z1, z2.fr fi, ?_⟩
            rw [r32, z3]
            cases l'.2.2.1 with
            | none => rfl
            | some u => exact (Bk.row (by decide) (by simp)).2.2.symm
        · have := lt_of_get hl
          have := wl.1
          omega
        · obtain ⟨h1, h2, h3, h4, h5, h6, h7, h8, h9⟩ := hN
          exact ⟨(Bk.2.1 _ (by simp)).trans h1, (Bk.2.1 _ (by simp)).trans h2, by show am_fI s32 6013 b = Int32.ofNat ((o_los M).modify _ _).length; rw [List.length_modify]; exact (Bk.2.1 _ (by simp)).trans h3, (Bk.2.1 _ (by simp)).trans h4, (Bk.2.1 _ (by simp)).trans h5, (Bk.2.1 _ (by simp)).trans h6, (Bk.2.1 _ (by simp)).trans h7, (Bk.2.1 _ (by simp)).trans h8, (Bk.2.1 _ (by simp)).trans h9⟩
        · omega
      · exact K _ rfl _ M σ w X (Or.inl ⟨by decide, by rw [if_neg (fun z => z hg), if_neg (by rw [hnf]; decide), emi, if_pos (by omega)], rfl⟩) A0 (Eff.rf Ev.1.1) rfl
    · have hnt : ((o_los M).getD (m_ix (a 0)) mLoss0).2.2.2.2.1 = true := by
        cases hb : ((o_los M).getD (m_ix (a 0)) mLoss0).2.2.2.2.1 with
        | true => rfl
        | false => rw [hb] at hnot; exact absurd rfl hnot
      exact K _ rfl _ M σ w X (Or.inl ⟨by decide, by rw [if_neg (fun z => z hg), if_pos hnt], rfl⟩) A0 (Eff.rf Ev.1.1) rfl
  · rw [hD.a3] at hm
    exact no (fun z => hm (decide_eq_true ((hmon _).mpr z.2.2.2.1)))
end
