/-! THE CLASS: asks that change nothing -/
section
variable {nl : Bool} {Ln : Nat} {xs : Nat → Int32} {d : Nat} {σ : am_S} {w : ow_T} {τ : am_S} {v b gl nu : Nat} {X : Stx} {sp : Option Nat} {g : Grw} {D : mTop}
theorem co_letter {i : Int32} {F : Int32 → am_S → Prop} (R : DskC τ σ w v X b sp g gl nu D) (K : F (d_letter D i) σ) : k_Co_letter nl Ln xs (d + 2) 1000 i σ F := by
  obtain ⟨C, -, -, -, -, S, -⟩ := R
  refine w_Co_letter ⟨is_mk C.1.2, ?_⟩
  rw [C.2.1.2.2.1, Option.getD_some]
  refine ⟨is_mk S.2.1, by_any (d := d) S (fun _ => ?_)⟩
  unfold d_letter at K
  exact K
theorem co_isMoment {at' : Int32} {F : Bool → am_S → Prop} (R : DskC τ σ w v X b sp g gl nu D) (K : ∀ bo : Bool, (bo = true ↔ (0 ≤ at'.toInt ∧ at'.toInt ≤ (o_now (d_off D)).toInt)) → F bo σ) : k_Co_isMoment nl Ln xs (d + 1) 1000 at' σ F := by
  obtain ⟨C, -, -, -, -, -, -, A, -⟩ := R
  have z0 : (0 : Int32).toInt = 0 := by decide
  refine w_Co_isMoment ?_
  rw [C.2.2.2.1, Option.getD_some, A.2.1.2.1.2.2.2.2.1]
  refine ⟨fun _ => is_mk C.1.2, fun _ => is_mk A.2.1.1.1.2.1, K _ ?_⟩
  rw [decide_eq_true_iff, i32lt, i32lt, z0]
  omega
theorem co_cover {p at' : Int32} {F : Option Nat → am_S → Prop} (hw : WfO (d_off D)) (R : DskC τ σ w v X b sp g gl nu D) (K1 : ¬ (m_isCov (o_pol (d_off D)) p.toInt64 ∧ (0 ≤ at'.toInt ∧ at'.toInt ≤ (o_now (d_off D)).toInt)) → F none σ)
    (K2 : ∀ c q, m_isCov (o_pol (d_off D)) p.toInt64 ∧ (0 ≤ at'.toInt ∧ at'.toInt ≤ (o_now (d_off D)).toInt) → (o_pol (d_off D))[p.toInt.toNat]? = some q → am_aR σ (bA σ b 6004) p.toInt.toNat = some c → PoR σ w (b, 100 + p.toInt.toNat) c p.toInt.toNat q (tlP (o_tel (d_off D)) p.toInt.toNat) → F (some c) σ) : k_Co_coverAsked nl Ln xs (d + 2) 1000 p at' σ F := by
  have R0 := R
  obtain ⟨C, -, -, -, -, -, -, A, -⟩ := R
  have eix : m_ix p.toInt64 = p.toInt.toNat := by unfold m_ix; rw [t64]
  refine w_Co_coverAsked ⟨is_mk C.1.2, ?_⟩
  rw [C.2.2.2.1, Option.getD_some]
  refine ⟨is_mk A.2.1.1.1.2.1, bk_policyAt (d := d) A.2.1.1 hw.1.p100 (fun h _ => ⟨fun _ => K1 (fun z => h z.1.1), fun z => absurd rfl z⟩) (fun c q h hq hc hP _ => ⟨fun z => absurd z (by simp), fun _ => ?_⟩)⟩
  rw [Option.getD_some, hP.2.2.2.2.1]
  have gq : (o_pol (d_off D)).getD (m_ix p.toInt64) mPol0 = q := getD_of mPol0 hq
  refine ⟨is_mk hP.2.1, fun h6 => K1 (fun z => z.1.2 (by rw [gq]; exact h6)), fun h6 => co_isMoment (d := d) R0 (fun bo hbo _ => ?_)⟩
  rintro w12 rfl
  by_cases hb : bo = true
  · rw [if_pos hb]
    rw [eix] at hq hc hP
    exact K2 c q ⟨⟨h, by rw [gq]; exact h6⟩, hbo.mp hb⟩ hq hc hP
  · rw [if_neg hb]
    exact K1 (fun z => hb (hbo.mpr z.2))
theorem year_ok {y : Int32} : (¬ (y < 0) ∧ y < 30) ↔ (0 ≤ y.toInt ∧ y.toInt ≤ 29) := by
  rw [i32lt, i32lt, show (0 : Int32).toInt = 0 by decide, show (30 : Int32).toInt = 30 by decide]
  omega
theorem co_used {p year at' : Int32} {F : Int64 → am_S → Prop} (hw : WfO (d_off D)) (R : DskC τ σ w v X b sp g gl nu D) (K : F (d_used D p year at') σ) : k_Co_used nl Ln xs (d + 5) 1000 p year at' σ F := by
  have R0 := R
  obtain ⟨C, -, -, -, -, -, -, A, -⟩ := R
  unfold d_used at K
  refine w_Co_used ⟨is_mk C.1.2, co_cover (d := d + 2) hw R0 (fun h _ => ⟨fun _ => ?_, fun z => absurd rfl z⟩) (fun c q h hq hc hP _ => ⟨fun z => absurd z (by simp), fun _ => w_Co_isYear (fun _ => ⟨fun hy => ?_, fun hy => ?_⟩)⟩)⟩
  · rw [if_neg (fun z => h ⟨z.1, z.2.2⟩)] at K
    exact K
  · have hy := year_ok.mp (of_decide_eq_true hy)
    rw [if_pos ⟨h.1, hy, h.2⟩] at K
    rw [C.2.2.2.1, Option.getD_some]
    exact ⟨is_mk A.2.1.1.1.2.1, bk_usedOf (d := d) A.2.1.1 hw.1 hq hc (fun _ => K)⟩
  · rw [if_neg (fun z => hy (decide_eq_true (year_ok.mpr z.2.1)))] at K
    exact K
theorem co_left {p year at' : Int32} {F : Int64 → am_S → Prop} (hw : WfO (d_off D)) (hT : ClsOk (o_tel (d_off D))) (hu : ∀ p year, d_used D p year at' = d_no ↔ ¬ (m_isCov (o_pol (d_off D)) p.toInt64 ∧ (0 ≤ year.toInt ∧ year.toInt ≤ 29) ∧ (0 ≤ at'.toInt ∧ at'.toInt ≤ (o_now (d_off D)).toInt))) (R : DskC τ σ w v X b sp g gl nu D) (K : F (d_left D p year at') σ) : k_Co_left nl Ln xs (d + 5) 1000 p year at' σ F := by
  have R0 := R
  obtain ⟨C, -, -, -, -, -, -, A, -⟩ := R
  unfold d_left at K
  refine w_Co_left ⟨is_mk C.1.2, co_cover (d := d + 2) hw R0 (fun h _ => ⟨fun _ => ?_, fun z => absurd rfl z⟩) (fun c q h hq hc hP _ => ⟨fun z => absurd z (by simp), fun _ => w_Co_isYear (fun _ => ⟨fun hy => ?_, fun hy => ?_⟩)⟩)⟩
  · rw [if_pos ((hu p year).mpr (fun z => h ⟨z.1, z.2.2⟩))] at K
    exact K
  · have hy := year_ok.mp (of_decide_eq_true hy)
    have hok : m_isCov (o_pol (d_off D)) p.toInt64 ∧ (0 ≤ year.toInt ∧ year.toInt ≤ 29) ∧ (0 ≤ at'.toInt ∧ at'.toInt ≤ (o_now (d_off D)).toInt) := ⟨h.1, hy, h.2⟩
    rw [if_neg (fun z => (hu p year).mp z hok)] at K
    rw [Option.getD_some]
    refine ⟨is_mk hP.2.1, po_clausesAt (d := d + 2) hP (fun hd wC _ => ?_)⟩
    have hCp := fun c hc => (hT p.toInt.toNat at' c hc).1
    have ef := told_find hCp (op_ok (a := 4) (c := 4) (by decide) (by decide))
    have et := told_eq (m_cls (o_tel (d_off D)) p.toInt.toNat at') 4
    refine nd_lastOf (d := d + 3) wC (fun g' _ => ⟨fun _ => ?_, fun z => absurd rfl z⟩) (fun cl e g' hn _ => ⟨fun z => absurd z (by simp), fun _ => ?_⟩)
    · have g2 : (m_cls (o_tel (d_off D)) p.toInt.toNat at').reverse.find? (fun c => decide (c.1 = 4)) = none := ef.symm.trans g'
      have e1 : m_told (m_cls (o_tel (d_off D)) p.toInt.toNat at') 4 = -1 := by rw [et, g2]; rfl
      rw [if_pos e1] at K
      exact K
    · have g2 : (m_cls (o_tel (d_off D)) p.toInt.toNat at').reverse.find? (fun c => decide (c.1 = 4)) = some cl := ef.symm.trans g'
      have hc4 : cl.1 = 4 := of_decide_eq_true (List.find?_some (p := fun c : mCl => decide (c.1 = 4)) g2)
      have hm4 := hCp cl (List.mem_reverse.mp (List.mem_of_find?_eq_some g2))
      have en : c_nr cl = cl.2.1 := by unfold c_nr; rw [if_neg (by rw [hc4]; decide), if_neg (by rw [hc4]; decide), if_neg (by rw [hc4]; decide)]
      have ev : m_told (m_cls (o_tel (d_off D)) p.toInt.toNat at') 4 = cl.2.1.toInt64 := by rw [et, g2]; rfl
      have hne : ¬ m_told (m_cls (o_tel (d_off D)) p.toInt.toNat at') 4 = -1 := by
        rw [ev, i64e, t64, show (-1 : Int64).toInt = -1 by decide]
        have := hm4.2.2.1
        omega
      rw [if_neg hne] at K
      rw [C.2.2.2.1, Option.getD_some, Option.getD_some, hn.2.2.1, en, ← ev]
      refine ⟨is_mk hn.1.2, is_mk A.2.1.1.1.2.1, bk_usedOf (d := d) A.2.1.1 hw.1 hq hc (fun _ => ?_)⟩
      unfold d_used at K
      rw [if_pos hok] at K
      exact K
  · rw [if_pos ((hu p year).mpr (fun z => hy (decide_eq_true (year_ok.mpr z.2.1))))] at K
    exact K
theorem co_reserved {kind year at' : Int32} {F : Int64 → am_S → Prop} (hw : WfO (d_off D)) (R : DskC τ σ w v X b sp g gl nu D) (K : F (d_reserved D kind year at') σ) : k_Co_reserved nl Ln xs (d + 5) 1000 kind year at' σ F := by
  have R0 := R
  obtain ⟨C, -, -, -, -, -, -, A, -⟩ := R
  unfold d_reserved at K
  have z0 : (0 : Int32).toInt = 0 := by decide
  have z2 : (2 : Int32).toInt = 2 := by decide
  have bad : ¬ ((0 ≤ kind.toInt ∧ kind.toInt ≤ 2) ∧ (0 ≤ year.toInt ∧ year.toInt ≤ 29) ∧ (0 ≤ at'.toInt ∧ at'.toInt ≤ (o_now (d_off D)).toInt)) → F (-9223372036854775808) σ := fun h => by
    rw [if_neg h] at K
    exact K
  refine w_Co_reserved ?_
  rw [i32lt, i32lt, z0, z2]
  refine ⟨fun h => bad (fun z => by omega), fun h0 => ⟨fun h => bad (fun z => by omega), fun h2 => w_Co_isYear (fun _ => ⟨fun hy => ⟨is_mk C.1.2, ?_⟩, fun hy => bad (fun z => hy (decide_eq_true (year_ok.mpr z.2.1)))⟩)⟩⟩
  have hy := year_ok.mp (of_decide_eq_true hy)
  refine co_isMoment (d := d + 3) R0 (fun bo hbo _ => ⟨fun hb => ?_, fun hb => bad (fun z => hb (hbo.mpr z.2.2))⟩)
  rw [if_pos ⟨⟨by omega, by omega⟩, hy, hbo.mp hb⟩] at K
  rw [C.2.2.2.1, Option.getD_some]
  exact ⟨is_mk A.2.1.1.1.2.1, bk_reservedOf (d := d) A.2.1.1 hw.1 (fun _ => K)⟩
theorem co_of {k what : Int32} {F : Int32 → am_S → Prop} (hw : WfO (d_off D)) (R : DskC τ σ w v X b sp g gl nu D) (K : F (d_of D k what) σ) : k_Co_of nl Ln xs (d + 4) 1000 k what σ F := by
  obtain ⟨C, -, -, -, -, -, -, A, -⟩ := R
  have kb := A.2.1.1.1.2.1
  unfold d_of at K
  have eix : m_ix k.toInt64 = k.toInt.toNat := by unfold m_ix; rw [t64]
  refine w_Co_of ⟨is_mk C.1.2, ?_⟩
  rw [C.2.2.2.1, Option.getD_some]
  refine ⟨is_mk kb, bk_caseAt (d := d + 2) A.2.1.1 hw.1.c100 (fun h _ => ⟨fun _ => ?_, fun z => absurd rfl z⟩) (fun c x h hi hc hR _ => ⟨fun z => absurd z (by simp), fun _ => ?_⟩)⟩
  · rw [t64] at h
    rw [if_neg (fun z => h z.1)] at K
    exact K
  · rw [t64] at h
    rw [eix] at hi hc hR
    obtain ⟨c', pc, lc, p0, l, a1, a2, a3, a4, a5, a6, a7, a8, a9, a10, a11, a12⟩ := A.2.1.1.case hw.1 hi
    have ec : c' = c := Option.some.inj (a1.symm.trans hc)
    subst ec
    have ecase : d_case (d_off D) k = x := getD_of mCase0 hi
    rw [ecase] at K
    have hF := a12.2.2.2.2.1
    have kc := hR.1.2.1
    rw [Option.getD_some, a3, a7, Option.getD_some, Option.getD_some, a6.2.2.2.1, a10.2.2.2.1, hR.2.2.1, hR.2.2.2.1, hR.2.2.2.2.1, hR.2.2.2.2.2]
    have t0 : (0 : Int32).toInt = 0 := by decide
    have inr : ∀ j : Int32, 0 ≤ j.toInt → j.toInt ≤ 6 → what = j → ((0 ≤ k.toInt ∧ k.toInt < (o_cas (d_off D)).length) ∧ (0 ≤ what.toInt ∧ what.toInt ≤ 6)) := fun j h1 h2 e => by rw [e]; exact ⟨h, h1, h2⟩
    refine ⟨fun q => ⟨is_mk kc, is_mk a6.2.1, ?_⟩, fun q => ⟨is_mk kc, ?_⟩, fun q => ⟨is_mk kc, is_mk a10.2.1, ?_⟩, fun q => ⟨is_mk kc, ?_⟩, fun q => w_Co_of_86 ?_, fun q => ⟨is_mk kc, ?_⟩, fun q => ⟨is_mk kc, ?_⟩, fun q => ?_⟩
    · rw [if_pos (inr 0 (by decide) (by decide) q), q] at K; exact K
    · rw [if_pos (inr 1 (by decide) (by decide) q), q] at K; exact K
    · rw [if_pos (inr 2 (by decide) (by decide) q), q] at K; exact K
    · rw [if_pos (inr 3 (by decide) (by decide) q), q] at K; exact K
    · rw [if_pos (inr 4 (by decide) (by decide) q), q] at K
      rw [C.2.2.2.1, Option.getD_some, Option.getD_some, A.2.1.2.1.2.2.2.2.1]
      refine ⟨is_mk C.1.2, is_mk kb, is_mk kc, cs_isOpen (d := d) hR.1 hF (fun _ => ?_)⟩
      rw [← open_day hF.2.1]
      exact K
    · rw [if_pos (inr 5 (by decide) (by decide) q), q] at K; exact K
    · rw [if_pos (inr 6 (by decide) (by decide) q), q] at K; exact K
    · rw [if_neg (by omega)] at K
      exact K
end
