/-! ACTS of the reference: cases, batches -/
section
variable {nl : Bool} {Ln : Nat} {xs : Nat → Int32} {d : Nat} {σ : am_S} {o : Nat}
theorem lenm1 {n : Nat} (h : n < 1000000) : (Int32.ofNat n - 1).toInt = (n : Int) - 1 := by
  have : (1 : Int32).toInt = 1 := by decide
  rw [i32sub] <;> rw [n32 (by omega)] <;> omega
def m_caseOk (M : mOff) (a : mArg) : Prop := m_isPol (o_pol M) (a 0) ∧ (if ((o_pol M).getD (m_ix (a 0)) mPol0).1 = 6 then m_rg (a 1) 0 3 else a 1 = -1) ∧ (0 ≤ (a 2).toInt ∧ (a 2).toInt < (o_los M).length) ∧ m_rg (a 3) 0 10949
def m_caseLate (M : mOff) (a : mArg) : Prop := (a 3).toInt < ((o_los M).getD (m_ix (a 2)) mLoss0).2.1.toInt ∨ ((o_cas M) ≠ [] ∧ (a 3).toInt < ((o_cas M).getD ((o_cas M).length - 1) mCase0).2.2.2.1.toInt)
def m_caseM (M : mOff) (a : mArg) : mOff := m_setLos (m_setCas M (o_cas M ++ [(m_ix (a 0), (a 1).toInt32, m_ix (a 2), (a 3).toInt32, o_now M + 1, [])])) ((o_los M).modify (m_base (o_los M) (m_ix (a 2))) (fun l => (l.1, l.2.1, l.2.2.1, l.2.2.2.1, true, l.2.2.2.2.2)))
theorem r_notify {m : Nat} {a : mArg} {M : mOff} {F : Int32 → am_S → Prop} (hR : OffR σ o M) (hu : o_und M = false) (hA : ArgR σ m a) (hm : m = 1060 ∨ m = o + 61) (hl : (o_log M).length ≤ 440000) (h100 : (o_pol M).length ≤ 100) (h200 : (o_los M).length ≤ 200) (hc100 : (o_cas M).length ≤ 100) (hw : WfL (o_los M))
    (K1 : ¬ m_caseOk M a → F (-2) σ) (K2 : m_caseOk M a → m_caseLate M a → F (-4) σ) (K3 : m_caseOk M a → ¬ m_caseLate M a → (o_cas M).length = 100 → F (-7) σ)
    (K4 : m_caseOk M a → ¬ m_caseLate M a → (o_cas M).length ≠ 100 → ∀ σ', OffR σ' o (m_done (m_caseM M a) 11 a []) → Rc o raF raA [] σ σ' → F (Int32.ofNat (o_cas M).length) σ') : k_Ro_notified nl Ln xs (d + 5) o (some m) σ F := by
  have hR0 := hR
  obtain ⟨hK, hN, hP, hRk, hPl, hPe, hRu, hSe, hLs, hC, hH, hG⟩ := hR
  have lo := hK.lo
  have hn := note_le 11 a
  rw [m_rlog0 hu] at hG
  have a0 := hA.2 0 (by decide)
  have a1 := hA.2 1 (by decide)
  have a2 := hA.2 2 (by decide)
  have a3 := hA.2 3 (by decide)
  have e0 : (0 : Int64).toInt = 0 := by decide
  have em : (-1 : Int64).toInt = -1 := by decide
  have e3 : (3 : Int64).toInt = 3 := by decide
  have ed : (10949 : Int64).toInt = 10949 := by decide
  have last : m_caseOk M a → ¬ m_caseLate M a → c_Ro_notified_125 nl Ln xs (d + 5) o (some m) σ F := by
    intro hok hnl
    obtain ⟨o1, o2, o3, o4⟩ := hok
    obtain ⟨i1, i2, i3, i4⟩ := ixI o3.1 o3.2 (by omega)
    obtain ⟨j1, j2, j3, j4⟩ := ixI o1.1 o1.2 (by omega)
    refine w_Ro_notified_125 ⟨is_mk hK.2.1, fun h => ?_, fun h => ?_⟩
    · refine K3 ⟨o1, o2, o3, o4⟩ hnl ?_
      rw [hC.1] at h
      exact (n32i (b := 100) (Nat.lt_of_le_of_lt hc100 (by decide)) (by decide)).mp h
    have hq : (o_cas M).length ≠ 100 := fun q => h (by rw [hC.1, q]; rfl)
    obtain ⟨k1, k2, k3, k4, k5, k6, k7, k8⟩ := hC
    have b0 : 0 ≤ (Int32.ofNat (o_cas M).length).toInt ∧ (Int32.ofNat (o_cas M).length).toInt < 100 := by rw [n32 (by omega)]; omega
    have nc : (Int32.ofNat (o_cas M).length).toNatClampNeg = (o_cas M).length := n32c (by omega)
    have r0 : Rc o [] [36, 37, 38, 39, 40, 41] [] σ σ := Rc.rf
    simp only [Option.getD_some, z0, z1, z2, z3, k1, oG_13046 hK, nc, a0]
    refine ⟨ar_mk hA.1 (by decide) (by decide), oA_13046 hK b0.1 b0.2, ?_⟩
    rintro s1 e1
    have r1 : Rc o [] [36, 37, 38, 39, 40, 41] [] σ s1 := r0.trans (by rw [e1]; exact Rc.saI (by decide))
    have hK1 := hK.rc r1
    have hA1 := hA.rc hm lo r1 (by decide) (by decide) (by simp)
    have f1 := (r1.fI (g := 13045) (c := o) (by decide)).trans k1
    simp only [f1, oG_13047 hK1, nc, hA1.2 1 (by decide)]
    refine ⟨ar_mk hA1.1 (by decide) (by decide), oA_13047 hK1 b0.1 b0.2, ?_⟩
    rintro s2 e2
    have r2 : Rc o [] [36, 37, 38, 39, 40, 41] [] σ s2 := r1.trans (by rw [e2]; exact Rc.saI (by decide))
    have hK2 := hK.rc r2
    have hA2 := hA.rc hm lo r2 (by decide) (by decide) (by simp)
    have f2 := (r2.fI (g := 13045) (c := o) (by decide)).trans k1
    simp only [f2, oG_13048 hK2, nc, hA2.2 2 (by decide)]
    refine ⟨ar_mk hA2.1 (by decide) (by decide), oA_13048 hK2 b0.1 b0.2, ?_⟩
    rintro s3 e3
    have r3 : Rc o [] [36, 37, 38, 39, 40, 41] [] σ s3 := r2.trans (by rw [e3]; exact Rc.saI (by decide))
    have hK3 := hK.rc r3
    have hA3 := hA.rc hm lo r3 (by decide) (by decide) (by simp)
    have f3 := (r3.fI (g := 13045) (c := o) (by decide)).trans k1
    simp only [f3, oG_13049 hK3, nc, hA3.2 3 (by decide)]
    refine ⟨ar_mk hA3.1 (by decide) (by decide), oA_13049 hK3 b0.1 b0.2, ?_⟩
    rintro s4 e4
    have r4 : Rc o [] [36, 37, 38, 39, 40, 41] [] σ s4 := r3.trans (by rw [e4]; exact Rc.saI (by decide))
    have hK4 := hK.rc r4
    have hA4 := hA.rc hm lo r4 (by decide) (by decide) (by simp)
    have f4 := (r4.fI (g := 13045) (c := o) (by decide)).trans k1
    simp only [f4, oG_13050 hK4, nc, r4.fI (g := 13000) (c := o) (by decide), hN.1]
    refine ⟨oA_13050 hK4 b0.1 b0.2, ?_⟩
    rintro s5 e5
    have r5 : Rc o [] [36, 37, 38, 39, 40, 41] [] σ s5 := r4.trans (by rw [e5]; exact Rc.saI (by decide))
    have hK5 := hK.rc r5
    have hA5 := hA.rc hm lo r5 (by decide) (by decide) (by simp)
    have f5 := (r5.fI (g := 13045) (c := o) (by decide)).trans k1
    simp only [f5, oG_13051 hK5, nc]
    refine ⟨oA_13051 hK5 b0.1 b0.2, ?_⟩
    rintro s6 e6
    have r6 : Rc o [] [36, 37, 38, 39, 40, 41] [] σ s6 := r5.trans (by rw [e6]; exact Rc.saI (by decide))
    have hK6 := hK.rc r6
    have hA6 := hA.rc hm lo r6 (by decide) (by decide) (by simp)
    have f6 := (r6.fI (g := 13045) (c := o) (by decide)).trans k1
    simp only [hA6.2 2 (by decide), i1]
    have hL6 : rLos s6 o (o_los M) := kLos.rc hLs r6 lo (by decide)
    have hb := root_lt hw 4 (m_ix (a 2)) i2
    have hb2 : m_base (o_los M) (m_ix (a 2)) < (o_los M).length := by unfold m_base; omega
    refine ⟨ar_mk hA6.1 (by decide) (by decide), r_root hK6 hL6 hw h200 i2 (fun _ => ?_)⟩
    have bb : 0 ≤ (Int32.ofNat (m_base (o_los M) (m_ix (a 2)))).toInt ∧ (Int32.ofNat (m_base (o_los M) (m_ix (a 2)))).toInt < 200 := by rw [n32 (by omega)]; omega
    rw [oG_13041 hK6, n32c (by omega)]
    refine ⟨oA_13041 hK6 bb.1 bb.2, ?_⟩
    rintro s7 e7
    have r7 : Rc o [] [32, 36, 37, 38, 39, 40, 41] [] σ s7 := (r6.mono (by decide) (by decide) (by decide)).trans (by rw [e7]; exact Rc.saI (by decide))
    have f7 := (r7.fI (g := 13045) (c := o) (by decide)).trans k1
    rintro s25 e25
    rw [f7, n32s] at e25
    have r25 : Rc o [13045] [32, 36, 37, 38, 39, 40, 41] [] σ s25 := (r7.mono (by decide) (by decide) (by decide)).trans (by rw [e25]; exact Rc.sfI (by decide) (Or.inl rfl))
    have hK25 := hK.rc r25
    have ea : ∀ k i, am_aI s25 (o + k) i = am_up (am_up (am_up (am_up (am_up (am_up (am_up (am_aI σ) (o + 36) (o_cas M).length (a 0).toInt32) (o + 37) (o_cas M).length (a 1).toInt32) (o + 38) (o_cas M).length (Int32.ofNat (m_ix (a 2)))) (o + 39) (o_cas M).length (a 3).toInt32) (o + 40) (o_cas M).length (o_now M + 1)) (o + 41) (o_cas M).length 0) (o + 32) (m_base (o_los M) (m_ix (a 2))) (vp_nar .boolean 1) (o + k) i := by intro k i; rw [e25, e7, e6, e5, e4, e3, e2, e1, i1]
    have f25 : am_fI s25 13045 o = Int32.ofNat ((o_cas M).length + 1) := by rw [e25]; exact rI_same
    have eb : vp_nar .boolean 1 = b2i true := by decide
    obtain ⟨g1, g2, g3, g4, g5, g6, g7, g8⟩ := hLs
    have keepA : ∀ k, k ∉ [32, 36, 37, 38, 39, 40, 41] → ∀ i, am_aI s25 (o + k) i = am_aI σ (o + k) i := fun k hk i => r25.aI lo (by simp) hk
    have keepL : ∀ k, k ∉ [32, 36, 37, 38, 39, 40, 41] → ∀ i, am_aL s25 (o + k) i = am_aL σ (o + k) i := fun k hk i => r25.aL lo (by simp) hk
    have R3 : OffR s25 o (m_caseM M a) := by
      refine ⟨hK25, ⟨(r25.fI (by decide)).trans hN.1, (r25.fI (by decide)).trans hN.2.1, (r25.fI (by decide)).trans hN.2.2.1, (r25.fI (by decide)).trans hN.2.2.2.1, (r25.fI (by decide)).trans hN.2.2.2.2⟩, kPol.rc hP r25 lo (by decide), kRnk.rc hRk r25 lo (by decide), kPla.rc hPl r25 lo (by decide), kPer.rc hPe r25 lo (by decide), kRul.rc hRu r25 lo (by decide), kSet.rc hSe r25 lo (by decide), ⟨?_, (g2.eq (keepA 27 (by decide))).modS (fun x => rfl), (g3.eq (keepA 28 (by decide))).modS (fun x => rfl), (g4.eq (keepA 29 (by decide))).modS (fun x => rfl), (g5.eq (keepA 30 (by decide))).modS (fun x => rfl), (g6.eq (keepA 31 (by decide))).modS (fun x => rfl), g7.mod mLoss0 (fun j => ?_), ?_⟩, ⟨?_, k2.push fun i => ?_, k3.push fun i => ?_, k4.push fun i => ?_, k5.push fun i => ?_, k6.push fun i => ?_, k7.push fun i => ?_, ?_⟩, kHel.rc hH r25 lo (by decide), LogR_rlog hu (kLog.rc hG r25 lo (by decide))⟩
      · show am_fI s25 13035 o = Int32.ofNat ((o_los M).modify _ _).length
        rw [r25.fI (by decide), List.length_modify]
        exact g1
      · rw [ea, eb]
        by_cases hj : j = m_base (o_los M) (m_ix (a 2))
        · rw [if_pos hj, hj, am_up_same]
        · rw [if_neg hj, am_up_ne2 hj]
          simp [am_up]
      · intro i l hl' j x hx
        rw [keepA 33 (by decide), keepL 34 (by decide), keepL 35 (by decide)]
        rcases get_mod hl' with ⟨q1, y, q2, q3⟩ | ⟨q1, q2⟩
        · subst q1
          subst q3
          exact g8 _ y q2 j x hx
        · exact g8 i l q2 j x hx
      · show am_fI s25 13045 o = Int32.ofNat (o_cas M ++ [_]).length
        rw [f25, List.length_append]
        rfl
      · rw [ea, j1]; simp [am_up]
      · rw [ea]; simp [am_up]
      · rw [ea]; simp [am_up]
      · rw [ea]; simp [am_up]
      · rw [ea]; simp [am_up]
      · rw [ea]; simp [am_up]
      · intro i c hc j f hf
        rcases get_push hc with ⟨q1, q2⟩ | ⟨q1, q2⟩
        · subst q2
          simp at hf
        · exact (k8 i c q2 j f hf).eq (fun q hq => ⟨keepA q (by simp only [List.mem_cons, List.not_mem_nil, or_false] at hq ⊢; omega) _, keepL q (by simp only [List.mem_cons, List.not_mem_nil, or_false] at hq ⊢; omega) _⟩)
    rw [f25, o32]
    refine r_done (t := []) (n := 11) hK25 (kLog.rc hG r25 lo (by decide)) (hA.rc hm lo r25 (by decide) (by decide) (by simp)) (by decide) (by decide) hm (fun h => absurd h (by decide)) (by omega) ?_
    intro s' h0' hL' hc' _
    exact K4 ⟨o1, o2, o3, o4⟩ hnl hq s' (OffR.done (fs := []) (as := []) hu R3 (by rw [h0', R3.2.1.1]) hL' hc') ((r25.all (by decide)).trans (hc'.all (by decide)))
  have mid : m_isPol (o_pol M) (a 0) → (if ((o_pol M).getD (m_ix (a 0)) mPol0).1 = 6 then m_rg (a 1) 0 3 else a 1 = -1) → c_Ro_notified_46 nl Ln xs (d + 5) o (some m) σ F := by
    intro o1 o2
    refine w_Ro_notified_46 ⟨ar_mk hA.1 (by decide) (by decide), is_mk hK.2.1, ?_⟩
    simp only [Option.getD_some, z2, z3, a2, hLs.1]
    refine r_in (fun c1 c2 => ⟨ar_mk hA.1 (by decide) (by decide), ?_⟩) (fun c => K1 (fun q => c (by rw [e0, t64, lenm1 (by omega)]; have := q.2.2.1; omega)))
    rw [t64, lenm1 (by omega)] at c2
    obtain ⟨i1, i2, i3, i4⟩ := ixI (n := (o_los M).length) (v := a 2) (by omega) (by omega) (by omega)
    have hg := getD_some mLoss0 i2
    simp only [a3]
    refine r_in (fun c3 c4 => ⟨ar_mk hA.1 (by decide) (by decide), ar_mk hA.1 (by decide) (by decide), ?_⟩) (fun c => K1 (fun q => c (by rw [e0, ed]; exact q.2.2.2)))
    have hok : m_caseOk M a := ⟨o1, o2, ⟨by omega, by omega⟩, by omega, by omega⟩
    have kd : am_aI σ (o + 28) (m_ix (a 2)) = ((o_los M).getD (m_ix (a 2)) mLoss0).2.1 := hLs.2.2.1 _ _ hg
    simp only [a2, a3, i1, oG_13037 hK, n32c (show m_ix (a 2) < 2147483648 by omega), kd, hC.1, i64lt, t64]
    refine ⟨oA_13037 hK (by rw [n32 (by omega)]; omega) (by rw [n32 (by omega)]; omega), fun q => K2 hok (Or.inl q), fun q => ⟨fun q2 => ?_, fun q2 => last hok ?_⟩⟩
    · have q3 : 0 < (o_cas M).length := by rw [show (0 : Int32) = Int32.ofNat 0 from rfl, n32lt (by decide) (by omega)] at q2; exact q2
      have hgc := getD_some mCase0 (show (o_cas M).length - 1 < (o_cas M).length by omega)
      have eL : Int32.ofNat (o_cas M).length - 1 = Int32.ofNat ((o_cas M).length - 1) := by
        have := o32 ((o_cas M).length - 1)
        rw [show (o_cas M).length - 1 + 1 = (o_cas M).length by omega] at this
        exact this
      have kc : am_aI σ (o + 39) ((o_cas M).length - 1) = ((o_cas M).getD ((o_cas M).length - 1) mCase0).2.2.2.1 := hC.2.2.2.2.1 _ _ hgc
      simp only [eL, oG_13049 hK, n32c (show (o_cas M).length - 1 < 2147483648 by omega), kc]
      refine ⟨ar_mk hA.1 (by decide) (by decide), oA_13049 hK (by rw [n32 (by omega)]; omega) (by rw [n32 (by omega)]; omega), fun q4 => K2 hok (Or.inr ⟨fun e => by rw [e] at q3; exact absurd q3 (by decide), q4⟩), fun q4 => last hok ?_⟩
      rintro (q5 | q5)
      · exact q q5
      · exact q4 q5.2
    · rintro (q5 | q5)
      · exact q q5
      · refine q2 ?_
        have : 0 < (o_cas M).length := List.length_pos_iff.mpr q5.1
        rw [show (0 : Int32) = Int32.ofNat 0 from rfl, n32lt (by decide) (by omega)]
        exact this
  refine w_Ro_notified ⟨ar_mk hA.1 (by decide) (by decide), is_mk hK.2.1, ?_⟩
  simp only [Option.getD_some, z0, z1, a0]
  refine r_isPolicy hK hP h100 (fun _ => ⟨fun c => ?_, fun c => K1 (fun q => c (decide_eq_true q.1))⟩)
  have c := of_decide_eq_true c
  refine ⟨ar_mk hA.1 (by decide) (by decide), ?_⟩
  simp only [a0]
  refine r_isCover hK hP h100 (fun _ => ⟨fun c2 => ?_, fun c2 => ?_⟩)
  · have c2 := of_decide_eq_true c2
    refine ⟨ar_mk hA.1 (by decide) (by decide), ?_, ?_⟩
    · rw [a1]
      intro h
      exact mid c (by rw [if_neg c2.2]; exact h)
    · rw [a1]
      intro h
      refine K1 (fun q => h ?_)
      have := q.2.1
      rw [if_neg c2.2] at this
      exact this
  · have c3 : ((o_pol M).getD (m_ix (a 0)) mPol0).1 = 6 := by
      by_cases q : ((o_pol M).getD (m_ix (a 0)) mPol0).1 = 6
      · exact q
      · exact absurd (decide_eq_true ⟨c, q⟩) c2
    refine ⟨ar_mk hA.1 (by decide) (by decide), ?_⟩
    simp only [a1]
    refine r_in (fun c4 c5 => mid c (by rw [if_pos c3]; exact ⟨by omega, by omega⟩)) (fun c4 => K1 (fun q => c4 ?_))
    have := q.2.1
    rw [if_pos c3] at this
    rw [e0, e3]
    exact this
end
