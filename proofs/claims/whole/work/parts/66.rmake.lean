/-! ACTS of the reference: what is made -/
section
variable {nl : Bool} {Ln : Nat} {xs : Nat → Int32} {d : Nat} {σ : am_S} {o : Nat}
theorem o32 (n : Nat) : Int32.ofNat (n + 1) - 1 = Int32.ofNat n := by rw [← n32s]; exact Int32.add_sub_cancel _ _
theorem r_policy {m : Nat} {a : mArg} {M : mOff} {fnd : Int32} {F : Int32 → am_S → Prop} (hR : OffR σ o M) (hu : o_und M = false) (hA : ArgR σ m a) (hm : m = 1060 ∨ m = o + 61) (hl : (o_log M).length ≤ 440000) (h100 : (o_pol M).length ≤ 100) (hp0 : 0 ≤ (o_per M).toInt) (hp1 : (o_per M).toInt ≤ 100)
    (K : ∀ σ' r, r = (if ¬ (m_rg (a 0) 0 6 ∧ (0 ≤ (a 1).toInt ∧ (a 1).toInt < (o_per M).toInt) ∧ m_rg (a 2) 0 10949 ∧ m_rg (a 3) (a 2).toInt 10949) then (-2, M, fnd) else if (o_pol M).length = 100 then (-7, M, fnd) else (Int32.ofNat (o_pol M).length, m_done (m_setPol M (o_pol M ++ [((a 0).toInt32, (a 2).toInt32, (a 3).toInt32)])) 3 a [], fnd)) → OffR σ' o r.2.1 → Rc o raF raA [] σ σ' → F r.1 σ') : k_Ro_policy nl Ln xs (d + 4) o (some m) σ F := by
  have hR0 := hR
  obtain ⟨hK, hN, hP, hRk, hPl, hPe, hRu, hSe, hLs, hC, hH, hG⟩ := hR
  have lo := hK.lo
  have hn := note_le 3 a
  rw [m_rlog0 hu] at hG
  have a0 := hA.2 0 (by decide)
  have a1 := hA.2 1 (by decide)
  have a2 := hA.2 2 (by decide)
  have a3 := hA.2 3 (by decide)
  have e0 : (0 : Int64).toInt = 0 := by decide
  have e6 : (6 : Int64).toInt = 6 := by decide
  have ed : (10949 : Int64).toInt = 10949 := by decide
  have ep : (o_per M - 1).toInt = (o_per M).toInt - 1 := by
    have : (1 : Int32).toInt = 1 := by decide
    rw [i32sub] <;> omega
  have bad : ¬ (m_rg (a 0) 0 6 ∧ (0 ≤ (a 1).toInt ∧ (a 1).toInt < (o_per M).toInt) ∧ m_rg (a 2) 0 10949 ∧ m_rg (a 3) (a 2).toInt 10949) → F (-2) σ := fun h => K σ _ (by rw [if_pos h]) hR0 Rc.rf
  refine w_Ro_policy ⟨ar_mk hA.1 (by decide) (by decide), ?_⟩
  simp only [Option.getD_some, z0, z1, z2, z3, a0]
  refine r_in (fun c1 c2 => ⟨ar_mk hA.1 (by decide) (by decide), is_mk hK.2.1, ?_⟩) (fun c => bad (fun q => c (by rw [e6, e0]; exact q.1)))
  simp only [a1, hN.2.1]
  refine r_in (fun c3 c4 => ⟨ar_mk hA.1 (by decide) (by decide), ?_⟩) (fun c => bad (fun q => c (by rw [e0, t64, ep]; have := q.2.1; omega)))
  rw [t64, ep] at c4
  simp only [a2]
  refine r_in (fun c5 c6 => ⟨ar_mk hA.1 (by decide) (by decide), ar_mk hA.1 (by decide) (by decide), ?_⟩) (fun c => bad (fun q => c (by rw [e0, ed]; exact q.2.2.1)))
  simp only [a2, a3]
  refine r_in (fun c7 c8 => ?_) (fun c => bad (fun q => c (by rw [ed]; exact q.2.2.2)))
  have hcond : m_rg (a 0) 0 6 ∧ (0 ≤ (a 1).toInt ∧ (a 1).toInt < (o_per M).toInt) ∧ m_rg (a 2) 0 10949 ∧ m_rg (a 3) (a 2).toInt 10949 := ⟨⟨by omega, by omega⟩, ⟨by omega, by omega⟩, ⟨by omega, by omega⟩, by omega, by omega⟩
  refine ⟨fun h => ?_, fun h => ?_⟩
  · refine K σ (-7, M, fnd) ?_ hR0 Rc.rf
    rw [if_neg (fun q => q hcond), if_pos]
    rw [hP.1] at h
    exact (n32i (b := 100) (Nat.lt_of_le_of_lt h100 (by decide)) (by decide)).mp h
  · have hq : (o_pol M).length ≠ 100 := fun q => h (by rw [hP.1, q]; rfl)
    obtain ⟨k1, k2, k3, k4⟩ := hP
    have b0 : 0 ≤ (Int32.ofNat (o_pol M).length).toInt ∧ (Int32.ofNat (o_pol M).length).toInt < 100 := by rw [n32 (by omega)]; omega
    have nc : (Int32.ofNat (o_pol M).length).toNatClampNeg = (o_pol M).length := n32c (by omega)
    have r0 : Rc o [] [1, 2, 3] [] σ σ := Rc.rf
    simp only [k1, oG_13003 hK, nc, a0]
    refine ⟨ar_mk hA.1 (by decide) (by decide), oA_13003 hK b0.1 b0.2, ?_⟩
    rintro s13 e13
    have r13 : Rc o [] [1, 2, 3] [] σ s13 := r0.trans (by rw [e13]; exact Rc.saI (by decide))
    have hK13 := hK.rc r13
    have hA13 := hA.rc hm lo r13 (by decide) (by decide) (by simp)
    have f13 := (r13.fI (g := 13002) (c := o) (by decide)).trans k1
    simp only [f13, oG_13004 hK13, nc, hA13.2 2 (by decide)]
    refine ⟨ar_mk hA13.1 (by decide) (by decide), oA_13004 hK13 b0.1 b0.2, ?_⟩
    rintro s18 e18
    have r18 : Rc o [] [1, 2, 3] [] σ s18 := r13.trans (by rw [e18]; exact Rc.saI (by decide))
    have hK18 := hK.rc r18
    have hA18 := hA.rc hm lo r18 (by decide) (by decide) (by simp)
    have f18 := (r18.fI (g := 13002) (c := o) (by decide)).trans k1
    simp only [f18, oG_13005 hK18, nc, hA18.2 3 (by decide)]
    refine ⟨ar_mk hA18.1 (by decide) (by decide), oA_13005 hK18 b0.1 b0.2, ?_⟩
    rintro s22 e22
    have r22 : Rc o [] [1, 2, 3] [] σ s22 := r18.trans (by rw [e22]; exact Rc.saI (by decide))
    have hK22 := hK.rc r22
    have hA22 := hA.rc hm lo r22 (by decide) (by decide) (by simp)
    have f22 := (r22.fI (g := 13002) (c := o) (by decide)).trans k1
    rintro s25 e25
    rw [f22, n32s] at e25
    have r25 : Rc o [13002] [1, 2, 3] [] σ s25 := (r22.mono (by decide) (by decide) (by decide)).trans (by rw [e25]; exact Rc.sfI (by decide) (Or.inl rfl))
    have hK25 := hK.rc r25
    have ea : ∀ k i, am_aI s25 (o + k) i = am_up (am_up (am_up (am_aI σ) (o + 1) (o_pol M).length (a 0).toInt32) (o + 2) (o_pol M).length (a 2).toInt32) (o + 3) (o_pol M).length (a 3).toInt32 (o + k) i := by intro k i; rw [e25, e22, e18, e13]
    have f25 : am_fI s25 13002 o = Int32.ofNat ((o_pol M).length + 1) := by rw [e25]; exact rI_same
    have R3 : OffR s25 o (m_setPol M (o_pol M ++ [((a 0).toInt32, (a 2).toInt32, (a 3).toInt32)])) := by
      refine ⟨hK25, ⟨(r25.fI (by decide)).trans hN.1, (r25.fI (by decide)).trans hN.2.1, (r25.fI (by decide)).trans hN.2.2.1, (r25.fI (by decide)).trans hN.2.2.2.1, (r25.fI (by decide)).trans hN.2.2.2.2⟩, ⟨?_, k2.push fun i => ?_, k3.push fun i => ?_, k4.push fun i => ?_⟩, kRnk.rc hRk r25 lo (by decide), kPla.rc hPl r25 lo (by decide), kPer.rc hPe r25 lo (by decide), kRul.rc hRu r25 lo (by decide), kSet.rc hSe r25 lo (by decide), kLos.rc hLs r25 lo (by decide), kCas.rc hC r25 lo (by decide), kHel.rc hH r25 lo (by decide), ?_⟩
      · show am_fI s25 13002 o = Int32.ofNat ((o_pol M ++ [((a 0).toInt32, (a 2).toInt32, (a 3).toInt32)])).length
        rw [f25, List.length_append]
        rfl
      · rw [ea]; simp [am_up]
      · rw [ea]; simp [am_up]
      · rw [ea]; simp [am_up]
      · rw [m_rlog0 (M := m_setPol M (o_pol M ++ [((a 0).toInt32, (a 2).toInt32, (a 3).toInt32)])) hu]
        exact kLog.rc hG r25 lo (by decide)
    rw [f25, o32]
    refine r_done (t := []) (n := 3) hK25 (kLog.rc hG r25 lo (by decide)) (hA.rc hm lo r25 (by decide) (by decide) (by simp)) (by decide) (by decide) hm (fun h => absurd h (by decide)) (by omega) ?_
    intro s' h0 hL' hc' _
    refine K s' (Int32.ofNat (o_pol M).length, m_done (m_setPol M (o_pol M ++ [((a 0).toInt32, (a 2).toInt32, (a 3).toInt32)])) 3 a [], fnd) ?_ (OffR.done (fs := []) (as := []) hu R3 (by rw [h0, R3.2.1.1]) hL' hc') ((r25.all (by decide)).trans (hc'.all (by decide)))
    rw [if_neg (fun q => q hcond), if_neg hq]
theorem r_newLoss {m n : Nat} {a : mArg} {M : mOff} {kind day wh hund : Int32} {whole : Option Nat} {F : Int32 → am_S → Prop} (hR : OffR σ o M) (hu : o_und M = false) (hA : ArgR σ m a) (hm : m = 1060 ∨ m = o + 61) (hl : (o_log M).length ≤ 440000) (h200 : (o_los M).length < 200) (hn1 : 1 ≤ n) (hn2 : n ≤ 22) (hn6 : n ≠ 6) (hw : wh = ixO whole)
    (K : ∀ σ', OffR σ' o (m_done (m_setLos M (o_los M ++ [(kind, day, whole, hund, false, [])])) n a []) → Rc o raF raA [] σ σ' → F (Int32.ofNat (o_los M).length) σ') : k_Ro_newLoss nl Ln xs (d + 4) o (Int32.ofNat n) (some m) kind day wh hund σ F := by
  have hR0 := hR
  obtain ⟨hK, hN, hP, hRk, hPl, hPe, hRu, hSe, hLs, hC, hH, hG⟩ := hR
  have lo := hK.lo
  have hn := note_le n a
  rw [m_rlog0 hu] at hG
  have hLs0 := hLs
  obtain ⟨k1, k2, k3, k4, k5, k6, k7, k8⟩ := hLs
  have b0 : 0 ≤ (Int32.ofNat (o_los M).length).toInt ∧ (Int32.ofNat (o_los M).length).toInt < 200 := by rw [n32 (by omega)]; omega
  have nc : (Int32.ofNat (o_los M).length).toNatClampNeg = (o_los M).length := n32c (by omega)
  have r0 : Rc o [] [27, 28, 29, 30, 31, 32] [] σ σ := Rc.rf
  refine w_Ro_newLoss ⟨is_mk hK.2.1, ?_⟩
  simp only [k1, oG_13036 hK, nc]
  refine ⟨oA_13036 hK b0.1 b0.2, ?_⟩
  rintro s1 e1
  · skip
    have r1 : Rc o [] [27, 28, 29, 30, 31, 32] [] σ s1 := r0.trans (by rw [e1]; exact Rc.saI (by decide))
    have hK1 := hK.rc r1
    have hA1 := hA.rc hm lo r1 (by decide) (by decide) (by simp)
    have f1 := (r1.fI (g := 13035) (c := o) (by decide)).trans k1
    simp only [f1, oG_13037 hK1, nc]
    refine ⟨oA_13037 hK1 b0.1 b0.2, ?_⟩
    rintro s2 e2
    have r2 : Rc o [] [27, 28, 29, 30, 31, 32] [] σ s2 := r1.trans (by rw [e2]; exact Rc.saI (by decide))
    have hK2 := hK.rc r2
    have hA2 := hA.rc hm lo r2 (by decide) (by decide) (by simp)
    have f2 := (r2.fI (g := 13035) (c := o) (by decide)).trans k1
    simp only [f2, oG_13038 hK2, nc]
    refine ⟨oA_13038 hK2 b0.1 b0.2, ?_⟩
    rintro s3 e3
    have r3 : Rc o [] [27, 28, 29, 30, 31, 32] [] σ s3 := r2.trans (by rw [e3]; exact Rc.saI (by decide))
    have hK3 := hK.rc r3
    have hA3 := hA.rc hm lo r3 (by decide) (by decide) (by simp)
    have f3 := (r3.fI (g := 13035) (c := o) (by decide)).trans k1
    simp only [f3, oG_13039 hK3, nc]
    refine ⟨oA_13039 hK3 b0.1 b0.2, ?_⟩
    rintro s4 e4
    have r4 : Rc o [] [27, 28, 29, 30, 31, 32] [] σ s4 := r3.trans (by rw [e4]; exact Rc.saI (by decide))
    have hK4 := hK.rc r4
    have hA4 := hA.rc hm lo r4 (by decide) (by decide) (by simp)
    have f4 := (r4.fI (g := 13035) (c := o) (by decide)).trans k1
    simp only [f4, oG_13040 hK4, nc]
    refine ⟨oA_13040 hK4 b0.1 b0.2, ?_⟩
    rintro s5 e5
    have r5 : Rc o [] [27, 28, 29, 30, 31, 32] [] σ s5 := r4.trans (by rw [e5]; exact Rc.saI (by decide))
    have hK5 := hK.rc r5
    have hA5 := hA.rc hm lo r5 (by decide) (by decide) (by simp)
    have f5 := (r5.fI (g := 13035) (c := o) (by decide)).trans k1
    simp only [f5, oG_13041 hK5, nc]
    refine ⟨oA_13041 hK5 b0.1 b0.2, ?_⟩
    rintro s6 e6
    have r6 : Rc o [] [27, 28, 29, 30, 31, 32] [] σ s6 := r5.trans (by rw [e6]; exact Rc.saI (by decide))
    have hK6 := hK.rc r6
    have hA6 := hA.rc hm lo r6 (by decide) (by decide) (by simp)
    have f6 := (r6.fI (g := 13035) (c := o) (by decide)).trans k1
    rintro s25 e25
    rw [f6, n32s] at e25
    have r25 : Rc o [13035] [27, 28, 29, 30, 31, 32] [] σ s25 := (r6.mono (by decide) (by decide) (by decide)).trans (by rw [e25]; exact Rc.sfI (by decide) (Or.inl rfl))
    have hK25 := hK.rc r25
    have ea : ∀ k i, am_aI s25 (o + k) i = am_up (am_up (am_up (am_up (am_up (am_up (am_aI σ) (o + 27) (o_los M).length kind) (o + 28) (o_los M).length day) (o + 29) (o_los M).length wh) (o + 30) (o_los M).length hund) (o + 31) (o_los M).length 0) (o + 32) (o_los M).length (vp_nar .boolean 0) (o + k) i := by intro k i; rw [e25, e6, e5, e4, e3, e2, e1]
    have f25 : am_fI s25 13035 o = Int32.ofNat ((o_los M).length + 1) := by rw [e25]; exact rI_same
    have eb : vp_nar .boolean 0 = b2i false := by decide
    have R3 : OffR s25 o (m_setLos M (o_los M ++ [(kind, day, whole, hund, false, [])])) := by
      refine ⟨hK25, ⟨(r25.fI (by decide)).trans hN.1, (r25.fI (by decide)).trans hN.2.1, (r25.fI (by decide)).trans hN.2.2.1, (r25.fI (by decide)).trans hN.2.2.2.1, (r25.fI (by decide)).trans hN.2.2.2.2⟩, kPol.rc hP r25 lo (by decide), kRnk.rc hRk r25 lo (by decide), kPla.rc hPl r25 lo (by decide), kPer.rc hPe r25 lo (by decide), kRul.rc hRu r25 lo (by decide), kSet.rc hSe r25 lo (by decide), ⟨?_, k2.push fun i => ?_, k3.push fun i => ?_, k4.push fun i => ?_, k5.push fun i => ?_, k6.push fun i => ?_, k7.push fun i => ?_, ?_⟩, kCas.rc hC r25 lo (by decide), kHel.rc hH r25 lo (by decide), ?_⟩
      · show am_fI s25 13035 o = Int32.ofNat ((o_los M ++ [(kind, day, whole, hund, false, [])])).length
        rw [f25, List.length_append]
        rfl
      · rw [ea]; simp [am_up]
      · rw [ea]; simp [am_up]
      · rw [ea]; simp [am_up, hw]
      · rw [ea]; simp [am_up]
      · rw [ea]; simp [am_up]
      · rw [ea, eb]; simp [am_up]
      · intro i l hl j x hx
        rcases get_push hl with ⟨q1, q2⟩ | ⟨q1, q2⟩
        · subst q2
          simp at hx
        · have := k8 i l q2 j x hx
          exact ⟨(r25.aI lo (by simp) (by decide)).trans this.1, (r25.aL lo (by simp) (by decide)).trans this.2.1, (r25.aL lo (by simp) (by decide)).trans this.2.2⟩
      · rw [m_rlog0 (M := m_setLos M (o_los M ++ [(kind, day, whole, hund, false, [])])) hu]
        exact kLog.rc hG r25 lo (by decide)
    rw [f25, o32]
    refine r_done (t := []) (n := n) hK25 (kLog.rc hG r25 lo (by decide)) (hA.rc hm lo r25 (by decide) (by decide) (by simp)) hn1 hn2 hm (fun h => absurd h hn6) (by omega) ?_
    intro s' h0 hL' hc' _
    exact K s' (OffR.done (fs := []) (as := []) hu R3 (by rw [h0, R3.2.1.1]) hL' hc') ((r25.all (by decide)).trans (hc'.all (by decide)))
theorem r_loss {m : Nat} {a : mArg} {M : mOff} {fnd : Int32} {F : Int32 → am_S → Prop} (hR : OffR σ o M) (hu : o_und M = false) (hA : ArgR σ m a) (hm : m = 1060 ∨ m = o + 61) (hl : (o_log M).length ≤ 440000) (h200 : (o_los M).length ≤ 200)
    (K : ∀ σ' r, r = (if ¬ (m_rg (a 0) 0 4 ∧ m_rg (a 1) 0 10949) then (-2, M, fnd) else m_addLoss M fnd 8 a (a 0).toInt32 (a 1).toInt32 none 0) → OffR σ' o r.2.1 → Rc o raF raA [] σ σ' → F r.1 σ') : k_Ro_lossTold nl Ln xs (d + 5) o (some m) σ F := by
  have hR0 := hR
  obtain ⟨hK, hN, hP, hRk, hPl, hPe, hRu, hSe, hLs, hC, hH, hG⟩ := hR
  have lo := hK.lo
  have hn := note_le 8 a
  rw [m_rlog0 hu] at hG
  have a0 := hA.2 0 (by decide)
  have a1 := hA.2 1 (by decide)
  have a2 := hA.2 2 (by decide)
  have a3 := hA.2 3 (by decide)
  have e0 : (0 : Int64).toInt = 0 := by decide
  have e4 : (4 : Int64).toInt = 4 := by decide
  have ed : (10949 : Int64).toInt = 10949 := by decide
  have bad : ¬ (m_rg (a 0) 0 4 ∧ m_rg (a 1) 0 10949) → F (-2) σ := fun h => K σ _ (by rw [if_pos h]) hR0 Rc.rf
  refine w_Ro_lossTold ⟨ar_mk hA.1 (by decide) (by decide), ?_⟩
  simp only [Option.getD_some, z0, z1, a0]
  refine r_in (fun c1 c2 => ⟨ar_mk hA.1 (by decide) (by decide), ?_⟩) (fun c => bad (fun q => c (by rw [e4, e0]; exact q.1)))
  simp only [a1]
  refine r_in (fun c3 c4 => ⟨is_mk hK.2.1, fun h => ?_, fun h => ?_⟩) (fun c => bad (fun q => c (by rw [ed, e0]; exact q.2)))
  · refine K σ (-7, M, fnd) ?_ hR0 Rc.rf
    rw [if_neg (fun q => q ⟨⟨by omega, by omega⟩, by omega, by omega⟩)]
    unfold m_addLoss
    rw [if_pos]
    rw [hLs.1] at h
    exact (n32i (b := 200) (Nat.lt_of_le_of_lt h200 (by decide)) (by decide)).mp h
  · have hq : (o_los M).length ≠ 200 := fun q => h (by rw [hLs.1, q]; rfl)
    refine ⟨ar_mk hA.1 (by decide) (by decide), ar_mk hA.1 (by decide) (by decide), ?_⟩
    simp only [a0, a1]
    refine r_newLoss (n := 8) (whole := none) hR0 hu hA hm hl (by omega) (by decide) (by decide) (by decide) rfl ?_
    intro s' hR' hr' _
    refine K s' (Int32.ofNat (o_los M).length, m_done (m_setLos M (o_los M ++ [((a 0).toInt32, (a 1).toInt32, none, 0, false, [])])) 8 a [], fnd) ?_ hR' hr'
    rw [if_neg (fun q => q ⟨⟨by omega, by omega⟩, by omega, by omega⟩)]
    unfold m_addLoss
    rw [if_neg hq]
end
