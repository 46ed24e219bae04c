/-! ACTS of the reference: what is told -/
section
variable {nl : Bool} {Ln : Nat} {xs : Nat → Int32} {d : Nat} {σ : am_S} {o : Nat}
/-- the last values of an act, behind other writes -/
theorem m_tellA_pos {M : mOff} {fnd : Int32} {n most : Nat} {a : mArg} {t : List Int32} {who : Nat} {which : Int32} {v : Int64} {C : List mCl} {ans : Int32} (h : m_cnt (o_tel M) (Int32.ofNat n) = most) : m_tellA M fnd n most a t who which v C ans = (-7, M, fnd) := if_pos h
theorem m_tellA_neg {M : mOff} {fnd : Int32} {n most : Nat} {a : mArg} {t : List Int32} {who : Nat} {which : Int32} {v : Int64} {C : List mCl} {ans : Int32} (h : m_cnt (o_tel M) (Int32.ofNat n) ≠ most) : m_tellA M fnd n most a t who which v C ans = (ans, m_done (m_setTel M (o_tel M ++ [(Int32.ofNat n, who, which, o_now M + 1, v, C)])) n a t, fnd) := if_neg h
theorem r_rank {m : Nat} {a : mArg} {M : mOff} {fnd : Int32} {F : Int32 → am_S → Prop} (hR : OffR σ o M) (hu : o_und M = false) (hA : ArgR σ m a) (hm : m = 1060 ∨ m = o + 61) (hl : (o_log M).length ≤ 440000) (hc : m_cnt (o_tel M) 2 ≤ 60)
    (K : ∀ σ' r, r = (if ¬ (m_rg (a 0) 0 5 ∧ m_rg (a 1) 0 9) then (-2, M, fnd) else m_tellA M fnd 2 60 a [] 0 (a 0).toInt32 (a 1) [] 1) → OffR σ' o r.2.1 → Rc o raF raA [] σ σ' → F r.1 σ') : k_Ro_rankTold nl Ln xs (d + 4) o (some m) σ F := by
  have hR0 := hR
  obtain ⟨hK, hN, hP, hRk, hPl, hPe, hRu, hSe, hLs, hC, hH, hG⟩ := hR
  have lo := hK.lo
  have hn := note_le 2 a
  rw [m_rlog0 hu] at hG
  have a0 := hA.2 0 (by decide)
  have a1 := hA.2 1 (by decide)
  have a2 := hA.2 2 (by decide)
  have a3 := hA.2 3 (by decide)
  have e0 : (0 : Int64).toInt = 0 := by decide
  have e5 : (5 : Int64).toInt = 5 := by decide
  have e9 : (9 : Int64).toInt = 9 := by decide
  have bad : ¬ (m_rg (a 0) 0 5 ∧ m_rg (a 1) 0 9) → F (-2) σ := fun h => K σ _ (by rw [if_pos h]) hR0 Rc.rf
  refine w_Ro_rankTold ⟨ar_mk hA.1 (by decide) (by decide), ?_⟩
  simp only [Option.getD_some, z0, z1, a0]
  refine r_in (fun c1 c2 => ⟨ar_mk hA.1 (by decide) (by decide), ?_⟩) (fun c => bad (fun q => c (by rw [e5, e0]; exact q.1)))
  simp only [a1]
  refine r_in (fun c3 c4 => ⟨is_mk hK.2.1, fun h => ?_, fun h => ?_⟩) (fun c => bad (fun q => c (by rw [e9, e0]; exact q.2)))
  · refine K σ (-7, M, fnd) ?_ hR0 Rc.rf
    rw [if_neg (fun q => q ⟨⟨by omega, by omega⟩, by omega, by omega⟩), m_tellA_pos]
    rw [hRk.1] at h
    exact (n32i (b := 60) (Nat.lt_of_le_of_lt hc (by decide)) (by decide)).mp h
  · have hq : (tlA (o_tel M) 2).length ≠ 60 := fun q => h (by rw [hRk.1, q]; rfl)
    have hq2 : (tlA (o_tel M) 2).length < 60 := by have : (tlA (o_tel M) 2).length ≤ 60 := hc; omega
    obtain ⟨k1, k2, k3, k4⟩ := hRk
    have b0 : 0 ≤ (Int32.ofNat (tlA (o_tel M) 2).length).toInt ∧ (Int32.ofNat (tlA (o_tel M) 2).length).toInt < 60 := by rw [n32 (by omega)]; omega
    have nc : (Int32.ofNat (tlA (o_tel M) 2).length).toNatClampNeg = (tlA (o_tel M) 2).length := n32c (by omega)
    have r0 : Rc o [] [4, 5, 6] [] σ σ := Rc.rf
    obtain ⟨tt, htt⟩ : ∃ tt : mTell, tt = (Int32.ofNat 2, 0, (a 0).toInt32, o_now M + 1, a 1, []) := ⟨_, rfl⟩
    have ht1 : tt.1 = 2 := by rw [htt]; rfl
    simp only [k1, oG_13007 hK, nc, a0]
    refine ⟨ar_mk hA.1 (by decide) (by decide), oA_13007 hK b0.1 b0.2, ?_⟩
    rintro s13 e13
    have r13 : Rc o [] [4, 5, 6] [] σ s13 := r0.trans (by rw [e13]; exact Rc.saI (by decide))
    have hK13 := hK.rc r13
    have hA13 := hA.rc hm lo r13 (by decide) (by decide) (by simp)
    have f13 := (r13.fI (g := 13006) (c := o) (by decide)).trans k1
    simp only [f13, oG_13008 hK13, nc, hA13.2 1 (by decide)]
    refine ⟨ar_mk hA13.1 (by decide) (by decide), oA_13008 hK13 b0.1 b0.2, ?_⟩
    rintro s18 e18
    have r18 : Rc o [] [4, 5, 6] [] σ s18 := r13.trans (by rw [e18]; exact Rc.saI (by decide))
    have hK18 := hK.rc r18
    have hA18 := hA.rc hm lo r18 (by decide) (by decide) (by simp)
    have f18 := (r18.fI (g := 13006) (c := o) (by decide)).trans k1
    simp only [f18, oG_13009 hK18, nc, r18.fI (g := 13000) (c := o) (by decide), hN.1]
    refine ⟨oA_13009 hK18 b0.1 b0.2, ?_⟩
    rintro s22 e22
    have r22 : Rc o [] [4, 5, 6] [] σ s22 := r18.trans (by rw [e22]; exact Rc.saI (by decide))
    have hK22 := hK.rc r22
    have hA22 := hA.rc hm lo r22 (by decide) (by decide) (by simp)
    have f22 := (r22.fI (g := 13006) (c := o) (by decide)).trans k1
    rintro s25 e25
    rw [f22, n32s] at e25
    have r25 : Rc o [13006] [4, 5, 6] [] σ s25 := (r22.mono (by decide) (by decide) (by decide)).trans (by rw [e25]; exact Rc.sfI (by decide) (Or.inl rfl))
    have hK25 := hK.rc r25
    have ea : ∀ k i, am_aI s25 (o + k) i = am_up (am_up (am_up (am_aI σ) (o + 4) (tlA (o_tel M) 2).length (a 0).toInt32) (o + 5) (tlA (o_tel M) 2).length (a 1).toInt32) (o + 6) (tlA (o_tel M) 2).length (o_now M + 1) (o + k) i := by intro k i; rw [e25, e22, e18, e13]
    have R3 : OffR s25 o (m_setTel M (o_tel M ++ [tt])) := by
      refine ⟨hK25, ⟨(r25.fI (by decide)).trans hN.1, (r25.fI (by decide)).trans hN.2.1, (r25.fI (by decide)).trans hN.2.2.1, (r25.fI (by decide)).trans hN.2.2.2.1, (r25.fI (by decide)).trans hN.2.2.2.2⟩, kPol.rc hP r25 lo (by decide), ?_, ?_, ?_, ?_, ?_, kLos.rc hLs r25 lo (by decide), kCas.rc hC r25 lo (by decide), kHel.rc hH r25 lo (by decide), ?_⟩
      · rw [show tlA (o_tel (m_setTel M (o_tel M ++ [tt]))) 2 = tlA (o_tel M) 2 ++ [tt] from tlA_same ht1]
        refine ⟨by rw [e25, List.length_append]; exact rI_same, k2.push fun i => ?_, k3.push fun i => ?_, k4.push fun i => ?_⟩ <;> (rw [ea, htt]; simp [am_up])
      · rw [show tlA (o_tel (m_setTel M (o_tel M ++ [tt]))) 4 = tlA (o_tel M) 4 from tlA_ne (by rw [ht1]; decide)]
        exact kPla.rc hPl r25 lo (by decide)
      · rw [show tlA (o_tel (m_setTel M (o_tel M ++ [tt]))) 5 = tlA (o_tel M) 5 from tlA_ne (by rw [ht1]; decide)]
        exact kPer.rc hPe r25 lo (by decide)
      · rw [show tlA (o_tel (m_setTel M (o_tel M ++ [tt]))) 7 = tlA (o_tel M) 7 from tlA_ne (by rw [ht1]; decide)]
        exact kRul.rc hRu r25 lo (by decide)
      · rw [show tlA (o_tel (m_setTel M (o_tel M ++ [tt]))) 6 = tlA (o_tel M) 6 from tlA_ne (by rw [ht1]; decide)]
        exact kSet.rc hSe r25 lo (by decide)
      · rw [m_rlog0 (M := m_setTel M (o_tel M ++ [tt])) hu]
        exact kLog.rc hG r25 lo (by decide)
    refine r_done (t := []) (n := 2) hK25 (kLog.rc hG r25 lo (by decide)) (hA.rc hm lo r25 (by decide) (by decide) (by simp)) (by decide) (by decide) hm (fun h => absurd h (by decide)) (by omega) ?_
    intro s' h0 hL' hc' _
    refine K s' (1, m_done (m_setTel M (o_tel M ++ [tt])) 2 a [], fnd) ?_ (OffR.done (fs := []) (as := []) hu R3 (by rw [h0, R3.2.1.1]) hL' hc') ((r25.all (by decide)).trans (hc'.all (by decide)))
    rw [if_neg (fun q => q ⟨⟨by omega, by omega⟩, by omega, by omega⟩), m_tellA_neg hq, htt]
theorem r_isPolicy {v : Int64} {P : List mPol} {F : Bool → am_S → Prop} (hK : OffK σ o) (hP : rPol σ o P) (h100 : P.length ≤ 100) (K : F (decide (m_isPol P v)) σ) : k_Ro_isPolicy nl Ln xs (d + 2) o v σ F := by
  refine w_Ro_isPolicy ⟨is_mk hK.2.1, ?_⟩
  rw [hP.1]
  refine w_Rm_in (fun _ => ?_)
  have e : (Int32.ofNat P.length - 1).toInt = P.length - 1 := by rw [i32sub] <;> rw [n32 (by omega)] <;> (have : (1 : Int32).toInt = 1 := by decide) <;> omega
  have e2 : (decide (decide (¬ v < 0 ∧ ¬ (Int32.ofNat P.length - 1).toInt64 < v) = true)) = decide (m_isPol P v) := by
    apply decide_eq_decide.mpr
    rw [decide_eq_true_eq, i64lt, i64lt, t64, e]
    have z : (0 : Int64).toInt = 0 := by decide
    rw [z]
    unfold m_isPol
    omega
  rw [e2]
  exact K
theorem ixI {v : Int64} {n : Nat} (h0 : 0 ≤ v.toInt) (h1 : v.toInt < n) (hn : n < 2147483648) : v.toInt32 = Int32.ofNat (m_ix v) ∧ m_ix v < n ∧ (v.toInt32).toInt = v.toInt ∧ (v.toInt32).toNatClampNeg = m_ix v := by
  have e : (v.toInt32).toInt = v.toInt := t32 (by omega) (by omega)
  have e1 : m_ix v < n := by unfold m_ix; omega
  have e2 : v.toInt32 = Int32.ofNat (m_ix v) := by
    apply Int32.toInt_inj.mp
    rw [e, n32 (by omega)]
    unfold m_ix
    omega
  exact ⟨e2, e1, e, by rw [e2, n32c (by omega)]⟩
theorem getD_some {α : Type} {l : List α} {i : Nat} (z : α) (h : i < l.length) : l[i]? = some (l.getD i z) := by simp [List.getD, List.getElem?_eq_getElem h]
theorem r_isCover {v : Int64} {P : List mPol} {F : Bool → am_S → Prop} (hK : OffK σ o) (hP : rPol σ o P) (h100 : P.length ≤ 100) (K : F (decide (m_isCov P v)) σ) : k_Ro_isCover nl Ln xs (d + 3) o v σ F := by
  refine w_Ro_isCover ⟨is_mk hK.2.1, r_isPolicy hK hP h100 (fun _ => ?_)⟩
  refine ⟨fun h => ?_, ?_⟩
  · have h := of_decide_eq_true h
    obtain ⟨e1, e2, e3, e4⟩ := ixI h.1 h.2 (by omega)
    exact oA_13003 hK (by omega) (by omega)
  · have e : (decide (m_isPol P v) = true ∧ ¬ am_aI σ ((am_fR σ 13003 o).getD 0) v.toInt32.toNatClampNeg = 6) ↔ m_isCov P v := by
      unfold m_isCov
      rw [decide_eq_true_eq]
      apply and_congr_right
      intro h
      obtain ⟨e1, e2, e3, e4⟩ := ixI h.1 h.2 (by omega)
      rw [oG_13003 hK, e4, hP.2.1 _ _ (getD_some mPol0 e2)]
    rw [decide_eq_decide.mpr e]
    exact K
theorem r_rule {m : Nat} {a : mArg} {M : mOff} {fnd : Int32} {F : Int32 → am_S → Prop} (hR : OffR σ o M) (hu : o_und M = false) (hA : ArgR σ m a) (hm : m = 1060 ∨ m = o + 61) (hl : (o_log M).length ≤ 440000) (hc : m_cnt (o_tel M) 7 ≤ 150) (h100 : (o_pol M).length ≤ 100)
    (K : ∀ σ' r, r = (if ¬ (m_isCov (o_pol M) (a 0) ∧ m_rg (a 1) 0 2) then (-2, M, fnd) else m_tellA M fnd 7 150 a [] (m_ix (a 0)) 0 (a 1) [] 1) → OffR σ' o r.2.1 → Rc o raF raA [] σ σ' → F r.1 σ') : k_Ro_ruleTold nl Ln xs (d + 4) o (some m) σ F := by
  have hR0 := hR
  obtain ⟨hK, hN, hP, hRk, hPl, hPe, hRu, hSe, hLs, hC, hH, hG⟩ := hR
  have lo := hK.lo
  have hn := note_le 7 a
  rw [m_rlog0 hu] at hG
  have a0 := hA.2 0 (by decide)
  have a1 := hA.2 1 (by decide)
  have a2 := hA.2 2 (by decide)
  have a3 := hA.2 3 (by decide)
  have e0 : (0 : Int64).toInt = 0 := by decide
  have e2 : (2 : Int64).toInt = 2 := by decide
  have bad : ¬ (m_isCov (o_pol M) (a 0) ∧ m_rg (a 1) 0 2) → F (-2) σ := fun h => K σ _ (by rw [if_pos h]) hR0 Rc.rf
  refine w_Ro_ruleTold ⟨ar_mk hA.1 (by decide) (by decide), is_mk hK.2.1, ?_⟩
  simp only [Option.getD_some, z0, z1, a0]
  refine r_isCover hK hP h100 (fun _ => ⟨fun c0 => ⟨ar_mk hA.1 (by decide) (by decide), ?_⟩, fun c => bad (fun q => c (decide_eq_true q.1))⟩)
  have c0 := of_decide_eq_true c0
  simp only [a1]
  obtain ⟨i1, i2, i3, i4⟩ := ixI c0.1.1 c0.1.2 (by omega)
  refine r_in (fun c3 c4 => ⟨fun h => ?_, fun h => ?_⟩) (fun c => bad (fun q => c (by rw [e2, e0]; exact q.2)))
  · refine K σ (-7, M, fnd) ?_ hR0 Rc.rf
    rw [if_neg (fun q => q ⟨c0, by omega, by omega⟩), m_tellA_pos]
    rw [hRu.1] at h
    exact (n32i (b := 150) (Nat.lt_of_le_of_lt hc (by decide)) (by decide)).mp h
  · have hq : (tlA (o_tel M) 7).length ≠ 150 := fun q => h (by rw [hRu.1, q]; rfl)
    obtain ⟨k1, k2, k3, k4⟩ := hRu
    have hq2 : (tlA (o_tel M) 7).length < 150 := by have : (tlA (o_tel M) 7).length ≤ 150 := hc; omega
    have b0 : 0 ≤ (Int32.ofNat (tlA (o_tel M) 7).length).toInt ∧ (Int32.ofNat (tlA (o_tel M) 7).length).toInt < 150 := by rw [n32 (by omega)]; omega
    have nc : (Int32.ofNat (tlA (o_tel M) 7).length).toNatClampNeg = (tlA (o_tel M) 7).length := n32c (by omega)
    obtain ⟨tt, htt⟩ : ∃ tt : mTell, tt = (Int32.ofNat 7, m_ix (a 0), 0, o_now M + 1, a 1, []) := ⟨_, rfl⟩
    have ht1 : tt.1 = 7 := by rw [htt]; rfl
    have r0 : Rc o [] [15, 16, 17] [] σ σ := Rc.rf
    simp only [k1, oG_13021 hK, nc, a0]
    refine ⟨ar_mk hA.1 (by decide) (by decide), oA_13021 hK b0.1 b0.2, ?_⟩
    rintro s13 e13
    have r13 : Rc o [] [15, 16, 17] [] σ s13 := r0.trans (by rw [e13]; exact Rc.saI (by decide))
    have hK13 := hK.rc r13
    have hA13 := hA.rc hm lo r13 (by decide) (by decide) (by simp)
    have f13 := (r13.fI (g := 13020) (c := o) (by decide)).trans k1
    simp only [f13, oG_13022 hK13, nc, hA13.2 1 (by decide)]
    refine ⟨ar_mk hA13.1 (by decide) (by decide), oA_13022 hK13 b0.1 b0.2, ?_⟩
    rintro s18 e18
    have r18 : Rc o [] [15, 16, 17] [] σ s18 := r13.trans (by rw [e18]; exact Rc.saI (by decide))
    have hK18 := hK.rc r18
    have hA18 := hA.rc hm lo r18 (by decide) (by decide) (by simp)
    have f18 := (r18.fI (g := 13020) (c := o) (by decide)).trans k1
    simp only [f18, oG_13023 hK18, nc, r18.fI (g := 13000) (c := o) (by decide), hN.1]
    refine ⟨oA_13023 hK18 b0.1 b0.2, ?_⟩
    rintro s22 e22
    have r22 : Rc o [] [15, 16, 17] [] σ s22 := r18.trans (by rw [e22]; exact Rc.saI (by decide))
    have hK22 := hK.rc r22
    have hA22 := hA.rc hm lo r22 (by decide) (by decide) (by simp)
    have f22 := (r22.fI (g := 13020) (c := o) (by decide)).trans k1
    rintro s25 e25
    rw [f22, n32s] at e25
    have r25 : Rc o [13020] [15, 16, 17] [] σ s25 := (r22.mono (by decide) (by decide) (by decide)).trans (by rw [e25]; exact Rc.sfI (by decide) (Or.inl rfl))
    have hK25 := hK.rc r25
    have ea : ∀ k i, am_aI s25 (o + k) i = am_up (am_up (am_up (am_aI σ) (o + 15) (tlA (o_tel M) 7).length (a 0).toInt32) (o + 16) (tlA (o_tel M) 7).length (a 1).toInt32) (o + 17) (tlA (o_tel M) 7).length (o_now M + 1) (o + k) i := by intro k i; rw [e25, e22, e18, e13]
    have R3 : OffR s25 o (m_setTel M (o_tel M ++ [tt])) := by
      refine ⟨hK25, ⟨(r25.fI (by decide)).trans hN.1, (r25.fI (by decide)).trans hN.2.1, (r25.fI (by decide)).trans hN.2.2.1, (r25.fI (by decide)).trans hN.2.2.2.1, (r25.fI (by decide)).trans hN.2.2.2.2⟩, kPol.rc hP r25 lo (by decide), ?_, ?_, ?_, ?_, ?_, kLos.rc hLs r25 lo (by decide), kCas.rc hC r25 lo (by decide), kHel.rc hH r25 lo (by decide), ?_⟩
      · rw [show tlA (o_tel (m_setTel M (o_tel M ++ [tt]))) 2 = tlA (o_tel M) 2 from tlA_ne (by rw [ht1]; decide)]
        exact kRnk.rc hRk r25 lo (by decide)
      · rw [show tlA (o_tel (m_setTel M (o_tel M ++ [tt]))) 4 = tlA (o_tel M) 4 from tlA_ne (by rw [ht1]; decide)]
        exact kPla.rc hPl r25 lo (by decide)
      · rw [show tlA (o_tel (m_setTel M (o_tel M ++ [tt]))) 5 = tlA (o_tel M) 5 from tlA_ne (by rw [ht1]; decide)]
        exact kPer.rc hPe r25 lo (by decide)
      · rw [show tlA (o_tel (m_setTel M (o_tel M ++ [tt]))) 7 = tlA (o_tel M) 7 ++ [tt] from tlA_same ht1]
        refine ⟨by rw [e25, List.length_append]; exact rI_same, k2.push fun i => ?_, k3.push fun i => ?_, k4.push fun i => ?_⟩ <;> (rw [ea, htt, i1]; simp [am_up])
      · rw [show tlA (o_tel (m_setTel M (o_tel M ++ [tt]))) 6 = tlA (o_tel M) 6 from tlA_ne (by rw [ht1]; decide)]
        exact kSet.rc hSe r25 lo (by decide)
      · rw [m_rlog0 (M := m_setTel M (o_tel M ++ [tt])) hu]
        exact kLog.rc hG r25 lo (by decide)
    refine r_done (t := []) (n := 7) hK25 (kLog.rc hG r25 lo (by decide)) (hA.rc hm lo r25 (by decide) (by decide) (by simp)) (by decide) (by decide) hm (fun h => absurd h (by decide)) (by omega) ?_
    intro s' h0 hL' hc' _
    refine K s' (1, m_done (m_setTel M (o_tel M ++ [tt])) 7 a [], fnd) ?_ (OffR.done (fs := []) (as := []) hu R3 (by rw [h0, R3.2.1.1]) hL' hc') ((r25.all (by decide)).trans (hc'.all (by decide)))
    rw [if_neg (fun q => q ⟨c0, by omega, by omega⟩), m_tellA_neg hq, htt]
theorem r_period {m : Nat} {a : mArg} {M : mOff} {fnd : Int32} {F : Int32 → am_S → Prop} (hR : OffR σ o M) (hu : o_und M = false) (hA : ArgR σ m a) (hm : m = 1060 ∨ m = o + 61) (hl : (o_log M).length ≤ 440000) (hc : m_cnt (o_tel M) 5 ≤ 300) (h100 : (o_pol M).length ≤ 100)
    (K : ∀ σ' r, r = (if ¬ (m_isCov (o_pol M) (a 0) ∧ m_rg (a 1) (m_year ((o_pol M).getD (m_ix (a 0)) mPol0).2.1).toInt (m_year ((o_pol M).getD (m_ix (a 0)) mPol0).2.2).toInt ∧ m_rg (a 2) 0 1000000000000) then (-2, M, fnd) else m_tellA M fnd 5 300 a [] (m_ix (a 0)) (a 1).toInt32 (a 2) [] 1) → OffR σ' o r.2.1 → Rc o raF raA [] σ σ' → F r.1 σ') : k_Ro_period nl Ln xs (d + 4) o (some m) σ F := by
  have hR0 := hR
  obtain ⟨hK, hN, hP, hRk, hPl, hPe, hRu, hSe, hLs, hC, hH, hG⟩ := hR
  have lo := hK.lo
  have hn := note_le 5 a
  rw [m_rlog0 hu] at hG
  have a0 := hA.2 0 (by decide)
  have a1 := hA.2 1 (by decide)
  have a2 := hA.2 2 (by decide)
  have a3 := hA.2 3 (by decide)
  have e0 : (0 : Int64).toInt = 0 := by decide
  have e2 : (1000000000000 : Int64).toInt = 1000000000000 := by decide
  have bad : ¬ (m_isCov (o_pol M) (a 0) ∧ m_rg (a 1) (m_year ((o_pol M).getD (m_ix (a 0)) mPol0).2.1).toInt (m_year ((o_pol M).getD (m_ix (a 0)) mPol0).2.2).toInt ∧ m_rg (a 2) 0 1000000000000) → F (-2) σ := fun h => K σ _ (by rw [if_pos h]) hR0 Rc.rf
  refine w_Ro_period ⟨ar_mk hA.1 (by decide) (by decide), is_mk hK.2.1, ?_⟩
  simp only [Option.getD_some, z0, z1, z2, a0]
  refine r_isCover hK hP h100 (fun _ => ⟨fun c0 => ?_, fun c => bad (fun q => c (decide_eq_true q.1))⟩)
  have c0 := of_decide_eq_true c0
  simp only [a0, a1]
  obtain ⟨i1, i2, i3, i4⟩ := ixI c0.1.1 c0.1.2 (by omega)
  have hg := getD_some mPol0 i2
  simp only [oG_13004 hK, oG_13005 hK, i4, hP.2.2.1 _ _ hg, hP.2.2.2 _ _ hg]
  refine ⟨ar_mk hA.1 (by decide) (by decide), ar_mk hA.1 (by decide) (by decide), oA_13004 hK (by omega) (by omega), ar_mk hA.1 (by decide) (by decide), oA_13005 hK (by omega) (by omega), ?_⟩
  refine r_in (fun c1 c2 => ⟨ar_mk hA.1 (by decide) (by decide), ?_⟩) (fun c => bad (fun q => c (by rw [t64, t64]; exact q.2.1)))
  rw [t64] at c1 c2
  simp only [a2]
  refine r_in (fun c3 c4 => ⟨fun h => ?_, fun h => ?_⟩) (fun c => bad (fun q => c (by rw [e2, e0]; exact q.2.2)))
  · refine K σ (-7, M, fnd) ?_ hR0 Rc.rf
    rw [if_neg (fun q => q ⟨c0, ⟨c1, c2⟩, by omega, by omega⟩), m_tellA_pos]
    rw [hPe.1] at h
    exact (n32i (b := 300) (Nat.lt_of_le_of_lt hc (by decide)) (by decide)).mp h
  · have hq : (tlA (o_tel M) 5).length ≠ 300 := fun q => h (by rw [hPe.1, q]; rfl)
    obtain ⟨k1, k2, k3, k4, k5⟩ := hPe
    have hq2 : (tlA (o_tel M) 5).length < 300 := by have : (tlA (o_tel M) 5).length ≤ 300 := hc; omega
    have b0 : 0 ≤ (Int32.ofNat (tlA (o_tel M) 5).length).toInt ∧ (Int32.ofNat (tlA (o_tel M) 5).length).toInt < 300 := by rw [n32 (by omega)]; omega
    have nc : (Int32.ofNat (tlA (o_tel M) 5).length).toNatClampNeg = (tlA (o_tel M) 5).length := n32c (by omega)
    obtain ⟨tt, htt⟩ : ∃ tt : mTell, tt = (Int32.ofNat 5, m_ix (a 0), (a 1).toInt32, o_now M + 1, a 2, []) := ⟨_, rfl⟩
    have ht1 : tt.1 = 5 := by rw [htt]; rfl
    have r0 : Rc o [] [11, 12, 13, 14] [] σ σ := Rc.rf
    simp only [k1, oG_13016 hK, nc, a0]
    refine ⟨ar_mk hA.1 (by decide) (by decide), oA_13016 hK b0.1 b0.2, ?_⟩
    rintro s13 e13
    have r13 : Rc o [] [11, 12, 13, 14] [] σ s13 := r0.trans (by rw [e13]; exact Rc.saI (by decide))
    have hK13 := hK.rc r13
    have hA13 := hA.rc hm lo r13 (by decide) (by decide) (by simp)
    have f13 := (r13.fI (g := 13015) (c := o) (by decide)).trans k1
    simp only [f13, oG_13017 hK13, nc, hA13.2 1 (by decide)]
    refine ⟨ar_mk hA13.1 (by decide) (by decide), oA_13017 hK13 b0.1 b0.2, ?_⟩
    rintro s18 e18
    have r18 : Rc o [] [11, 12, 13, 14] [] σ s18 := r13.trans (by rw [e18]; exact Rc.saI (by decide))
    have hK18 := hK.rc r18
    have hA18 := hA.rc hm lo r18 (by decide) (by decide) (by simp)
    have f18 := (r18.fI (g := 13015) (c := o) (by decide)).trans k1
    simp only [f18, oG_13018 hK18, nc, hA18.2 2 (by decide)]
    refine ⟨ar_mk hA18.1 (by decide) (by decide), oA_13018 hK18 b0.1 b0.2, ?_⟩
    rintro s20 e20
    have r20 : Rc o [] [11, 12, 13, 14] [] σ s20 := r18.trans (by rw [e20]; exact Rc.saL (by decide))
    have hK20 := hK.rc r20
    have hA20 := hA.rc hm lo r20 (by decide) (by decide) (by simp)
    have f20 := (r20.fI (g := 13015) (c := o) (by decide)).trans k1
    simp only [f20, oG_13019 hK20, nc, r20.fI (g := 13000) (c := o) (by decide), hN.1]
    refine ⟨oA_13019 hK20 b0.1 b0.2, ?_⟩
    rintro s22 e22
    have r22 : Rc o [] [11, 12, 13, 14] [] σ s22 := r20.trans (by rw [e22]; exact Rc.saI (by decide))
    have hK22 := hK.rc r22
    have hA22 := hA.rc hm lo r22 (by decide) (by decide) (by simp)
    have f22 := (r22.fI (g := 13015) (c := o) (by decide)).trans k1
    rintro s25 e25
    rw [f22, n32s] at e25
    have r25 : Rc o [13015] [11, 12, 13, 14] [] σ s25 := (r22.mono (by decide) (by decide) (by decide)).trans (by rw [e25]; exact Rc.sfI (by decide) (Or.inl rfl))
    have hK25 := hK.rc r25
    have ea : ∀ k i, am_aI s25 (o + k) i = am_up (am_up (am_up (am_aI σ) (o + 11) (tlA (o_tel M) 5).length (a 0).toInt32) (o + 12) (tlA (o_tel M) 5).length (a 1).toInt32) (o + 14) (tlA (o_tel M) 5).length (o_now M + 1) (o + k) i := by intro k i; rw [e25, e22, e20, e18, e13]
    have el : ∀ k i, am_aL s25 (o + k) i = am_up (am_aL σ) (o + 13) (tlA (o_tel M) 5).length (a 2) (o + k) i := by intro k i; rw [e25, e22, e20, e18, e13]
    have R3 : OffR s25 o (m_setTel M (o_tel M ++ [tt])) := by
      refine ⟨hK25, ⟨(r25.fI (by decide)).trans hN.1, (r25.fI (by decide)).trans hN.2.1, (r25.fI (by decide)).trans hN.2.2.1, (r25.fI (by decide)).trans hN.2.2.2.1, (r25.fI (by decide)).trans hN.2.2.2.2⟩, kPol.rc hP r25 lo (by decide), ?_, ?_, ?_, ?_, ?_, kLos.rc hLs r25 lo (by decide), kCas.rc hC r25 lo (by decide), kHel.rc hH r25 lo (by decide), ?_⟩
      · rw [show tlA (o_tel (m_setTel M (o_tel M ++ [tt]))) 2 = tlA (o_tel M) 2 from tlA_ne (by rw [ht1]; decide)]
        exact kRnk.rc hRk r25 lo (by decide)
      · rw [show tlA (o_tel (m_setTel M (o_tel M ++ [tt]))) 4 = tlA (o_tel M) 4 from tlA_ne (by rw [ht1]; decide)]
        exact kPla.rc hPl r25 lo (by decide)
      · rw [show tlA (o_tel (m_setTel M (o_tel M ++ [tt]))) 5 = tlA (o_tel M) 5 ++ [tt] from tlA_same ht1]
        refine ⟨by rw [e25, List.length_append]; exact rI_same, k2.push fun i => ?_, k3.push fun i => ?_, k4.push fun i => ?_, k5.push fun i => ?_⟩
        · rw [ea, htt, i1]; simp [am_up]
        · rw [ea, htt]; simp [am_up]
        · rw [el, htt]; simp [am_up]
        · rw [ea, htt]; simp [am_up]
      · rw [show tlA (o_tel (m_setTel M (o_tel M ++ [tt]))) 7 = tlA (o_tel M) 7 from tlA_ne (by rw [ht1]; decide)]
        exact kRul.rc hRu r25 lo (by decide)
      · rw [show tlA (o_tel (m_setTel M (o_tel M ++ [tt]))) 6 = tlA (o_tel M) 6 from tlA_ne (by rw [ht1]; decide)]
        exact kSet.rc hSe r25 lo (by decide)
      · rw [m_rlog0 (M := m_setTel M (o_tel M ++ [tt])) hu]
        exact kLog.rc hG r25 lo (by decide)
    refine r_done (t := []) (n := 5) hK25 (kLog.rc hG r25 lo (by decide)) (hA.rc hm lo r25 (by decide) (by decide) (by simp)) (by decide) (by decide) hm (fun h => absurd h (by decide)) (by omega) ?_
    intro s' h0 hL' hc' _
    refine K s' (1, m_done (m_setTel M (o_tel M ++ [tt])) 5 a [], fnd) ?_ (OffR.done (fs := []) (as := []) hu R3 (by rw [h0, R3.2.1.1]) hL' hc') ((r25.all (by decide)).trans (hc'.all (by decide)))
    rw [if_neg (fun q => q ⟨c0, ⟨c1, c2⟩, by omega, by omega⟩), m_tellA_neg hq, htt]
end
