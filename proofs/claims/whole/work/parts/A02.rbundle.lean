/-! ACTS of the reference: bundles -/
section
variable {nl : Bool} {Ln : Nat} {xs : Nat → Int32} {d : Nat} {σ : am_S} {o : Nat}
theorem OffR.rc {M : mOff} {fs as : List Nat} {σ1 : am_S} (h : OffR σ o M) (hr : Rc o fs as [] σ σ1) (hd : ((13067 :: ofF).all (fun x => ! fs.contains x) && (List.range 53).all (fun x => ! as.contains x)) = true) : OffR σ1 o M := by
  obtain ⟨X, hG⟩ := h.x
  rw [Bool.and_eq_true] at hd
  refine OfX.r (X.rc hr (by rw [Bool.and_eq_true]; exact ⟨sub_all hd.1 (by decide), sub_all hd.2 (by decide)⟩)) (hG.rc hr X.1.lo (by simp) ?_ ?_)
  · have := List.all_eq_true.mp hd.1 13067 (by decide)
    simpa using this
  · have := List.all_eq_true.mp hd.2 52 (by decide)
    simpa using this
theorem r_bundleT {m : Nat} {a : mArg} {M : mOff} {fnd : Int32} {F : Int32 → am_S → Prop} (hR : OffR σ o M) (hu : o_und M = false) (hA : ArgR σ m a) (hm : m = 1060 ∨ m = o + 61) (hl : (o_log M).length ≤ 440000) (hc : m_cnt (o_tel M) 4 ≤ 200) (h100 : (o_pol M).length ≤ 100) (c0 : m_isPol (o_pol M) (a 0))
    (K : ∀ σ' r, r = m_tellA M fnd 4 200 a [] (m_ix (a 0)) (a 1).toInt32 (a 2) [] 1 → OffR σ' o r.2.1 → Rc o raF raA [] σ σ' → F r.1 σ') : c_Ro_bundle_84 nl Ln xs (d + 4) o (some m) σ F := by
  have hR0 := hR
  obtain ⟨hK, hN, hP, hRk, hPl, hPe, hRu, hSe, hLs, hC, hH, hG⟩ := hR
  have lo := hK.lo
  have hn := note_le 4 a
  rw [m_rlog0 hu] at hG
  have a0 := hA.2 0 (by decide)
  have a1 := hA.2 1 (by decide)
  have a2 := hA.2 2 (by decide)
  have a3 := hA.2 3 (by decide)
  have e0 : (0 : Int64).toInt = 0 := by decide
  obtain ⟨i1, i2, i3, i4⟩ := ixI c0.1 c0.2 (by omega)
  refine w_Ro_bundle_84 ⟨is_mk hK.2.1, fun h => ?_, fun h => ?_⟩
  · refine K σ (-7, M, fnd) ?_ hR0 Rc.rf
    rw [m_tellA_pos]
    rw [hPl.1] at h
    exact (n32i (b := 200) (Nat.lt_of_le_of_lt hc (by decide)) (by decide)).mp h
  · have hq : (tlA (o_tel M) 4).length ≠ 200 := fun q => h (by rw [hPl.1, q]; rfl)
    obtain ⟨k1, k2, k3, k4, k5⟩ := hPl
    have hq2 : (tlA (o_tel M) 4).length < 200 := by have : (tlA (o_tel M) 4).length ≤ 200 := hc; omega
    have b0 : 0 ≤ (Int32.ofNat (tlA (o_tel M) 4).length).toInt ∧ (Int32.ofNat (tlA (o_tel M) 4).length).toInt < 200 := by rw [n32 (by omega)]; omega
    have nc : (Int32.ofNat (tlA (o_tel M) 4).length).toNatClampNeg = (tlA (o_tel M) 4).length := n32c (by omega)
    obtain ⟨tt, htt⟩ : ∃ tt : mTell, tt = (Int32.ofNat 4, m_ix (a 0), (a 1).toInt32, o_now M + 1, a 2, []) := ⟨_, rfl⟩
    have ht1 : tt.1 = 4 := by rw [htt]; rfl
    have r0 : Rc o [] [7, 8, 9, 10] [] σ σ := Rc.rf
    simp only [Option.getD_some, z0, z1, z2, k1, oG_13011 hK, nc, a0]
    refine ⟨ar_mk hA.1 (by decide) (by decide), oA_13011 hK b0.1 b0.2, ?_⟩
    rintro s13 e13
    have r13 : Rc o [] [7, 8, 9, 10] [] σ s13 := r0.trans (by rw [e13]; exact Rc.saI (by decide))
    have hK13 := hK.rc r13
    have hA13 := hA.rc hm lo r13 (by decide) (by decide) (by simp)
    have f13 := (r13.fI (g := 13010) (c := o) (by decide)).trans k1
    simp only [f13, oG_13012 hK13, nc, hA13.2 1 (by decide)]
    refine ⟨ar_mk hA13.1 (by decide) (by decide), oA_13012 hK13 b0.1 b0.2, ?_⟩
    rintro s18 e18
    have r18 : Rc o [] [7, 8, 9, 10] [] σ s18 := r13.trans (by rw [e18]; exact Rc.saI (by decide))
    have hK18 := hK.rc r18
    have hA18 := hA.rc hm lo r18 (by decide) (by decide) (by simp)
    have f18 := (r18.fI (g := 13010) (c := o) (by decide)).trans k1
    simp only [f18, oG_13013 hK18, nc, hA18.2 2 (by decide)]
    refine ⟨ar_mk hA18.1 (by decide) (by decide), oA_13013 hK18 b0.1 b0.2, ?_⟩
    rintro s20 e20
    have r20 : Rc o [] [7, 8, 9, 10] [] σ s20 := r18.trans (by rw [e20]; exact Rc.saI (by decide))
    have hK20 := hK.rc r20
    have hA20 := hA.rc hm lo r20 (by decide) (by decide) (by simp)
    have f20 := (r20.fI (g := 13010) (c := o) (by decide)).trans k1
    simp only [f20, oG_13014 hK20, nc, r20.fI (g := 13000) (c := o) (by decide), hN.1]
    refine ⟨oA_13014 hK20 b0.1 b0.2, ?_⟩
    rintro s22 e22
    have r22 : Rc o [] [7, 8, 9, 10] [] σ s22 := r20.trans (by rw [e22]; exact Rc.saI (by decide))
    have hK22 := hK.rc r22
    have hA22 := hA.rc hm lo r22 (by decide) (by decide) (by simp)
    have f22 := (r22.fI (g := 13010) (c := o) (by decide)).trans k1
    rintro s25 e25
    rw [f22, n32s] at e25
    have r25 : Rc o [13010] [7, 8, 9, 10] [] σ s25 := (r22.mono (by decide) (by decide) (by decide)).trans (by rw [e25]; exact Rc.sfI (by decide) (Or.inl rfl))
    have hK25 := hK.rc r25
    have ea : ∀ k i, am_aI s25 (o + k) i = am_up (am_up (am_up (am_up (am_aI σ) (o + 7) (tlA (o_tel M) 4).length (a 0).toInt32) (o + 8) (tlA (o_tel M) 4).length (a 1).toInt32) (o + 9) (tlA (o_tel M) 4).length (a 2).toInt32) (o + 10) (tlA (o_tel M) 4).length (o_now M + 1) (o + k) i := by intro k i; rw [e25, e22, e20, e18, e13]
    have R3 : OffR s25 o (m_setTel M (o_tel M ++ [tt])) := by
      refine ⟨hK25, ⟨(r25.fI (by decide)).trans hN.1, (r25.fI (by decide)).trans hN.2.1, (r25.fI (by decide)).trans hN.2.2.1, (r25.fI (by decide)).trans hN.2.2.2.1, (r25.fI (by decide)).trans hN.2.2.2.2⟩, kPol.rc hP r25 lo (by decide), ?_, ?_, ?_, ?_, ?_, kLos.rc hLs r25 lo (by decide), kCas.rc hC r25 lo (by decide), kHel.rc hH r25 lo (by decide), ?_⟩
      · rw [show tlA (o_tel (m_setTel M (o_tel M ++ [tt]))) 2 = tlA (o_tel M) 2 from tlA_ne (by rw [ht1]; decide)]
        exact kRnk.rc hRk r25 lo (by decide)
      · rw [show tlA (o_tel (m_setTel M (o_tel M ++ [tt]))) 4 = tlA (o_tel M) 4 ++ [tt] from tlA_same ht1]
        refine ⟨by rw [e25, List.length_append]; exact rI_same, k2.push fun i => ?_, k3.push fun i => ?_, k4.push fun i => ?_, k5.push fun i => ?_⟩
        · rw [ea, htt, i1]; simp [am_up]
        · rw [ea, htt]; simp [am_up]
        · rw [ea, htt]; simp [am_up]
        · rw [ea, htt]; simp [am_up]
      · rw [show tlA (o_tel (m_setTel M (o_tel M ++ [tt]))) 5 = tlA (o_tel M) 5 from tlA_ne (by rw [ht1]; decide)]
        exact kPer.rc hPe r25 lo (by decide)
      · rw [show tlA (o_tel (m_setTel M (o_tel M ++ [tt]))) 7 = tlA (o_tel M) 7 from tlA_ne (by rw [ht1]; decide)]
        exact kRul.rc hRu r25 lo (by decide)
      · rw [show tlA (o_tel (m_setTel M (o_tel M ++ [tt]))) 6 = tlA (o_tel M) 6 from tlA_ne (by rw [ht1]; decide)]
        exact kSet.rc hSe r25 lo (by decide)
      · rw [m_rlog0 (M := m_setTel M (o_tel M ++ [tt])) hu]
        exact kLog.rc hG r25 lo (by decide)
    refine r_done (t := []) (n := 4) hK25 (kLog.rc hG r25 lo (by decide)) (hA.rc hm lo r25 (by decide) (by decide) (by simp)) (by decide) (by decide) hm (fun h => absurd h (by decide)) (by omega) ?_
    intro s' h0 hL' hc' _
    refine K s' (1, m_done (m_setTel M (o_tel M ++ [tt])) 4 a [], fnd) ?_ (OffR.done (fs := []) (as := []) hu R3 (by rw [h0, R3.2.1.1]) hL' hc') ((r25.all (by decide)).trans (hc'.all (by decide)))
    rw [m_tellA_neg hq, htt]
theorem r_bundle {m : Nat} {a : mArg} {M : mOff} {fnd : Int32} {F : Int32 → am_S → Prop} (hR : OffR σ o M) (hu : o_und M = false) (hA : ArgR σ m a) (hm : m = 1060 ∨ m = o + 61) (hl : (o_log M).length ≤ 440000) (w : WfD (o_pol M) (o_tel M) (o_los M) (o_cas M))
    (K : ∀ σ' r, r = (if ¬ (m_isPol (o_pol M) (a 0) ∧ ((o_pol M).getD (m_ix (a 0)) mPol0).1 = 6 ∧ m_rg (a 1) 0 3 ∧ (a 2 = -1 ∨ m_isPol (o_pol M) (a 2))) then (-2, M, fnd)
    else if m_dec (a 2 ≠ -1 ∧ m_within (o_pol M) (o_tel M) (o_now M) (m_ix (a 0)) (m_ix (a 2))) = true then (-3, M, fnd)
    else m_tellA M fnd 4 200 a [] (m_ix (a 0)) (a 1).toInt32 (a 2) [] 1) → OffR σ' o r.2.1 → Rc o raF raA [] σ σ' → F r.1 σ') : k_Ro_bundle nl Ln xs (d + 104) o (some m) σ F := by
  have hR0 := hR
  obtain ⟨hK, hN, hP, hRk, hPl, hPe, hRu, hSe, hLs, hC, hH, hG⟩ := hR
  have lo := hK.lo
  have hn := note_le 4 a
  rw [m_rlog0 hu] at hG
  have a0 := hA.2 0 (by decide)
  have a1 := hA.2 1 (by decide)
  have a2 := hA.2 2 (by decide)
  have a3 := hA.2 3 (by decide)
  have e0 : (0 : Int64).toInt = 0 := by decide
  have h100 := w.p100
  have e3 : (3 : Int64).toInt = 3 := by decide
  have bad : ¬ (m_isPol (o_pol M) (a 0) ∧ ((o_pol M).getD (m_ix (a 0)) mPol0).1 = 6 ∧ m_rg (a 1) 0 3 ∧ (a 2 = -1 ∨ m_isPol (o_pol M) (a 2))) → F (-2) σ := fun h => K σ _ (by rw [if_pos h]) hR0 Rc.rf
  have tell : ∀ {s : am_S}, (m_isPol (o_pol M) (a 0) ∧ ((o_pol M).getD (m_ix (a 0)) mPol0).1 = 6 ∧ m_rg (a 1) 0 3 ∧ (a 2 = -1 ∨ m_isPol (o_pol M) (a 2))) → ¬ (a 2 ≠ -1 ∧ m_within (o_pol M) (o_tel M) (o_now M) (m_ix (a 0)) (m_ix (a 2))) → Rc o [] [59] [] σ s → c_Ro_bundle_84 nl Ln xs (d + 104) o (some m) s F := by
    intro s hok hw rs
    refine r_bundleT (fnd := fnd) (d := d + 100) (hR0.rc rs (by decide)) hu (hA.rc hm lo rs (by decide) (by simp) (by simp)) hm hl w.n4 h100 hok.1 (fun σ' r hr hR' hrc => ?_)
    refine K σ' r ?_ hR' ((rs.all (by decide)).trans hrc)
    rw [if_neg (fun q => q hok), if_neg (fun q => hw (m_dec_eq.mp q))]
    exact hr
  have part : (m_isPol (o_pol M) (a 0) ∧ ((o_pol M).getD (m_ix (a 0)) mPol0).1 = 6 ∧ m_rg (a 1) 0 3 ∧ (a 2 = -1 ∨ m_isPol (o_pol M) (a 2))) → c_Ro_bundle_56 nl Ln xs (d + 104) o (some m) σ F := by
    intro hok
    refine w_Ro_bundle_56 ⟨ar_mk hA.1 (by decide) (by decide), ?_⟩
    simp only [Option.getD_some, z0, z1, z2, a0, a2]
    refine ⟨fun h => tell hok (fun q => q.1 h) Rc.rf, fun h => ⟨ar_mk hA.1 (by decide) (by decide), ar_mk hA.1 (by decide) (by decide), is_mk hK.2.1, ?_⟩⟩
    have c2 : m_isPol (o_pol M) (a 2) := by
      rcases hok.2.2.2 with q | q
      · exact absurd q h
      · exact q
    obtain ⟨i1, i2, -, -⟩ := ixI hok.1.1 hok.1.2 (by omega)
    obtain ⟨j1, j2, -, -⟩ := ixI c2.1 c2.2 (by omega)
    rw [i1, j1]
    refine (r_comesIn (d := d) i2 j2 h100 w.n4 w.t w.pl hK hP hPl hN.1 (fun hw s6 r6 _ => ⟨fun _ => ?_, fun q => absurd rfl q⟩) (fun hw s6 r6 _ => ⟨fun q => absurd q (by decide), fun _ => tell hok (fun q => hw q.2) r6⟩))
    refine K s6 (-3, M, fnd) ?_ (hR0.rc r6 (by decide)) (r6.all (by decide))
    rw [if_neg (fun q => q hok), if_pos (m_dec_eq.mpr ⟨h, hw⟩)]
  refine w_Ro_bundle ⟨ar_mk hA.1 (by decide) (by decide), is_mk hK.2.1, ?_⟩
  simp only [Option.getD_some, z0, z1, z2, a0]
  refine r_isPolicy hK hP h100 (fun _ => ⟨fun c0 => ⟨ar_mk hA.1 (by decide) (by decide), ?_⟩, fun c => bad (fun q => c (decide_eq_true q.1))⟩)
  have c0 := of_decide_eq_true c0
  simp only [a0]
  refine r_isCover hK hP h100 (fun _ => ⟨fun cc => bad (fun q => (of_decide_eq_true cc).2 q.2.1), fun cc => ⟨ar_mk hA.1 (by decide) (by decide), ?_⟩⟩)
  have c6 : ((o_pol M).getD (m_ix (a 0)) mPol0).1 = 6 := Classical.byContradiction (fun q => cc (decide_eq_true ⟨c0, q⟩))
  simp only [a1]
  refine r_in (fun c1 c2 => ⟨ar_mk hA.1 (by decide) (by decide), ?_⟩) (fun c => bad (fun q => c (by rw [e0, e3]; exact q.2.2.1)))
  rw [e0] at c1
  rw [e3] at c2
  simp only [a2]
  refine ⟨fun h => part ⟨c0, c6, ⟨c1, c2⟩, Or.inl h⟩, fun h => ⟨ar_mk hA.1 (by decide) (by decide), ?_⟩⟩
  refine r_isPolicy hK hP h100 (fun _ => ⟨fun q => part ⟨c0, c6, ⟨c1, c2⟩, Or.inr (of_decide_eq_true q)⟩, fun c => bad (fun q => ?_)⟩)
  rcases q.2.2.2 with z | z
  · exact h z
  · exact c (decide_eq_true z)
end
