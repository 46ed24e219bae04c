/-! THE DESK of the reference: acts -/
section
variable {nl : Bool} {Ln : Nat} {xs : Nat → Int32} {d : Nat} {σ : am_S} {o o' : Nat} {D : mTop}
theorem OffR.rm {σ1 : am_S} {fs ms : List Nat} {M : mOff} (h : OffR σ o M) (hr : Rc o fs [] ms σ σ1) (hd : ((13067 :: ofF).all (fun x => ! fs.contains x) && ms.all (fun x => decide (x < 1063))) = true) : OffR σ1 o M := by
  rw [Bool.and_eq_true] at hd
  have lo := h.1.lo
  have e : ∀ al : List Nat, (al.all (fun x => ! ([] : List Nat).contains x)) = true := fun al => by simp
  obtain ⟨hK, hN, hP, hRk, hPl, hPe, hRu, hSe, hLs, hC, hH, hG⟩ := h
  have go : ∀ fl : List Nat, ∀ al : List Nat, fl.all (fun x => (13067 :: ofF).contains x) = true → (fl.all (fun x => ! fs.contains x) && (al.all (fun x => ! ([] : List Nat).contains x) && ms.all (fun x => decide (x < 1063)))) = true := fun fl al hf => by
    rw [Bool.and_eq_true, Bool.and_eq_true]
    exact ⟨sub_all hd.1 hf, e al, hd.2⟩
  exact ⟨hK.rc hr, kNum.rc hN hr lo (go _ _ (by decide)), kPol.rc hP hr lo (go _ _ (by decide)), kRnk.rc hRk hr lo (go _ _ (by decide)), kPla.rc hPl hr lo (go _ _ (by decide)), kPer.rc hPe hr lo (go _ _ (by decide)), kRul.rc hRu hr lo (go _ _ (by decide)), kSet.rc hSe hr lo (go _ _ (by decide)), kLos.rc hLs hr lo (go _ _ (by decide)), kCas.rc hC hr lo (go _ _ (by decide)), kHel.rc hH hr lo (go _ _ (by decide)), kLog.rc hG hr lo (go _ _ (by decide))⟩
theorem sal_arg {s : am_S} {c : Nat} {l : List Int64} (h : ∀ j, j < 6 → am_aL s c j = l.getD j 0) (hk : am_kd s c = (1001, 6)) : ArgR s c (d_arg l) := ⟨hk, h⟩
theorem r_rmAct {n : Nat} {p1 p2 p3 p4 : Int64} {F : Int32 → am_S → Prop} (w : WfX (d_off D)) (hl : (m_rlog (d_off D)).length ≤ 430000) (hnow : (o_now (d_off D)).toInt ≤ 2000000000) (R : DskR σ o o' D) (h1 : 1 ≤ n) (h2 : n ≤ 22) {t : List Int32} (ht : n = 6 → rwI σ (o + 62) t (fun b => b) ∧ t.length ≤ 400 ∧ (∀ b ∈ t, 0 ≤ b.toInt) ∧ p2 = Int64.ofNat t.length)
    (K : ∀ r, r = m_act (d_off D) (d_fnd D) n (d_arg [p1, p2, p3, p4]) t → ∀ σ', DskR σ' o o' (d_setFnd (d_setOff D r.2.1) r.2.2) → Rc o reF raA [1060] σ σ' → F r.1 σ') : k_Rm_act nl Ln xs (d + 424) 1053 (Int32.ofNat n) p1 p2 p3 p4 σ F := by
  have hM := R.m
  have lo := R.lo
  obtain ⟨R1, R2, R3, R4, R5, R6, R7, R8⟩ := R
  refine w_Rm_act ⟨is_mk hM.1, mA_12018 hM (by decide) (by decide), ?_⟩
  rw [mG_12018 hM]
  intro s3 q3
  have r3 : Rc o [] [] [1060] σ s3 := by rw [q3]; exact Rc.saLm (by decide)
  have hM3 := hM.rc r3
  refine ⟨mA_12018 hM3 (by decide) (by decide), ?_⟩
  rw [mG_12018 hM3]
  intro s7 q7
  have r7 : Rc o [] [] [1060] s3 s7 := by rw [q7]; exact Rc.saLm (by decide)
  have hM7 := hM3.rc r7
  refine ⟨mA_12018 hM7 (by decide) (by decide), ?_⟩
  rw [mG_12018 hM7]
  intro s11 q11
  have r11 : Rc o [] [] [1060] s7 s11 := by rw [q11]; exact Rc.saLm (by decide)
  have hM11 := hM7.rc r11
  refine ⟨mA_12018 hM11 (by decide) (by decide), ?_⟩
  rw [mG_12018 hM11]
  intro s15 q15
  have r15 : Rc o [] [] [1060] s11 s15 := by rw [q15]; exact Rc.saLm (by decide)
  have hM15 := hM11.rc r15
  refine ⟨mA_12018 hM15 (by decide) (by decide), ?_⟩
  rw [mG_12018 hM15]
  intro s19 q19
  have r19 : Rc o [] [] [1060] s15 s19 := by rw [q19]; exact Rc.saLm (by decide)
  have hM19 := hM15.rc r19
  refine ⟨mA_12018 hM19 (by decide) (by decide), ?_⟩
  rw [mG_12018 hM19]
  intro s23 q23
  have r23 : Rc o [] [] [1060] s19 s23 := by rw [q23]; exact Rc.saLm (by decide)
  have hM23 := hM19.rc r23
  have rr : Rc o [] [] [1060] σ s23 := ((((r3.trans r7).trans r11).trans r15).trans r19).trans r23
  have hA : ArgR s23 1060 (d_arg [p1, p2, p3, p4]) := by
    refine ⟨mK_12018 hM23, fun j hj => ?_⟩
    rw [saL_all q23, saL_all q19, saL_all q15, saL_all q11, saL_all q7, saL_all q3]
    have e0 : (0 : Int32).toNatClampNeg = 0 := by decide
    have e1 : (1 : Int32).toNatClampNeg = 1 := by decide
    have e2 : (2 : Int32).toNatClampNeg = 2 := by decide
    have e3 : (3 : Int32).toNatClampNeg = 3 := by decide
    have e4 : (4 : Int32).toNatClampNeg = 4 := by decide
    have e5 : (5 : Int32).toNatClampNeg = 5 := by decide
    rw [e0, e1, e2, e3, e4, e5]
    have hj' : j = 0 ∨ j = 1 ∨ j = 2 ∨ j = 3 ∨ j = 4 ∨ j = 5 := by omega
    rcases hj' with h | h | h | h | h | h <;> subst h <;> rfl
  have now23 : am_fR s23 12016 1053 = some o := by rw [rr.fR]; exact R2.1
  rw [now23, mR_12018 hM23]
  have Ro23 : OffR s23 o (d_off D) := R3.1.rm rr (by decide)
  refine ⟨is_mk Ro23.1.2.1, (r_act (d := d) (t := t) w Ro23 hM23 (R4.2.1.rc rr) hl hnow hA (Or.inl rfl) ((rr.fI (by simp)).trans R7.1) h1 h2 (fun h => ?_) (fun r hr s27 R27 f27 r27 _ => ?_))⟩
  · obtain ⟨t1, t2, t3, t4⟩ := ht h
    exact ⟨t1.eq fun i => rr.aI lo (by decide) (by simp), t2, t3, t4⟩
  · have r27' : Rc o reF raA [1060] σ s27 := (rr.mono (by simp) (by simp) (by simp)).trans (r27.mono (fun x h => h) (fun x h => h) (by simp))
    refine K r hr s27 ⟨R1, ⟨by rw [r27'.fR]; exact R2.1, by rw [r27'.fR]; exact R2.2⟩, ⟨R27, R3.2.rco r27'⟩, ⟨hM.rc r27', R4.2.1.rc r27', R4.2.2.rc r27'⟩, R5.rc r27' lo (by decide) (by decide), R6.rc r27' lo (by decide) (by decide), ⟨f27, (r27'.fI (by decide)).trans R7.2.1, (r27'.fI (by decide)).trans R7.2.2⟩, R8.rc r27' lo (by decide) (by decide)⟩ r27'
end
