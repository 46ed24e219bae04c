/-! THE REFERENCE'S DESK and the model -/
def RwR (σ : am_S) : Prop := ∀ k, k < 13 → am_aR σ 1062 k = some (k + 8)
def d_sb (b : Int32) : Int32 := vp_nar .byte b.toInt8.toInt32
def LetR (σ : am_S) (L : List Int32) : Prop := am_fI σ 12005 1053 = Int32.ofNat L.length ∧ (∀ b ∈ L, 0 ≤ b.toInt ∧ b.toInt ≤ 255) ∧ rwI σ 1055 L d_sb
def TapR (σ : am_S) (t : List Int32) : Prop := am_fI σ 12003 1053 = Int32.ofNat t.length ∧ t.length ≤ 6000 ∧ (∀ b ∈ t, 0 ≤ b.toInt ∧ b.toInt ≤ 255) ∧ rwI σ 1054 t (fun b => b)
def DskR (σ : am_S) (o o' : Nat) (D : mTop) : Prop := ((o = 1063 ∧ o' = 1126) ∨ (o = 1126 ∧ o' = 1063)) ∧ (am_fR σ 12016 1053 = some o ∧ am_fR σ 12017 1053 = some o') ∧ (OffR σ o (d_off D) ∧ OffK σ o') ∧ (ModK σ ∧ KwR σ ∧ RwR σ) ∧ TapR σ (d_tap D) ∧ LetR σ (d_let D) ∧ (am_fI σ 12006 1053 = d_fnd D ∧ am_fI σ 12007 1053 = Int32.ofNat (d_tak D) ∧ am_fI σ 12008 1053 = (d_lok D).1) ∧ LkR σ (d_lok D).2.1 (d_lok D).2.2
theorem OffK.rco {σ σ1 : am_S} {o o' : Nat} {fs as ms : List Nat} (h : OffK σ o) (hr : Rc o' fs as ms σ σ1) : OffK σ1 o := by
  obtain ⟨h1, h2, h3, h4⟩ := h
  exact ⟨h1, by rw [hr.kd]; exact h2, by rw [hr.fR]; exact h3, fun q hq => by rw [hr.kd, hr.fR]; exact h4 q hq⟩
theorem rKeep.oth {Q : am_S → Prop} {o o' : Nat} {fl al fs as ms : List Nat} {σ σ1 : am_S} (h : rKeep Q o fl al) (hQ : Q σ) (hr : Rc o' fs as ms σ σ1) (ho : (o = 1063 ∧ o' = 1126) ∨ (o = 1126 ∧ o' = 1063)) (ha : ∀ k ∈ as, k < 63) (hm : ∀ x ∈ ms, x < 1063) (hl : ∀ k ∈ al, k < 63) : Q σ1 := by
  refine h σ σ1 (fun g _ => (hr.2.2.2.2.2.1 g o (fun q => ?_)).1) (fun k hk i => hr.2.2.2.2.2.2 (o + k) i (fun k' hk' => ?_) (fun q => ?_)) hQ
  · rcases q.2 with q | q <;> omega
  · have := ha k' hk'
    have := hl k hk
    omega
  · have := hm _ q
    omega
/-- the other office stands -/
theorem OffR.oth {σ σ1 : am_S} {o o' : Nat} {fs as ms : List Nat} {M : mOff} (h : OffR σ o M) (hr : Rc o' fs as ms σ σ1) (ho : (o = 1063 ∧ o' = 1126) ∨ (o = 1126 ∧ o' = 1063)) (ha : ∀ k ∈ as, k < 63) (hm : ∀ x ∈ ms, x < 1063) : OffR σ1 o M := by
  obtain ⟨hK, hN, hP, hRk, hPl, hPe, hRu, hSe, hLs, hC, hH, hG⟩ := h
  exact ⟨hK.rco hr, kNum.oth hN hr ho ha hm (by decide), kPol.oth hP hr ho ha hm (by decide), kRnk.oth hRk hr ho ha hm (by decide), kPla.oth hPl hr ho ha hm (by decide), kPer.oth hPe hr ho ha hm (by decide), kRul.oth hRu hr ho ha hm (by decide), kSet.oth hSe hr ho ha hm (by decide), kLos.oth hLs hr ho ha hm (by decide), kCas.oth hC hr ho ha hm (by decide), kHel.oth hH hr ho ha hm (by decide), kLog.oth hG hr ho ha hm (by decide)⟩
section
variable {σ σ1 : am_S} {o o' : Nat} {fs as ms : List Nat} {L t : List Int32} {D : mTop}
theorem LetR.rc (h : LetR σ L) (hr : Rc o fs as ms σ σ1) (h0 : 1063 ≤ o) (hf : 12005 ∉ fs) (hm : 1055 ∉ ms) : LetR σ1 L := ⟨(hr.fI hf).trans h.1, h.2.1, h.2.2.eq fun i => hr.aIm h0 (by decide) hm⟩
theorem TapR.rc (h : TapR σ t) (hr : Rc o fs as ms σ σ1) (h0 : 1063 ≤ o) (hf : 12003 ∉ fs) (hm : 1054 ∉ ms) : TapR σ1 t := ⟨(hr.fI hf).trans h.1, h.2.1, h.2.2.1, h.2.2.2.eq fun i => hr.aIm h0 (by decide) hm⟩
theorem RwR.rc (h : RwR σ) (hr : Rc o fs as ms σ σ1) : RwR σ1 := fun k hk => by rw [hr.aR]; exact h k hk
theorem LkR.rc {rows : List mRow} {tr : List Int32} (h : LkR σ rows tr) (hr : Rc o fs as ms σ σ1) (h0 : 1063 ≤ o) (hf : 12012 ∉ fs ∧ 12014 ∉ fs) (hm : 1056 ∉ ms ∧ 1057 ∉ ms ∧ 1058 ∉ ms ∧ 1059 ∉ ms) : LkR σ1 rows tr := ⟨⟨(hr.fI hf.1).trans h.1.1, h.1.2.1.eq fun i => hr.aIm h0 (by decide) hm.1, h.1.2.2.1.eq fun i => hr.aIm h0 (by decide) hm.2.1, h.1.2.2.2.eq fun i => hr.aLm h0 (by decide) hm.2.2.1⟩, (hr.fI hf.2).trans h.2.1, fun i hi x hx => (hr.aIm h0 (by decide) hm.2.2.2).trans (h.2.2 i hi x hx)⟩
theorem DskR.lo (h : DskR σ o o' D) : 1063 ≤ o := by rcases h.1 with q | q <;> omega
theorem DskR.now (h : DskR σ o o' D) : am_fR σ 12016 1053 = some o := h.2.1.1
theorem DskR.k (h : DskR σ o o' D) : OffK σ o := h.2.2.1.1.1
theorem DskR.m (h : DskR σ o o' D) : ModK σ := h.2.2.2.1.1
theorem DskR.nowis (h : DskR σ o o' D) : am_is σ (am_fR σ 12016 1053) 13 := by rw [h.now]; exact is_mk h.k.2.1
theorem DskR.g (h : DskR σ o o' D) : (am_fR σ 12016 1053).getD 0 = o := by rw [h.now]; rfl
end
/-! letters put -/
theorem sb_and (p : Int32) : d_sb (p &&& 255) = d_sb p := by
  unfold d_sb
  have e : (p &&& 255).toInt8 = p.toInt8 := by
    apply Int8.toBitVec_inj.mp
    have h : ∀ i : Fin 32, (255#32)[i] = decide (i.val < 8) := by decide
    have h8 : ∀ i : Fin 8, (255#8)[i] = true := by decide
    simp only [Int32.toBitVec_toInt8, Int32.toBitVec_and, Int32.toBitVec_ofNat]
    ext i hi
    have h1 := h ⟨i, by omega⟩
    simp only [Fin.getElem_fin] at h1
    simp [BitVec.getElem_setWidth, h1, hi]
    intro _
    have := h8 ⟨i, hi⟩
    simpa using this
  rw [e]
section
variable {nl : Bool} {Ln : Nat} {xs : Nat → Int32} {d : Nat} {σ : am_S} {o : Nat} {L : List Int32}
theorem b255r (p : Int32) : 0 ≤ (p &&& 255).toInt ∧ (p &&& 255).toInt ≤ 255 := by
  have h : (p &&& 255).toBitVec.toNat ≤ 255 := by
    rw [Int32.toBitVec_and, BitVec.toNat_and]
    exact Nat.le_trans Nat.and_le_right (by decide)
  have e : (p &&& 255).toInt = ((p &&& 255).toBitVec.toNat : Int) := by
    rw [Int32.toInt, BitVec.toInt_eq_toNat_of_lt (by omega)]
  omega
/-- what the putting of letters may change -/
def leF : List Nat := [12005]
theorem r_put2 {p : Int32} {F : am_S → Prop} (hM : ModK σ) (h : LetR σ L) (hl : L.length < 500000) (K : ∀ σ', LetR σ' (L ++ [p &&& 255]) → Rc o leF [] [1055] σ σ' → F σ') : k_Rm_put2 nl Ln xs (d + 1) 1053 p σ F := by
  have bl : 0 ≤ (Int32.ofNat L.length).toInt ∧ (Int32.ofNat L.length).toInt < 500000 := by rw [n32 (by omega)]; omega
  obtain ⟨h1, h2, h3⟩ := h
  refine w_Rm_put2 ⟨is_mk hM.1, ?_⟩
  rw [h1, mG_12004 hM, n32c (by omega)]
  refine ⟨mA_12004 hM bl.1 bl.2, ?_⟩
  intro s3 q3 s6 q6
  have r3 : Rc o leF [] [1055] σ s3 := by rw [q3]; exact Rc.saIm (by decide)
  have e5 : am_fI s3 12005 1053 = Int32.ofNat L.length := by rw [q3]; exact h1
  rw [e5, n32s] at q6
  have r6 : Rc o leF [] [1055] σ s6 := r3.trans (by rw [q6]; exact Rc.sfI (by decide) (Or.inr rfl))
  refine K s6 ⟨by rw [List.length_append, q6]; exact rI_same, fun b hb => ?_, h3.push fun i => ?_⟩ r6
  · rcases List.mem_append.mp hb with hb | hb
    · exact h2 b hb
    · rw [List.mem_singleton.mp hb]; exact b255r p
  · rw [q6]
    show am_aI s3 1055 i = _
    rw [saI_all q3, sb_and]
    rfl
end
