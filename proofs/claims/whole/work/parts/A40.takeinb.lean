/-! TAKING IN, by the reference: the whole tape -/
section
variable {nl : Bool} {Ln : Nat} {xs : Nat → Int32} {d : Nat} {σ : am_S} {o o' : Nat} {D : mTop}
theorem hb_at (h : Int32) : ∀ k, k < 4 → (d_hb h)[k]? = some ((h >>> ((24 - (8 * Int32.ofNat k)) &&& 31)) &&& 255) := by
  intro k hk
  have e0 : ((24 : Int32) - 8 * Int32.ofNat 0) &&& 31 = 24 := by decide
  have e1 : ((24 : Int32) - 8 * Int32.ofNat 1) &&& 31 = 16 := by decide
  have e2 : ((24 : Int32) - 8 * Int32.ofNat 2) &&& 31 = 8 := by decide
  have e3 : ((24 : Int32) - 8 * Int32.ofNat 3) &&& 31 = 0 := by decide
  have hk' : k = 0 ∨ k = 1 ∨ k = 2 ∨ k = 3 := by omega
  rcases hk' with q | q | q | q <;> subst q
  · rw [e0]; rfl
  · rw [e1]; rfl
  · rw [e2]; rfl
  · rw [e3, show h >>> 0 = h from by simp]; rfl
theorem rm_takeIn {F : Int32 → am_S → Prop} (w : DskW D) (hW : d_wfA ((d_tap D).length - 4) m_new (d_fnd D) ((d_tap D).take ((d_tap D).length - 4))) (R : DskR σ o o' D)
    (K : ∀ σ' o1 o1', DskR σ' o1 o1' (d_takeIn D).2 → Rfr σ σ' → F (d_takeIn D).1 σ') : k_Rm_takeIn nl Ln xs (d + 425) 1053 σ F := by
  have lo := R.lo
  have hoo := R.1
  have hM := R.m
  have h40 := w.2.2.2.1
  have h62 := und_fi R.2.2.1.1
  obtain ⟨E, hE⟩ : ∃ E, E = d_takeIn D := ⟨_, rfl⟩
  rw [← hE] at K
  unfold d_takeIn at hE
  obtain ⟨R1, R2, R3, R4, R5, R6, R7, R8⟩ := id R
  have hT := R5
  obtain ⟨t1, t2, t3, t4⟩ := R5
  have ho' : o' = 1063 ∨ o' = 1126 := by omega
  have ho : o = 1063 ∨ o = 1126 := by omega
  have lo' : 1063 ≤ o' := by omega
  have hsw : (o' = 1063 ∧ o = 1126) ∨ (o' = 1126 ∧ o = 1063) := by omega
  refine w_Rm_takeIn ⟨is_mk hM.1, R.nowis, ?_⟩
  rw [R.g, h62]
  refine ⟨fun q => ?_, fun q => ?_⟩
  rotate_left
  · have hu : o_und (d_off D) = true := by
      cases hb : o_und (d_off D)
      · rw [hb] at q; exact absurd rfl q
      · rfl
    rw [if_pos hu] at hE
    rw [hE] at K
    exact K σ o o' R Rfr.rf
  have hu : o_und (d_off D) = false := by
    cases hb : o_und (d_off D)
    · rfl
    · rw [hb] at q; exact absurd q (by decide)
  rw [if_neg (by rw [hu]; decide)] at hE
  rw [R7.2.1]
  have e40 : Int32.ofNat (d_tak D) = 40 ↔ d_tak D = 40 := n32i (b := 40) (by omega) (by decide)
  refine ⟨fun q => ?_, fun q => ?_⟩
  · rw [if_pos (e40.mp q)] at hE
    rw [hE] at K
    exact K σ o o' R Rfr.rf
  rw [if_neg (fun z => q (e40.mpr z))] at hE
  rw [n32s]
  intro s5 q5
  have r5 : Rc o [12007] [] [] σ s5 := by rw [q5]; exact Rc.sfI (by decide) (Or.inr rfl)
  have D5 : DskR s5 o o' (d_setTak D (d_tak D + 1)) := ⟨R1, ⟨by rw [r5.fR]; exact R2.1, by rw [r5.fR]; exact R2.2⟩, ⟨R3.1.rm r5 (by decide), R3.2.rco r5⟩, ⟨R4.1.rc r5, R4.2.1.rc r5, R4.2.2.rc r5⟩, hT.rc r5 lo (by decide) (by decide), R6.rc r5 lo (by decide) (by decide), ⟨(r5.fI (by decide)).trans R7.1, by rw [q5]; exact rI_same, (r5.fI (by decide)).trans R7.2.2⟩, R8.rc r5 lo (by decide) (by decide)⟩
  have f5 : Rfr σ s5 := r5.fr ho (by simp) (by simp)
  have e3 : am_fI s5 12003 1053 = Int32.ofNat (d_tap D).length := (r5.fI (by decide)).trans t1
  rw [e3]
  have e4 : Int32.ofNat (d_tap D).length < 4 ↔ (d_tap D).length < 4 := n32lt (b := 4) (by omega) (by decide)
  refine ⟨fun q => ?_, fun q => ?_⟩
  · rw [if_pos (e4.mp q)] at hE
    rw [hE] at K
    exact K s5 o o' D5 f5
  have hlen : 4 ≤ (d_tap D).length := by rw [e4] at q; omega
  rw [if_neg (by omega)] at hE
  obtain ⟨e, he⟩ : ∃ e, e = (d_tap D).length - 4 := ⟨_, rfl⟩
  have ee : Int32.ofNat (d_tap D).length - 4 = Int32.ofNat e := by
    rw [show (d_tap D).length = e + 4 by omega, ← n32a]
    rw [show Int32.ofNat 4 = 4 from rfl]
    grind
  rw [← he] at hE hW
  rw [ee]
  rintro v9 rfl
  have hbl : ((d_tap D).take e).length = e := by rw [List.length_take]; omega
  simp only [hbl] at hE
  refine ⟨by rw [D5.2.1.2]; exact is_mk D5.2.2.1.2.2.1, ?_⟩
  rw [D5.2.1.2, Option.getD_some]
  refine (r_clear (d := d + 423) D5.2.2.1.2 (fun s12 N12 r12 _ => ?_))
  intro s14 q14
  have r14 : Rc o' [12019] [] [] s12 s14 := by rw [q14]; exact Rc.sfI (by decide) (Or.inr rfl)
  have N14 : OffR s14 o' m_new := N12.rm r14 (by decide)
  have f14 : Rfr σ s14 := (f5.trans (r12.fr ho' (by simp) (by simp))).trans (r14.fr ho' (by simp) (by simp))
  have rr : Rc o' tkF raA [1060] s12 s14 := r14.mono (by decide) (by simp) (by simp)
  have S14 : TaS s14 o' (d_tap D) m_new (d_fnd D) 0 := by
    refine ⟨(D5.m.rc r12).rc r14, (D5.2.2.2.1.2.1.rc r12).rc r14, (D5.2.2.2.2.1.rc r12 lo' (by decide) (by simp)).rc r14 lo' (by decide) (by simp), N14, ?_, by rw [q14]; exact rI_same⟩
    exact (r14.fI (by decide)).trans ((r12.fI (by decide)).trans D5.2.2.2.2.2.2.1.1)
  -- the rest of the desk stands
  have rest : ∀ {s : am_S} {M : mOff} {fnd : Int32} {p : Nat}, TaS s o' (d_tap D) M fnd p → Rc o' tkF raA [1060] s14 s → DskR s o o' (d_setFnd (d_setTak D (d_tak D + 1)) fnd) ∧ Rfr σ s := by
    intro s M fnd p S rs
    have fs : Rfr σ s := f14.trans (rs.fr ho' (by decide) (by decide))
    have r1 : Rc o' (ceF ++ tkF) raA [1060] s5 s := ((r12.mono (fun x h => List.mem_append_left _ h) (by simp) (by simp)).trans (r14.mono (fun x h => List.mem_append_right _ (by simp at h; rw [h]; decide)) (by simp) (by simp))).trans (rs.mono (fun x h => List.mem_append_right _ h) (fun x h => h) (fun x h => h))
    refine ⟨⟨R1, ⟨by rw [r1.fR]; exact D5.2.1.1, by rw [r1.fR]; exact D5.2.1.2⟩, ⟨D5.2.2.1.1.oth r1 hoo (by decide) (by decide), S.2.2.2.1.1⟩, ⟨S.1, S.2.1, D5.2.2.2.1.2.2.rc r1⟩, S.2.2.1, D5.2.2.2.2.2.1.rc r1 lo' (by decide) (by decide), ⟨S.2.2.2.2.1, (r1.fI (by decide)).trans D5.2.2.2.2.2.2.1.2.1, (r1.fI (by decide)).trans D5.2.2.2.2.2.2.1.2.2⟩, D5.2.2.2.2.2.2.2.rc r1 lo' (by decide) (by decide)⟩, fs⟩
  have hmn : ∀ x : Nat, x ≤ 6000 → (-10 : Int32) - Int32.ofNat x = -10 - Int32.ofNat x := fun _ _ => rfl
  -- the end: the sum is compared
  have comp : ∀ (s : am_S) (M : mOff) (fnd : Int32) (k : Nat), TaS s o' (d_tap D) M fnd e → Rc o' tkF raA [1060] s14 s → d_acts e 0 m_new (d_fnd D) ((d_tap D).take e) = (.inr (M, k), fnd) → ∀ (h : Int32), h = d_hash 0 ((d_tap D).take e) → ∀ (m j : Nat), j + m = 4 → (∀ i, i < j → ((d_tap D).drop e)[i]? = (d_hb h)[i]?) → c_Rm_takeIn_138 nl Ln xs (d + 425) 1053 (Int32.ofNat e) (Int32.ofNat k) h (Int32.ofNat j) s F := by
    intro s M fnd k S rs ha h hh m
    obtain ⟨Ds, fs⟩ := rest S rs
    rw [ha] at hE
    simp only [] at hE
    rw [← hh] at hE
    induction m with
    | zero =>
      intro j hj hi
      have heq : (d_tap D).drop e = d_hb h := by
        apply List.ext_getElem?
        intro i
        by_cases h4 : i < j
        · exact hi i h4
        · rw [List.getElem?_eq_none (by rw [List.length_drop]; omega), List.getElem?_eq_none (by show (d_hb h).length ≤ i; unfold d_hb; simp; omega)]
      rw [if_pos heq] at hE
      refine w_Rm_takeIn_138 ⟨fun q => absurd q (by rw [show j = 4 by omega]; decide), fun _ => ⟨is_mk S.1.1, ?_⟩⟩
      rw [Ds.2.1.1, Ds.2.1.2]
      rintro v6 rfl
      intro s8 q8 s11 q11 s14' q14'
      have M11 : ModK s11 := by rw [q11, q8]; exact (S.1.sfr (Or.inl rfl)).sfr (Or.inr rfl)
      have r14' : Rc o' [12003] [] [] s11 s14' := by rw [q14']; exact Rc.sfI (by decide) (Or.inr rfl)
      have f11 : Rfr s s11 := by rw [q11, q8]; exact Rfr.sfr.trans Rfr.sfr
      have n16 : am_fR s14' 12016 1053 = some o' := by rw [r14'.fR, q11, rR_g (by decide), q8]; exact rR_same
      have n17 : am_fR s14' 12017 1053 = some o := by rw [r14'.fR, q11]; exact rR_same
      have O11 : OffR s11 o' M := by rw [q11, q8]; exact (S.2.2.2.1.sfr (Or.inl rfl)).sfr (Or.inr rfl)
      have K11 : OffK s11 o := by rw [q11, q8]; exact (Ds.k.sfr (Or.inl rfl)).sfr (Or.inr rfl)
      rw [hE] at K
      refine K s14' o' o ⟨hsw, ⟨n16, n17⟩, ⟨O11.rm r14' (by decide), K11.rco r14'⟩, ⟨M11.rc r14', ?_, ?_⟩, ?_, ?_, ⟨?_, ?_, ?_⟩, ?_⟩ ((fs.trans f11).trans (r14'.fr ho' (by simp) (by simp)))
      · have : KwR s11 := by rw [q11, q8]; exact S.2.1
        exact this.rc r14'
      · have : RwR s11 := by rw [q11, q8]; exact Ds.2.2.2.1.2.2
        exact this.rc r14'
      · exact ⟨by rw [q14']; exact rI_same, by simp [d_setTap, d_tap], fun b hb => by simp [d_setTap, d_tap] at hb, fun i x hx => by simp [d_setTap, d_tap] at hx⟩
      · have : LetR s11 (d_let D) := by rw [q11, q8]; exact Ds.2.2.2.2.2.1
        exact this.rc r14' lo' (by decide) (by simp)
      · have : am_fI s11 12006 1053 = fnd := by rw [q11, q8]; exact S.2.2.2.2.1
        exact (r14'.fI (by decide)).trans this
      · have : am_fI s11 12007 1053 = Int32.ofNat (d_tak D + 1) := by rw [q11, q8]; exact Ds.2.2.2.2.2.2.1.2.1
        exact (r14'.fI (by decide)).trans this
      · have : am_fI s11 12008 1053 = (d_lok D).1 := by rw [q11, q8]; exact Ds.2.2.2.2.2.2.1.2.2
        exact (r14'.fI (by decide)).trans this
      · have : LkR s11 (d_lok D).2.1 (d_lok D).2.2 := by rw [q11, q8]; exact Ds.2.2.2.2.2.2.2
        exact this.rc r14' lo' (by decide) (by simp)
    | succ m ih =>
      intro j hj hi
      obtain ⟨b, hb⟩ := get_ex (show e + j < (d_tap D).length by omega)
      have vb : am_aI s 1054 (e + j) = b := S.2.2.1.2.2.2 _ _ hb
      have hdr : ((d_tap D).drop e)[j]? = some b := by rw [List.getElem?_drop]; exact hb
      have hat := hb_at h j (by omega)
      refine w_Rm_takeIn_138 ⟨fun _ => ⟨is_mk S.1.1, ?_⟩, fun q => absurd (show Int32.ofNat j < Int32.ofNat 4 by rw [n32lt (by omega) (by omega)]; omega) q⟩
      rw [n32a, mG_12002 S.1, n32c (by omega), vb]
      refine ⟨mA_12002 S.1 (by rw [n32 (by omega)]; omega) (by rw [n32 (by omega)]; omega), fun q => ?_, fun q => ?_⟩
      · rw [n32s]
        refine ih (j + 1) (by omega) (fun i hi2 => ?_)
        by_cases h4 : i < j
        · exact hi i h4
        · rw [show i = j by omega, hdr, hat, q]
      · have hne : ¬ (d_tap D).drop e = d_hb h := fun z => by
          rw [z, hat] at hdr
          exact q (Option.some.inj hdr).symm
        rw [if_neg hne] at hE
        rw [hE] at K
        exact K s o o' Ds fs
  have sum : ∀ (s : am_S) (M : mOff) (fnd : Int32) (k : Nat), TaS s o' (d_tap D) M fnd e → Rc o' tkF raA [1060] s14 s → d_acts e 0 m_new (d_fnd D) ((d_tap D).take e) = (.inr (M, k), fnd) → ∀ (m j : Nat) (h : Int32), j + m = e → d_hash h (((d_tap D).take e).drop j) = d_hash 0 ((d_tap D).take e) → c_Rm_takeIn_110 nl Ln xs (d + 425) 1053 (Int32.ofNat e) (Int32.ofNat k) h (Int32.ofNat j) s F := by
    intro s M fnd k S rs ha m
    induction m with
    | zero =>
      intro j h hj hh
      rw [List.drop_eq_nil_of_le (by omega), d_hash] at hh
      refine w_Rm_takeIn_110 ⟨fun q => ?_, fun _ => comp s M fnd k S rs ha h hh 4 0 (by omega) (fun i hi => by omega)⟩
      rw [n32lt (by omega) (by omega)] at q
      omega
    | succ m ih =>
      intro j h hj hh
      obtain ⟨b, hb⟩ := get_ex (show j < (d_tap D).length by omega)
      have hbt : ((d_tap D).take e)[j]? = some b := by rw [List.getElem?_take, if_pos (by omega)]; exact hb
      have vb : am_aI s 1054 j = b := S.2.2.1.2.2.2 _ _ hb
      refine w_Rm_takeIn_110 ⟨fun _ => ⟨is_mk S.1.1, ?_⟩, fun q => absurd (by rw [n32lt (by omega) (by omega)]; omega) q⟩
      rw [mG_12002 S.1, n32c (by omega), vb]
      refine ⟨mA_12002 S.1 (by rw [n32 (by omega)]; omega) (by rw [n32 (by omega)]; omega), ?_⟩
      rintro v4 rfl
      rw [n32s]
      refine ih (j + 1) _ (by omega) ?_
      rw [drop_get hbt, d_hash] at hh
      exact hh
  -- act after act
  have loop : ∀ (f : Nat) (k p : Nat) (M : mOff) (fnd : Int32) (s : am_S) (x4 : Option Value), p ≤ e → e - p ≤ f → TaS s o' (d_tap D) M fnd p → Rc o' tkF raA [1060] s14 s → d_wfA f M fnd (((d_tap D).take e).drop p) → d_acts f k M fnd (((d_tap D).take e).drop p) = d_acts e 0 m_new (d_fnd D) ((d_tap D).take e) → c_Rm_takeIn_69 nl Ln xs (d + 425) 1053 (Int32.ofNat e) (Int32.ofNat k) 0 x4 s F := by
    intro f
    induction f with
    | zero =>
      intro k p M fnd s x4 hp hf S rs hwf ha
      have hpe : p = e := by omega
      refine w_Rm_takeIn_69 ⟨is_mk S.1.1, ?_⟩
      rw [S.2.2.2.2.2]
      refine ⟨fun q => ?_, fun _ => ?_⟩
      · rw [n32lt (by omega) (by omega)] at q
        omega
      · rw [d_acts] at ha
        rw [hpe] at S
        exact sum s M fnd k S rs ha.symm e 0 0 (by omega) (by rw [List.drop_zero])
    | succ f ih =>
      intro k p M fnd s x4 hp hf S rs hwf ha
      have hll : (((d_tap D).take e).drop p).length = e - p := by rw [List.length_drop, hbl]
      rw [d_acts] at ha
      refine w_Rm_takeIn_69 ⟨is_mk S.1.1, ?_⟩
      rw [S.2.2.2.2.2]
      refine ⟨fun q => ?_, fun q => ?_⟩
      rotate_left
      · have hpe : p = e := by rw [n32lt (by omega) (by omega)] at q; omega
        rw [if_pos (List.length_eq_zero_iff.mp (by omega))] at ha
        rw [hpe] at S
        exact sum s M fnd k S rs ha.symm e 0 0 (by omega) (by rw [List.drop_zero])
      rw [n32lt (by omega) (by omega)] at q
      rw [if_neg (fun z => by rw [z] at hll; simp at hll; omega)] at ha
      rintro v3 rfl
      obtain ⟨⟨w1, w2, w3⟩, w4⟩ := hwf
      obtain ⟨Ds, fs⟩ := rest S rs
      rw [Ds.2.1.2]
      -- where it fails
      have fail : ∀ (s2 : am_S) (fnd2 : Int32), Rc o' tkF raA [1060] s s2 → am_fI s2 12006 1053 = fnd2 → (OffK s2 o' ∧ TapR s2 (d_tap D)) → (.inl (e - p), fnd2) = d_acts e 0 m_new (d_fnd D) ((d_tap D).take e) → F (-10 - Int32.ofNat p) s2 := by
        intro s2 fnd2 r2 hf2 hk2 ha2
        rw [← ha2] at hE
        simp only [] at hE
        rw [show e - (e - p) = p by omega] at hE
        rw [hE] at K
        have rs2 := rs.trans r2
        have fs2 : Rfr σ s2 := f14.trans (rs2.fr ho' (by decide) (by decide))
        have r1 : Rc o' (ceF ++ tkF) raA [1060] s5 s2 := ((r12.mono (fun x h => List.mem_append_left _ h) (by simp) (by simp)).trans (r14.mono (fun x h => List.mem_append_right _ (by simp at h; rw [h]; decide)) (by simp) (by simp))).trans (rs2.mono (fun x h => List.mem_append_right _ h) (fun x h => h) (fun x h => h))
        exact K s2 o o' ⟨R1, ⟨by rw [r1.fR]; exact D5.2.1.1, by rw [r1.fR]; exact D5.2.1.2⟩, ⟨D5.2.2.1.1.oth r1 hoo (by decide) (by decide), hk2.1⟩, ⟨D5.m.rc r1, D5.2.2.2.1.2.1.rc r1, D5.2.2.2.1.2.2.rc r1⟩, hk2.2, D5.2.2.2.2.2.1.rc r1 lo' (by decide) (by decide), ⟨hf2, (r1.fI (by decide)).trans D5.2.2.2.2.2.2.1.2.1, (r1.fI (by decide)).trans D5.2.2.2.2.2.2.1.2.2⟩, D5.2.2.2.2.2.2.2.rc r1 lo' (by decide) (by decide)⟩ fs2
      refine (r_takesOne (d := d) (e := e) w1 w2 w3 S (by omega) (by omega) (fun hd s2 r2 hf2 _ => ⟨fun z => absurd z (by decide), fun _ => ?_⟩) (fun n vs x r hd q2 hq2 s2 p2 b hb S2 hr2 hpp hpe2 r2 _ => ⟨fun hbt => ?_, fun hbf => ?_⟩))
      · rw [hd] at ha
        simp only [hll] at ha
        exact fail s2 fnd r2 hf2 ⟨S.2.2.2.1.1.rc r2, S.2.2.1.rc r2 lo' (by decide) (by decide)⟩ ha
      · rw [hd] at ha
        have hdec : m_dec (d_good n q2.1) = true := by
          unfold m_dec
          exact @decide_eq_true _ (Classical.propDecidable _) (hb.mp hbt)
        simp only [← hq2, hdec, if_true] at ha
        rw [hr2] at ha hd
        have hw5 := w4 n vs x _ hd
        rw [← hq2] at hw5
        rw [n32s]
        exact ih (k + 1) p2 q2.2.1 q2.2.2 s2 _ hpe2 (by omega) S2 (rs.trans r2) hw5 ha
      · rw [hd] at ha
        have hdec : m_dec (d_good n q2.1) = false := by
          unfold m_dec
          exact @decide_eq_false _ (Classical.propDecidable _) (fun z => hbf (hb.mpr z))
        simp only [← hq2, hdec, hll, Bool.false_eq_true, if_false] at ha
        exact fail s2 q2.2.2 r2 S2.2.2.2.2.1 ⟨S2.2.2.2.1.1, S2.2.2.1⟩ ha
  exact loop e 0 0 m_new (d_fnd D) s14 none (by omega) (by omega) S14 Rc.rf (by rw [List.drop_zero]; exact hW) (by rw [List.drop_zero])
end
