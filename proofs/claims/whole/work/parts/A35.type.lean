/-! THE DESK of the reference: typing, writing -/
theorem d_arg2 (a b : Int64) : d_arg [a, b] = d_arg [a, b, 0, 0] := by
  funext j
  match j with
  | 0 => rfl
  | 1 => rfl
  | 2 => rfl
  | 3 => rfl
  | _ + 4 => rfl
theorem b255L (v : Int64) : 0 ≤ (v &&& 255).toInt32.toInt ∧ (v &&& 255).toInt32.toInt ≤ 255 := by
  have h : (v &&& 255).toBitVec.toNat ≤ 255 := by
    rw [Int64.toBitVec_and, BitVec.toNat_and]
    exact Nat.le_trans Nat.and_le_right (by decide)
  have e : (v &&& 255).toInt = ((v &&& 255).toBitVec.toNat : Int) := by
    rw [Int64.toInt, BitVec.toInt_eq_toNat_of_lt (by omega)]
  rw [t32 (by omega) (by omega)]
  omega
section
variable {nl : Bool} {Ln : Nat} {xs : Nat → Int32} {d : Nat} {σ : am_S} {o o' : Nat} {D : mTop}
theorem DskR.tap {σ1 : am_S} {L : List Int32} (R : DskR σ o o' D) (hr : Rc o [12003] [] [1054] σ σ1) (hL : TapR σ1 L) : DskR σ1 o o' (d_setTap D L) := by
  have lo := R.lo
  obtain ⟨R1, R2, R3, R4, R5, R6, R7, R8⟩ := R
  exact ⟨R1, ⟨by rw [hr.fR]; exact R2.1, by rw [hr.fR]; exact R2.2⟩, ⟨R3.1.rm hr (by decide), R3.2.rco hr⟩, ⟨R4.1.rc hr, R4.2.1.rc hr, R4.2.2.rc hr⟩, hL, R6.rc hr lo (by decide) (by decide), ⟨(hr.fI (by decide)).trans R7.1, (hr.fI (by decide)).trans R7.2.1, (hr.fI (by decide)).trans R7.2.2⟩, R8.rc hr lo (by decide) (by decide)⟩
theorem r_type {wv : Int64} {n : Int32} {F : Int32 → am_S → Prop} (R : DskR σ o o' D) (K : ∀ σ', DskR σ' o o' (d_type D wv n).2 → Rc o [12003] [] [1054] σ σ' → F (d_type D wv n).1 σ') : k_Rm_type nl Ln xs (d + 1) 1053 wv n σ F := by
  have lo := R.lo
  have hM := R.m
  obtain ⟨E, hE⟩ : ∃ E, E = d_type D wv n := ⟨_, rfl⟩
  rw [← hE] at K
  unfold d_type at hE
  have z0 : (0 : Int32).toInt = 0 := by decide
  have z8 : (8 : Int32).toInt = 8 := by decide
  have z6 : (6000 : Int32).toInt = 6000 := by decide
  have hT := R.2.2.2.2.1
  have loop : ∀ (k : Nat) (L1 : List Int32) (σ1 : am_S), k ≤ 8 → TapR σ1 L1 → L1.length + k ≤ 6000 → Rc o [12003] [] [1054] σ σ1 → (∀ σ', TapR σ' (L1 ++ d_bytes wv k) → Rc o [12003] [] [1054] σ σ' → F (Int32.ofNat (L1.length + k)) σ') → c_Rm_type_42 nl Ln xs (d + 1) 1053 wv n (Int32.ofNat k - 1) σ1 F := by
    intro k
    induction k with
    | zero =>
      intro L1 σ1 _ h1 hl r1 K1
      refine w_Rm_type_42 ⟨fun _ => ⟨is_mk (hM.rc r1).1, ?_⟩, fun q => absurd (by decide) q⟩
      rw [h1.1]
      refine K1 σ1 ?_ r1
      rw [d_bytes, List.append_nil]
      exact h1
    | succ k ih =>
      intro L1 σ1 h8 h1 hl r1 K1
      have M1 := hM.rc r1
      have bl : 0 ≤ (Int32.ofNat L1.length).toInt ∧ (Int32.ofNat L1.length).toInt < 6000 := by rw [n32 (by omega)]; omega
      rw [o32]
      refine w_Rm_type_42 ⟨fun q => ?_, fun _ => ⟨is_mk M1.1, ?_⟩⟩
      · rw [i32lt, n32 (by omega), z0] at q
        omega
      · obtain ⟨t1, t2, t3, t4⟩ := h1
        rw [t1, mG_12002 M1, n32c (by omega)]
        refine ⟨mA_12002 M1 bl.1 bl.2, ?_⟩
        intro s5 q5 s8 q8
        have r5 : Rc o [12003] [] [1054] σ s5 := r1.trans (by rw [q5]; exact Rc.saIm (by decide))
        have e5 : am_fI s5 12003 1053 = Int32.ofNat L1.length := by rw [q5]; exact t1
        rw [e5, n32s] at q8
        have r8 : Rc o [12003] [] [1054] σ s8 := r5.trans (by rw [q8]; exact Rc.sfI (by decide) (Or.inr rfl))
        have hm1 : Int32.ofNat k + -1 = Int32.ofNat k - 1 := by grind
        rw [hm1]
        refine ih (L1 ++ [((wv >>> ((8 * Int32.ofNat k).toInt64 &&& 63)) &&& 255).toInt32]) s8 (by omega) ⟨by rw [List.length_append, q8]; exact rI_same, by rw [List.length_append, List.length_singleton]; omega, fun b hb => ?_, t4.push fun i => ?_⟩ (by rw [List.length_append, List.length_singleton]; omega) r8 (fun σ' h' r' => ?_)
        · rcases List.mem_append.mp hb with hb | hb
          · exact t3 b hb
          · rw [List.mem_singleton.mp hb]; exact b255L _
        · rw [q8]
          show am_aI s5 1054 i = _
          rw [saI_all q5]
        · rw [List.length_append, List.length_singleton]
          have := K1 σ' (by rw [d_bytes]; rw [List.append_assoc] at h'; exact h') r'
          rw [show L1.length + 1 + k = L1.length + (k + 1) by omega]
          exact this
  refine w_Rm_type ⟨fun q => ?_, fun q => ⟨fun q2 => ?_, fun q2 => ⟨fun q3 => ⟨is_mk hM.1, ?_⟩, fun q3 => ⟨is_mk hM.1, ?_⟩⟩⟩⟩
  · rw [i32lt, z0] at q
    rw [if_pos (Or.inl q)] at hE
    rw [hE] at K
    exact K σ R Rc.rf
  · rw [i32lt, z8] at q2
    rw [if_pos (Or.inr q2)] at hE
    rw [hE] at K
    exact K σ R Rc.rf
  · rw [i32lt, z0] at q
    rw [i32lt, z8] at q2
    have hn0 : n.toInt = 0 := by rw [q3]; decide
    rw [if_neg (by omega), if_pos hn0] at hE
    intro s5 q5
    have r5 : Rc o [12003] [] [1054] σ s5 := by rw [q5]; exact Rc.sfI (by decide) (Or.inr rfl)
    have e5 : am_fI s5 12003 1053 = 0 := by rw [q5]; exact rI_same
    have T5 : TapR s5 [] := ⟨e5, by simp, fun b hb => by simp at hb, fun i x hx => by simp at hx⟩
    rw [e5, q3]
    refine ⟨fun z => absurd z (by decide), fun _ => ?_⟩
    rintro v9 rfl
    have h := loop 0 [] s5 (by omega) T5 (by simp) r5 (fun σ' T' r' => by
      rw [hE] at K
      exact K σ' (R.tap r' T') r')
    rw [q3] at h
    exact h
  · rw [i32lt, z0] at q
    rw [i32lt, z8] at q2
    have hn0 : ¬ n.toInt = 0 := fun z => q3 (by rw [i32e, z]; decide)
    rw [if_neg (by omega), if_neg hn0] at hE
    have hs : (am_fI σ 12003 1053 + n).toInt = (d_tap D).length + n.toInt := by
      have h6 := hT.2.1
      rw [hT.1, i32add (by rw [n32 (by omega)]; omega) (by rw [n32 (by omega)]; omega), n32 (by omega)]
    refine ⟨fun q4 => ?_, fun q4 => ?_⟩
    · rw [i32lt, hs, z6] at q4
      rw [if_pos (by omega)] at hE
      rw [hE] at K
      exact K σ R Rc.rf
    · rw [i32lt, hs, z6] at q4
      rw [if_neg (by omega)] at hE
      have en := n32of (show 0 ≤ n.toInt by omega)
      have hn8 : n.toInt.toNat ≤ 8 := by omega
      rintro v13 rfl
      have h := loop n.toInt.toNat (d_tap D) σ hn8 hT (by omega) Rc.rf (fun σ' T' r' => by
        rw [hE] at K
        exact K σ' (R.tap r' T') r')
      rw [← en] at h
      exact h
theorem r_write {F : Int32 → am_S → Prop} (w : DskW D) (R : DskR σ o o' D) (K : ∀ σ', DskR σ' o o' (d_write D).2 → Rc o leF [] [1055] σ σ' → F (d_write D).1 σ') : k_Rm_write nl Ln xs (d + 2) 1053 σ F := by
  have lo := R.lo
  have hlog := w.2.1
  obtain ⟨E, hE⟩ : ∃ E, E = d_write D := ⟨_, rfl⟩
  rw [← hE] at K
  unfold d_write at hE
  have h62 := und_fi R.2.2.1.1
  have hG := R.2.2.1.1.x.2
  refine w_Rm_write ⟨is_mk R.m.1, R.nowis, ?_⟩
  rw [R.g, h62]
  refine ⟨fun q => ?_, fun q => ?_⟩
  · have hu : o_und (d_off D) = false := by
      cases hb : o_und (d_off D)
      · rfl
      · rw [hb] at q; exact absurd q (by decide)
    rw [if_neg (by rw [hu]; decide)] at hE
    rw [m_rlog0 hu] at hG hlog
    intro s4 q4
    have r4 : Rc o leF [] [1055] σ s4 := by rw [q4]; exact Rc.sfI (by decide) (Or.inr rfl)
    have L4 : LetR s4 [] := ⟨by rw [q4]; exact rI_same, fun b hb => by simp at hb, fun i x hx => by simp at hx⟩
    -- the four bytes
    have last : ∀ (s1 : am_S) (h : Int32), h = d_hash 0 (o_log (d_off D)) → LetR s1 (o_log (d_off D)) → Rc o leF [] [1055] σ s1 → c_Rm_write_74 nl Ln xs (d + 2) 1053 h 24 s1 F := by
      intro s1 h hh L1 r1
      refine w_Rm_write_74 ⟨fun z => absurd z (by decide), fun _ => ⟨is_mk (R.m.rc r1).1, (r_put2 (o := o) (R.m.rc r1) L1 (by omega) (fun s2 L2 r2 _ => ?_))⟩⟩
      have r2' := r1.trans r2
      refine w_Rm_write_74 ⟨fun z => absurd z (by decide), fun _ => ⟨is_mk (R.m.rc r2').1, (r_put2 (o := o) (R.m.rc r2') L2 (by simp; omega) (fun s3 L3 r3 _ => ?_))⟩⟩
      have r3' := r2'.trans r3
      refine w_Rm_write_74 ⟨fun z => absurd z (by decide), fun _ => ⟨is_mk (R.m.rc r3').1, (r_put2 (o := o) (R.m.rc r3') L3 (by simp; omega) (fun s4 L4 r4 _ => ?_))⟩⟩
      have r4' := r3'.trans r4
      refine w_Rm_write_74 ⟨fun z => absurd z (by decide), fun _ => ⟨is_mk (R.m.rc r4').1, (r_put2 (o := o) (R.m.rc r4') L4 (by simp; omega) (fun s5 L5 r5 _ => ?_))⟩⟩
      have r5' := r4'.trans r5
      refine w_Rm_write_74 ⟨fun _ => ⟨is_mk (R.m.rc r5').1, ?_⟩, fun z => absurd (by decide) z⟩
      have e : o_log (d_off D) ++ [(h >>> (24 &&& 31)) &&& 255] ++ [(h >>> ((24 + -8) &&& 31)) &&& 255] ++ [(h >>> ((24 + -8 + -8) &&& 31)) &&& 255] ++ [(h >>> ((24 + -8 + -8 + -8) &&& 31)) &&& 255] = o_log (d_off D) ++ d_hb (d_hash 0 (o_log (d_off D))) := by
        rw [← hh]
        unfold d_hb
        rw [show (24 : Int32) &&& 31 = 24 by decide, show ((24 : Int32) + -8) &&& 31 = 16 by decide, show ((24 : Int32) + -8 + -8) &&& 31 = 8 by decide, show ((24 : Int32) + -8 + -8 + -8) &&& 31 = 0 by decide, show h >>> 0 = h from by simp]
        simp only [List.append_assoc, List.cons_append, List.nil_append]
      rw [e] at L5
      rw [L5.1]
      rw [hE] at K
      exact K s5 (R.let r5' L5) r5'
    have loop : ∀ (m k : Nat) (s1 : am_S) (h : Int32), k + m = (o_log (d_off D)).length → d_hash h ((o_log (d_off D)).drop k) = d_hash 0 (o_log (d_off D)) → LetR s1 ((o_log (d_off D)).take k) → Rc o leF [] [1055] σ s1 → c_Rm_write_22 nl Ln xs (d + 2) 1053 h (Int32.ofNat k) s1 F := by
      intro m
      induction m with
      | zero =>
        intro k s1 h hk hh L1 r1
        have R1 := R.let r1 L1
        rw [List.drop_eq_nil_of_le (by omega), d_hash] at hh
        rw [List.take_of_length_le (by omega)] at L1
        refine w_Rm_write_22 ⟨is_mk R1.m.1, R1.nowis, ?_⟩
        rw [R1.g, (r1.fI (by decide)).trans hG.1]
        refine ⟨fun z => ?_, fun _ => last s1 h hh L1 r1⟩
        rw [n32lt (by omega) (by omega)] at z
        omega
      | succ m ih =>
        intro k s1 h hk hh L1 r1
        have R1 := R.let r1 L1
        obtain ⟨b, hb⟩ := get_ex (show k < (o_log (d_off D)).length by omega)
        have bk : 0 ≤ (Int32.ofNat k).toInt ∧ (Int32.ofNat k).toInt < 450000 := by rw [n32 (by omega)]; omega
        have gb : (o_log (d_off D)).getD k 0 = b := getD_of 0 hb
        refine w_Rm_write_22 ⟨is_mk R1.m.1, R1.nowis, ?_⟩
        rw [R1.g, (r1.fI (by decide)).trans hG.1, oG_13066 R1.k, n32c (by omega)]
        refine ⟨fun _ => ⟨oA_13066 R1.k bk.1 bk.2, ?_⟩, fun z => absurd (by rw [n32lt (by omega) (by omega)]; omega) z⟩
        refine (r_put2 (o := o) R1.m L1 (by rw [List.length_take]; omega) (fun s5 L5 r5 _ => ?_))
        have r5' := r1.trans r5
        have R5 := R.let r5' L5
        have v1 : am_aI s1 (o + 52) k &&& 255 = b := by rw [r1.aI lo (by decide) (by simp), hG.2 k (by omega), gb]
        have v5 : am_aI s5 (o + 52) k &&& 255 = b := by rw [r5'.aI lo (by decide) (by simp), hG.2 k (by omega), gb]
        rw [R5.g, oG_13066 R5.k, v5]
        refine ⟨R5.nowis, oA_13066 R5.k bk.1 bk.2, ?_⟩
        rintro v9 rfl
        rw [n32s]
        refine ih (k + 1) s5 _ (by omega) ?_ ?_ r5'
        · rw [drop_get hb, d_hash] at hh
          exact hh
        · rw [v1] at L5
          rw [List.take_add_one, hb]
          exact L5
    exact loop (o_log (d_off D)).length 0 s4 0 (by omega) (by rw [List.drop_zero]) (by rw [List.take_zero]; exact L4) r4
  · have hu : o_und (d_off D) = true := by
      cases hb : o_und (d_off D)
      · rw [hb] at q; exact absurd rfl q
      · rfl
    rw [if_pos hu] at hE
    rw [hE] at K
    exact K σ R Rc.rf
end
