/-! ACTS of the reference: clauses told -/
theorem flat_leM {α β : Type} {f : α → List β} {b : Nat} : ∀ (l : List α), (∀ x ∈ l, (f x).length ≤ b) → (l.flatMap f).length ≤ b * l.length
  | [], _ => by simp
  | x :: l, h => by
    have h1 := flat_leM l (fun y hy => h y (List.mem_cons_of_mem _ hy))
    have h2 := h x List.mem_cons_self
    rw [List.flatMap_cons, List.length_append, List.length_cons, Nat.mul_add]
    omega
theorem note_le6 (a : mArg) {t : List Int32} (h : t.length ≤ 400) : (m_note 6 a t).length ≤ 4070 := by
  have h1 := m_enc_len (Int64.ofNat 6)
  have h2 := flat_len (fun k => m_enc (a k)) 10 (fun x => m_enc_len _) (List.range (m_args 6))
  have h3 := flat_len (fun b : Int32 => m_enc b.toInt64) 10 (fun x => m_enc_len _) t
  have h4 := m_args_le 6
  unfold m_note
  rw [List.length_range] at h2
  simp only [List.length_append, if_true]
  omega
theorem saI_ne {s s' : am_S} {c c' x : Nat} {v : Int32} (e : s' = am_saI s c x v) (h : c' ≠ c) {i : Nat} : am_aI s' c' i = am_aI s c' i := by rw [e]; exact aI_n h
def clF : List Nat := [13091] ++ paF
section
variable {nl : Bool} {Ln : Nat} {xs : Nat → Int32} {d : Nat} {σ : am_S} {o : Nat}
theorem r_clauses {m : Nat} {a : mArg} {M : mOff} {fnd : Int32} {t : List Int32} {F : Int32 → am_S → Prop} (hR : OffR σ o M) (hu : o_und M = false) (hA : ArgR σ m a) (hm : m = 1060 ∨ m = o + 61) (hl : (o_log M).length ≤ 440000) (hc : m_cnt (o_tel M) 6 ≤ 150) (h100 : (o_pol M).length ≤ 100) (h30 : ∀ q ∈ o_tel M, (tCls q).length ≤ 30) (hM : ModK σ) (hw : KwR σ) (hx : rwI σ (o + 62) t (fun b => b)) (h4 : t.length ≤ 400) (hbt : ∀ b ∈ t, 0 ≤ b.toInt) (ha1 : a 1 = Int64.ofNat t.length)
    (K : ∀ σ' r, r = (if ¬ (m_isCov (o_pol M) (a 0) ∧ t.length ≤ 400) then (-2, M, fnd) else if m_cnt (o_tel M) 6 = 150 then (-7, M, fnd) else (match m_parse t with
    | .inl e => (-10 - Int32.ofNat e, M, fnd)
    | .inr C => m_tellA M fnd 6 150 a t (m_ix (a 0)) 0 0 C (Int32.ofNat C.length))) → OffR σ' o r.2.1 → Rc o raF raA [] σ σ' → F r.1 σ') : k_Ro_clauses nl Ln xs (d + 75) o (some m) σ F := by
  have hR0 := hR
  obtain ⟨hK, hN, hP, hRk, hPl, hPe, hRu, hSe, hLs, hC, hH, hG⟩ := hR
  have lo := hK.lo
  have hn := note_le6 a h4
  rw [m_rlog0 hu] at hG
  have a0 := hA.2 0 (by decide)
  have a1 := hA.2 1 (by decide)
  have bad : ¬ (m_isCov (o_pol M) (a 0) ∧ t.length ≤ 400) → F (-2) σ := fun h => K σ _ (by rw [if_pos h]) hR0 Rc.rf
  refine w_Ro_clauses ⟨ar_mk hA.1 (by decide) (by decide), is_mk hK.2.1, ?_⟩
  simp only [Option.getD_some, z0, z1, a0]
  refine r_isCover hK hP h100 (fun _ => ⟨fun c0 => ?_, fun c => bad (fun q => c (decide_eq_true q.1))⟩)
  have c0 := of_decide_eq_true c0
  obtain ⟨i1, i2, i3, i4⟩ := ixI c0.1.1 c0.1.2 (by omega)
  refine ⟨fun h => ?_, fun h => ⟨ar_mk hA.1 (by decide) (by decide), ?_⟩⟩
  · refine K σ (-7, M, fnd) ?_ hR0 Rc.rf
    rw [if_neg (fun q => q ⟨c0, h4⟩), if_pos]
    rw [hSe.1] at h
    exact (n32i (b := 150) (Nat.lt_of_le_of_lt hc (by decide)) (by decide)).mp h
  have hq : (tlA (o_tel M) 6).length ≠ 150 := fun q => h (by rw [hSe.1, q]; rfl)
  have hq2 : (tlA (o_tel M) 6).length < 150 := by have : (tlA (o_tel M) 6).length ≤ 150 := hc; omega
  rw [a1, ha1]
  have elen : (Int64.ofNat t.length).toInt32 = Int32.ofNat t.length := by
    apply Int32.toInt_inj.mp
    rw [t32 (by rw [n64 (by omega)]; omega) (by rw [n64 (by omega)]; omega), n64 (by omega), n32 (by omega)]
  rw [elen]
  intro s8 q8 s11 q11 s14 q14 s17 q17
  have r8 : Rc o clF clA [] σ s8 := by rw [q8]; exact Rc.sfI (by decide) (Or.inl rfl)
  have r11 : Rc o clF clA [] σ s11 := r8.trans (by rw [q11]; exact Rc.sfI (by decide) (Or.inl rfl))
  have r14 : Rc o clF clA [] σ s14 := r11.trans (by rw [q14]; exact Rc.sfI (by decide) (Or.inl rfl))
  have r17a : Rc o [13091, 13092, 13097, 13098] [] [] σ s17 := by
    rw [q17, q14, q11, q8]
    exact (((Rc.sfI (by decide) (Or.inl rfl)).trans (Rc.sfI (by decide) (Or.inl rfl))).trans (Rc.sfI (by decide) (Or.inl rfl))).trans (Rc.sfI (by decide) (Or.inl rfl))
  have e91 : am_fI s17 13091 o = Int32.ofNat t.length := by rw [q17, rI_g (by decide), q14, rI_g (by decide), q11, rI_g (by decide), q8]; exact rI_same
  have e92 : am_fI s17 13092 o = Int32.ofNat 0 := by rw [q17, rI_g (by decide), q14, rI_g (by decide), q11]; exact rI_same
  have e97 : am_fI s17 13097 o = -1 := by rw [q17, rI_g (by decide), q14]; exact rI_same
  have e98 : am_fI s17 13098 o = Int32.ofNat 0 := by rw [q17]; exact rI_same
  clear q8 q11 q14 q17 r8 r11 r14
  obtain ⟨k1, k2, k3, k4, n0, k5, k6, k7, k8, k9⟩ := hSe
  have hK17 := hK.rc r17a
  have hM17 := hM.rc r17a
  have hT17 : TxR s17 o t := ⟨h4, hbt, e91, hx.eq fun i => r17a.aI lo (by simp) (by simp)⟩
  have hflat : ((tlA (o_tel M) 6).flatMap tCls).length ≤ 30 * (tlA (o_tel M) 6).length := flat_leM _ (fun q hq => h30 q (List.mem_filter.mp hq).1)
  have f24 : am_fI s17 13024 o = Int32.ofNat (tlA (o_tel M) 6).length := (r17a.fI (by decide)).trans k1
  have f31 : am_fI s17 13031 o = Int32.ofNat n0 := (r17a.fI (by decide)).trans k5
  have b0 : 0 ≤ (Int32.ofNat (tlA (o_tel M) 6).length).toInt ∧ (Int32.ofNat (tlA (o_tel M) 6).length).toInt < 150 := by rw [n32 (by omega)]; omega
  have nc : (Int32.ofNat (tlA (o_tel M) 6).length).toNatClampNeg = (tlA (o_tel M) 6).length := n32c (by omega)
  have nz : Int32.ofNat (tlA (o_tel M) 6).length = 0 ↔ (tlA (o_tel M) 6).length = 0 := n32i (b := 0) (by omega) (by decide)
  rw [f24, f31, oG_13027 hK17, nc, r17a.aI lo (by simp) (by simp)]
  rintro v20 rfl
  refine ⟨fun _ => oA_13027 hK17 b0.1 (by omega), ?_⟩
  rintro w25 rfl
  have eT : (if Int32.ofNat (tlA (o_tel M) 6).length = 0 then (0 : Int32) else am_aI σ (o + 20) (tlA (o_tel M) 6).length) = Int32.ofNat ((tlA (o_tel M) 6).flatMap tCls).length := by
    by_cases h0 : (tlA (o_tel M) 6).length = 0
    · rw [if_pos (nz.mpr h0), List.length_eq_zero_iff.mp h0]; rfl
    · rw [if_neg (fun q => h0 (nz.mp q)), k4 _ (Nat.le_refl _) (by omega), List.take_length]
  rw [eT]
  refine w_Ro_clauses_74 ⟨is_mk hK17.2.1, w_Ro_step (r_step (d := d + 72) hK17 hT17 t.length 0 s17 (by omega) e92 Rc.rf (fun s18 st g1 g2 TK r18 _ => ?_))⟩
  have P18 : PS s18 o t st 0 n0 := ⟨hK17.rc r18, hM17.rc r18, hT17.rc r18 lo (by decide) (by simp), TK, (r18.fI (by decide)).trans e97, (r18.fI (by decide)).trans e98, (r18.fI (by decide)).trans f31⟩
  have r18' : Rc o clF clA [] σ s18 := (r17a.mono (by decide) (by simp) (by simp)).trans (r18.mono (by decide) (by simp) (by simp))
  have hw18 : KwR s18 := (hw.rc r17a).rc r18
  have F0 : Lf s18 s18 o n0 ((tlA (o_tel M) 6).flatMap tCls).length := ⟨Rc.rf, fun _ _ => ⟨rfl, rfl, rfl⟩, fun _ _ => ⟨rfl, rfl, rfl⟩⟩
  -- what stood before stands
  have old : ∀ (s' : am_S) (nn : Nat), Lf s18 s' o n0 ((tlA (o_tel M) 6).flatMap tCls).length → n0 ≤ nn → ∀ i c, ((tlA (o_tel M) 6).flatMap tCls)[i]? = some c → ClA s' o i nn c := by
    intro s' nn hf hn i c hc
    have hi : i < ((tlA (o_tel M) 6).flatMap tCls).length := by
      rcases Nat.lt_or_ge i ((tlA (o_tel M) 6).flatMap tCls).length with q | q
      · exact q
      · rw [List.getElem?_eq_none q] at hc; cases hc
    obtain ⟨e1, e2, e3⟩ := hf.2.2 i hi
    have A : ∀ k, (k = 21 ∨ k = 22 ∨ k = 23 ∨ k = 24 ∨ k = 25 ∨ k = 26) → ∀ j, am_aI s18 (o + k) j = am_aI σ (o + k) j := by
      intro k hk j
      rw [r18.aI lo (by simp) (by simp), r17a.aI lo (by simp) (by simp)]
    refine ⟨e1.trans ((A 21 (by omega) i).trans (k7 i c hc)), e2.trans ((A 22 (by omega) i).trans (k8 i c hc)), ?_⟩
    have h9 := k9 i c hc
    cases hcc : c.2.2 with
    | none => rw [hcc] at h9; exact e3.trans ((A 23 (by omega) i).trans h9)
    | some tr =>
      rw [hcc] at h9
      obtain ⟨x, hx1, hx2, hx3⟩ := h9
      refine ⟨x, by omega, e3.trans ((A 23 (by omega) i).trans hx2), CndR.eq tr 0 x (fun j hj => ?_) hx3⟩
      obtain ⟨y1, y2, y3⟩ := hf.2.1 j (by omega)
      exact ⟨y1.trans (A 24 (by omega) j), y2.trans (A 25 (by omega) j), y3.trans (A 26 (by omega) j)⟩
  have toC : ∀ {s' : am_S} {nn : Nat} {C : List mCl}, (∀ i c, C[i]? = some c → ClA s' o i nn c) → ClsR s' o nn C := fun h => ⟨fun i c hc => (h i c hc).1, fun i c hc => (h i c hc).2.1, fun i c hc => (h i c hc).2.2⟩
  refine r_clLoop (d := d + 1) (x2 := none) (n0 := n0) (σ := s18) (by omega) (by omega) ?_ ?_ 30 [] s18 st n0 rfl P18 hw18 F0 (Nat.le_refl _) (by omega) (fun i c q => by simp at q) ?_
  · intro e he s' nn' x4 P' hf
    refine w_Ro_clauses_129 ⟨is_mk P'.1.2.1, fun q => absurd q P'.ne, fun _ => ?_⟩
    intro s25 q25
    have r25 : Rc o [13031] [] [] s' s25 := by rw [q25]; exact Rc.sfI (by decide) (Or.inl rfl)
    rw [r25.fI (by decide), P'.2.2.2.1]
    have rA : Rc o clF clA [] σ s25 := (r18'.trans (hf.1.mono (by decide) (by simp) (by simp))).trans (r25.mono (by decide) (by simp) (by simp))
    refine K s25 (-10 - Int32.ofNat e, M, fnd) ?_ ?_ (rA.all (by decide))
    · rw [if_neg (fun q => q ⟨c0, h4⟩), if_neg (show ¬ m_cnt (o_tel M) 6 = 150 from hq), he]
    · refine ⟨hK.rc rA, ⟨(rA.fI (by decide)).trans hN.1, (rA.fI (by decide)).trans hN.2.1, (rA.fI (by decide)).trans hN.2.2.1, (rA.fI (by decide)).trans hN.2.2.2.1, (rA.fI (by decide)).trans hN.2.2.2.2⟩, kPol.rc hP rA lo (by decide), kRnk.rc hRk rA lo (by decide), kPla.rc hPl rA lo (by decide), kPer.rc hPe rA lo (by decide), kRul.rc hRu rA lo (by decide), ⟨(rA.fI (by decide)).trans k1, k2.eq fun i => rA.aI lo (by simp) (by decide), k3.eq fun i => rA.aI lo (by simp) (by decide), fun i hi h0 => (rA.aI lo (by simp) (by decide)).trans (k4 i hi h0), n0, by rw [q25]; exact rI_same, k6, toC fun i c hc => ?_⟩, kLos.rc hLs rA lo (by decide), kCas.rc hC rA lo (by decide), kHel.rc hH rA lo (by decide), ?_⟩
      · have h := old s' n0 hf (Nat.le_refl _) i c hc
        obtain ⟨h1, h2, h3⟩ := h
        refine ⟨(r25.aI lo (by simp) (by simp)).trans h1, (r25.aI lo (by simp) (by simp)).trans h2, ?_⟩
        cases hcc : c.2.2 with
        | none => rw [hcc] at h3; exact (r25.aI lo (by simp) (by simp)).trans h3
        | some tr =>
          rw [hcc] at h3
          obtain ⟨x, hx1, hx2, hx3⟩ := h3
          exact ⟨x, hx1, (r25.aI lo (by simp) (by simp)).trans hx2, CndR.eq tr 0 x (fun j hj => ⟨r25.aI lo (by simp) (by simp), r25.aI lo (by simp) (by simp), r25.aI lo (by simp) (by simp)⟩) hx3⟩
      · rw [m_rlog0 hu]; exact kLog.rc hG rA lo (by decide)
  · intro cs he s' st' nn' P' hf h1 h2 hcs
    have rA : Rc o clF clA [] σ s' := r18'.trans (hf.1.mono (by decide) (by simp) (by simp))
    have hKa := P'.1
    have hAa := hA.rc hm lo rA (by decide) (by decide) (by simp)
    refine w_Ro_clauses_129 ⟨is_mk P'.1.2.1, fun _ => ⟨ar_mk hAa.1 (by decide) (by decide), ?_⟩, fun q => absurd P'.2.2.2.2.1 q⟩
    have g24 : am_fI s' 13024 o = Int32.ofNat (tlA (o_tel M) 6).length := (rA.fI (by decide)).trans k1
    rw [g24, oG_13025 hKa, nc]
    refine ⟨oA_13025 hKa b0.1 b0.2, ?_⟩
    rw [Option.getD_some, z0, hAa.2 0 (by decide), i1]
    intro s5 q5
    have r5 : Rc o [13024] [18, 19, 20] [] s' s5 := by rw [q5]; exact Rc.saI (by decide)
    have hK5 := hKa.rc r5
    have g5 : am_fI s5 13024 o = Int32.ofNat (tlA (o_tel M) 6).length := by rw [q5]; exact g24
    rw [g5, oG_13026 hK5, nc, show am_fI s5 13000 o = o_now M from by rw [q5]; exact (rA.fI (by decide)).trans hN.1]
    refine ⟨oA_13026 hK5 b0.1 b0.2, ?_⟩
    intro s9 q9
    have r9 : Rc o [13024] [18, 19, 20] [] s' s9 := r5.trans (by rw [q9]; exact Rc.saI (by decide))
    have hK9 := hKa.rc r9
    have g9 : am_fI s9 13024 o = Int32.ofNat (tlA (o_tel M) 6).length := by rw [q9]; exact g5
    rw [g9, oG_13027 hK9, nc]
    refine ⟨oA_13027 hK9 b0.1 (by omega), ?_⟩
    intro s13 q13
    have r13 : Rc o [13024] [18, 19, 20] [] s' s13 := r9.trans (by rw [q13]; exact Rc.saI (by decide))
    have g13 : am_fI s13 13024 o = Int32.ofNat (tlA (o_tel M) 6).length := by rw [q13]; exact g9
    rw [g13, n32s]
    intro s16 q16
    have r16 : Rc o [13024] [18, 19, 20] [] s' s16 := r13.trans (by rw [q16]; exact Rc.sfI (by decide) (Or.inl rfl))
    have hK16 := hKa.rc r16
    have g16 : am_fI s16 13024 o = Int32.ofNat ((tlA (o_tel M) 6).length + 1) := by rw [q16]; exact rI_same
    rw [g16, oG_13027 hK16, n32c (k := (tlA (o_tel M) 6).length + 1) (by omega)]
    refine ⟨oA_13027 hK16 (by rw [n32 (by omega)]; omega) (by rw [n32 (by omega)]; omega), ?_⟩
    intro s20 q20
    have r20 : Rc o [13024] [18, 19, 20] [] s' s20 := r16.trans (by rw [q20]; exact Rc.saI (by decide))
    have hK20 := hKa.rc r20
    have g20 : am_fI s20 13024 o = Int32.ofNat ((tlA (o_tel M) 6).length + 1) := by rw [q20]; exact g16
    have rB : Rc o (13024 :: clF) ([18, 19, 20] ++ clA) [] σ s20 := (rA.mono (by decide) (by decide) (by simp)).trans (r20.mono (by decide) (by decide) (by simp))
    have a18 : ∀ i, am_aI s20 (o + 18) i = if i = (tlA (o_tel M) 6).length then Int32.ofNat (m_ix (a 0)) else am_aI σ (o + 18) i := by
      intro i
      rw [saI_ne q20 (by omega), q16]
      show am_aI s13 (o + 18) i = _
      rw [saI_ne q13 (by omega), saI_ne q9 (by omega), saI_all q5, rA.aI lo (by simp) (by decide)]
    have a19 : ∀ i, am_aI s20 (o + 19) i = if i = (tlA (o_tel M) 6).length then o_now M + 1 else am_aI σ (o + 19) i := by
      intro i
      rw [saI_ne q20 (by omega), q16]
      show am_aI s13 (o + 19) i = _
      rw [saI_ne q13 (by omega), saI_all q9, saI_ne q5 (by omega), rA.aI lo (by simp) (by decide)]
    have a20 : ∀ i, am_aI s20 (o + 20) i = if i = (tlA (o_tel M) 6).length + 1 then Int32.ofNat (((tlA (o_tel M) 6).flatMap tCls).length + cs.length) else if i = (tlA (o_tel M) 6).length then Int32.ofNat ((tlA (o_tel M) 6).flatMap tCls).length else am_aI σ (o + 20) i := by
      intro i
      rw [saI_all q20, q16]
      show (if _ then _ else am_aI s13 (o + 20) i) = _
      rw [saI_all q13, saI_ne q9 (by omega), saI_ne q5 (by omega), rA.aI lo (by simp) (by decide)]
    clear q5 q9 q13 q16 q20
    have eans : Int32.ofNat (((tlA (o_tel M) 6).flatMap tCls).length + cs.length) - Int32.ofNat ((tlA (o_tel M) 6).flatMap tCls).length = Int32.ofNat cs.length := by rw [← n32a]; grind
    rw [eans]
    obtain ⟨tt, htt⟩ : ∃ tt : mTell, tt = (Int32.ofNat 6, m_ix (a 0), 0, o_now M + 1, 0, cs) := ⟨_, rfl⟩
    have ht1 : tt.1 = 6 := by rw [htt]; rfl
    have R3 : OffR s20 o (m_setTel M (o_tel M ++ [tt])) := by
      refine ⟨hK20, ⟨(rB.fI (by decide)).trans hN.1, (rB.fI (by decide)).trans hN.2.1, (rB.fI (by decide)).trans hN.2.2.1, (rB.fI (by decide)).trans hN.2.2.2.1, (rB.fI (by decide)).trans hN.2.2.2.2⟩, kPol.rc hP rB lo (by decide), ?_, ?_, ?_, ?_, ?_, kLos.rc hLs rB lo (by decide), kCas.rc hC rB lo (by decide), kHel.rc hH rB lo (by decide), ?_⟩
      · rw [show tlA (o_tel (m_setTel M (o_tel M ++ [tt]))) 2 = tlA (o_tel M) 2 from tlA_ne (by rw [ht1]; decide)]
        exact kRnk.rc hRk rB lo (by decide)
      · rw [show tlA (o_tel (m_setTel M (o_tel M ++ [tt]))) 4 = tlA (o_tel M) 4 from tlA_ne (by rw [ht1]; decide)]
        exact kPla.rc hPl rB lo (by decide)
      · rw [show tlA (o_tel (m_setTel M (o_tel M ++ [tt]))) 5 = tlA (o_tel M) 5 from tlA_ne (by rw [ht1]; decide)]
        exact kPer.rc hPe rB lo (by decide)
      · rw [show tlA (o_tel (m_setTel M (o_tel M ++ [tt]))) 7 = tlA (o_tel M) 7 from tlA_ne (by rw [ht1]; decide)]
        exact kRul.rc hRu rB lo (by decide)
      · rw [show tlA (o_tel (m_setTel M (o_tel M ++ [tt]))) 6 = tlA (o_tel M) 6 ++ [tt] from tlA_same ht1]
        refine ⟨by rw [List.length_append]; exact g20, k2.push fun i => ?_, k3.push fun i => ?_, fun i hi h0 => ?_, nn', (r20.fI (by decide)).trans P'.2.2.2.2.2.2, by rw [List.length_append, List.length_singleton]; omega, toC fun i c hc => ?_⟩
        · rw [a18, htt]
        · rw [a19, htt]
        · rw [a20]
          rw [List.length_append, List.length_singleton] at hi
          by_cases e1 : i = (tlA (o_tel M) 6).length + 1
          · rw [if_pos e1, e1, List.take_of_length_le (by simp), List.flatMap_append, List.length_append, htt]
            simp
          · rw [if_neg e1, List.take_append_of_le_length (by omega)]
            by_cases e2 : i = (tlA (o_tel M) 6).length
            · rw [if_pos e2, e2, List.take_length]
            · rw [if_neg e2]; exact k4 i (by omega) (by omega)
        · have hfl : (tlA (o_tel M) 6 ++ [tt]).flatMap tCls = (tlA (o_tel M) 6).flatMap tCls ++ cs := by rw [List.flatMap_append, htt]; simp
          rw [hfl] at hc
          have h' : ClA s' o i nn' c := by
            by_cases hi : i < ((tlA (o_tel M) 6).flatMap tCls).length
            · rw [List.getElem?_append_left hi] at hc
              exact old s' nn' hf h1 i c hc
            · rw [List.getElem?_append_right (by omega)] at hc
              have := hcs _ c hc
              rw [show ((tlA (o_tel M) 6).flatMap tCls).length + (i - ((tlA (o_tel M) 6).flatMap tCls).length) = i by omega] at this
              exact this
          obtain ⟨y1, y2, y3⟩ := h'
          refine ⟨(r20.aI lo (by simp) (by decide)).trans y1, (r20.aI lo (by simp) (by decide)).trans y2, ?_⟩
          cases hcc : c.2.2 with
          | none => rw [hcc] at y3; exact (r20.aI lo (by simp) (by decide)).trans y3
          | some tr =>
            rw [hcc] at y3
            obtain ⟨x, hx1, hx2, hx3⟩ := y3
            exact ⟨x, hx1, (r20.aI lo (by simp) (by decide)).trans hx2, CndR.eq tr 0 x (fun j hj => ⟨r20.aI lo (by simp) (by decide), r20.aI lo (by simp) (by decide), r20.aI lo (by simp) (by decide)⟩) hx3⟩
      · rw [m_rlog0 (M := m_setTel M (o_tel M ++ [tt])) hu]
        exact kLog.rc hG rB lo (by decide)
    refine r_done (t := t) (n := 6) hK20 (kLog.rc hG rB lo (by decide)) (hA.rc hm lo rB (by decide) (by decide) (by simp)) (by decide) (by decide) hm (fun _ => ⟨ha1, h4, fun i hi => ?_⟩) (by omega) ?_
    · rw [rB.aI lo (by simp) (by decide)]
      exact hx i _ (getD_some 0 hi)
    intro s'' h0 hL' hc' _
    refine K s'' (Int32.ofNat cs.length, m_done (m_setTel M (o_tel M ++ [tt])) 6 a t, fnd) ?_ (OffR.done (fs := []) (as := []) hu R3 (by rw [h0, R3.2.1.1]) hL' hc') ((rB.all (by decide)).trans (hc'.all (by decide)))
    rw [if_neg (fun q => q ⟨c0, h4⟩), if_neg (show ¬ m_cnt (o_tel M) 6 = 150 from hq), he]
    show _ = m_tellA M fnd 6 150 a t (m_ix (a 0)) 0 0 cs (Int32.ofNat cs.length)
    rw [m_tellA_neg hq, htt]
  · rw [show m_parse t = m_cll 30 (m_tk t 0) from rfl, ← g2]
    cases m_cll 30 (m_tk t st) <;> simp
end
