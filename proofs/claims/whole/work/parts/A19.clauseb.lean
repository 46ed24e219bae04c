/-! THE PARSER of the reference: a clause with a kind -/
theorem KwR.rc {σ σ' : am_S} {o : Nat} {fs as ms : List Nat} (h : KwR σ) (f : Rc o fs as ms σ σ') : KwR σ' := fun k hk => by rw [f.aR]; exact h k hk
section
variable {nl : Bool} {Ln : Nat} {xs : Nat → Int32} {d : Nat} {σ σ0 : am_S} {o : Nat} {t : List Int32} {s s0 op nn e p ln : Nat} {R : mCR} {F : am_S → Prop}
theorem cl_54 {code x2 : Int32} (hp : p < 4560) (K : ClK t σ0 o s0 nn p R F) (f : Cf σ0 σ o nn p) (P : PS σ o t s 0 nn) (hw : KwR σ) (hs : s0 < s) (hbn : 2 * nn + (t.length - s) ≤ 60000) (h23 : am_aI σ (o + 23) p = -1) (hln : (m_tk t s).length ≤ ln)
    (hR : R = (if 20 ≤ (m_hd (m_tk t s)).1 ∧ (m_hd (m_tk t s)).1 ≤ 25 then
      (if (m_hd (m_tk t s).tail).1 = 11 then (match m_cond (4 * ln + 20) 3 0 .nil (m_tk t s).tail.tail with
        | .inl e => .inl e
        | .inr (tr, r) => m_stop (code, Int32.ofNat ((m_hd (m_tk t s)).1 - 20), some tr) r)
      else m_stop (code, Int32.ofNat ((m_hd (m_tk t s)).1 - 20), none) (m_tk t s).tail)
    else .inl (m_hd (m_tk t s)).2.2)) : c_Ro_clause_54 nl Ln xs (d + 73) o (Int32.ofNat p) x2 (am_fR σ 13028 o) (Int32.ofNat p) code σ F := by
  have lo := P.1.lo
  have hle := P.le
  have hpl := P.pl
  have bp : 0 ≤ (Int32.ofNat p).toInt ∧ (Int32.ofNat p).toInt < 4560 := by rw [n32 (by omega)]; omega
  refine w_Ro_clause_54 ⟨oA_13028 P.1 bp.1 bp.2, ?_⟩
  rw [oG_13028 P.1, n32c (by omega)]
  intro s2 q2
  have r2 : Rc o [] [21] [] σ s2 := by rw [q2]; exact Rc.saI (by decide)
  have P2 := P.aw r2 (by decide)
  have f2 := f.trans (Cf.wr (n0 := nn) lo (Or.inl rfl) q2) (Nat.le_refl _)
  have a21 : am_aI s2 (o + 21) p = code := by rw [saI_all q2, if_pos rfl]
  have a23 : am_aI s2 (o + 23) p = -1 := (r2.aI lo (by simp) (by decide)).trans h23
  rw [oG_13029 P2.1, oR_13029 P2.1]
  refine ⟨is_mk P2.1.2.1, r_needsKind (d := d + 65) P2 (hw.rc r2) (fun hk σ6 s6 g1 g2 P6 f6 _ => ?_) (fun hk σ6 P6 f6 _ => ?_)⟩
  · rw [← oR_13029 P6.1]
    refine ⟨oA_13029 P6.1 bp.1 bp.2, fun s9 q9 => ?_⟩
    have r9 : Rc o [] [22] [] σ6 s9 := by rw [q9]; exact Rc.saI (by decide)
    have P9 := P6.aw r9 (by decide)
    have hl9 := tk_len P
    have f9 := (f2.trans (Cf.of lo f6) (Nat.le_refl _)).trans (Cf.wr (n0 := nn) lo (Or.inr (Or.inl rfl)) q9) (Nat.le_refl _)
    have b21 : am_aI s9 (o + 21) p = code := (r9.aI lo (by simp) (by decide)).trans ((f6.1.aI lo (by simp) (by decide)).trans a21)
    have b22 : am_aI s9 (o + 22) p = Int32.ofNat ((m_hd (m_tk t s)).1 - 20) := by rw [saI_all q9, if_pos rfl]
    have b23 : am_aI s9 (o + 23) p = -1 := (r9.aI lo (by simp) (by decide)).trans ((f6.1.aI lo (by simp) (by decide)).trans a23)
    obtain ⟨z1, z2, z3, z4⟩ := ws_txt (22, 11) (by decide)
    have z4 : 2 ≤ (txt 22).length := z4
    rw [if_pos hk] at hR
    refine r_takes (d := d + 66) (i := 11) P9 z1 z2 z3 (by omega) (fun hh σ12 s12 g3 g4 P12 f12 _ => ⟨fun _ => ?_, fun q => absurd rfl q⟩) (fun hh _ => ⟨fun q => absurd q (by decide), fun _ => ?_⟩)
    · rw [g2] at hh g4
      rw [if_pos hh, ← g4] at hR
      have hl12 : (m_tk t s12).length ≤ (m_tk t s).length := by rw [g4, List.length_tail, List.length_tail]; omega
      have f12' := f9.trans (Cf.of lo f12) (Nat.le_refl _)
      have c21 : am_aI σ12 (o + 21) p = code := (f12.1.aI lo (by simp) (by decide)).trans b21
      have c22 : am_aI σ12 (o + 22) p = Int32.ofNat ((m_hd (m_tk t s)).1 - 20) := (f12.1.aI lo (by simp) (by decide)).trans b22
      rw [oG_13030 P12.1, oR_13030 P12.1]
      have hle12 := P12.le
      refine r_cond (d := d) (f := 4 * ln + 20) P12 (((hw.rc r2).pf f6).rc r9 |>.pf f12) (by omega) (by omega) ⟨?_, ?_, ?_⟩
      · intro e he σ15 nn' x P15 h1 h2 f15 _
        rw [← oR_13030 P15.1]
        refine ⟨oA_13030 P15.1 bp.1 bp.2, fun s18 q18 => ?_⟩
        have r18 : Rc o [] [23] [] σ15 s18 := by rw [q18]; exact Rc.saI (by decide)
        exact cl_err (d := d + 70) K ((f12'.trans (Cf.of lo f15) (Nat.le_refl _)).trans (Cf.wr (n0 := nn) lo (Or.inr (Or.inr rfl)) q18) (Nat.le_refl _)) (P15.aw r18) h1 (by omega) (by rw [hR, he])
      · intro tr r he h26 σ15 nn' x P15 h1 h2 f15 _
        rw [← oR_13030 P15.1]
        refine ⟨oA_13030 P15.1 bp.1 bp.2, fun s18 q18 => ?_⟩
        have r18 : Rc o [] [23] [] σ15 s18 := by rw [q18]; exact Rc.saI (by decide)
        refine cl_err (d := d + 70) K ((f12'.trans (Cf.of lo f15) (Nat.le_refl _)).trans (Cf.wr (n0 := nn) lo (Or.inr (Or.inr rfl)) q18) (Nat.le_refl _)) (P15.aw r18) h1 (by omega) ?_
        rw [hR, he]
        show m_stop _ r = _
        unfold m_stop
        rw [if_neg (by rw [h26]; decide)]
      · intro tr r he σ15 s15 nn' x P15 h0 h1 h1' h2 h3 h4 h5 f15 _
        rw [← oR_13030 P15.1]
        refine ⟨oA_13030 P15.1 bp.1 bp.2, fun s18 q18 => ?_⟩
        have r18 : Rc o [] [23] [] σ15 s18 := by rw [q18]; exact Rc.saI (by decide)
        refine cl_stop (d := d + 69) (c := (code, Int32.ofNat ((m_hd (m_tk t s)).1 - 20), some tr)) K ((f12'.trans (Cf.of lo f15) (Nat.le_refl _)).trans (Cf.wr (n0 := nn) lo (Or.inr (Or.inr rfl)) q18) (Nat.le_refl _)) (P15.aw r18 (by decide)) (by omega) h2 (by omega) ⟨?_, ?_, ⟨x, h4, ?_, ?_⟩⟩ ?_
        · exact (r18.aI lo (by simp) (by decide)).trans ((f15.1.aI lo (by simp) (by decide)).trans c21)
        · exact (r18.aI lo (by simp) (by decide)).trans ((f15.1.aI lo (by simp) (by decide)).trans c22)
        · rw [saI_all q18, if_pos rfl]
        · exact CndR.eq tr 0 x (fun j _ => ⟨r18.aI lo (by simp) (by decide), r18.aI lo (by simp) (by decide), r18.aI lo (by simp) (by decide)⟩) (h5 0)
        · rw [hR, he, h0]
    · rw [g2] at hh
      rw [if_neg hh, ← g2] at hR
      exact cl_stop (d := d + 69) K f9 P9 (by omega) (Nat.le_refl _) (by omega) ⟨b21, b22, b23⟩ hR
  · rw [if_neg hk, hpl] at hR
    rw [← oR_13029 P6.1]
    refine ⟨oA_13029 P6.1 bp.1 bp.2, fun s9 q9 => ?_⟩
    have r9 : Rc o [] [22] [] σ6 s9 := by rw [q9]; exact Rc.saI (by decide)
    have P9 := P6.aw r9
    have f9 := (f2.trans (Cf.of lo f6) (Nat.le_refl _)).trans (Cf.wr (n0 := nn) lo (Or.inr (Or.inl rfl)) q9) (Nat.le_refl _)
    exact r_takesE P9 (fun _ => ⟨fun q => absurd q (by decide), fun _ => cl_err (d := d + 70) K f9 P9 (Nat.le_refl _) (by omega) hR⟩)
theorem r_clause (hp : p < 4560) (P : PS σ o t s 0 nn) (hw : KwR σ) (hbn : 2 * nn + (t.length - s) ≤ 60000) (K : ClK t σ o s nn p (m_clause (m_tk t s)) F) : k_Ro_clause nl Ln xs (d + 73) o (Int32.ofNat p) σ F := by
  have lo := P.1.lo
  have hle := P.le
  have hl4 := P.l4
  have hpl := P.pl
  have bp : 0 ≤ (Int32.ofNat p).toInt ∧ (Int32.ofNat p).toInt < 4560 := by rw [n32 (by omega)]; omega
  refine w_Ro_clause ⟨is_mk P.1.2.1, oA_13029 P.1 bp.1 bp.2, ?_⟩
  rw [oG_13029 P.1, n32c (by omega)]
  intro s3 q3
  have r3 : Rc o [] [22] [] σ s3 := by rw [q3]; exact Rc.saI (by decide)
  have P3 := P.aw r3 (by decide)
  refine ⟨oA_13030 P3.1 bp.1 bp.2, ?_⟩
  rw [oG_13030 P3.1]
  intro s7 q7
  have r7 : Rc o [] [23] [] s3 s7 := by rw [q7]; exact Rc.saI (by decide)
  have P7 := P3.aw r7 (by decide)
  have f7 : Cf σ s7 o nn p := (Cf.wr (n0 := nn) lo (Or.inr (Or.inl rfl)) q3).trans (Cf.wr (n0 := nn) lo (Or.inr (Or.inr rfl)) q7) (Nat.le_refl _)
  have a22 : am_aI s7 (o + 22) p = 0 := by rw [r7.aI lo (by simp) (by decide), saI_all q3, if_pos rfl]
  have a23 : am_aI s7 (o + 23) p = -1 := by rw [saI_all q7, if_pos rfl]
  have hw7 := (hw.rc r3).rc r7
  have hl7 := tk_len P
  clear q3 q7
  generalize hRR : m_clause (m_tk t s) = R at K
  unfold m_clause at hRR
  -- in and out
  have io : ∀ (i : Nat) (x2 : Int32), (i = 0 ∨ i = 1) → (m_hd (m_tk t s)).1 = i → Int32.ofNat i = (if x2 = 0 then 1 else 0) → c_Ro_clause_36 nl Ln xs (d + 73) o (Int32.ofNat p) x2 s7 F := by
    intro i x2 hi hh hx
    have hwd := (hd_word P7.2.2.2.1.1 P7.2.2.2.1.2.1 (i := i) (by omega)).mp hh
    have ha := (hd_at P7.2.2.2.1.1 P7.2.2.2.1.2.1).2.2.1 hwd.1
    refine w_Ro_clause_36 ⟨is_mk P7.1.2.1, r_stepP (d := d + 70) P7 (fun σ2 s2 g1 g2 P2 f2 _ => ?_)⟩
    rw [← hx]
    have g2' : m_tk t s2 = (m_tk t s).tail := by rw [g2, ha.1]; rfl
    have hne : m_wl t s ≠ [] := by
      intro q
      rw [q] at hwd
      rcases hi with h | h <;> rw [h] at hwd <;> exact absurd hwd.2 (by decide)
    have hlp : 1 ≤ (m_wl t s).length := by
      rcases Nat.eq_zero_or_pos (m_wl t s).length with h | h
      · exact absurd (List.length_eq_zero_iff.mp h) hne
      · exact h
    have hss : s < s2 := by rw [ha.2.2.1] at g1; omega
    have hle2 := P2.le
    refine cl_54 (d := d) (ln := (m_tk t s).length) hp K (f7.trans (Cf.of lo f2) (Nat.le_refl _)) P2 (hw7.pf f2) hss (by omega) ((f2.1.aI lo (by simp) (by decide)).trans a23) (by rw [g2', List.length_tail]; omega) ?_
    rw [← hRR, if_pos (by omega), hh, g2']
    generalize m_cond (4 * (m_tk t s).length + 20) 3 0 .nil (m_tk t s).tail.tail.tail = X
    cases X <;> rfl
  obtain ⟨z1, z2, z3, z4⟩ := ws_txt (21, 0) (by decide)
  have z4 : 2 ≤ (txt 21).length := z4
  refine r_isW (d := d + 67) (i := 0) P7 z1 z2 z3 (by omega) (fun h0 _ => ⟨fun _ => io 0 _ (Or.inl rfl) h0 (by decide), fun q => absurd rfl q⟩) (fun n0 _ => ⟨fun q => absurd q (by decide), fun _ => ?_⟩)
  clear z1 z2 z3 z4
  obtain ⟨z1, z2, z3, z4⟩ := ws_txt (9, 1) (by decide)
  have z4 : 2 ≤ (txt 9).length := z4
  refine r_isW (d := d + 67) (i := 1) P7 z1 z2 z3 (by omega) (fun h1 _ => ⟨fun _ => io 1 _ (Or.inr rfl) h1 (by decide), fun q => absurd rfl q⟩) (fun n1 _ => ⟨fun q => absurd q (by decide), fun _ => ?_⟩)
  clear z1 z2 z3 z4 io
  rw [if_neg (by omega)] at hRR
  obtain ⟨z1, z2, z3, z4⟩ := ws_txt (11, 7) (by decide)
  have z4 : 2 ≤ (txt 11).length := z4
  refine r_takes (d := d + 66) (i := 7) P7 z1 z2 z3 (by omega) (fun h7 σ1 s1 g1 g2 P1 f1 _ => ⟨fun _ => ?_, fun q => absurd rfl q⟩) (fun n7 _ => ⟨fun q => absurd q (by decide), fun _ => ?_⟩)
  · rw [if_neg (by omega), if_neg (by omega), if_pos h7, ← g2] at hRR
    refine ⟨oA_13028 P1.1 bp.1 bp.2, ?_⟩
    rw [oG_13028 P1.1]
    intro s20 q20
    have r20 : Rc o [] [21] [] σ1 s20 := by rw [q20]; exact Rc.saI (by decide)
    refine cl_stop (d := d + 69) (c := (8, 0, none)) K ((f7.trans (Cf.of lo f1) (Nat.le_refl _)).trans (Cf.wr (n0 := nn) lo (Or.inl rfl) q20) (Nat.le_refl _)) (P1.aw r20 (by decide)) (by omega) (Nat.le_refl _) (by omega) ⟨?_, ?_, ?_⟩ hRR.symm
    · rw [saI_all q20, if_pos rfl]
    · exact (r20.aI lo (by simp) (by decide)).trans ((f1.1.aI lo (by simp) (by decide)).trans a22)
    · exact (r20.aI lo (by simp) (by decide)).trans ((f1.1.aI lo (by simp) (by decide)).trans a23)
  clear z1 z2 z3 z4
  obtain ⟨z1, z2, z3, z4⟩ := ws_txt (31, 9) (by decide)
  have z4 : 2 ≤ (txt 31).length := z4
  refine r_takes (d := d + 66) (i := 9) P7 z1 z2 z3 (by omega) (fun h9 σ1 s1 g1 g2 P1 f1 _ => ⟨fun _ => ?_, fun q => absurd rfl q⟩) (fun n9 _ => ⟨fun q => absurd q (by decide), fun _ => ?_⟩)
  · clear z1 z2 z3
    have hle1 := P1.le
    rw [if_neg (by omega), if_neg (by omega), if_neg n7, if_pos h9, ← g2] at hRR
    have f71 := f7.trans (Cf.of (p := p) lo f1) (Nat.le_refl _)
    have d22 := (f1.1.aI (k := 22) (i := p) lo (by simp) (by decide)).trans a22
    have d23 := (f1.1.aI (k := 23) (i := p) lo (by simp) (by decide)).trans a23
    obtain ⟨z1, z2, z3, z4⟩ := ws_txt (32, 10) (by decide)
    have z4 : 2 ≤ (txt 32).length := z4
    have row : ∀ {σ2 s143 : am_S} {v : Int32} {s2 : Nat}, PS σ2 o t s2 0 nn → Cf σ s7 o nn p → Cf σ σ2 o nn p → am_aI σ2 (o + 22) p = 0 → am_aI σ2 (o + 23) p = -1 → s143 = am_saI σ2 (o + 21) p v → PS s143 o t s2 0 nn ∧ Cf σ s143 o nn p ∧ am_aI s143 (o + 21) p = v ∧ am_aI s143 (o + 22) p = 0 ∧ am_aI s143 (o + 23) p = -1 := by
      intro σ2 s143 v s2 P2 _ f2 e1 e2 q
      have r : Rc o [] [21] [] σ2 s143 := by rw [q]; exact Rc.saI (by decide)
      exact ⟨P2.aw r (by decide), f2.trans (Cf.wr (n0 := nn) lo (Or.inl rfl) q) (Nat.le_refl _), by rw [saI_all q, if_pos rfl], (r.aI lo (by simp) (by decide)).trans e1, (r.aI lo (by simp) (by decide)).trans e2⟩
    refine r_takes (d := d + 66) (i := 10) P1 z1 z2 z3 (by omega) (fun h10 σ2 s2 g3 g4 P2 f2 _ => ?_) (fun n10 _ => ?_)
    · rintro w32 rfl
      have hle2 := P2.le
      refine w_Ro_clause_143 ⟨oA_13028 P2.1 bp.1 bp.2, ?_⟩
      rw [oG_13028 P2.1, n32c (by omega)]
      intro s143 q143
      obtain ⟨P', f', e1, e2, e3⟩ := row P2 f7 (f71.trans (Cf.of lo f2) (Nat.le_refl _)) ((f2.1.aI lo (by simp) (by decide)).trans d22) ((f2.1.aI lo (by simp) (by decide)).trans d23) q143
      refine ⟨fun q => absurd q (by decide), fun _ => w_Ro_clause_166 ⟨is_mk P'.1.2.1, ?_⟩⟩
      refine cl_stop (d := d + 69) (c := (10, 0, none)) K f' P' (by omega) (Nat.le_refl _) (by omega) ⟨e1, e2, e3⟩ ?_
      rw [← hRR, if_neg (by rw [h10]; decide), if_pos h10, g4]
    · rintro w32 rfl
      refine w_Ro_clause_143 ⟨oA_13028 P1.1 bp.1 bp.2, ?_⟩
      rw [oG_13028 P1.1, n32c (by omega)]
      intro s143 q143
      obtain ⟨P', f', e1, e2, e3⟩ := row P1 f7 f71 d22 d23 q143
      refine ⟨fun _ => ⟨is_mk P'.1.2.1, ?_⟩, fun q => absurd rfl q⟩
      obtain ⟨y1, y2, y3, y4⟩ := ws_txt (33, 3) (by decide)
      have y4 : 2 ≤ (txt 33).length := y4
      refine r_takes (d := d + 66) (i := 3) P' y1 y2 y3 (by omega) (fun h3 σ3 s3 g3 g4 P3 f3 _ => ⟨fun _ => ?_, fun q => absurd rfl q⟩) (fun n3 _ => ⟨fun q => absurd q (by decide), fun _ => ?_⟩)
      · have hle3 := P3.le
        refine w_Ro_clause_166 ⟨is_mk P3.1.2.1, ?_⟩
        refine cl_stop (d := d + 69) (c := (11, 0, none)) K (f'.trans (Cf.of lo f3) (Nat.le_refl _)) P3 (by omega) (Nat.le_refl _) (by omega) (ClA.pf ⟨e1, e2, e3⟩ lo f3) ?_
        rw [← hRR, if_pos h3, g4]
      · have hp1 := P1.pl
        rw [P'.2.2.2.1.2.2.1]
        refine r_wrongP (d := d + 71) P' (by omega) (fun σ3 P3 f3 _ => w_Ro_clause_166 ⟨is_mk P3.1.2.1, ?_⟩)
        refine cl_err (d := d + 70) K (f'.trans (Cf.of lo f3) (Nat.le_refl _)) P3 (Nat.le_refl _) (by omega) ?_
        rw [← hRR, if_neg n3, if_neg n10, hp1]
  clear z1 z2 z3 z4
  have rest : ∀ {σ2 : am_S} {x : Int32}, OffK σ2 o → (∀ s37, s37 = am_saI σ2 (o + 21) p x → k_Ro_needsNumber nl Ln xs (d + 72) o s37 (fun a41 s40 => am_ext s37 s40 → (am_ar s40 1000 (am_fR s37 13029 o) (Int32.ofNat p)) ∧ ∀ s43, s43 = am_saI s40 ((am_fR s37 13029 o).getD 0) (Int32.ofNat p).toNatClampNeg a41 → k_Ro_needs nl Ln xs (d + 72) o 59 s43 (fun s46 => am_ext s43 s46 → F s46))) → (am_ar σ2 1000 (am_fR s7 13028 o) (Int32.ofNat p)) ∧ ∀ s37, s37 = am_saI σ2 ((am_fR s7 13028 o).getD 0) p x → k_Ro_needsNumber nl Ln xs (d + 72) o s37 (fun a41 s40 => am_ext s37 s40 → (am_ar s40 1000 (am_fR s37 13029 o) (Int32.ofNat p)) ∧ ∀ s43, s43 = am_saI s40 ((am_fR s37 13029 o).getD 0) p a41 → k_Ro_needs nl Ln xs (d + 72) o 59 s43 (fun s46 => am_ext s43 s46 → F s46)) := by
    intro σ2 x hK2 h
    rw [n32c (by omega)] at h
    rw [oG_13028 P7.1, oR_13028 P7.1, ← oR_13028 hK2]
    exact ⟨oA_13028 hK2 bp.1 bp.2, h⟩
  have keep : ∀ {σ2 : am_S}, Pf s7 σ2 o nn → am_aI σ2 (o + 23) p = -1 := fun f => (f.1.aI lo (by simp) (by decide)).trans a23
  refine r_numbered (d := d + 65) P7 (fun hh σ2 s2 g1 g2 P2 f2 _ => rest P2.1 ?_) (fun h5 h3 σ2 s2 g1 g2 P2 f2 _ => rest P2.1 ?_) (fun h5 h4 σ2 s2 g1 g2 P2 f2 _ => rest P2.1 ?_) (fun h5 h3 h4 σ2 x P2 f2 _ => rest P2.1 ?_) (fun hn σ2 x P2 f2 _ => rest P2.1 ?_)
  · refine cl_num (d := d + 69) hp K (f7.trans (Cf.of lo f2) (Nat.le_refl _)) P2 (by omega) (Nat.le_refl _) (by omega) (keep f2) ?_
    rw [← hRR, if_pos hh, g2]
  · refine cl_num (d := d + 69) hp K (f7.trans (Cf.of lo f2) (Nat.le_refl _)) P2 (by omega) (Nat.le_refl _) (by omega) (keep f2) ?_
    rw [← hRR, if_neg (by omega), if_pos h5, if_pos h3, g2]
  · refine cl_num (d := d + 69) hp K (f7.trans (Cf.of lo f2) (Nat.le_refl _)) P2 (by omega) (Nat.le_refl _) (by omega) (keep f2) ?_
    rw [← hRR, if_neg (by omega), if_pos h5, if_neg (by omega), if_pos h4, g2]
  · refine cl_numE (d := d + 69) hp K (f7.trans (Cf.of lo f2) (Nat.le_refl _)) P2 (Nat.le_refl _) (by omega) ?_
    rw [← hRR, if_neg (by omega), if_pos h5, if_neg h3, if_neg h4]
  · refine cl_numE (d := d + 69) hp K (f7.trans (Cf.of lo f2) (Nat.le_refl _)) P2 (Nat.le_refl _) (by omega) ?_
    rw [← hRR, if_neg (by omega), if_neg (by omega), if_neg n7, if_neg n9, hpl]
end
