/-! WORKING OUT, by the reference: begin -/
section
variable {nl : Bool} {Ln : Nat} {xs : Nat → Int32} {d : Nat} {σ : am_S} {o : Nat} {P : List mPol} {T : List mTell} {Ls : List mLoss} {Cs : List mCase} {i : Nat} {c : mCase} {day at' : Int32} {lk : Bool} {p : Nat} {st : Option Nat} {nf fnd : Int32} {ends : Bool} {s worth : Int64} {rows : List mRow} {tr : List Int32}
theorem Lk.rc {σ1 : am_S} {fs as : List Nat} (h : Lk σ lk rows tr) (hr : Rc o fs as [] σ σ1) (h0 : 1063 ≤ o) (hd : [12012, 12014, 12015].all (fun x => ! fs.contains x) = true) : Lk σ1 lk rows tr := by
  have m : ∀ x ∈ [12012, 12014, 12015], x ∉ fs := by
    intro x hx
    rw [List.all_eq_true] at hd
    simpa using hd x hx
  obtain ⟨e6, e7⟩ := h
  exact ⟨(hr.fI (m _ (by decide))).trans e6, fun hl => ⟨⟨(hr.fI (m _ (by decide))).trans (e7 hl).1.1, (e7 hl).1.2.1.eq fun i => hr.aIm h0 (by decide) (by simp), (e7 hl).1.2.2.1.eq fun i => hr.aIm h0 (by decide) (by simp), (e7 hl).1.2.2.2.eq fun i => hr.aLm h0 (by decide) (by simp)⟩, (hr.fI (m _ (by decide))).trans (e7 hl).2.1, fun i hi x hx => (hr.aIm h0 (by decide) (by simp)).trans ((e7 hl).2.2 i hi x hx)⟩⟩
theorem m_last_some {α : Type} (q : α → Bool) : ∀ (l : List α) (z : Option α) (t : α), m_last q some z l = some t → z = some t ∨ (t ∈ l ∧ q t = true)
  | [], z, t, h => Or.inl h
  | x :: l, z, t, h => by
    rw [m_last] at h
    rcases m_last_some q l _ t h with h1 | h1
    · by_cases hq : q x = true
      · rw [if_pos hq] at h1
        cases h1
        exact Or.inr ⟨List.mem_cons_self, hq⟩
      · rw [if_neg hq] at h1
        exact Or.inl h1
    · exact Or.inr ⟨List.mem_cons_of_mem _ h1.1, h1.2⟩
theorem look_mem {T : List mTell} {act : Int32} {who : Nat} {which at' : Int32} {t : mTell} (h : m_look T act who which at' = some t) : t ∈ T ∧ t.1 = act := by
  unfold m_look at h
  rcases m_last_some _ _ _ _ h with h | h
  · cases h
  · refine ⟨h.1, ?_⟩
    have := h.2
    unfold m_tq at this
    simp only [Bool.and_eq_true, decide_eq_true_eq] at this
    exact this.1
theorem sum_rng (w : WfD P T Ls Cs) {year : Int32} {v : Int64} (h : m_sum T p year at' = some v) : 0 ≤ v.toInt ∧ v.toInt ≤ 1000000000000 := by
  unfold m_sum at h
  cases hl : m_look T 5 p year at' with
  | none => rw [hl] at h; cases h
  | some t =>
    rw [hl] at h
    cases h
    have := look_mem hl
    exact (w.te t this.1).2.2.1 this.2
theorem sB_zero {C : List mCl} {sum : Int64} {W : mTr Int64} : ((m_sB P T Ls c day at' p C sum W).2.2.1 ≠ 0 ∨ (m_sB P T Ls c day at' p C sum W).2.2.2.1 = true) → (m_sB P T Ls c day at' p C sum W).2.2.2.2 = 0 := by
  have hG : ∀ w rs tr al ord, ((m_sG T at' p w rs tr al ord).2.2.1 ≠ 0 ∨ (m_sG T at' p w rs tr al ord).2.2.2.1 = true) → (m_sG T at' p w rs tr al ord).2.2.2.2 = 0 := by
    intro w rs tr al ord
    unfold m_sG
    split
    · intro h; rcases h with h | h
      · exact absurd rfl h
      · cases h
    · split
      · intro h; rcases h with h | h
        · exact absurd rfl h
        · cases h
      · intro _; rfl
  have hF : ∀ w rs tr sf, ((m_sF T c day at' p C w rs tr sf).2.2.1 ≠ 0 ∨ (m_sF T c day at' p C w rs tr sf).2.2.2.1 = true) → (m_sF T c day at' p C w rs tr sf).2.2.2.2 = 0 := by
    intro w rs tr sf
    unfold m_sF
    exact hG _ _ _ _ _
  have hE : ∀ sum w tr av, ((m_sE P T Ls c day at' p C sum w tr av).2.2.1 ≠ 0 ∨ (m_sE P T Ls c day at' p C sum w tr av).2.2.2.1 = true) → (m_sE P T Ls c day at' p C sum w tr av).2.2.2.2 = 0 := by
    intro sum w tr av
    unfold m_sE
    split
    · exact hF _ _ _ _
    · split
      · intro _; rfl
      · split
        · intro _; rfl
        · exact hF _ _ _ _
  have hD : ∀ sum w tr wt, ((m_sD P T Ls c day at' p C sum w tr wt).2.2.1 ≠ 0 ∨ (m_sD P T Ls c day at' p C sum w tr wt).2.2.2.1 = true) → (m_sD P T Ls c day at' p C sum w tr wt).2.2.2.2 = 0 := by
    intro sum w tr wt
    unfold m_sD
    split
    · intro _; rfl
    · exact hE _ _ _ _
  have hC : ∀ sum w tr ou, ((m_sC P T Ls c day at' p C sum w tr ou).2.2.1 ≠ 0 ∨ (m_sC P T Ls c day at' p C sum w tr ou).2.2.2.1 = true) → (m_sC P T Ls c day at' p C sum w tr ou).2.2.2.2 = 0 := by
    intro sum w tr wt
    unfold m_sC
    split
    · intro _; rfl
    · exact hD _ _ _ _
  unfold m_sB
  split
  · intro _; rfl
  · split
    · intro _; rfl
    · exact hC _ _ _ _
theorem r_begin {F : am_S → Prop} (w : WfD P T Ls Cs) (hH : WfH T) (hi : Cs[i]? = some c) (D : Dat σ o P T Ls Cs) (hL : Lk σ lk [] []) (hn : am_fI σ 12006 1053 = nf)
    (K : ∀ R, R = m_begin P T Ls c day at' → ∀ σ' p st w', Es σ' o P T Ls Cs i c day at' lk p st (nfR nf R) R.2.2.1 R.2.2.2.1 R.2.2.2.2 w' R.1 R.2.1 → (R.2.2.1 = 0 → m_cover P T c at' = some p ∧ p < P.length ∧ (P.getD p mPol0).1 ≠ 6 ∧ st = m_set T p at') → Rc o (eF lk) eA (eM lk) σ σ' → F σ') : k_Ro_begin nl Ln xs (d + 416) o (Int32.ofNat i) day at' σ F := by
  obtain ⟨R, hR⟩ : ∃ R, R = m_begin P T Ls c day at' := ⟨_, rfl⟩
  have K' := K R hR
  have hK := D.k
  have lo := hK.lo
  have hc := w.c hi
  have hlt := lt_of_get hi
  have h100 := w.c100
  have hp100 := w.p100
  have h200 := w.l200
  have b : 0 ≤ (Int32.ofNat i).toInt ∧ (Int32.ofNat i).toInt < 100 := by rw [n32 (by omega)]; omega
  have hl := hc.2.1
  have bl : 0 ≤ (Int32.ofNat c.2.2.1).toInt ∧ (Int32.ofNat c.2.2.1).toInt < 200 := by rw [n32 (by omega)]; omega
  refine w_Ro_begin ⟨is_mk hK.2.1, ?_⟩
  intro s2 q2 s5 q5 s8 q8
  have r2 : Rc o [13068] [] [] σ s2 := by rw [q2]; exact Rc.sfI (by decide) (Or.inl rfl)
  have r5 : Rc o [13072] [] [] s2 s5 := by rw [q5]; exact Rc.sfI (by decide) (Or.inl rfl)
  have r8 : Rc o [13073] [] [] s5 s8 := by rw [q8]; exact Rc.sfI (by decide) (Or.inl rfl)
  have a68 : am_fI s2 13068 o = Int32.ofNat i := by rw [q2]; exact rI_same
  have a72 : am_fI s5 13072 o = day := by rw [q5]; exact rI_same
  have a73 : am_fI s8 13073 o = at' := by rw [q8]; exact rI_same
  have c68 : am_fI s8 13068 o = Int32.ofNat i := (r8.fI (by decide)).trans ((r5.fI (by decide)).trans a68)
  have hK8 : OffK s8 o := ((hK.rc r2).rc r5).rc r8
  have v8 : am_aI s8 (o + 38) i = Int32.ofNat c.2.2.1 := (r8.aI lo (by simp) (by simp)).trans ((r5.aI lo (by simp) (by simp)).trans ((r2.aI lo (by simp) (by simp)).trans (D.cas.2.2.2.1 i _ hi)))
  rw [oG_13048 hK8, c68, n32c (by omega), v8]
  refine ⟨oA_13048 hK8 b.1 b.2, ?_⟩
  intro s12 q12 s15 q15 s18 q18 s21 q21 s24 q24
  have r12 : Rc o [13069] [] [] s8 s12 := by rw [q12]; exact Rc.sfI (by decide) (Or.inl rfl)
  have r15 : Rc o [13074] [] [] s12 s15 := by rw [q15]; exact Rc.sfI (by decide) (Or.inl rfl)
  have r18 : Rc o [13075] [] [] s15 s18 := by rw [q18]; exact Rc.sfI (by decide) (Or.inl rfl)
  have r21 : Rc o [13078] [] [] s18 s21 := by rw [q21]; exact Rc.sfL (by decide) (Or.inl rfl)
  have r24 : Rc o [13077] [] [] s21 s24 := by rw [q24]; exact Rc.sfL (by decide) (Or.inl rfl)
  have a69 : am_fI s12 13069 o = Int32.ofNat c.2.2.1 := by rw [q12]; exact rI_same
  have a74 : am_fI s15 13074 o = 0 := by rw [q15]; exact rI_same
  have a75 : am_fI s18 13075 o = 0 := by rw [q18]; exact rI_same
  have a78 : am_fL s21 13078 o = 0 := by rw [q21]; exact rL_same
  have a77 : am_fL s24 13077 o = 0 := by rw [q24]; exact rL_same
  have big : ∀ {fs : List Nat} {σ σ1 : am_S}, Rc o fs [] [] σ σ1 → (∀ x ∈ fs, x ∈ [13068, 13069, 13070, 13071, 13072, 13073, 13074, 13075, 13077, 13078]) → Rc o [13068, 13069, 13070, 13071, 13072, 13073, 13074, 13075, 13077, 13078] [] [] σ σ1 := fun h h1 => h.mono h1 (by simp) (by simp)
  have rb : Rc o [13068, 13069, 13070, 13071, 13072, 13073, 13074, 13075, 13077, 13078] [] [] σ s24 := (((((((big r2 (by decide)).trans (big r5 (by decide))).trans (big r8 (by decide))).trans (big r12 (by decide))).trans (big r15 (by decide))).trans (big r18 (by decide))).trans (big r21 (by decide))).trans (big r24 (by decide))
  have D24 := D.rc rb (by decide)
  have e69 : am_fI s24 13069 o = Int32.ofNat c.2.2.1 := (r24.fI (by decide)).trans ((r21.fI (by decide)).trans ((r18.fI (by decide)).trans ((r15.fI (by decide)).trans a69)))
  have e68 : am_fI s24 13068 o = Int32.ofNat i := (r24.fI (by decide)).trans ((r21.fI (by decide)).trans ((r18.fI (by decide)).trans ((r15.fI (by decide)).trans ((r12.fI (by decide)).trans c68))))
  have e72 : am_fI s24 13072 o = day := (r24.fI (by decide)).trans ((r21.fI (by decide)).trans ((r18.fI (by decide)).trans ((r15.fI (by decide)).trans ((r12.fI (by decide)).trans ((r8.fI (by decide)).trans a72)))))
  have e73 : am_fI s24 13073 o = at' := (r24.fI (by decide)).trans ((r21.fI (by decide)).trans ((r18.fI (by decide)).trans ((r15.fI (by decide)).trans ((r12.fI (by decide)).trans a73))))
  have e74 : am_fI s24 13074 o = 0 := (r24.fI (by decide)).trans ((r21.fI (by decide)).trans ((r18.fI (by decide)).trans a74))
  have e75 : am_fI s24 13075 o = 0 := (r24.fI (by decide)).trans ((r21.fI (by decide)).trans a75)
  have e78 : am_fL s24 13078 o = 0 := (r24.fL (by decide)).trans a78
  rw [e68, e73]
  refine (r_coverOf (d := d + 413) D24.k D24.pol D24.pla D24.cas w.n4 w.t w.pl hp100 w.ac h100 hi hc.1 (fun _ => ?_))
  intro s29 q29
  have r29 : Rc o [13070] [] [] s24 s29 := by rw [q29]; exact Rc.sfI (by decide) (Or.inl rfl)
  have rb29 := rb.trans (big r29 (by decide))
  have D29 := D.rc rb29 (by decide)
  have e70 : am_fI s29 13070 o = ixO (m_cover P T c at') := by rw [q29]; exact rI_same
  have E29 : Ev s29 o P T Ls Cs i c day at' lk [] [] := ⟨D29, hi, (r29.fI (by decide)).trans e68, (r29.fI (by decide)).trans e69, (r29.fI (by decide)).trans e72, (r29.fI (by decide)).trans e73, hL.rc rb29 lo (by decide)⟩
  have rr29 : Rc o (eF lk) eA (eM lk) σ s29 := rb29.mono (by cases lk <;> decide) (by simp) (by simp)
  have f6 : am_fI s29 12006 1053 = nf := (rb29.fI (by decide)).trans hn
  have f71 : am_fI s29 13071 o = ixO (some (am_fI s29 13071 o).toBitVec.toNat) := by
    show _ = Int32.ofNat (am_fI s29 13071 o).toBitVec.toNat
    apply Int32.toBitVec_inj.mp
    simp
  have any : ∀ p, am_fI s29 13070 o = Int32.ofNat p → Es s29 o P T Ls Cs i c day at' lk p (some (am_fI s29 13071 o).toBitVec.toNat) nf 0 false 0 (am_fL s29 13076 o) [] [] := fun p hp => ⟨E29, hp, f71, f6, (r29.fI (by decide)).trans e74, (r29.fI (by decide)).trans e75, (r29.fL (by decide)).trans a77, rfl, (r29.fL (by decide)).trans e78⟩
  rw [e70]
  refine ⟨fun hm => ?_, fun hm => ?_⟩
  · have hcn : m_cover P T c at' = none := by
      cases hcv : m_cover P T c at' with
      | none => rfl
      | some p =>
        rw [hcv] at hm
        exact absurd hm (ne_m1 (by have := m_cov_lt w.pl 101 _ _ _ hc.1 hcv; omega))
    have eR : R = ([], [], 1, false, 0) := by rw [hR]; unfold m_begin; rw [hcn]
    refine r_meets (any 4294967295 (by rw [e70, hcn]; rfl)) (fun s33 S33 r33 _ => ?_)
    exact K' s33 _ _ _ (by rw [eR]; exact S33) (by rw [eR]; intro q; exact absurd (show (1 : Int32) = 0 from q) (by decide)) (rr29.trans r33)
  · cases hcv : m_cover P T c at' with
    | none => rw [hcv] at hm; exact absurd rfl hm
    | some p =>
      have hp := m_cov_lt w.pl 101 _ _ _ hc.1 hcv
      have hp6 := m_cov_kind 101 _ _ _ hcv
      have bp : 0 ≤ (Int32.ofNat p).toInt ∧ (Int32.ofNat p).toInt < 100 := by rw [n32 (by omega)]; omega
      have hgp := getD_some mPol0 hp
      have v28 : am_aI s29 (o + 28) c.2.2.1 = m_ld Ls c := D29.los.2.2.1 _ _ (getD_some mLoss0 hl)
      have v2 : am_aI s29 (o + 2) p = (P.getD p mPol0).2.1 := D29.pol.2.2.1 _ _ hgp
      have v3 : am_aI s29 (o + 3) p = (P.getD p mPol0).2.2 := D29.pol.2.2.2 _ _ hgp
      have e29 := E29.2.2.2.1
      have e73' := E29.2.2.2.2.2.1
      rw [hcv] at e70
      show (am_ar s29 1000 (am_fR s29 13037 o) (am_fI s29 13069 o)) ∧ _
      rw [show ixO (some p) = Int32.ofNat p from rfl, e29, oG_13037 D29.k, oG_13004 D29.k, oG_13005 D29.k, n32c (by omega), n32c (by omega), v28, v2, v3]
      refine ⟨oA_13037 D29.k bl.1 bl.2, ?_⟩
      intro y ey
      refine ⟨oA_13004 D29.k bp.1 bp.2, oA_13005 D29.k bp.1 bp.2, w_Rm_in (fun _ => ?_)⟩
      have ey : y = m_year (m_ld Ls c) := ey
      have hyr : (decide (¬ y.toInt64 < ((P.getD p mPol0).2.1 / 365).toInt64 ∧ ¬ ((P.getD p mPol0).2.2 / 365).toInt64 < y.toInt64) = true) ↔ ¬ (m_year (m_ld Ls c) < m_year (P.getD p mPol0).2.1 ∨ m_year (P.getD p mPol0).2.2 < m_year (m_ld Ls c)) := by
        rw [decide_eq_true_eq, ey, i64lt, i64lt, t64, t64, t64, not_or, i32lt, i32lt]
        rfl
      rw [hyr]
      have S29 := any p e70
      refine ⟨fun hy => ?_, fun hy => ?_⟩
      · rw [show am_fI s29 13070 o = Int32.ofNat p from e70, e73', ey]
        refine (r_sumOf (d := d + 414) D29.k D29.per w.n5 w.t (by omega) (fun _ => ?_))
        cases hs : m_sum T p (m_year (m_ld Ls c)) at' with
        | none =>
          have eR : R = ([], [], 1, false, 0) := by rw [hR]; unfold m_begin; rw [hcv]; show (if _ then _ else _) = _; rw [if_neg hy, hs]
          refine ⟨fun _ => r_meets S29 (fun s46 S46 r46 _ => ?_), fun h => absurd rfl h⟩
          exact K' s46 _ _ _ (by rw [eR]; exact S46) (by rw [eR]; intro q; exact absurd (show (1 : Int32) = 0 from q) (by decide)) (rr29.trans r46)
        | some sum =>
          have hsr := sum_rng w hs
          have eR : R = m_seven P T Ls c day at' p sum := by rw [hR]; unfold m_begin; rw [hcv]; show (if _ then _ else _) = _; rw [if_neg hy, hs]
          refine ⟨fun h => ?_, fun _ => ?_⟩
          · have h : sum = -1 := h
            rw [h] at hsr
            exact absurd hsr.1 (by decide)
          · have hset := m_set_cls T p at'
            have h0 : ∀ t ∈ T, t.1 = 6 → t.2.2.1 = 0 := fun t ht h6 => (w.te t ht).1 (Or.inl h6)
            rw [show am_fI s29 13070 o = Int32.ofNat p from e70, e73']
            refine (r_setOf (d := d + 414) D29.k D29.set w.n6 w.t h0 (by omega) (fun _ => ?_))
            intro s50 q50
            have r50 : Rc o [13071] [] [] s29 s50 := by rw [q50]; exact Rc.sfI (by decide) (Or.inl rfl)
            have rb50 := rb29.trans (big r50 (by decide))
            have S50 : Es s50 o P T Ls Cs i c day at' lk p (m_set T p at') nf 0 false 0 (am_fL s50 13076 o) [] [] := by
              obtain ⟨-, f1, f2, f3, f4, f5, f6, f7, f8⟩ := S29
              exact ⟨⟨D.rc rb50 (by decide), hi, (r50.fI (by decide)).trans E29.2.2.1, (r50.fI (by decide)).trans e29, (r50.fI (by decide)).trans E29.2.2.2.2.1, (r50.fI (by decide)).trans e73', hL.rc rb50 lo (by decide)⟩, (r50.fI (by decide)).trans f1, by rw [q50]; exact rI_same, (r50.fI (by decide)).trans f3, (r50.fI (by decide)).trans f4, (r50.fI (by decide)).trans f5, (r50.fL (by decide)).trans f6, rfl, (r50.fL (by decide)).trans f8⟩
            have eC : m_cls T p at' = clOf T (m_set T p at') := by rw [hset.1]; rfl
            unfold m_seven at eR
            rw [eC] at eR
            refine r_toSeven w hH hp hp6 hset.2 hsr.1 S50 (fun R2 hR2 s53 s' w' S53 hs' r53 _ => ?_)
            have e2 : R2 = R := by rw [eR, hR2]
            subst e2
            intro w58 e58 s60 q60
            have hz := @sB_zero P T Ls c day at' p (clOf T (m_set T p at')) sum (m_worth Ls (m_amt Ls c day at') (m_most (clOf T (m_set T p at'))) 5 c.2.2.1)
            rw [← eR] at hz
            have e58 : w58 = R2.2.2.2.2 := by
              rw [e58, S53.2.2.2.2.1, S53.2.2.2.2.2.1, S53.2.2.2.2.2.2.1]
              by_cases h1 : R2.2.2.1 = 0
              · rw [if_pos h1]
                by_cases h2 : R2.2.2.2.1 = false
                · rw [h2, if_pos (show b2i false = 0 from rfl)]
                  exact hs' h1 h2
                · have h2 : R2.2.2.2.1 = true := by simpa using h2
                  rw [h2, if_neg (by decide)]
                  exact (hz (Or.inr h2)).symm
              · rw [if_neg h1]
                exact (hz (Or.inl h1)).symm
            obtain ⟨S60, r60⟩ := S53.setS q60
            rw [e58] at S60
            exact K' s60 _ _ _ S60 (fun _ => ⟨hcv, hp, hp6, rfl⟩) (((rb50.mono (by cases lk <;> decide) (by simp) (by simp)).trans r53).trans r60)
      · have hy : m_year (m_ld Ls c) < m_year (P.getD p mPol0).2.1 ∨ m_year (P.getD p mPol0).2.2 < m_year (m_ld Ls c) := Classical.not_not.mp hy
        have eR : R = ([], [], 3, false, 0) := by rw [hR]; unfold m_begin; rw [hcv]; show (if _ then _ else _) = _; rw [if_pos hy]
        refine r_meets S29 (fun s63 S63 r63 _ => ?_)
        exact K' s63 _ _ _ (by rw [eR]; exact S63) (by rw [eR]; intro q; exact absurd (show (3 : Int32) = 0 from q) (by decide)) (rr29.trans r63)
end
