/-! THE CLASS: a payment: what of it is interest, and whether it is too much -/
theorem div_rng (x : Int64) : -3000000000000 ≤ (x / 3650000).toInt ∧ (x / 3650000).toInt ≤ 3000000000000 := by
  have h1 := r64 x
  have hy : (3650000 : Int64).toInt = 3650000 := by decide
  have hb : -3000000000000 ≤ x.toInt.tdiv 3650000 ∧ x.toInt.tdiv 3650000 ≤ 3000000000000 := by
    rcases Int.le_total 0 x.toInt with h | h
    · rw [Int.tdiv_eq_ediv_of_nonneg h]
      omega
    · have e : x.toInt.tdiv 3650000 = -((-x.toInt).tdiv 3650000) := by rw [Int.neg_tdiv, Int.neg_neg]
      rw [e, Int.tdiv_eq_ediv_of_nonneg (by omega)]
      omega
  rw [Int64.toInt_div, hy, Int.bmod_eq_of_le (by omega) (by omega)]
  exact hb
section
variable {x : mCase} {C : List mCl} {day at' : Int32} {P : List mPol} {T : List mTell} {Ls : List mLoss} {Cs : List mCase} {i : Nat}
def ItR (W : mWork) : Prop := -3000000000000 ≤ W.2.2.2.1.toInt ∧ W.2.2.2.1.toInt ≤ 3000000000000
theorem behind_len {rs : List mRow × Int64} {tr : List Int32} {n : Nat} : (m_behind x day at' C rs tr n).1.length ≤ rs.1.length + 3 ∧ ItR (m_behind x day at' C rs tr n) := by
  unfold m_behind
  dsimp only
  have hl := less_len (rs := rs) (code := 10) (arg := 0) (cents := m_least (m_summed x.2.2.2.2.2 18 day at') rs.2)
  generalize m_less rs 10 0 (m_least (m_summed x.2.2.2.2.2 18 day at') rs.2) = r1 at hl
  split
  · exact ⟨by show r1.1.length ≤ _; omega, by show -3000000000000 ≤ (0 : Int64).toInt ∧ (0 : Int64).toInt ≤ 3000000000000; decide⟩
  · obtain ⟨it, hit⟩ : ∃ it, it = (if m_told C 9 = -1 then 0 else m_days2 r1.2 day at' 0 x.2.2.2.1 x.2.2.2.2.2 * m_told C 9 / 3650000) := ⟨_, rfl⟩
    rw [← hit]
    have hr : (if it = 0 then r1.1 else r1.1 ++ [((11 : Int32), (0 : Int32), it)]).length ≤ r1.1.length + 1 := by
      split
      · omega
      · rw [List.length_append, List.length_singleton]
        omega
    refine ⟨?_, ?_⟩
    · show (if _ then _ else _ : List mRow).length ≤ _
      split
      · omega
      · rw [List.length_append, List.length_singleton]
        omega
    · show -3000000000000 ≤ it.toInt ∧ it.toInt ≤ 3000000000000
      rw [hit]
      split
      · decide
      · exact div_rng _
theorem work_len (hw : WfD P T Ls Cs) (hi : Cs[i]? = some x) : (m_work P T Ls Cs i day at').1.length ≤ 13 ∧ ItR (m_work P T Ls Cs i day at') := by
  have hb := begin_rng (day := day) (at' := at') hw hi
  unfold m_work
  rw [getD_of mCase0 hi]
  dsimp only
  have h6 := hb.2.2
  generalize m_begin P T Ls x day at' = B at h6
  have z0 : -3000000000000 ≤ (0 : Int64).toInt ∧ (0 : Int64).toInt ≤ 3000000000000 := by decide
  split
  · exact ⟨by show B.1.length ≤ 13; omega, z0⟩
  · split
    · exact ⟨by show B.1.length ≤ 13; omega, z0⟩
    · split
      · exact ⟨by show B.1.length ≤ 13; omega, z0⟩
      · rename_i p _
        unfold m_after
        split
        · have := behind_len (x := x) (day := day) (at' := at') (C := m_cls T p at') (rs := (B.1, B.2.2.2.2)) (tr := B.2.1) (n := 0)
          exact ⟨by have := this.1; dsimp only at this; omega, this.2⟩
        · dsimp only
          refine ⟨Nat.le_trans behind_len.1 ?_, behind_len.2⟩
          have l1 := fun c => less_len (rs := (B.1, B.2.2.2.2)) (code := 8) (arg := 0) (cents := c)
          have l2 := fun rs c => less_len (rs := rs) (code := 9) (arg := 0) (cents := c)
          refine Nat.le_trans (Nat.add_le_add_right (Nat.le_trans (l2 _ _) (Nat.add_le_add_right (l1 _) 1)) 3) ?_
          show B.1.length + 1 + 1 + 3 ≤ 13
          omega
theorem max_less2 {s z : Int64} (h0 : -3000000000000 ≤ s.toInt) (h1 : s.toInt ≤ 3000000000000) (hz : 0 ≤ z.toInt) (hz1 : z.toInt ≤ 40000000000000) : (if s - z < 0 then 0 else s - z) = (if z < s then s - z else 0) := by
  have hs : (s - z).toInt = s.toInt - z.toInt := i64sub (by omega) (by omega)
  have z0 : (0 : Int64).toInt = 0 := by decide
  by_cases h : z < s
  · have h' := i64lt.mp h
    rw [if_pos h, if_neg (by rw [i64lt, hs, z0]; omega)]
  · rw [if_neg h]
    rw [i64lt] at h
    by_cases h2 : s - z < 0
    · rw [if_pos h2]
    · rw [if_neg h2, i64e, hs, z0]
      rw [i64lt, hs, z0] at h2
      omega
theorem paid_it {fs : List mFact} (h : ∀ f ∈ fs, WfFac f ∧ f.2.2.1.toInt ≤ at'.toInt) : m_sumf (fun f => decide (¬ at' < f.2.2.1)) m_fi fs = m_sumf (fun f => decide (f.1 = 13)) m_fi fs := by
  induction fs with
  | nil => rfl
  | cons f l ih =>
    rw [m_sumf, m_sumf, ih (fun g hg => h g (List.mem_cons_of_mem _ hg))]
    have hf := h f List.mem_cons_self
    have e1 : decide (¬ at' < f.2.2.1) = true := decide_eq_true (by rw [i32lt]; omega)
    rw [e1, if_pos rfl]
    by_cases h13 : f.1 = 13
    · rw [decide_eq_true h13, if_pos rfl]
    · rw [hf.1.2.2.2.2.2.2.2.2.1 h13]
      split <;> rfl
end
section
variable {nl : Bool} {Ln : Nat} {xs : Nat → Int32} {d : Nat} {σ : am_S} {w : ow_T} {b v i cc : Nat} {M : mOff} {W : mWork} {x : mCase} {day : Int32} {cents it : Int64}
/-- what of a payment is interest -/
def itOf (cents : Int64) (W : mWork) (x : mCase) : Int64 := m_least cents (if m_sumf (fun f => decide (f.1 = 13)) m_fi x.2.2.2.2.2 < W.2.2.2.1 then W.2.2.2.1 - m_sumf (fun f => decide (f.1 = 13)) m_fi x.2.2.2.2.2 else 0)
theorem bk_interestIn {F : Int64 → am_S → Prop} (hw : WfO M) (hBD : BkD σ w b (o_pol M) (o_tel M) (o_los M) (o_cas M)) (hN : BkN σ b M) (hi : (o_cas M)[i]? = some x) (hcc : am_aR σ (bA σ b 6006) i = some cc) (hk : am_kd σ 1008 = (3, 0)) (h2 : am_fR σ 2002 1008 = some v) (hW : W = m_work (o_pol M) (o_tel M) (o_los M) (o_cas M) i day (o_now M)) (S : SeR σ w v b (o_pol M) (o_tel M) x (o_now M) W.1 W.2.1 W.2.2.1)
    (K : ∀ it, (W.2.2.1 = 0 → it = itOf cents W x) → F it σ) : k_Bk_interestIn nl Ln xs (d + 2) b (some cc) cents σ F := by
  obtain ⟨⟨ov, V⟩, -⟩ := S
  have hl := work_len (day := day) (at' := o_now M) hw.1 hi
  rw [← hW] at hl
  obtain ⟨c', c1, c2, -⟩ := hBD.2.2.2.2.1 i x hi
  have ec : c' = cc := Option.some.inj (c1.symm.trans hcc)
  subst ec
  have hx := hw.1.2.2.2.2 x (List.mem_of_getElem? hi)
  have hmo := hw.2.2.2.1 x (List.mem_of_getElem? hi)
  have hF := hx.2.2.2.2.1
  refine w_Bk_interestIn ⟨is_mk hBD.1.2.1, ?_⟩
  rw [hBD.1.2.2.2.1.1, Option.getD_some, h2, Option.getD_some]
  refine ⟨is_mk hk, is_mk V.1.1, vw_centsOf (d := d) V hl.1 (fun _ => ⟨is_mk c2.1.2.1, ?_⟩)⟩
  rw [Option.getD_some, hN.2.2.2.2.1]
  refine cs_paidOfInterest (d := d) c2.1 (fun _ => ?_)
  rw [paid_it (fun f hf => ⟨hF.2.1 f hf, hmo.2.2 f hf⟩), cofr_find]
  rintro v9 rfl
  refine w_Math_max ?_
  rintro a12 rfl _
  refine w_Math_min ?_
  rintro a14 rfl _
  refine K _ (fun h0 => ?_)
  have hcd := (work_cd (P := o_pol M) (T := o_tel M) (Ls := o_los M) (Cs := o_cas M) (day := day) (at' := o_now M) (i := i)).2
  rw [← hW] at hcd
  have hs := sumf_rng (q := fun f => decide (f.1 = 13)) (v := m_fi) x.2.2.2.2.2 (fun f hf => by
    obtain ⟨-, -, k3, k4, k5, k6, k7, k8, -⟩ := hF.2.1 f hf
    omega) hF.1
  have h40 := hF.1
  rw [hcd h0, min_least, max_less2 hl.2.1 hl.2.2 hs.1 (by omega)]
  rfl
theorem bk_isTooMuch {F : Bool → am_S → Prop} (hw : WfO M) (hC : ∀ p, ∀ c ∈ m_cls (o_tel M) p (o_now M), WfCl c) (hBD : BkD σ w b (o_pol M) (o_tel M) (o_los M) (o_cas M)) (hN : BkN σ b M) (hi : (o_cas M)[i]? = some x) (hcc : am_aR σ (bA σ b 6006) i = some cc) (hk : am_kd σ 1008 = (3, 0)) (h2 : am_fR σ 2002 1008 = some v) (hW : W = m_work (o_pol M) (o_tel M) (o_los M) (o_cas M) i day (o_now M)) (S : SeR σ w v b (o_pol M) (o_tel M) x (o_now M) W.1 W.2.1 W.2.2.1)
    (K1 : W.2.2.1 ≠ 0 ∨ m_total W.1 < cents → F true σ)
    (K2 : ∀ p, W.2.2.1 = 0 → ¬ m_total W.1 < cents → m_cover (o_pol M) (o_tel M) x (o_now M) = some p → ∀ bo : Bool, (bo = true ↔ (m_told (m_cls (o_tel M) p (o_now M)) 4 ≠ -1 ∧ m_told (m_cls (o_tel M) p (o_now M)) 4 - m_usedL (o_pol M) (o_tel M) (o_los M) (m_year (m_ld (o_los M) x)) (o_now M) p (o_cas M) < cents - it)) → F bo σ) : k_Bk_isTooMuch nl Ln xs (d + 5) b (some cc) cents it σ F := by
  obtain ⟨⟨ov, V⟩, hS⟩ := S
  have hl := work_len (day := day) (at' := o_now M) hw.1 hi
  rw [← hW] at hl
  obtain ⟨c', pc', lc, p0, l, a1, a2, a3, a4, a5, a6, a7, a8, a9, a10, a11, a12⟩ := hBD.case hw.1 hi
  have ec : c' = cc := Option.some.inj (a1.symm.trans hcc)
  subst ec
  have f0 := hBD.1.2.2.2.1.1
  refine w_Bk_isTooMuch ⟨is_mk hBD.1.2.1, ?_⟩
  rw [f0, Option.getD_some, h2]
  refine ⟨is_mk hk, ?_⟩
  rintro v3 rfl
  rw [Option.getD_some, V.2.2.2.1]
  refine ⟨is_mk V.1.1, fun h0 => vw_total (d := d + 3) V hl.1 (fun _ => ⟨fun hlt => K1 (Or.inr hlt), fun hlt => ?_⟩), fun h0 => K1 (Or.inl h0)⟩
  obtain ⟨p, pc, q, hd, hm, w6, wp, wpc, wq, w7, wC⟩ := hS h0
  have hCp := hC p
  have ef := told_find hCp (op_ok (a := 4) (c := 4) (by decide) (by decide))
  have et := told_eq (m_cls (o_tel M) p (o_now M)) 4
  rw [f0, Option.getD_some, w7]
  refine ⟨is_mk hk, nd_lastOf (d := d + 3) wC (fun g _ => ⟨fun _ => ?_, fun z => absurd rfl z⟩) (fun c e g hn _ => ⟨fun z => absurd z (by simp), fun _ => ?_⟩)⟩
  · refine K2 p h0 hlt hm false ⟨fun z => absurd z (by decide), fun z => absurd ?_ z.1⟩
    have g' : (m_cls (o_tel M) p (o_now M)).reverse.find? (fun c => decide (c.1 = 4)) = none := ef.symm.trans g
    rw [et, g']
    rfl
  · have g' : (m_cls (o_tel M) p (o_now M)).reverse.find? (fun c => decide (c.1 = 4)) = some c := ef.symm.trans g
    have hc4 : c.1 = 4 := of_decide_eq_true (List.find?_some (p := fun c : mCl => decide (c.1 = 4)) g')
    have hm4 := hCp c (List.mem_reverse.mp (List.mem_of_find?_eq_some g'))
    have en : c_nr c = c.2.1 := by unfold c_nr; rw [if_neg (by rw [hc4]; decide), if_neg (by rw [hc4]; decide), if_neg (by rw [hc4]; decide)]
    have ev : m_told (m_cls (o_tel M) p (o_now M)) 4 = c.2.1.toInt64 := by rw [et, g']; rfl
    have hne : m_told (m_cls (o_tel M) p (o_now M)) 4 ≠ -1 := by
      rw [ev, Ne, i64e, t64, show (-1 : Int64).toInt = -1 by decide]
      have := hm4.2.2.1
      omega
    rw [f0, Option.getD_some, Option.getD_some, a7, Option.getD_some, a10.2.2.2.2.2.1, w6, hN.2.2.2.2.1]
    have ey : l.2.1 / 365 = m_year (m_ld (o_los M) x) := by unfold m_year m_ld; rw [a11]
    rw [ey]
    refine ⟨is_mk hk, is_mk a2.1.2.1, is_mk a10.2.1, bk_usedOf (d := d) hBD hw.1 wp wpc (fun _ => ⟨is_mk hn.1.2, ?_⟩)⟩
    rw [Option.getD_some, hn.2.2.1, en, ← ev]
    refine K2 p h0 hlt hm _ ⟨fun z => ⟨hne, of_decide_eq_true z⟩, fun z => decide_eq_true z.2⟩
end
