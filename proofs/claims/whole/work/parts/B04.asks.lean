/-! THE CLASS: what is asked of all cases -/
theorem hi_none : am_hi none := fun n h => by cases h
theorem hi_some {n : Nat} (h : 1000 ≤ n) : am_hi (some n) := fun m e => by cases e; exact h
theorem sumf_congr {q q' : mFact → Bool} {v : mFact → Int64} : ∀ {l : List mFact}, (∀ f ∈ l, q f = q' f) → m_sumf q v l = m_sumf q' v l
  | [], _ => rfl
  | f :: l, h => by rw [m_sumf, m_sumf, h f List.mem_cons_self, sumf_congr fun g hg => h g (List.mem_cons_of_mem _ hg)]
theorem cnt_last {f : mFact} {at' : Int32} (h : f.2.1.toInt ≤ 10949) : m_counts f 10949 at' = decide (¬ at' < f.2.2.1) := by
  unfold m_counts
  have : ¬ (10949 : Int32) < f.2.1 := by rw [i32lt, show (10949 : Int32).toInt = 10949 by decide]; omega
  simp [this]
theorem paid_eq {at' : Int32} : ∀ {l : List mFact}, (∀ f ∈ l, WfFac f) → m_sumf (fun f => decide (f.1 = 13) && m_counts f 10949 at') m_fc l - m_sumf (fun f => decide (¬ at' < f.2.2.1)) m_fi l = m_paidOf l at'
  | [], _ => by
    show (0 : Int64) - 0 = 0
    decide
  | f :: l, h => by
    have ih := paid_eq (at' := at') (l := l) (fun g hg => h g (List.mem_cons_of_mem _ hg))
    obtain ⟨-, -, -, hd, -, -, -, -, h13, -⟩ := h f List.mem_cons_self
    unfold m_paidOf at ih ⊢
    rw [m_sumf, m_sumf, m_sumf, ← ih, cnt_last hd]
    by_cases h1 : f.1 = 13 <;> by_cases h2 : at' < f.2.2.1
    · simp [h1, h2]
    · simp only [h1, h2, not_false_eq_true, decide_true, Bool.and_self, if_true]
      grind
    · simp [h1, h2]
    · have := h13 h1
      simp only [h1, h2, not_false_eq_true, decide_true, decide_false, Bool.false_and, this, if_true]
      grind
section
variable {nl : Bool} {Ln : Nat} {xs : Nat → Int32} {d : Nat} {σ : am_S} {w : ow_T} {k : Nat × Nat} {b : Nat} {P : List mPol} {T : List mTell} {Ls : List mLoss} {Cs : List mCase}
theorem cs_paidOfWorth {c : Nat} {fs : List mFact} {at' : Int32} {F : Int64 → am_S → Prop} (h : CsF σ w k c fs) (hw : WfFs fs) (K : F (m_paidOf fs at') σ) : k_Cs_paidOfWorth nl Ln xs (d + 2) c at' σ F := by
  refine w_Cs_paidOfWorth ⟨is_mk h.2.1, (cs_sumOf (d := d) h (fun _ => (cs_paidOfInterest (d := d) h (fun _ => ?_))))⟩
  rw [paid_eq hw.2.1]
  exact K
theorem cs_rec {c : Nat} {fs : List mFact} {at' : Int32} {F : Int64 → am_S → Prop} (h : CsF σ w k c fs) (hw : WfFs fs) (K : F (m_recOf fs at') σ) : k_Cs_sumOf nl Ln xs (d + 1) c 19 at' 10949 σ F := by
  refine cs_sumOf h ?_
  have e : m_sumf (fun f => decide (f.1 = 19) && m_counts f 10949 at') m_fc fs = m_recOf fs at' := sumf_congr fun f hf => by rw [cnt_last (hw.2.1 f hf).2.2.2.1]
  rw [e]
  exact K
theorem cs_earliestDay {c : Nat} {x : mCase} {F : Int32 → am_S → Prop} (h : CsR σ w k c x) (K : F (m_lastDay x) σ) : k_Cs_earliestDay nl Ln xs (d + 1) c σ F := by
  obtain ⟨⟨h1, h2, h3⟩, h4, h5, h6, -⟩ := h
  unfold m_lastDay at K
  have e := List.head?_reverse (l := x.2.2.2.2.2)
  refine w_Cs_earliestDay ⟨is_mk h2, ?_⟩
  cases hr : x.2.2.2.2.2.reverse with
  | nil =>
    rw [hr] at h3 e
    have hn : am_fR σ 11005 c = none := h3
    rw [← e] at K
    rw [hn]
    refine ⟨fun q => absurd rfl q, ?_⟩
    rintro w5 rfl
    rw [if_pos rfl, h6]
    exact K
  | cons f l =>
    rw [hr] at h3 e
    obtain ⟨a, a1, a2, a3⟩ := h3
    rw [← e] at K
    rw [a1]
    refine ⟨fun _ => is_mk a2.2.1, ?_⟩
    rintro w5 rfl
    rw [if_neg (by simp), Option.getD_some, a2.2.2.2.1]
    exact K
theorem po_clausesAt {c i : Nat} {p : mPol} {at' : Int32} {F : Option Nat → am_S → Prop} (h : PoR σ w k c i p (tlP T i)) (K : ∀ hd, ClN σ w k hd (m_cls T i at') → F hd σ) : k_Po_clausesAt nl Ln xs (d + 2) c at' σ F := by
  obtain ⟨h1, h2, h3, h4, h5, h6, h7, h8⟩ := h
  have el := look_tlP (T := T) (act := 6) (which := 0) (at' := at') (p := i) (by decide)
  unfold m_cls at K
  refine w_Po_clausesAt ⟨is_mk h2, (en_known (d := d) h8 (fun g _ => ?_) (fun t e g he _ => ?_))⟩
  · refine ⟨fun q => absurd rfl q, ?_⟩
    rintro w7 rfl
    rw [el, g] at K
    exact K none rfl
  · refine ⟨fun _ => is_mk he.2.1, ?_⟩
    rintro w7 rfl
    rw [el, g] at K
    rw [if_neg (by simp), Option.getD_some]
    exact K _ he.2.2.2.2.2.2
theorem bk_rankOf {i at' : Int32} {F : Int32 → am_S → Prop} (h : BkD σ w b P T Ls Cs) (hT : WfT T) (K : F (m_rank T i at') σ) : k_Bk_rankOf nl Ln xs (d + 2) b i at' σ F := by
  have el := look_rank (which := i) (at' := at') hT
  unfold m_rank at K
  refine w_Bk_rankOf ⟨is_mk h.1.2.1, (en_known (d := d) h.2.2.2.2.2.2 (fun g _ => ?_) (fun t e g he _ => ?_))⟩
  · refine ⟨fun q => absurd rfl q, ?_⟩
    rintro w7 rfl
    rw [el, g] at K
    exact K
  · refine ⟨fun _ => is_mk he.2.1, ?_⟩
    rintro w7 rfl
    rw [el, g] at K
    rw [if_neg (by simp), Option.getD_some, he.2.2.2.2.2.1]
    exact K
/-- a case with its policy and its loss -/
theorem BkD.case (h : BkD σ w b P T Ls Cs) (hw : WfD P T Ls Cs) {i : Nat} {x : mCase} (hi : Cs[i]? = some x) : ∃ c pc lc p l, am_aR σ (bA σ b 6006) i = some c ∧ CsR σ w (b, 600 + i) c x ∧ am_fR σ 11000 c = some pc ∧ am_aR σ (bA σ b 6004) x.1 = some pc ∧ P[x.1]? = some p ∧ PoR σ w (b, 100 + x.1) pc x.1 p (tlP T x.1) ∧ am_fR σ 11002 c = some lc ∧ am_aR σ (bA σ b 6005) x.2.2.1 = some lc ∧ Ls[x.2.2.1]? = some l ∧ LsR σ w (b, 300 + x.2.2.1) lc x.2.2.1 l ∧ Ls.getD x.2.2.1 mLoss0 = l ∧ WfCas P Ls x := by
  have hx := hw.2.2.2.2 x (List.mem_of_getElem? hi)
  obtain ⟨c, c1, c2, c3, c4⟩ := h.2.2.2.2.1 i x hi
  obtain ⟨pc, q1, q2⟩ := h.2.2.1 x.1 _ (getD_some mPol0 hx.1)
  obtain ⟨lc, l1, l2, l3⟩ := h.2.2.2.1 x.2.2.1 _ (getD_some mLoss0 hx.2.1)
  exact ⟨c, pc, lc, _, _, c1, c2, c3.trans q1, q1, getD_some mPol0 hx.1, q2, c4.trans l1, l1, getD_some mLoss0 hx.2.1, l2, rfl, hx⟩
/-- the cells of policies are theirs alone -/
theorem pol_inj (h : BkD σ w b P T Ls Cs) {i j c : Nat} {p q : mPol} (hi : P[i]? = some p) (hj : P[j]? = some q) (h1 : am_aR σ (bA σ b 6004) i = some c) (h2 : am_aR σ (bA σ b 6004) j = some c) : i = j := by
  obtain ⟨c1, e1, r1⟩ := h.2.2.1 i p hi
  obtain ⟨c2, e2, r2⟩ := h.2.2.1 j q hj
  have a1 : c1 = c := Option.some.inj (e1.symm.trans h1)
  have a2 : c2 = c := Option.some.inj (e2.symm.trans h2)
  have := r1.1
  rw [a1] at this
  have h3 := r2.1
  rw [a2, this] at h3
  have := congrArg Prod.snd h3
  simp at this
  omega
theorem bk_coverOf {i c : Nat} {x : mCase} {at' : Int32} {F : Option Nat → am_S → Prop} (h : BkD σ w b P T Ls Cs) (hw : WfD P T Ls Cs) (hi : Cs[i]? = some x) (hc : am_aR σ (bA σ b 6006) i = some c) (K1 : m_cover P T x at' = none → F none σ) (K2 : ∀ p pc q, m_cover P T x at' = some p → P[p]? = some q → am_aR σ (bA σ b 6004) p = some pc → PoR σ w (b, 100 + p) pc p q (tlP T p) → q.1 ≠ 6 → F (some pc) σ) : k_Bk_coverOf nl Ln xs (d + 2) b (some c) at' σ F := by
  obtain ⟨c', pc, lc, p0, l, a1, a2, a3, a4, a5, a6, -⟩ := h.case hw hi
  have e : c' = c := Option.some.inj (a1.symm.trans hc)
  subst e
  have h100 := hw.1.1
  have loop : ∀ (m s p : Nat) (pl : Int32) (pc : Nat) (q : mPol) (x6 : Option Value), s + m = 100 → m_cov P T at' (m + 1) p pl = m_cover P T x at' → P[p]? = some q → am_aR σ (bA σ b 6004) p = some pc → PoR σ w (b, 100 + p) pc p q (tlP T p) → c_Bk_coverOf_14 nl Ln xs (d + 2) b (some c') at' (some pc) pl (Int32.ofNat s) x6 σ F := by
    intro m
    induction m with
    | zero =>
      intro s p pl pc q x6 hs hm hp ha hr
      have hgd : P.getD p mPol0 = q := getD_of mPol0 hp
      unfold m_cov at hm
      rw [hgd] at hm
      refine w_Bk_coverOf_14 ⟨fun g => absurd g (by rw [show s = 100 by omega]; decide), fun _ => ⟨fun _ => is_mk hr.2.1, ?_⟩⟩
      rintro w27 rfl
      rw [if_neg (by simp), Option.getD_some, hr.2.2.2.2.1]
      by_cases h6 : q.1 = 6
      · rw [if_pos h6]
        rw [if_pos h6] at hm
        refine K1 (hm.symm.trans ?_)
        cases m_part T p pl at' <;> rfl
      · rw [if_neg h6]
        rw [if_neg h6] at hm
        exact K2 p pc q hm.symm hp ha hr h6
    | succ m ih =>
      intro s p pl pc q x6 hs hm hp ha hr
      have hgd : P.getD p mPol0 = q := getD_of mPol0 hp
      rw [m_cov, hgd] at hm
      refine w_Bk_coverOf_14 ⟨fun _ => ⟨fun g => absurd g (by simp), fun _ => ⟨is_mk hr.2.1, ?_⟩⟩, fun g => absurd (show Int32.ofNat s < Int32.ofNat 100 by rw [n32lt (by omega) (by omega)]; omega) g⟩
      rw [Option.getD_some, hr.2.2.2.2.1]
      refine ⟨fun h6 => ?_, fun h6 => ?_⟩
      · rw [if_pos h6] at hm
        have el := look_tlP (T := T) (act := 4) (which := pl) (at' := at') (p := p) (by decide)
        unfold m_part at hm
        refine (en_known (d := d) hr.2.2.2.2.2.2.2 (fun g _ => ⟨fun _ => ?_, fun z => absurd rfl z⟩) (fun t e g he _ => ⟨fun z => absurd z (by simp), fun _ => ⟨is_mk he.2.1, is_mk h.1.2.1, ?_⟩⟩))
        · rw [el, g] at hm
          rw [n32s]
          by_cases h9 : s + 1 < 100
          · refine w_Bk_coverOf_14 ⟨fun _ => ⟨fun _ => ⟨fun z => absurd rfl z, ?_⟩, fun z => absurd rfl z⟩, fun z => absurd (show Int32.ofNat (s + 1) < Int32.ofNat 100 by rw [n32lt (by omega) (by omega)]; omega) z⟩
            rintro w7 rfl
            exact K1 hm.symm
          · refine w_Bk_coverOf_14 ⟨fun z => absurd z (by rw [show s + 1 = 100 by omega]; decide), fun _ => ⟨fun z => absurd rfl z, ?_⟩⟩
            rintro w27 rfl
            exact K1 hm.symm
        · rw [el, g] at hm
          have ht : -1 ≤ t.2.2.2.2.1.toInt ∧ t.2.2.2.2.1.toInt < P.length := hw.2.1.2.1 t (by
            have := List.mem_of_find?_eq_some g
            rw [List.mem_reverse] at this
            exact (List.mem_filter.mp this).1) (by
            have := List.find?_some g
            unfold qT at this
            simp at this
            exact this.1)
          rw [Option.getD_some, he.2.2.2.2.2.1]
          refine (bk_policyAt (d := d) h h100 (fun g2 _ => ?_) (fun c2 q2 g2 g3 g4 g5 _ => ?_))
          · have hneg : t.2.2.2.2.1.toInt < 0 := by
              unfold m_isPol at g2
              omega
            simp only [if_pos hneg] at hm
            rw [n32s]
            by_cases h9 : s + 1 < 100
            · refine w_Bk_coverOf_14 ⟨fun _ => ⟨fun _ => ⟨fun z => absurd rfl z, ?_⟩, fun z => absurd rfl z⟩, fun z => absurd (show Int32.ofNat (s + 1) < Int32.ofNat 100 by rw [n32lt (by omega) (by omega)]; omega) z⟩
              rintro w7 rfl
              exact K1 hm.symm
            · refine w_Bk_coverOf_14 ⟨fun z => absurd z (by rw [show s + 1 = 100 by omega]; decide), fun _ => ⟨fun z => absurd rfl z, ?_⟩⟩
              rintro w27 rfl
              exact K1 hm.symm
          · have hpos : ¬ t.2.2.2.2.1.toInt < 0 := by have := g2.1; omega
            simp only [if_neg hpos] at hm
            rw [n32s]
            exact ih (s + 1) (m_ix t.2.2.2.2.1) 0 c2 q2 _ (by omega) hm g3 g4 g5
      · rw [if_neg h6] at hm
        rintro w21 rfl
        rw [if_neg (by simp), if_neg h6]
        exact K2 p pc q hm.symm hp ha hr h6
  refine w_Bk_coverOf ⟨is_mk a2.1.2.1, ?_⟩
  rw [Option.getD_some, a3, a2.2.2.1]
  rintro v2 rfl v4 rfl
  exact loop 100 0 x.1 x.2.1 pc p0 none (by omega) rfl a5 a4 a6
theorem bk_isOfCover {i c p pc : Nat} {x : mCase} {q : mPol} {year at' : Int32} {F : Bool → am_S → Prop} (h : BkD σ w b P T Ls Cs) (hw : WfD P T Ls Cs) (hi : Cs[i]? = some x) (hc : am_aR σ (bA σ b 6006) i = some c) (hp : P[p]? = some q) (hpc : am_aR σ (bA σ b 6004) p = some pc) (K : F (m_of P T Ls year at' p x) σ) : k_Bk_isOfCover nl Ln xs (d + 3) b (some c) (some pc) year at' σ F := by
  obtain ⟨c', pc', lc, p0, l, a1, a2, a3, a4, a5, a6, a7, a8, a9, a10, a11, a12⟩ := h.case hw hi
  have e : c' = c := Option.some.inj (a1.symm.trans hc)
  subst e
  obtain ⟨pc2, b1, b2⟩ := h.2.2.1 p q hp
  have e2 : pc2 = pc := Option.some.inj (b1.symm.trans hpc)
  subst e2
  unfold m_of at K
  refine w_Bk_isOfCover ⟨is_mk a2.1.2.1, ?_⟩
  rw [Option.getD_some, a2.2.2.2.2.1]
  refine ⟨fun g => ?_, fun g => ?_⟩
  · rw [decide_eq_false (fun z => z g)] at K
    exact K
  · rw [a7, Option.getD_some, a10.2.2.2.2.2.1]
    have ey : l.2.1 / 365 = m_year (m_ld Ls x) := by unfold m_year m_ld; rw [a11]
    rw [ey]
    refine ⟨is_mk a10.2.1, fun g2 => ⟨is_mk h.1.2.1, ?_⟩, fun g2 => ?_⟩
    · refine (bk_coverOf (d := d) h hw hi hc (fun g3 _ => ⟨hi_none, hi_some b2.2.2.1, ?_⟩) (fun p3 pc3 q3 g3 g4 g5 g6 g7 _ => ⟨hi_some g6.2.2.1, hi_some b2.2.2.1, ?_⟩))
      · rw [decide_eq_true g, decide_eq_true g2, g3] at K
        have : decide ((none : Option Nat) = some pc2) = decide ((none : Option Nat) = some p) := by simp
        rw [this]
        exact K
      · rw [decide_eq_true g, decide_eq_true g2, g3] at K
        have : decide ((some pc3 : Option Nat) = some pc2) = decide ((some p3 : Option Nat) = some p) := by
          apply decide_eq_decide.mpr
          constructor
          · intro z
            rw [z] at g5
            rw [pol_inj h g4 hp g5 b1]
          · intro z
            rw [Option.some.inj z] at g5
            exact g5.symm.trans b1
        rw [this]
        exact K
    · rw [decide_eq_true g, decide_eq_false g2] at K
      exact K
theorem bk_usedOf {p pc : Nat} {q : mPol} {year at' : Int32} {F : Int64 → am_S → Prop} (h : BkD σ w b P T Ls Cs) (hw : WfD P T Ls Cs) (hp : P[p]? = some q) (hpc : am_aR σ (bA σ b 6004) p = some pc) (K : F (m_usedL P T Ls year at' p Cs) σ) : k_Bk_usedOf nl Ln xs (d + 4) b (some pc) year at' σ F := by
  have hc100 := hw.c100
  have hcA := h.1.2.2.2.2.2.2.1
  have loop : ∀ (m n : Nat) (acc : Int64), n + m = Cs.length → F (acc + m_usedL P T Ls year at' p (Cs.drop n)) σ → c_Bk_usedOf_6 nl Ln xs (d + 4) b (some pc) year at' acc (Int32.ofNat n) σ F := by
    intro m
    induction m with
    | zero =>
      intro n acc hn K
      rw [List.drop_eq_nil_of_le (by omega), m_usedL, Int64.add_zero] at K
      refine w_Bk_usedOf_6 ⟨is_mk h.1.2.1, ?_⟩
      rw [h.2.1.2.2]
      refine ⟨fun g => ?_, fun _ => K⟩
      rw [n32lt (by omega) (by omega)] at g
      omega
    | succ m ih =>
      intro n acc hn K
      obtain ⟨x, hx⟩ := get_ex (show n < Cs.length by omega)
      obtain ⟨c, pc', lc, p0, l, a1, a2, a3, a4, a5, a6, a7, a8, a9, a10, a11, a12⟩ := h.case hw hx
      have hwf := a12.2.2.2.2.1
      rw [drop_get hx, m_usedL, ← Int64.add_assoc] at K
      have bn : 0 ≤ (Int32.ofNat n).toInt ∧ (Int32.ofNat n).toInt < 100 := by rw [n32 (by omega)]; omega
      have ar : am_ar σ 2011 (am_fR σ 6006 b) (Int32.ofNat n) := by rw [hcA.1]; exact ar_mk hcA.2.2 bn.1 bn.2
      refine w_Bk_usedOf_6 ⟨is_mk h.1.2.1, ?_⟩
      rw [h.2.1.2.2]
      have eb : (am_fR σ 6006 b).getD 0 = bA σ b 6006 := rfl
      rw [eb, n32c (by omega), a1]
      refine ⟨fun _ => ⟨ar, ?_⟩, fun g => absurd (by rw [n32lt (by omega) (by omega)]; omega) g⟩
      refine (bk_isOfCover (d := d) h hw hx a1 hp hpc (fun _ => ⟨fun g => ⟨ar, ?_⟩, fun g => ?_⟩))
      · rw [eb, a1, Option.getD_some]
        refine ⟨is_mk a2.1.2.1, (cs_paidOfWorth (d := d + 1) a2.1 hwf (fun _ => ⟨ar, ?_⟩))⟩
        rw [eb, a1, Option.getD_some]
        refine ⟨is_mk a2.1.2.1, (cs_rec (d := d + 2) a2.1 hwf (fun _ => ?_))⟩
        rintro v15 rfl
        rw [n32s]
        rw [if_pos g] at K
        exact ih (n + 1) _ (by omega) K
      · rw [n32s]
        rw [if_neg g, Int64.add_zero] at K
        exact ih (n + 1) _ (by omega) K
  exact w_Bk_usedOf (loop Cs.length 0 0 (by omega) (by rw [Int64.zero_add]; exact K))
end
