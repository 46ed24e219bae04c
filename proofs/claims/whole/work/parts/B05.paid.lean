/-! THE CLASS: reserves, runs -/
theorem open_day {fs : List mFact} {at' : Int32} (h : ∀ f ∈ fs, WfFac f) : m_open fs 10950 at' = m_open fs 10949 at' := by
  unfold m_open
  rw [m_last_map2, m_last_map2]
  congr 2
  apply find_congr
  intro f hf
  have hd := (h f (List.mem_reverse.mp hf)).2.2.2.1
  have e1 : ¬ (10949 : Int32) < f.2.1 := by rw [i32lt, show (10949 : Int32).toInt = 10949 by decide]; omega
  have e2 : ¬ (10950 : Int32) < f.2.1 := by rw [i32lt, show (10950 : Int32).toInt = 10950 by decide]; omega
  unfold m_counts
  simp [e1, e2]
theorem year_to {x : Int32} (h : 0 ≤ x.toInt) : (m_year x).toInt = x.toInt / 365 := by
  unfold m_year
  have e : (365 : Int32).toInt = 365 := by decide
  rw [Int32.toInt_div, e, Int.tdiv_eq_ediv_of_nonneg h]
  have := r32 x
  exact Int.bmod_eq_of_le (by omega) (by omega)
/-- paid in the years up to hi -/
def pdU (fs : List mFact) (at' : Int32) (hi : Nat) : Int64 := m_sumf (fun f => decide (f.1 = 13) && (decide (¬ at' < f.2.2.1) && decide ((m_year f.2.1).toInt ≤ hi))) m_fc fs
def pdY (fs : List mFact) (at' : Int32) (y : Nat) : Int64 := m_sumf (fun f => decide (f.1 = 13) && (decide (¬ at' < f.2.2.1) && decide (m_year f.2.1 = Int32.ofNat y))) m_fc fs
theorem year_eq {x : Int32} {y : Nat} (h : 0 ≤ x.toInt) (hy : y < 1000000) : m_year x = Int32.ofNat y ↔ x.toInt / 365 = y := by rw [i32e, year_to h, n32 (by omega)]
theorem pdU_0 {at' : Int32} {r : Nat} (hr : r < 1000) : ∀ {fs : List mFact}, (∀ f ∈ fs, 0 ≤ f.2.1.toInt ∧ (r : Int) ≤ f.2.1.toInt / 365) → pdU fs at' r = pdY fs at' r := by
  intro fs h
  refine sumf_congr fun f hf => ?_
  obtain ⟨h0, h1⟩ := h f hf
  have e : decide ((m_year f.2.1).toInt ≤ r) = decide (m_year f.2.1 = Int32.ofNat r) := by
    apply decide_eq_decide.mpr
    rw [year_eq h0 (by omega), year_to h0]
    omega
  rw [e]
theorem pdU_s {at' : Int32} {n : Nat} (hn : n < 1000) : ∀ {fs : List mFact}, (∀ f ∈ fs, 0 ≤ f.2.1.toInt) → pdU fs at' (n + 1) = pdU fs at' n + pdY fs at' (n + 1)
  | [], _ => by
    show (0 : Int64) = 0 + 0
    decide
  | f :: fs, h => by
    have ih := pdU_s (at' := at') hn (fs := fs) (fun g hg => h g (List.mem_cons_of_mem _ hg))
    have h0 := h f List.mem_cons_self
    unfold pdU pdY at ih ⊢
    rw [m_sumf, m_sumf, m_sumf, ih]
    have ye := year_eq (x := f.2.1) (y := n + 1) h0 (by omega)
    have yt := year_to h0
    by_cases h1 : f.1 = 13
    · by_cases h2 : at' < f.2.2.1
      · simp only [h1, h2, not_true_eq_false, decide_true, decide_false, Bool.true_and, Bool.false_and, Bool.false_eq_true, if_false]
        grind
      · by_cases h3 : (m_year f.2.1).toInt ≤ n
        · have h4 : (m_year f.2.1).toInt ≤ ((n + 1 : Nat) : Int) := by omega
          have h5 : ¬ m_year f.2.1 = Int32.ofNat (n + 1) := by rw [ye]; omega
          simp only [h1, h2, h3, h4, h5, not_false_eq_true, decide_true, decide_false, Bool.and_self, Bool.and_false, Bool.false_eq_true, if_true, if_false]
          grind
        · by_cases h5 : m_year f.2.1 = Int32.ofNat (n + 1)
          · have h4 : (m_year f.2.1).toInt ≤ ((n + 1 : Nat) : Int) := by rw [ye] at h5; omega
            simp only [h1, h2, h3, h4, h5, not_false_eq_true, decide_true, decide_false, Bool.and_self, Bool.and_false, Bool.false_eq_true, if_true, if_false]
            have h6 : decide ((Int32.ofNat (n + 1)).toInt ≤ ((n + 1 : Nat) : Int)) = true := by rw [n32 (by omega)]; exact decide_eq_true (Int.le_refl _)
            have h7 : decide ((Int32.ofNat (n + 1)).toInt ≤ (n : Int)) = false := by rw [n32 (by omega)]; exact decide_eq_false (by omega)
            simp only [h6, h7, Bool.and_self, Bool.and_false, Bool.false_eq_true, if_true, if_false]
            grind
          · have h4 : ¬ (m_year f.2.1).toInt ≤ ((n + 1 : Nat) : Int) := by rw [ye] at h5; omega
            simp only [h1, h2, h3, h4, h5, decide_false, Bool.and_false, Bool.false_eq_true, if_false]
            grind
    · simp only [h1, decide_false, Bool.false_and, Bool.false_eq_true, if_false]
      grind
theorem pdU_sum {at' : Int32} {r : Nat} {fs : List mFact} (h : ∀ f ∈ fs, 0 ≤ f.2.1.toInt ∧ (r : Int) ≤ f.2.1.toInt / 365) (hr : r < 100) : ∀ j, j < 100 → pdU fs at' (r + j) = d_sum (fun k => pdY fs at' (r + k)) (j + 1)
  | 0, _ => by
    rw [Nat.add_zero, pdU_0 (by omega) h]
    show pdY fs at' r = 0 + pdY fs at' (r + 0)
    rw [Nat.add_zero, Int64.zero_add]
  | j + 1, hj => by
    rw [show r + (j + 1) = r + j + 1 by omega, pdU_s (by omega) (fun f hf => (h f hf).1), pdU_sum h hr j (by omega)]
    rfl
/-- paid in rows from f to l, columns up to j -/
def pdW (Ls : List mLoss) (bY : Int32) (f l : Int) (j : Int) (at' : Int32) : List mCase → Int64
  | [] => 0
  | c :: C => (fun r : Int => if f ≤ r ∧ r ≤ l ∧ 0 ≤ j then pdU c.2.2.2.2.2 at' (r + j).toNat else 0) (if bY = 0 then m_year (m_ld Ls c) else m_year c.2.2.2.1).toInt + pdW Ls bY f l j at' C
section
variable {nl : Bool} {Ln : Nat} {xs : Nat → Int32} {d : Nat} {σ : am_S} {w : ow_T} {b : Nat} {P : List mPol} {T : List mTell} {Ls : List mLoss} {Cs : List mCase}
theorem bk_reservedOf {kind year at' : Int32} {F : Int64 → am_S → Prop} (h : BkD σ w b P T Ls Cs) (hw : WfD P T Ls Cs) (K : F (d_resL Ls kind year at' Cs) σ) : k_Bk_reservedOf nl Ln xs (d + 4) b kind year at' σ F := by
  have hc100 := hw.c100
  have hcA := h.1.2.2.2.2.2.2.1
  have eb : (am_fR σ 6006 b).getD 0 = bA σ b 6006 := rfl
  have loop : ∀ (m n : Nat) (acc : Int64) (x7 x8 x9 : Option Value), n + m = Cs.length → F (acc + d_resL Ls kind year at' (Cs.drop n)) σ → c_Bk_reservedOf_6 nl Ln xs (d + 4) b kind year at' acc (Int32.ofNat n) x7 x8 x9 σ F := by
    intro m
    induction m with
    | zero =>
      intro n acc x7 x8 x9 hn K
      rw [List.drop_eq_nil_of_le (by omega), d_resL, Int64.add_zero] at K
      refine w_Bk_reservedOf_6 ⟨is_mk h.1.2.1, ?_⟩
      rw [h.2.1.2.2]
      refine ⟨fun g => ?_, fun _ => K⟩
      rw [n32lt (by omega) (by omega)] at g
      omega
    | succ m ih =>
      intro n acc x7 x8 x9 hn K
      obtain ⟨x, hx⟩ := get_ex (show n < Cs.length by omega)
      obtain ⟨c, pc', lc, p0, l, a1, a2, a3, a4, a5, a6, a7, a8, a9, a10, a11, a12⟩ := h.case hw hx
      have hwf := a12.2.2.2.2.1
      rw [drop_get hx, d_resL, open_day hwf.2.1, ← Int64.add_assoc] at K
      have em : m_last (fun f => decide (f.1 = 12) && (decide (f.2.2.2.1 = kind) && decide (¬ at' < f.2.2.1))) m_fc 0 x.2.2.2.2.2 = ((x.2.2.2.2.2.reverse.find? (qF 12 kind at')).map m_fc).getD 0 := m_last_map2 _ _ _ _
      rw [em] at K
      have bn : 0 ≤ (Int32.ofNat n).toInt ∧ (Int32.ofNat n).toInt < 100 := by rw [n32 (by omega)]; omega
      have ar : am_ar σ 2011 (am_fR σ 6006 b) (Int32.ofNat n) := by rw [hcA.1]; exact ar_mk hcA.2.2 bn.1 bn.2
      refine w_Bk_reservedOf_6 ⟨is_mk h.1.2.1, ?_⟩
      rw [h.2.1.2.2, eb, n32c (by omega), a1]
      refine ⟨fun _ => ⟨ar, ?_⟩, fun g => absurd (by rw [n32lt (by omega) (by omega)]; omega) g⟩
      rintro v4 rfl
      rw [Option.getD_some, a2.2.2.2.2.1, a7, Option.getD_some, a10.2.2.2.2.2.1]
      have ey : l.2.1 / 365 = m_year (m_ld Ls x) := by unfold m_year m_ld; rw [a11]
      rw [ey]
      refine ⟨is_mk a2.1.2.1, fun _ => is_mk a10.2.1, ?_⟩
      refine w_Bk_reservedOf_54 ⟨is_mk a2.1.2.1, ?_⟩
      rw [Option.getD_some]
      have skip : ∀ (x7 x8 x9 : Option Value), ¬ (¬ at' < x.2.2.2.2.1 ∧ m_year (m_ld Ls x) = year ∧ m_open x.2.2.2.2.2 10949 at' = true) ∨ x.2.2.2.2.2.reverse.find? (qF 12 kind at') = none → c_Bk_reservedOf_6 nl Ln xs (d + 4) b kind year at' acc (Int32.ofNat n + 1) x7 x8 x9 σ F := by
        intro x7 x8 x9 hs
        rw [n32s]
        refine ih (n + 1) acc _ _ _ (by omega) ?_
        rcases hs with hs | hs
        · rw [if_neg hs, Int64.add_zero] at K
          exact K
        · rw [hs] at K
          simp only [Option.map_none, Option.getD_none, ite_self, Int64.add_zero] at K
          exact K
      have y0 : (if ¬ (at' < x.2.2.2.2.1) ∧ (m_year (m_ld Ls x) = year) then (1 : Int32) else 0) = 0 ↔ ¬ (¬ at' < x.2.2.2.2.1 ∧ m_year (m_ld Ls x) = year) := by
        constructor
        · intro q z
          rw [if_pos z] at q
          exact absurd q (by decide)
        · intro z
          rw [if_neg z]
      refine (en_knownF (d := d + 2) rfl a2.1.2.2 (fun g _ => ⟨fun q => skip _ _ _ (Or.inr g), fun q => ⟨fun _ => skip _ _ _ (Or.inr g), fun z => absurd rfl z⟩⟩) (fun f e g he _ => ⟨fun q => skip _ _ _ (Or.inl (fun z => y0.mp q ⟨z.1, z.2.1⟩)), fun q => ⟨fun z => absurd z (by simp), fun _ => ?_⟩⟩))
      refine (cs_isOpen (d := d) a2.1 hwf (fun _ => ⟨fun _ => is_mk he.2.1, ?_⟩))
      rintro w11 rfl
      have hc : ¬ at' < x.2.2.2.2.1 ∧ m_year (m_ld Ls x) = year := Classical.byContradiction fun z => q (y0.mpr z)
      by_cases ho : m_open x.2.2.2.2.2 10949 at' = true
      · rw [if_pos ho, Option.getD_some, he.2.2.2.2.2.2.2.1]
        rw [if_pos ⟨hc.1, hc.2, ho⟩, g] at K
        rw [n32s]
        exact ih (n + 1) _ _ _ _ (by omega) K
      · rw [if_neg ho]
        exact skip _ _ _ (Or.inl (fun z => ho z.2.2))
  exact w_Bk_reservedOf (loop Cs.length 0 0 none none none (by omega) (by rw [Int64.zero_add]; exact K))
theorem bk_paidWithin {bY x2 x3 x4 at' : Int32} {F : Int64 → am_S → Prop} (h : BkD σ w b P T Ls Cs) (hw : WfD P T Ls Cs) (h4 : x4.toInt ≤ 100) (K : F (pdW Ls bY x2.toInt x3.toInt x4.toInt at' Cs) σ) : k_Bk_paidWithin nl Ln xs (d + 2) b bY x2 x3 x4 at' σ F := by
  have hc100 := hw.c100
  have hcA := h.1.2.2.2.2.2.2.1
  have eb : (am_fR σ 6006 b).getD 0 = bA σ b 6006 := rfl
  have z0 : (0 : Int32).toInt = 0 := by decide
  have loop : ∀ (m n : Nat) (acc : Int64) (x9 x10 x11 x12 : Option Value), n + m = Cs.length → F (acc + pdW Ls bY x2.toInt x3.toInt x4.toInt at' (Cs.drop n)) σ → c_Bk_paidWithin_6 nl Ln xs (d + 2) b bY x2 x3 x4 at' acc (Int32.ofNat n) x9 x10 x11 x12 σ F := by
    intro m
    induction m with
    | zero =>
      intro n acc x9 x10 x11 x12 hn K
      rw [List.drop_eq_nil_of_le (by omega), pdW, Int64.add_zero] at K
      refine w_Bk_paidWithin_6 ⟨is_mk h.1.2.1, ?_⟩
      rw [h.2.1.2.2]
      refine ⟨fun g => ?_, fun _ => K⟩
      rw [n32lt (by omega) (by omega)] at g
      omega
    | succ m ih =>
      intro n acc x9 x10 x11 x12 hn K
      obtain ⟨x, hx⟩ := get_ex (show n < Cs.length by omega)
      obtain ⟨c, pc', lc, p0, l, a1, a2, a3, a4, a5, a6, a7, a8, a9, a10, a11, a12⟩ := h.case hw hx
      have hwf := a12.2.2.2.2.1
      have hll := hw.2.2.1.2.2 l (List.mem_of_getElem? a9)
      obtain ⟨-, -, ld0, ld1, -⟩ := hll
      have hnot := a12.2.2.1
      have hnot2 := a12.2.2.2.1
      rw [drop_get hx, pdW, ← Int64.add_assoc] at K
      have bn : 0 ≤ (Int32.ofNat n).toInt ∧ (Int32.ofNat n).toInt < 100 := by rw [n32 (by omega)]; omega
      have ar : am_ar σ 2011 (am_fR σ 6006 b) (Int32.ofNat n) := by rw [hcA.1]; exact ar_mk hcA.2.2 bn.1 bn.2
      refine w_Bk_paidWithin_6 ⟨is_mk h.1.2.1, ?_⟩
      rw [h.2.1.2.2, eb, n32c (by omega), a1]
      refine ⟨fun _ => ⟨ar, ?_⟩, fun g => absurd (by rw [n32lt (by omega) (by omega)]; omega) g⟩
      rintro v4 rfl
      rw [Option.getD_some, a2.2.2.2.1, a7, Option.getD_some, a10.2.2.2.2.2.1]
      refine ⟨fun _ => is_mk a2.1.2.1, fun _ => is_mk a10.2.1, fun _ => is_mk a2.1.2.1, ?_⟩
      rintro w11 e11
      have hld : m_ld Ls x = l.2.1 := by unfold m_ld; rw [a11]
      have hrow : w11 / 365 = (if bY = 0 then m_year (m_ld Ls x) else m_year x.2.2.2.1) := by
        rw [e11, hld]
        by_cases hb : bY = 0
        · rw [if_pos hb, if_pos hb]; rfl
        · rw [if_neg hb, if_neg hb]; rfl
      rw [← hrow] at K
      have h11 : 0 ≤ w11.toInt ∧ w11.toInt ≤ 10949 := by
        rw [e11]
        rw [hld] at hnot
        split <;> omega
      have hr := year_to h11.1
      have hr' : (w11 / 365).toInt = w11.toInt / 365 := hr
      refine w_Bk_paidWithin_44 ?_
      rintro v1 rfl
      generalize w11 / 365 = row at K hr'
      have skip : ∀ (x9 x10 x11 x12 : Option Value), ¬ (x2.toInt ≤ row.toInt ∧ row.toInt ≤ x3.toInt ∧ 0 ≤ x4.toInt) → c_Bk_paidWithin_6 nl Ln xs (d + 2) b bY x2 x3 x4 at' acc (Int32.ofNat n + 1) x9 x10 x11 x12 σ F := by
        intro x9 x10 x11 x12 hs
        rw [n32s]
        refine ih (n + 1) acc _ _ _ _ (by omega) ?_
        simp only [if_neg hs, Int64.add_zero] at K
        exact K
      refine ⟨fun g => skip _ _ _ _ (by rw [i32lt] at g; omega), fun g1 => ⟨fun g => skip _ _ _ _ (by rw [i32lt] at g; omega), fun g2 => ⟨fun g => skip _ _ _ _ (by rw [i32lt, z0] at g; omega), fun g3 => ?_⟩⟩⟩
      rw [i32lt] at g1 g2
      rw [i32lt, z0] at g3
      have hin : x2.toInt ≤ row.toInt ∧ row.toInt ≤ x3.toInt ∧ 0 ≤ x4.toInt := by omega
      simp only [if_pos hin] at K
      rintro v6 rfl
      have t1 : (1 : Int32).toInt = 1 := by decide
      have s1 : (row + x4).toInt = row.toInt + x4.toInt := i32add (by omega) (by omega)
      have s2 : ((row + x4) + 1).toInt = row.toInt + x4.toInt + 1 := by rw [i32add (by omega) (by omega), s1, t1]
      have t365 : (365 : Int64).toInt = 365 := by decide
      have u1 : (1 : Int64).toInt = 1 := by decide
      have s3 : (((row + x4) + 1).toInt64 * 365).toInt = (row.toInt + x4.toInt + 1) * 365 := by rw [i64mul (by rw [t64, s2, t365]; omega) (by rw [t64, s2, t365]; omega), t64, s2, t365]
      have s4 : ((((row + x4) + 1).toInt64 * 365) - 1).toInt = (row.toInt + x4.toInt + 1) * 365 - 1 := by rw [i64sub (by omega) (by omega), s3, u1]
      have t9 : (10949 : Int64).toInt = 10949 := by decide
      refine w_Math_min ?_
      rintro w3 e3
      intro _
      have h3 : w3.toInt = min ((row.toInt + x4.toInt + 1) * 365 - 1) 10949 := by
        rw [e3]
        by_cases q : (10949 : Int64) < (((row + x4) + 1).toInt64 * 365) - 1
        · rw [if_pos q]
          rw [i64lt, s4, t9] at q
          rw [t9]
          omega
        · rw [if_neg q]
          rw [i64lt, s4, t9] at q
          rw [s4]
          omega
      have h33 : w3.toInt32.toInt = min ((row.toInt + x4.toInt + 1) * 365 - 1) 10949 := by rw [t32 (by omega) (by omega), h3]
      refine ⟨is_mk a2.1.2.1, (cs_sumOf (d := d) a2.1 (fun _ => ?_))⟩
      rintro v13 rfl
      rw [n32s]
      refine ih (n + 1) _ _ _ _ _ (by omega) ?_
      have es : m_sumf (fun f => decide (f.1 = 13) && m_counts f w3.toInt32 at') m_fc x.2.2.2.2.2 = pdU x.2.2.2.2.2 at' (row.toInt + x4.toInt).toNat := by
        refine sumf_congr fun f hf => ?_
        have hd := hwf.2.1 f hf
        have hd9 := hd.2.2.2.1
        unfold m_counts
        have e : decide (¬ w3.toInt32 < f.2.1) = decide ((m_year f.2.1).toInt ≤ ((row.toInt + x4.toInt).toNat : Int)) := by
          apply decide_eq_decide.mpr
          rw [i32lt, h33, year_to hd.2.2.1]
          omega
        rw [e]
      rw [es]
      exact K
  exact w_Bk_paidWithin (loop Cs.length 0 0 none none none none (by omega) (by rw [Int64.zero_add]; exact K))
end
