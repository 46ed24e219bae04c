/-! COVERS and FACTS of the reference -/
theorem get_ex {α : Type} {l : List α} {k : Nat} (h : k < l.length) : ∃ x, l[k]? = some x := ⟨l[k], List.getElem?_eq_getElem h⟩
theorem drop_get {α : Type} {l : List α} {k : Nat} {x : α} (h : l[k]? = some x) : l.drop k = x :: l.drop (k + 1) := by
  have hk := lt_of_get h
  rw [List.drop_eq_getElem_cons hk]
  rw [List.getElem?_eq_getElem hk] at h
  cases h
  rfl
/-- no bundle stands within itself, at no moment -/
def WfAc (P : List mPol) (T : List mTell) : Prop := ∀ at', ∃ r : Nat → Nat, ∀ x pl y, (P.getD x mPol0).1 = 6 → m_part T x pl at' = some y → r y < r x
theorem cnt_mono {p q : Nat → Bool} : ∀ (l : List Nat), (∀ x ∈ l, p x = true → q x = true) → l.countP p ≤ l.countP q
  | [], _ => Nat.le_refl _
  | x :: l, h => by
    have h1 := cnt_mono l (fun y hy => h y (List.mem_cons_of_mem _ hy))
    have h2 := h x List.mem_cons_self
    rw [List.countP_cons, List.countP_cons]
    by_cases hp : p x = true
    · rw [if_pos hp, if_pos (h2 hp)]; omega
    · rw [if_neg hp]; omega
theorem cnt_lt {p q : Nat → Bool} {a : Nat} : ∀ (l : List Nat), a ∈ l → (∀ x ∈ l, p x = true → q x = true) → p a = false → q a = true → l.countP p < l.countP q
  | [], ha, _, _, _ => absurd ha List.not_mem_nil
  | x :: l, ha, h, h1, h2 => by
    rw [List.countP_cons, List.countP_cons]
    have hm := cnt_mono l (fun y hy => h y (List.mem_cons_of_mem _ hy))
    rcases List.mem_cons.mp ha with e | e
    · subst e
      rw [h1, h2]
      simp
      omega
    · have := cnt_lt l e (fun y hy => h y (List.mem_cons_of_mem _ hy)) h1 h2
      have h3 := h x List.mem_cons_self
      by_cases hp : p x = true
      · rw [if_pos hp, if_pos (h3 hp)]; omega
      · rw [if_neg hp]; omega
/-- ranks below the number of policies -/
theorem WfAc.lt {P : List mPol} {T : List mTell} (h : WfAc P T) (hpl : WfPl T P.length) (at' : Int32) : ∃ r : Nat → Nat, (∀ x, x < P.length → r x < P.length) ∧ ∀ x pl y, x < P.length → (P.getD x mPol0).1 = 6 → m_part T x pl at' = some y → r y < r x := by
  obtain ⟨r, hr⟩ := h at'
  refine ⟨fun x => (List.range P.length).countP (fun y => decide (r y < r x)), fun x hx => ?_, fun x pl y hx h6 hp => ?_⟩
  · have := cnt_lt (p := fun y => decide (r y < r x)) (q := fun _ => true) (a := x) (List.range P.length) (List.mem_range.mpr hx) (fun _ _ _ => rfl) (by simp) rfl
    simpa using this
  · have h1 := hr x pl y h6 hp
    have hy := m_part_lt hpl hp
    exact cnt_lt (a := y) (List.range P.length) (List.mem_range.mpr hy) (fun z _ hz => by simp at hz ⊢; omega) (by simp) (by simpa using h1)
section
variable {nl : Bool} {Ln : Nat} {xs : Nat → Int32} {d : Nat} {σ : am_S} {o : Nat}
theorem ne_m1 {n : Nat} (h : n < 2147483648) : ¬ Int32.ofNat n = -1 := fun q => by
  have := congrArg Int32.toInt q
  rw [n32 h] at this
  have h' : (-1 : Int32).toInt = -1 := by decide
  omega
theorem r_coverL {P : List mPol} {T : List mTell} {x1 at' : Int32} {F : Int32 → am_S → Prop} {r : Nat → Nat} (hK : OffK σ o) (hP : rPol σ o P) (hR : rPla σ o (tlA T 4)) (h200 : (tlA T 4).length ≤ 200) (hT : WfT T) (hpl : WfPl T P.length) (h100 : P.length ≤ 100) (hr : ∀ x pl y, x < P.length → (P.getD x mPol0).1 = 6 → m_part T x pl at' = some y → r y < r x) : ∀ (f p : Nat) (pl : Int32), p < P.length → r p < f → F (ixO (m_cov P T at' f p pl)) σ → c_Ro_coverOf_15 nl Ln xs (d + 2) o x1 at' (Int32.ofNat p) pl σ F := by
  intro f
  induction f with
  | zero => intro p pl _ h; omega
  | succ f ih =>
    intro p pl hp hrp K
    have hg := getD_some mPol0 hp
    have b : 0 ≤ (Int32.ofNat p).toInt ∧ (Int32.ofNat p).toInt < 100 := by rw [n32 (by omega)]; omega
    have v : am_aI σ (o + 1) p = (P.getD p mPol0).1 := hP.2.1 p _ hg
    refine w_Ro_coverOf_15 ⟨fun q => absurd q (ne_m1 (by omega)), fun _ => ⟨is_mk hK.2.1, oA_13003 hK b.1 b.2, ?_, ?_⟩⟩
    · rw [oG_13003 hK, n32c (by omega), v]
      intro h6
      rw [m_cov, if_pos h6] at K
      refine r_partOf hK hR h200 hT hpl h100 (by omega) (fun _ => ?_)
      cases hq : m_part T p pl at' with
      | none =>
        rw [hq] at K
        exact w_Ro_coverOf_15 ⟨fun _ => K, fun q => absurd rfl q⟩
      | some y =>
        rw [hq] at K
        have h1 := hr p pl y hp h6 hq
        exact ih y 0 (m_part_lt hpl hq) (by omega) K
    · rw [oG_13003 hK, n32c (by omega), v]
      intro h6
      rw [m_cov, if_neg h6] at K
      exact K
theorem r_coverOf {P : List mPol} {T : List mTell} {Cs : List mCase} {i : Nat} {c : mCase} {at' : Int32} {F : Int32 → am_S → Prop} (hK : OffK σ o) (hP : rPol σ o P) (hR : rPla σ o (tlA T 4)) (hC : rCas σ o Cs) (h200 : (tlA T 4).length ≤ 200) (hT : WfT T) (hpl : WfPl T P.length) (h100 : P.length ≤ 100) (hac : WfAc P T) (hc100 : Cs.length ≤ 100) (hi : Cs[i]? = some c) (hcp : c.1 < P.length) (K : F (ixO (m_cover P T c at')) σ) : k_Ro_coverOf nl Ln xs (d + 2) o (Int32.ofNat i) at' σ F := by
  have hlt := lt_of_get hi
  have b : 0 ≤ (Int32.ofNat i).toInt ∧ (Int32.ofNat i).toInt < 100 := by rw [n32 (by omega)]; omega
  have v1 : am_aI σ (o + 36) i = Int32.ofNat c.1 := hC.2.1 i _ hi
  have v2 : am_aI σ (o + 37) i = c.2.1 := hC.2.2.1 i _ hi
  obtain ⟨r, hr1, hr2⟩ := hac.lt hpl at'
  refine w_Ro_coverOf ⟨is_mk hK.2.1, oA_13046 hK b.1 b.2, ?_⟩
  rw [oG_13046 hK, n32c (by omega), v1]
  rintro v3 rfl
  refine ⟨oA_13047 hK b.1 b.2, ?_⟩
  rw [oG_13047 hK, v2]
  rintro v6 rfl
  have := hr1 c.1 hcp
  exact r_coverL hK hP hR h200 hT hpl h100 hr2 101 c.1 c.2.1 hcp (by omega) K
def mFact0 : mFact := (0, 0, 0, 0, 0, 0, 0, 0)
theorem i40 (i k : Nat) : (40 : Int32) * Int32.ofNat i + Int32.ofNat k = Int32.ofNat (40 * i + k) := by
  rw [show (40 : Int32) = Int32.ofNat 40 from rfl, ← Int32.ofNat_mul, n32a]
theorem i40' (i : Nat) : (40 : Int32) * Int32.ofNat i = Int32.ofNat (40 * i) := by
  rw [show (40 : Int32) = Int32.ofNat 40 from rfl, ← Int32.ofNat_mul]
theorem r_counts {Cs : List mCase} {i k : Nat} {c : mCase} {f : mFact} {day at' : Int32} {F : Bool → am_S → Prop} (hK : OffK σ o) (hC : rCas σ o Cs) (hi : Cs[i]? = some c) (hk : c.2.2.2.2.2[k]? = some f) (h4 : 40 * i + k < 4000) (K : F (m_counts f day at') σ) : k_Ro_counts nl Ln xs (d + 1) o (Int32.ofNat (40 * i + k)) day at' σ F := by
  have b : 0 ≤ (Int32.ofNat (40 * i + k)).toInt ∧ (Int32.ofNat (40 * i + k)).toInt < 4000 := by rw [n32 (by omega)]; omega
  obtain ⟨f1, f2, f3, f4⟩ := hC.2.2.2.2.2.2.2 i c hi k f hk
  refine w_Ro_counts ⟨is_mk hK.2.1, oA_13054 hK b.1 b.2, fun _ => oA_13053 hK b.1 b.2, ?_⟩
  rw [oG_13054 hK, oG_13053 hK, n32c (by omega), f3, f2, Bool.decide_and]
  exact K
theorem r_isOpen {Cs : List mCase} {i : Nat} {c : mCase} {day at' : Int32} {F : Bool → am_S → Prop} (hK : OffK σ o) (hC : rCas σ o Cs) (hc100 : Cs.length ≤ 100) (hi : Cs[i]? = some c) (h40 : c.2.2.2.2.2.length ≤ 40) (K : F (m_open c.2.2.2.2.2 day at') σ) : k_Ro_isOpen nl Ln xs (d + 2) o (Int32.ofNat i) day at' σ F := by
  have hlt := lt_of_get hi
  have b : 0 ≤ (Int32.ofNat i).toInt ∧ (Int32.ofNat i).toInt < 100 := by rw [n32 (by omega)]; omega
  have vn : am_aI σ (o + 41) i = Int32.ofNat c.2.2.2.2.2.length := hC.2.2.2.2.2.2.1 i _ hi
  have fac := hC.2.2.2.2.2.2.2 i c hi
  have loop : ∀ (j k : Nat) (acc : Bool), k + j = c.2.2.2.2.2.length → F (m_last (fun f : mFact => m_counts f day at' && (decide (f.1 = 14) || decide (f.1 = 15))) (fun f => decide (f.1 = 15)) acc (c.2.2.2.2.2.drop k)) σ → c_Ro_isOpen_9 nl Ln xs (d + 2) o (Int32.ofNat i) day at' (b2i acc) (Int32.ofNat (40 * i + k)) σ F := by
    intro j
    induction j with
    | zero =>
      intro k acc hk K
      refine w_Ro_isOpen_9 ⟨is_mk hK.2.1, oA_13051 hK b.1 b.2, ?_, ?_⟩
      · rw [oG_13051 hK, n32c (by omega), vn, i40, n32lt (by omega) (by omega)]
        intro q; omega
      · intro _
        rw [List.drop_eq_nil_of_le (by omega)] at K
        cases acc
        · exact ⟨Or.inl rfl, K⟩
        · exact ⟨Or.inr rfl, K⟩
    | succ j ih =>
      intro k acc hk K
      obtain ⟨f, hg⟩ := get_ex (show k < c.2.2.2.2.2.length by omega)
      have bk : 0 ≤ (Int32.ofNat (40 * i + k)).toInt ∧ (Int32.ofNat (40 * i + k)).toInt < 4000 := by rw [n32 (by omega)]; omega
      have nk : (Int32.ofNat (40 * i + k)).toNatClampNeg = 40 * i + k := n32c (by omega)
      obtain ⟨f1, f2, f3, f4, f5, f6, f7, f8⟩ := fac k _ hg
      refine w_Ro_isOpen_9 ⟨is_mk hK.2.1, oA_13051 hK b.1 b.2, fun _ => ?_, ?_⟩
      · refine r_counts hK hC hi hg (by omega) (fun _ => ?_)
        rw [oG_13052 hK, nk, f1]
        refine ⟨fun _ => oA_13052 hK bk.1 bk.2, fun _ _ => oA_13052 hK bk.1 bk.2, fun w12 e12 => ?_⟩
        rw [n32s]
        have e : w12 = b2i (if (m_counts f day at' && (decide (f.1 = 14) || decide (f.1 = 15))) = true then decide (f.1 = 15) else acc) := by
          rw [e12]
          by_cases h1 : m_counts f day at' = true
          · by_cases h2 : f.1 = 14
            · simp [h1, h2, b2i]
            · by_cases h3 : f.1 = 15
              · simp [h1, h3, b2i]
              · simp [h1, h2, h3, b2i]
          · simp [h1, b2i]
        rw [e]
        refine ih (k + 1) _ (by omega) ?_
        rw [drop_get hg, m_last] at K
        exact K
      · rw [oG_13051 hK, n32c (by omega), vn, i40, n32lt (by omega) (by omega)]
        intro q; omega
  refine w_Ro_isOpen (fun v1 e1 => ?_)
  rw [e1, i40']
  exact loop c.2.2.2.2.2.length 0 true (by omega) K
theorem r_isLate {Cs : List mCase} {i : Nat} {c : mCase} {day g : Int32} {F : Bool → am_S → Prop} (hK : OffK σ o) (hC : rCas σ o Cs) (hc100 : Cs.length ≤ 100) (hi : Cs[i]? = some c) (h40 : c.2.2.2.2.2.length ≤ 40) (K : F (decide (((g = 0) ∧ ((30 : Int32) < (day - m_closed c.2.2.2.2.2))) ∨ (¬ (g = 0) ∧ ((g = 1) ∧ ((365 : Int32) < (day - m_closed c.2.2.2.2.2)))))) σ) : k_Ro_isLate nl Ln xs (d + 1) o (Int32.ofNat i) day g σ F := by
  have hlt := lt_of_get hi
  have b : 0 ≤ (Int32.ofNat i).toInt ∧ (Int32.ofNat i).toInt < 100 := by rw [n32 (by omega)]; omega
  have vn : am_aI σ (o + 41) i = Int32.ofNat c.2.2.2.2.2.length := hC.2.2.2.2.2.2.1 i _ hi
  have fac := hC.2.2.2.2.2.2.2 i c hi
  have loop : ∀ (j k : Nat) (acc : Int32), k + j = c.2.2.2.2.2.length → m_last (fun f : mFact => decide (f.1 = 14)) (fun f => f.2.1) acc (c.2.2.2.2.2.drop k) = m_closed c.2.2.2.2.2 → c_Ro_isLate_9 nl Ln xs (d + 1) o (Int32.ofNat i) day g acc (Int32.ofNat (40 * i + k)) σ F := by
    intro j
    induction j with
    | zero =>
      intro k acc hk e
      rw [List.drop_eq_nil_of_le (by omega)] at e
      have e : acc = m_closed c.2.2.2.2.2 := e
      refine w_Ro_isLate_9 ⟨is_mk hK.2.1, oA_13051 hK b.1 b.2, ?_, ?_⟩
      · rw [oG_13051 hK, n32c (by omega), vn, i40, n32lt (by omega) (by omega)]
        intro q; omega
      · intro _
        rw [e]
        exact K
    | succ j ih =>
      intro k acc hk e
      obtain ⟨f, hg⟩ := get_ex (show k < c.2.2.2.2.2.length by omega)
      have bk : 0 ≤ (Int32.ofNat (40 * i + k)).toInt ∧ (Int32.ofNat (40 * i + k)).toInt < 4000 := by rw [n32 (by omega)]; omega
      have nk : (Int32.ofNat (40 * i + k)).toNatClampNeg = 40 * i + k := n32c (by omega)
      obtain ⟨f1, f2, f3, f4, f5, f6, f7, f8⟩ := fac k _ hg
      refine w_Ro_isLate_9 ⟨is_mk hK.2.1, oA_13051 hK b.1 b.2, fun _ => ?_, ?_⟩
      · rw [oG_13052 hK, oG_13053 hK, nk, f1, f2]
        refine ⟨oA_13052 hK bk.1 bk.2, fun _ => oA_13053 hK bk.1 bk.2, fun w12 e12 => ?_⟩
        rw [n32s]
        refine ih (k + 1) _ (by omega) ?_
        rw [drop_get hg, m_last] at e
        rw [e12]
        simp only [decide_eq_true_eq] at e
        exact e
      · rw [oG_13051 hK, n32c (by omega), vn, i40, n32lt (by omega) (by omega)]
        intro q; omega
  refine w_Ro_isLate (fun v1 e1 => ?_)
  rw [e1, i40']
  exact loop c.2.2.2.2.2.length 0 0 (by omega) rfl
theorem r_lastDay {Cs : List mCase} {i : Nat} {c : mCase} {F : Int32 → am_S → Prop} (hK : OffK σ o) (hC : rCas σ o Cs) (hc100 : Cs.length ≤ 100) (hi : Cs[i]? = some c) (h40 : c.2.2.2.2.2.length ≤ 40) (K : F (m_lastDay c) σ) : k_Ro_lastDay nl Ln xs (d + 1) o (Int32.ofNat i) σ F := by
  have hlt := lt_of_get hi
  have b : 0 ≤ (Int32.ofNat i).toInt ∧ (Int32.ofNat i).toInt < 100 := by rw [n32 (by omega)]; omega
  have vn : am_aI σ (o + 41) i = Int32.ofNat c.2.2.2.2.2.length := hC.2.2.2.2.2.2.1 i _ hi
  have fac := hC.2.2.2.2.2.2.2 i c hi
  have vd : am_aI σ (o + 39) i = c.2.2.2.1 := hC.2.2.2.2.1 i _ hi
  have ez : Int32.ofNat c.2.2.2.2.2.length = 0 ↔ c.2.2.2.2.2.length = 0 := n32i (b := 0) (by omega) (by decide)
  refine w_Ro_lastDay ?_
  rw [oG_13051 hK, oG_13049 hK, oG_13053 hK, n32c (by omega), vn, vd, i40]
  by_cases h0 : c.2.2.2.2.2.length = 0
  · refine ⟨is_mk hK.2.1, oA_13051 hK b.1 b.2, fun _ => oA_13049 hK b.1 b.2, fun _ => oA_13051 hK b.1 b.2, fun q => absurd (ez.mpr h0) q, fun w8 e8 => ?_⟩
    rw [if_pos (ez.mpr h0)] at e8
    have : c.2.2.2.2.2 = [] := List.length_eq_zero_iff.mp h0
    unfold m_lastDay at K
    rw [this] at K
    rw [e8]
    exact K
  · have el : Int32.ofNat (40 * i + c.2.2.2.2.2.length) - 1 = Int32.ofNat (40 * i + (c.2.2.2.2.2.length - 1)) := by
      rw [← o32 (40 * i + (c.2.2.2.2.2.length - 1))]
      congr 2
      omega
    have bl : 0 ≤ (Int32.ofNat (40 * i + (c.2.2.2.2.2.length - 1))).toInt ∧ (Int32.ofNat (40 * i + (c.2.2.2.2.2.length - 1))).toInt < 4000 := by rw [n32 (by omega)]; omega
    have hg := getD_some mFact0 (show c.2.2.2.2.2.length - 1 < c.2.2.2.2.2.length by omega)
    rw [el]
    refine ⟨is_mk hK.2.1, oA_13051 hK b.1 b.2, fun _ => oA_13049 hK b.1 b.2, fun _ => oA_13051 hK b.1 b.2, fun _ => oA_13053 hK bl.1 bl.2, fun w8 e8 => ?_⟩
    rw [if_neg (fun q => h0 (ez.mp q)), n32c (by omega), (fac _ _ hg).2.1] at e8
    unfold m_lastDay at K
    rw [List.getLast?_eq_getElem?, hg] at K
    rw [e8]
    exact K
theorem sumf_app (q : mFact → Bool) (v : mFact → Int64) : ∀ (l : List mFact) (f : mFact), m_sumf q v (l ++ [f]) = m_sumf q v l + (if q f then v f else 0)
  | [], f => by simp [m_sumf]
  | x :: l, f => by
    rw [List.cons_append, m_sumf, m_sumf, sumf_app q v l f, Int64.add_assoc]
theorem r_paidOf {Cs : List mCase} {i : Nat} {c : mCase} {at' : Int32} {F : Int64 → am_S → Prop} (hK : OffK σ o) (hC : rCas σ o Cs) (hc100 : Cs.length ≤ 100) (hi : Cs[i]? = some c) (h40 : c.2.2.2.2.2.length ≤ 40) (K : F (m_paidOf c.2.2.2.2.2 at') σ) : k_Ro_paidOf nl Ln xs (d + 1) o (Int32.ofNat i) at' σ F := by
  have hlt := lt_of_get hi
  have b : 0 ≤ (Int32.ofNat i).toInt ∧ (Int32.ofNat i).toInt < 100 := by rw [n32 (by omega)]; omega
  have vn : am_aI σ (o + 41) i = Int32.ofNat c.2.2.2.2.2.length := hC.2.2.2.2.2.2.1 i _ hi
  have fac := hC.2.2.2.2.2.2.2 i c hi
  have loop : ∀ (j k : Nat) (acc : Int64), k + j = c.2.2.2.2.2.length → F (acc + m_sumf (fun f => decide (f.1 = 13) && decide (¬ at' < f.2.2.1)) (fun f => m_fc f - m_fi f) (c.2.2.2.2.2.drop k)) σ → c_Ro_paidOf_8 nl Ln xs (d + 1) o (Int32.ofNat i) at' acc (Int32.ofNat (40 * i + k)) σ F := by
    intro j
    induction j with
    | zero =>
      intro k acc hk K
      refine w_Ro_paidOf_8 ⟨is_mk hK.2.1, oA_13051 hK b.1 b.2, ?_, ?_⟩
      · rw [oG_13051 hK, n32c (by omega), vn, i40, n32lt (by omega) (by omega)]
        intro q; omega
      · intro _
        rw [List.drop_eq_nil_of_le (by omega), m_sumf, Int64.add_zero] at K
        exact K
    | succ j ih =>
      intro k acc hk K
      obtain ⟨f, hg⟩ := get_ex (show k < c.2.2.2.2.2.length by omega)
      have bk : 0 ≤ (Int32.ofNat (40 * i + k)).toInt ∧ (Int32.ofNat (40 * i + k)).toInt < 4000 := by rw [n32 (by omega)]; omega
      have nk : (Int32.ofNat (40 * i + k)).toNatClampNeg = 40 * i + k := n32c (by omega)
      obtain ⟨f1, f2, f3, f4, f5, f6, f7, f8⟩ := fac k _ hg
      rw [drop_get hg, m_sumf, ← Int64.add_assoc] at K
      refine w_Ro_paidOf_8 ⟨is_mk hK.2.1, oA_13051 hK b.1 b.2, fun _ => ?_, ?_⟩
      rotate_left
      · rw [oG_13051 hK, n32c (by omega), vn, i40, n32lt (by omega) (by omega)]
        intro q; omega
      rw [oG_13052 hK, oG_13054 hK, oG_13058 hK, oG_13059 hK, nk, f1, f3, f7, f8]
      refine ⟨oA_13054 hK bk.1 bk.2, fun _ => oA_13052 hK bk.1 bk.2, fun _ _ => oA_13058 hK bk.1 bk.2, fun _ _ => oA_13059 hK bk.1 bk.2, fun w11 e11 => ?_⟩
      rw [n32s]
      refine ih (k + 1) w11 (by omega) ?_
      have e : w11 = acc + (if (decide (f.1 = 13) && decide (¬ at' < f.2.2.1)) = true then m_fc f - m_fi f else 0) := by
        rw [e11]
        by_cases h1 : at' < f.2.2.1 <;> by_cases h2 : f.1 = 13 <;> simp [h1, h2]
      rw [e]
      exact K
  refine w_Ro_paidOf (fun v1 e1 => ?_)
  rw [e1, i40']
  exact loop c.2.2.2.2.2.length 0 0 (by omega) (by rw [Int64.zero_add]; exact K)
theorem r_recourseOf {Cs : List mCase} {i : Nat} {c : mCase} {at' : Int32} {F : Int64 → am_S → Prop} (hK : OffK σ o) (hC : rCas σ o Cs) (hc100 : Cs.length ≤ 100) (hi : Cs[i]? = some c) (h40 : c.2.2.2.2.2.length ≤ 40) (K : F (m_recOf c.2.2.2.2.2 at') σ) : k_Ro_recourseOf nl Ln xs (d + 1) o (Int32.ofNat i) at' σ F := by
  have hlt := lt_of_get hi
  have b : 0 ≤ (Int32.ofNat i).toInt ∧ (Int32.ofNat i).toInt < 100 := by rw [n32 (by omega)]; omega
  have vn : am_aI σ (o + 41) i = Int32.ofNat c.2.2.2.2.2.length := hC.2.2.2.2.2.2.1 i _ hi
  have fac := hC.2.2.2.2.2.2.2 i c hi
  have loop : ∀ (j k : Nat) (acc : Int64), k + j = c.2.2.2.2.2.length → F (acc + m_sumf (fun f => decide (f.1 = 19) && decide (¬ at' < f.2.2.1)) m_fc (c.2.2.2.2.2.drop k)) σ → c_Ro_recourseOf_8 nl Ln xs (d + 1) o (Int32.ofNat i) at' acc (Int32.ofNat (40 * i + k)) σ F := by
    intro j
    induction j with
    | zero =>
      intro k acc hk K
      refine w_Ro_recourseOf_8 ⟨is_mk hK.2.1, oA_13051 hK b.1 b.2, ?_, ?_⟩
      · rw [oG_13051 hK, n32c (by omega), vn, i40, n32lt (by omega) (by omega)]
        intro q; omega
      · intro _
        rw [List.drop_eq_nil_of_le (by omega), m_sumf, Int64.add_zero] at K
        exact K
    | succ j ih =>
      intro k acc hk K
      obtain ⟨f, hg⟩ := get_ex (show k < c.2.2.2.2.2.length by omega)
      have bk : 0 ≤ (Int32.ofNat (40 * i + k)).toInt ∧ (Int32.ofNat (40 * i + k)).toInt < 4000 := by rw [n32 (by omega)]; omega
      have nk : (Int32.ofNat (40 * i + k)).toNatClampNeg = 40 * i + k := n32c (by omega)
      obtain ⟨f1, f2, f3, f4, f5, f6, f7, f8⟩ := fac k _ hg
      rw [drop_get hg, m_sumf, ← Int64.add_assoc] at K
      refine w_Ro_recourseOf_8 ⟨is_mk hK.2.1, oA_13051 hK b.1 b.2, fun _ => ?_, ?_⟩
      rotate_left
      · rw [oG_13051 hK, n32c (by omega), vn, i40, n32lt (by omega) (by omega)]
        intro q; omega
      rw [oG_13052 hK, oG_13054 hK, oG_13058 hK, nk, f1, f3, f7]
      refine ⟨oA_13052 hK bk.1 bk.2, fun _ => oA_13054 hK bk.1 bk.2, fun _ _ => oA_13058 hK bk.1 bk.2, fun w11 e11 v12 e12 => ?_⟩
      rw [n32s]
      refine ih (k + 1) v12 (by omega) ?_
      have e : v12 = acc + (if (decide (f.1 = 19) && decide (¬ at' < f.2.2.1)) = true then m_fc f else 0) := by
        rw [e12, e11]
        by_cases h1 : at' < f.2.2.1 <;> by_cases h2 : f.1 = 19 <;> simp [h1, h2]
      rw [e]
      exact K
  refine w_Ro_recourseOf (fun v1 e1 => ?_)
  rw [e1, i40']
  exact loop c.2.2.2.2.2.length 0 0 (by omega) (by rw [Int64.zero_add]; exact K)
end
