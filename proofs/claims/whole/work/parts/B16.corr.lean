/-! THE CLASS: amounts as corrected -/
abbrev m_ff (f : mFact) : Int32 := f.2.2.2.2.2.1
def cq (day at' item what : Int32) (f : mFact) : Bool := decide (f.1 = 16) && (m_counts f day at' && (decide (f.2.2.2.1 = item) && (decide (f.2.2.2.2.1 = what) && decide (¬ day < m_ff f))))
def c_fw (q : mFact → Bool) : Int32 × Int64 → List mFact → Int32 × Int64
  | z, [] => z
  | z, f :: l => if q f = true ∧ ¬ m_ff f < z.1 then c_fw q (m_ff f, m_fc f) l else c_fw q z l
def c_bk (q : mFact → Bool) : Int32 × Int64 → List mFact → Int32 × Int64
  | z, [] => z
  | z, f :: l => if q f = true ∧ z.1 < m_ff f then c_bk q (m_ff f, m_fc f) l else c_bk q z l
theorem corr_fw {day at' item what : Int32} : ∀ (l : List mFact) (fr : Int32) (v : Int64), m_corr day at' item what fr v l = (c_fw (cq day at' item what) (fr, v) l).2
  | [], _, _ => rfl
  | f :: l, fr, v => by
    have e : (decide (f.1 = 16) && (m_counts f day at' && (decide (f.2.2.2.1 = item) && (decide (f.2.2.2.2.1 = what) && (decide (¬ day < f.2.2.2.2.2.1) && decide (¬ f.2.2.2.2.2.1 < fr)))))) = (cq day at' item what f && decide (¬ m_ff f < fr)) := by
      unfold cq
      simp only [Bool.and_assoc]
    have h1 := corr_fw (day := day) (at' := at') (item := item) (what := what) l (m_ff f) (m_fc f)
    have h2 := corr_fw (day := day) (at' := at') (item := item) (what := what) l fr v
    unfold m_corr c_fw
    rw [e]
    by_cases h : cq day at' item what f = true ∧ ¬ m_ff f < fr
    · rw [if_pos h, if_pos (by rw [h.1, decide_eq_true h.2]; rfl)]
      exact h1
    · rw [if_neg h, if_neg (by rw [Bool.and_eq_true, decide_eq_true_eq]; exact h)]
      exact h2
theorem fw_app (q : mFact → Bool) (f : mFact) : ∀ (l : List mFact) (z : Int32 × Int64), c_fw q z (l ++ [f]) = if q f = true ∧ ¬ m_ff f < (c_fw q z l).1 then (m_ff f, m_fc f) else c_fw q z l
  | [], z => rfl
  | g :: l, z => by
    have h1 := fw_app q f l (m_ff g, m_fc g)
    have h2 := fw_app q f l z
    rw [List.cons_append]
    unfold c_fw
    by_cases h : q g = true ∧ ¬ m_ff g < z.1
    · rw [if_pos h, if_pos h]; exact h1
    · rw [if_neg h, if_neg h]; exact h2
theorem bk_fw (q : mFact → Bool) (z0 : Int32 × Int64) : ∀ (n : Nat) (l : List mFact) (z : Int32 × Int64), l.length = n → ¬ z.1 < z0.1 → c_bk q z l.reverse = if z.1 < (c_fw q z0 l).1 then c_fw q z0 l else z := by
  intro n
  induction n with
  | zero =>
    intro l z hl hz
    obtain rfl := List.length_eq_zero_iff.mp hl
    show z = if z.1 < z0.1 then z0 else z
    rw [if_neg hz]
  | succ n ih =>
    intro l z hl hz
    have hne : l ≠ [] := fun h => by rw [h] at hl; simp at hl
    have e := List.dropLast_concat_getLast hne
    obtain ⟨m, f, e2⟩ : ∃ m f, l = m ++ [f] := ⟨_, _, e.symm⟩
    have hm : m.length = n := by rw [e2, List.length_append] at hl; simp at hl; exact hl
    rw [e2, List.reverse_append, List.reverse_singleton, List.singleton_append, fw_app]
    have i1 := fun z hz => ih m z hm hz
    unfold c_bk
    rw [i32lt] at hz
    generalize c_fw q z0 m = y at i1 ⊢
    by_cases h1 : q f = true
    · by_cases h2 : z.1 < m_ff f
      · have h2' := i32lt.mp h2
        rw [if_pos ⟨h1, h2⟩, i1 _ (by rw [i32lt]; show ¬ (m_ff f).toInt < _; omega)]
        show (if m_ff f < y.1 then y else (m_ff f, m_fc f)) = _
        by_cases h3 : m_ff f < y.1
        · have h3' := i32lt.mp h3
          have n1 : ¬ (q f = true ∧ ¬ m_ff f < y.1) := fun z => z.2 h3
          rw [if_pos h3, if_neg n1, if_pos (i32lt.mpr (by omega))]
        · have n1 : q f = true ∧ ¬ m_ff f < y.1 := ⟨h1, h3⟩
          rw [if_neg h3, if_pos n1, if_pos h2]
      · rw [if_neg (fun z => h2 z.2), i1 z (by rw [i32lt]; exact hz)]
        rw [i32lt] at h2
        by_cases h3 : m_ff f < y.1
        · have n1 : ¬ (q f = true ∧ ¬ m_ff f < y.1) := fun z => z.2 h3
          rw [if_neg n1]
        · rw [if_pos (c := q f = true ∧ ¬ m_ff f < y.1) ⟨h1, h3⟩]
          rw [i32lt] at h3
          rw [if_neg (by rw [i32lt]; omega), if_neg (by rw [i32lt]; show ¬ z.1.toInt < (m_ff f).toInt; omega)]
    · have n1 : ¬ (q f = true ∧ ¬ m_ff f < y.1) := fun z => h1 z.1
      rw [if_neg (fun z => h1 z.1), if_neg n1, i1 z (by rw [i32lt]; exact hz)]
theorem fw_or (q : mFact → Bool) (z0 : Int32 × Int64) : ∀ (l : List mFact) (z : Int32 × Int64), (z = z0 ∨ z0.1 < z.1) → (∀ f ∈ l, q f = true → z0.1 < m_ff f) → (c_fw q z l = z0 ∨ z0.1 < (c_fw q z l).1)
  | [], z, h, _ => h
  | f :: l, z, h, hq => by
    have h1 := fw_or q z0 l (m_ff f, m_fc f)
    have h2 := fw_or q z0 l z h (fun g hg => hq g (List.mem_cons_of_mem _ hg))
    unfold c_fw
    by_cases hh : q f = true ∧ ¬ m_ff f < z.1
    · rw [if_pos hh]
      exact h1 (Or.inr (hq f List.mem_cons_self hh.1)) (fun g hg => hq g (List.mem_cons_of_mem _ hg))
    · rw [if_neg hh]
      exact h2
theorem corr_bk {day at' item what : Int32} {v : Int64} {l : List mFact} (h : ∀ f ∈ l, f.1 = 16 → 0 ≤ (m_ff f).toInt) : (c_bk (cq day at' item what) (-1, v) l.reverse).2 = m_corr day at' item what (-1) v l := by
  rw [corr_fw, bk_fw (cq day at' item what) (-1, v) l.length l (-1, v) rfl (by rw [i32lt]; exact Int.lt_irrefl _)]
  have := fw_or (cq day at' item what) (-1, v) l (-1, v) (Or.inl rfl) (fun f hf hq => by
    have : f.1 = 16 := by
      unfold cq at hq
      rw [Bool.and_eq_true] at hq
      exact of_decide_eq_true hq.1
    rw [i32lt]
    show (-1 : Int32).toInt < _
    rw [show (-1 : Int32).toInt = -1 by decide]
    have := h f hf this
    omega)
  by_cases h : (-1 : Int32) < (c_fw (cq day at' item what) (-1, v) l).1
  · rw [if_pos h]
  · rw [if_neg h]
    rcases this with q | q
    · rw [q]
    · exact absurd q h
section
variable {nl : Bool} {Ln : Nat} {xs : Nat → Int32} {d : Nat} {σ σ1 : am_S} {w : ow_T} {wk ab v b : Nat} {P : List mPol} {T : List mTell} {Ls : List mLoss} {Cs : List mCase} {i : Nat} {x : mCase} {cc lc : Nat} {day at' : Int32} {s : Int64} {rows : List mRow} {tr : List Int32} {fnd : Int32} {ov : Bool} {fs as vs va : List Nat}
theorem item_k {f : mFact} (h : WfFac f) (h16 : f.1 = 16) : ∃ a c : Nat, a < 6 ∧ c < 2 ∧ f.2.2.2.1 = Int32.ofNat a ∧ f.2.2.2.2.1 = Int32.ofNat c := by
  obtain ⟨h1, h2, h3, -⟩ := h.2.2.2.2.2.2.2.2.2.2 h16
  refine ⟨f.2.2.2.1.toInt.toNat, f.2.2.2.2.1.toInt.toNat, by omega, ?_, n32of h1, ?_⟩
  · rcases h3 with q | q <;> rw [q] <;> decide
  · rcases h3 with q | q <;> rw [q] <;> rfl
theorem two_k {a c : Nat} : (2 : Int32) * Int32.ofNat a + Int32.ofNat c = Int32.ofNat (2 * a + c) := by
  rw [show (2 : Int32) = Int32.ofNat 2 from rfl, ← Int32.ofNat_mul, n32a]
/-- money as the facts of the case have it -/
theorem wk_corrL {k : Nat × Nat} (k1 : am_kd σ wk = (3, 0)) (e13 : am_fR σ 2013 wk = some ab) (e14 : am_fR σ 2014 wk = some (ab + 1)) (ka : am_kd σ ab = (1001, 12)) (kb : am_kd σ (ab + 1) = (1000, 12)) (e8 : am_fI σ 2008 wk = day) (e9 : am_fI σ 2009 wk = at') (hv : WkV wk ab v) (hO : ∀ c, fixW c → w c = (2, c)) (hk0 : 1000 ≤ k.1) {x1 : Option Nat} {F : am_S → Prop} : ∀ (l : List mFact) (hd : Option Nat) (x3 x4 : Option Value) (s1 : am_S), (∀ f ∈ l, WfFac f) → ChF σ w k hd l → Wc wk ab v [] [0, 1] [] [] σ s1 → (∀ s2, Wc wk ab v [] [0, 1] [] [] σ s2 → (∀ a c, a < 6 → c < 2 → (am_aI s2 (ab + 1) (2 * a + c), am_aL s2 ab (2 * a + c)) = c_bk (cq day at' (Int32.ofNat a) (Int32.ofNat c)) (am_aI s1 (ab + 1) (2 * a + c), am_aL s1 ab (2 * a + c)) l) → F s2) → c_Wk_takeCorrections_52 nl Ln xs (d + 2) wk x1 hd x3 x4 s1 F := by
  have fr : ∀ {s1 : am_S}, Wc wk ab v [] [0, 1] [] [] σ s1 → Fr σ w s1 w k := by
    intro s1 r c hc
    refine ⟨hc, r.eqc hv (by decide) (by simp) (fun z => ?_)⟩
    rw [hO c z] at hc
    have := congrArg Prod.fst hc
    simp at this
    omega
  intro l
  induction l with
  | nil =>
    intro hd x3 x4 s1 _ hc r K
    have hc : hd = none := hc
    rw [hc]
    exact w_Wk_takeCorrections_52 ⟨fun _ => K s1 r (fun a c _ _ => rfl), fun q => absurd rfl q⟩
  | cons f l ih =>
    intro hd x3 x4 s1 hf hc r K
    obtain ⟨e, rfl, he, hl⟩ := hc
    have hf1 := hf f List.mem_cons_self
    have hfl : ∀ g ∈ l, WfFac g := fun g hg => hf g (List.mem_cons_of_mem _ hg)
    have he1 := he.fr (fr r)
    have enx : am_fR s1 7005 e = am_fR σ 7005 e := (fr r e he.1).2.fR
    have skip : (∀ a c, a < 6 → c < 2 → ¬ (cq day at' (Int32.ofNat a) (Int32.ofNat c) f = true ∧ am_aI s1 (ab + 1) (2 * a + c) < m_ff f)) → ∀ (x3 x4 : Option Value), c_Wk_takeCorrections_52 nl Ln xs (d + 2) wk x1 (am_fR s1 7005 e) x3 x4 s1 F := by
      intro hn x3 x4
      rw [enx]
      refine ih _ _ _ s1 hfl hl r (fun s2 r2 h2 => K s2 r2 (fun a c ha hc => ?_))
      rw [h2 a c ha hc]
      show _ = if _ then _ else _
      rw [if_neg (hn a c ha hc)]
    refine w_Wk_takeCorrections_52 ⟨fun q => absurd q (by simp), fun _ => ⟨is_mk (by rw [r.kd]; exact k1), ?_⟩⟩
    rw [(r.fI (by simp) (by simp)).trans e8, (r.fI (by simp) (by simp)).trans e9, Option.getD_some]
    refine ⟨is_mk he1.2.1, en_counts he1 (fun _ => ?_)⟩
    refine w_Wk_takeCorrections_89 ⟨fun _ => is_mk he1.2.1, fun _ => is_mk he1.2.1, ?_⟩
    intro w5 q5
    rw [Option.getD_some, (r.fI (by simp) (by simp)).trans e8] at q5
    by_cases hq : (decide (f.1 = 16) && m_counts f day at') = true ∧ ¬ day < am_fI s1 7008 e
    · rw [if_pos hq, if_neg (by decide)] at q5
      have hq1 : f.1 = 16 ∧ m_counts f day at' = true := by
        have := hq.1
        rw [Bool.and_eq_true] at this
        exact ⟨of_decide_eq_true this.1, this.2⟩
      obtain ⟨a, c, ha, hc, ea, ec⟩ := item_k hf1 hq1.1
      obtain ⟨g7, g8⟩ := he1.2.2.2.2.2.2.1 hq1.1
      have g1 := he1.2.2.2.2.2.1 (Or.inr (Or.inr (Or.inl hq1.1)))
      rw [g1, g7, ea, ec, two_k] at q5
      subst q5
      have hdf : ¬ day < m_ff f := by have := hq.2; rw [g8] at this; exact this
      have hcq : ∀ a' c', a' < 6 → c' < 2 → (cq day at' (Int32.ofNat a') (Int32.ofNat c') f = true ↔ 2 * a' + c' = 2 * a + c) := by
        intro a' c' ha' hc'
        unfold cq
        rw [ea, ec, hq1.2, decide_eq_true hq1.1, decide_eq_true hdf]
        simp only [Bool.true_and, Bool.and_true, Bool.and_eq_true, decide_eq_true_eq]
        rw [n32i (by omega) (by omega), n32i (by omega) (by omega)]
        omega
      have hb : 0 ≤ (Int32.ofNat (2 * a + c)).toInt ∧ (Int32.ofNat (2 * a + c)).toInt < 12 := by rw [n32 (by omega)]; omega
      have nc : (Int32.ofNat (2 * a + c)).toNatClampNeg = 2 * a + c := n32c (by omega)
      refine w_Wk_takeCorrections_109 ⟨fun q => absurd q (by rw [i32lt, show (0 : Int32).toInt = 0 by decide]; omega), fun _ => ⟨is_mk (by rw [r.kd]; exact k1), ?_⟩⟩
      rw [(r.fR (by simp) (by simp)).trans e13, (r.fR (by simp) (by simp)).trans e14, Option.getD_some, Option.getD_some, Option.getD_some, nc, g8, he1.2.2.2.2.2.2.2.1]
      refine ⟨⟨ab, rfl, by rw [r.kd, ka]⟩, fun _ => ⟨is_mk he1.2.1, ar_mk (by rw [r.kd]; exact kb) hb.1 hb.2, fun hlt => ⟨ar_mk (by rw [r.kd]; exact ka) hb.1 hb.2, ?_⟩, fun hlt => ?_⟩, fun q => absurd (by rw [r.kd, ka]; exact (n32lt (by omega) (by omega)).mpr (by omega)) q⟩
      · intro s12 q12
        have r12 : Wc wk ab v [] [0, 1] [] [] s1 s12 := by rw [q12]; exact Wc.saL (k := 0) (by decide)
        have ra := r.trans r12
        have he12 := he.fr (fr ra)
        rw [(ra.fR (by simp) (by simp)).trans e14, Option.getD_some, (he12.2.2.2.2.2.2.1 hq1.1).2]
        refine ⟨ar_mk (by rw [ra.kd]; exact kb) hb.1 hb.2, ?_⟩
        intro s16 q16
        have r16 : Wc wk ab v [] [0, 1] [] [] s12 s16 := by rw [q16]; exact Wc.saI (k := 1) (by decide)
        have rb := ra.trans r16
        rintro v19 rfl
        rw [(fr rb e he.1).2.fR]
        refine ih _ _ _ s16 hfl hl rb (fun s2 r2 h2 => K s2 r2 (fun a' c' ha' hc' => ?_))
        rw [h2 a' c' ha' hc', saI_all q16, (show am_aL s16 ab (2 * a' + c') = am_aL s12 ab (2 * a' + c') by rw [q16]), saL_all q12, (show am_aI s12 (ab + 1) (2 * a' + c') = am_aI s1 (ab + 1) (2 * a' + c') by rw [q12])]
        show _ = if _ then _ else _
        by_cases z : 2 * a' + c' = 2 * a + c
        · rw [if_pos z, if_pos z, if_pos ⟨(hcq a' c' ha' hc').mpr z, by rw [z]; exact hlt⟩]
        · rw [if_neg z, if_neg z, if_neg (fun y => z ((hcq a' c' ha' hc').mp y.1))]
      · rintro v21 rfl
        refine skip (fun a' c' ha' hc' y => ?_) _ _
        have := (hcq a' c' ha' hc').mp y.1
        rw [this] at y
        exact hlt y.2
    · rw [if_neg hq, if_pos rfl] at q5
      subst q5
      refine w_Wk_takeCorrections_109 ⟨fun _ => ⟨is_mk he1.2.1, ?_⟩, fun q => absurd (by decide) q⟩
      rw [Option.getD_some]
      rintro v3 rfl
      refine skip (fun a' c' ha' hc' y => hq ?_) _ _
      have y1 := y.1
      unfold cq at y1
      simp only [Bool.and_eq_true, decide_eq_true_eq] at y1
      refine ⟨by rw [Bool.and_eq_true, decide_eq_true_eq]; exact ⟨y1.1, y1.2.1⟩, ?_⟩
      rw [(he1.2.2.2.2.2.2.1 y1.1).2]
      exact y1.2.2.2.2
/-- amounts and values as they are in the case -/
theorem wk_takeCorrections {F : am_S → Prop} (hw : WfD P T Ls Cs) (B : WkB σ w wk ab v b P T Ls Cs i x cc lc day at' s rows tr fnd ov) (e13 : am_fR σ 2013 wk = some ab) (ka : am_kd σ ab = (1001, 12)) (K : ∀ σ', WkB σ' w wk ab v b P T Ls Cs i x cc lc day at' s rows tr fnd ov → MnR σ' wk ab (m_amt Ls x day at') (m_items Ls (m_base Ls x.2.2.1)).length → Wc wk ab v [] [0, 1] [] [] σ σ' → F σ') : k_Wk_takeCorrections nl Ln xs (d + 2) wk σ F := by
  obtain ⟨⟨hv, hk, k1, k2, hV, hB, hO, e5, e6, e7⟩, b1, ⟨b2, b3, b4⟩, ⟨b5, b6, b7⟩, ⟨a1, -⟩, a2, -⟩ := id B
  obtain ⟨cc', pc0, lc0, p0, l0, z1, z2, -, -, -, -, -, -, -, -, -, wc⟩ := hB.case hw b3
  have ecc : cc' = cc := Option.some.inj (z1.symm.trans b4)
  subst ecc
  obtain ⟨lc1, u1, u2, -⟩ := hB.2.2.2.1 _ _ (getD_some mLoss0 e7)
  have el : lc1 = lc := Option.some.inj (u1.symm.trans e6)
  subst el
  refine w_Wk_takeCorrections ⟨is_mk k1, ?_⟩
  rw [e5, Option.getD_some]
  refine ⟨is_mk u2.2.1, ls_base hB hw.2.2.1 e7 e6 (fun bc hbl hbc _ => ?_)⟩
  obtain ⟨bc', y1, y2, -⟩ := hB.2.2.2.1 _ _ (getD_some mLoss0 hbl)
  have eb : bc' = bc := Option.some.inj (y1.symm.trans hbc)
  subst eb
  obtain ⟨m, m1, m2, m3, m4, m5⟩ := y2.2.2.2.2.2.2.2.2.2.2
  have h6 : (m_items Ls (m_base Ls x.2.2.1)).length ≤ 6 := (hw.2.2.1.2.1 _ _ (getD_some mLoss0 hbl)).2.2.2
  have fz : ∀ {s1 : am_S}, Wc wk ab v [] [0, 1] [] [] σ s1 → FrB σ w s1 w b := fun r => r.frB hv (by decide) (by simp) hO hB.1.2.2.1
  have loop : ∀ (n j : Nat) (s1 : am_S), j + n = 12 → Wc wk ab v [] [0, 1] [] [] σ s1 → (∀ q, q < j → am_aI s1 (ab + 1) q = -1 ∧ am_aL s1 ab q = am_aL σ m q) → c_Wk_takeCorrections_10 nl Ln xs (d + 2) wk (some bc') (Int32.ofNat j) s1 F := by
    intro n
    induction n with
    | zero =>
      intro j s1 hj r hq
      obtain rfl : j = 12 := by omega
      refine w_Wk_takeCorrections_10 ⟨is_mk (by rw [r.kd]; exact k1), ?_⟩
      rw [(r.fR (by simp) (by simp)).trans e13, Option.getD_some, (r.fR (by simp) (by simp)).trans b2]
      refine ⟨⟨ab, rfl, by rw [r.kd, ka]⟩, fun q => absurd q (by rw [r.kd, ka]; decide), fun _ => ?_⟩
      have zz := z2.1.fr (fz r _)
      refine ⟨is_mk zz.2.1, ?_⟩
      rintro v15 rfl
      rw [Option.getD_some]
      have hr := hO
      refine wk_corrL (k := (b, 600 + i)) (day := day) (at' := at') (by rw [r.kd]; exact k1) ((r.fR (by simp) (by simp)).trans e13) ((r.fR (by simp) (by simp)).trans a1) (by rw [r.kd]; exact ka) (by rw [r.kd]; exact a2) ((r.fI (by simp) (by simp)).trans b5) ((r.fI (by simp) (by simp)).trans b6) hv hO hB.1.2.2.1 x.2.2.2.2.2.reverse _ none none s1 (fun f hf => wc.2.2.2.2.1.2.1 f (List.mem_reverse.mp hf)) zz.2.2 Wc.rf (fun s2 r2 h2 => ?_)
      have ra := r.trans r2
      refine K s2 (B.wc (s' := s) ra (by decide) (by decide) (by simp) (hV.wc ra hv (by decide) (by decide)) ((ra.fL (by simp) (by simp)).trans b7)) ⟨(ra.fR (by simp) (by simp)).trans e13, by rw [ra.kd]; exact ka, fun j hj => ?_, fun j hj hj6 => ?_⟩ ra
      · have hw16 : ∀ f ∈ x.2.2.2.2.2, f.1 = 16 → 0 ≤ (m_ff f).toInt := fun f hf h16 => ((wc.2.2.2.2.1.2.1 f hf).2.2.2.2.2.2.2.2.2.2 h16).2.2.2.1
        obtain ⟨y, hy⟩ := get_ex hj
        have hm4 := m4 j y hy
        have gy : ((Ls.getD (m_base Ls x.2.2.1) mLoss0).2.2.2.2.2).getD j mItem0 = y := getD_of mItem0 hy
        have g0 := congrArg Prod.snd (h2 j 0 (by omega) (by omega))
        have g1 := congrArg Prod.snd (h2 j 1 (by omega) (by omega))
        rw [(hq (2 * j + 0) (by omega)).1, (hq (2 * j + 0) (by omega)).2, corr_bk hw16] at g0
        rw [(hq (2 * j + 1) (by omega)).1, (hq (2 * j + 1) (by omega)).2, corr_bk hw16] at g1
        refine ⟨?_, ?_⟩
        · unfold m_amt
          rw [if_pos rfl, gy, ← hm4.1]
          exact g0
        · unfold m_amt
          rw [if_neg (by decide), gy, ← hm4.2]
          exact g1
      · have nom : ∀ c, c < 2 → (c_bk (cq day at' (Int32.ofNat j) (Int32.ofNat c)) (-1, 0) x.2.2.2.2.2.reverse).2 = 0 := by
          intro c hc
          have : ∀ (l : List mFact), (∀ f ∈ l, f ∈ x.2.2.2.2.2) → (c_bk (cq day at' (Int32.ofNat j) (Int32.ofNat c)) (-1, 0) l).2 = 0 := by
            intro l
            induction l with
            | nil => intro _; rfl
            | cons f l ih =>
              intro hf
              have hn : ¬ (cq day at' (Int32.ofNat j) (Int32.ofNat c) f = true ∧ (-1 : Int32) < m_ff f) := by
                intro z
                have z1 := z.1
                unfold cq at z1
                simp only [Bool.and_eq_true, decide_eq_true_eq] at z1
                have := wc.2.2.2.2.2.2 f (hf f List.mem_cons_self) z1.1
                rw [z1.2.2.1, n32 (by omega)] at this
                omega
              show (if _ then _ else _ : Int32 × Int64).2 = 0
              rw [if_neg hn]
              exact ih (fun g hg => hf g (List.mem_cons_of_mem _ hg))
          exact this _ (fun f hf => List.mem_reverse.mp hf)
        have hm5 := m5 j hj hj6
        have g0 := congrArg Prod.snd (h2 j 0 (by omega) (by omega))
        have g1 := congrArg Prod.snd (h2 j 1 (by omega) (by omega))
        rw [(hq (2 * j + 0) (by omega)).1, (hq (2 * j + 0) (by omega)).2, (show am_aL σ m (2 * j + 0) = 0 from hm5.1), nom 0 (by omega)] at g0
        rw [(hq (2 * j + 1) (by omega)).1, (hq (2 * j + 1) (by omega)).2, hm5.2, nom 1 (by omega)] at g1
        exact ⟨g0, g1⟩
    | succ n ih =>
      intro j s1 hj r hq
      have hb : 0 ≤ (Int32.ofNat j).toInt ∧ (Int32.ofNat j).toInt < 12 := by rw [n32 (by omega)]; omega
      have nc : (Int32.ofNat j).toNatClampNeg = j := n32c (by omega)
      have fy := y2.fr (fz r _)
      have em : am_fR s1 10006 bc' = some m := (fz r _ bc' y2.1).2.fR.trans m1
      refine w_Wk_takeCorrections_10 ⟨is_mk (by rw [r.kd]; exact k1), ?_⟩
      rw [(r.fR (by simp) (by simp)).trans e13, Option.getD_some, Option.getD_some, nc, em, Option.getD_some]
      refine ⟨⟨ab, rfl, by rw [r.kd, ka]⟩, fun _ => ⟨is_mk fy.2.1, ar_mk (by rw [r.kd]; exact m3) hb.1 hb.2, ar_mk (by rw [r.kd]; exact ka) hb.1 hb.2, ?_⟩, fun q => absurd (by rw [r.kd, ka]; exact (n32lt (by omega) (by omega)).mpr (by omega)) q⟩
      intro s7 q7
      have r7 : Wc wk ab v [] [0, 1] [] [] s1 s7 := by rw [q7]; exact Wc.saL (k := 0) (by decide)
      have ra := r.trans r7
      rw [(ra.fR (by simp) (by simp)).trans a1, Option.getD_some]
      refine ⟨ar_mk (by rw [ra.kd]; exact a2) hb.1 hb.2, ?_⟩
      intro s11 q11
      have r11 : Wc wk ab v [] [0, 1] [] [] s7 s11 := by rw [q11]; exact Wc.saI (k := 1) (by decide)
      rw [n32s]
      refine ih (j + 1) s11 (by omega) (ra.trans r11) (fun q hqj => ?_)
      rw [saI_all q11, (show am_aL s11 ab q = am_aL s7 ab q by rw [q11]), saL_all q7, (show am_aI s7 (ab + 1) q = am_aI s1 (ab + 1) q by rw [q7])]
      by_cases z : q = j
      · rw [if_pos z, if_pos z, z]
        exact ⟨rfl, (fz r _ m m2).2.aL⟩
      · rw [if_neg z, if_neg z]
        exact hq q (by omega)
  exact loop 12 0 σ rfl Wc.rf (fun q hq => absurd hq (by omega))
end
