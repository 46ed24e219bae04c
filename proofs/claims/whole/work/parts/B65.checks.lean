/-! THE CLASS: the numbers of a fact -/
theorem cat_row : ∀ n, n < 20 → (dd_sr.getD 1 []).getD n 0 = ([0, 0, 0, 0, 0, 0, 0, 0, 0, 0, 0, 0, 4, 3, 0, 0, 5, 4, 3, 3] : List Int32).getD n 0 := by decide +kernel
theorem cat_len : (dd_sr.getD 1 []).length = 20 := by decide +kernel
section
variable {nl : Bool} {Ln : Nat} {xs : Nat → Int32} {d : Nat} {σ : am_S} {w : ow_T} {b D o len n : Nat} {P : List mPol} {T : List mTell} {Ls : List mLoss} {Cs : List mCase} {a : mArg}
theorem DdR.pj (h : DdR σ D o len n a) {j : Nat} (hj : j ≤ 6) : am_ar σ 1001 (some D) (Int32.ofNat o + Int32.ofNat j) ∧ (Int32.ofNat o + Int32.ofNat j).toNatClampNeg = o + j := by
  rw [n32a]
  exact h.ar hj
theorem DdR.s0 (h : DdR σ D o len n a) : am_ar σ 1001 (some D) (Int32.ofNat o) := (h.ar (j := 0) (by decide)).1
theorem DdR.h0 (h : DdR σ D o len n a) : am_aL σ D (Int32.ofNat o).toNatClampNeg = Int64.ofNat n := by rw [n32c (by have := h.2.1; have := h.2.2.1; omega)]; exact h.2.2.2.1
theorem DdR.s1 (h : DdR σ D o len n a) : am_ar σ 1001 (some D) (Int32.ofNat o + 1) := (h.pj (j := 1) (by decide)).1
theorem DdR.s2 (h : DdR σ D o len n a) : am_ar σ 1001 (some D) (Int32.ofNat o + 2) := (h.pj (j := 2) (by decide)).1
theorem DdR.s3 (h : DdR σ D o len n a) : am_ar σ 1001 (some D) (Int32.ofNat o + 3) := (h.pj (j := 3) (by decide)).1
theorem DdR.s4 (h : DdR σ D o len n a) : am_ar σ 1001 (some D) (Int32.ofNat o + 4) := (h.pj (j := 4) (by decide)).1
theorem DdR.s6 (h : DdR σ D o len n a) : am_ar σ 1001 (some D) (Int32.ofNat o + 6) := (h.pj (j := 6) (by decide)).1
theorem DdR.pa (h : DdR σ D o len n a) {j : Nat} (hj : j < 6) : am_aL σ D (Int32.ofNat o + Int32.ofNat (j + 1)).toNatClampNeg = a j := by
  rw [(h.pj (j := j + 1) (by omega)).2, show o + (j + 1) = o + 1 + j by omega]
  exact h.2.2.2.2 j hj
theorem DdR.h1 (h : DdR σ D o len n a) : am_aL σ D (Int32.ofNat o + 1).toNatClampNeg = a 0 := h.pa (j := 0) (by decide)
theorem DdR.h2 (h : DdR σ D o len n a) : am_aL σ D (Int32.ofNat o + 2).toNatClampNeg = a 1 := h.pa (j := 1) (by decide)
theorem DdR.h3 (h : DdR σ D o len n a) : am_aL σ D (Int32.ofNat o + 3).toNatClampNeg = a 2 := h.pa (j := 2) (by decide)
theorem DdR.h4 (h : DdR σ D o len n a) : am_aL σ D (Int32.ofNat o + 4).toNatClampNeg = a 3 := h.pa (j := 3) (by decide)
theorem DdR.h6 (h : DdR σ D o len n a) : am_aL σ D (Int32.ofNat o + 6).toNatClampNeg = a 5 := h.pa (j := 5) (by decide)
theorem act32 {n : Nat} (h : n < 100) : (Int64.ofNat n).toInt32 = Int32.ofNat n := by
  rw [i32e, t32 (by rw [n64 (by omega)]; omega) (by rw [n64 (by omega)]; omega), n64 (by omega), n32 (by omega)]
theorem bk_centsIn {F : Int64 → am_S → Prop} (h12 : 12 ≤ n) (h19 : n ≤ 19) (hD : DdR σ D o len n a) (K : F (m_cOf n a) σ) : k_Bk_centsIn nl Ln xs (d + 1) (some D) (Int32.ofNat o) σ F := by
  refine low (fun hL => w_Bk_centsIn ⟨hD.s0, hL 501 (by decide), ?_⟩)
  rw [Option.getD_some, hD.h0, act32 (by omega), n32c (by omega), n32 (by omega)]
  refine ⟨by omega, ?_, ?_⟩
  · rw [show (501 : Nat) = 500 + 1 from rfl, sr_rl (by decide), cat_len]
    omega
  · rw [show (501 : Nat) = 500 + 1 from rfl, sr_rv (by decide), cat_row n (by omega)]
    intro v5 e5
    have key : ∀ (pl : Nat), pl ≤ 6 → v5 = Int32.ofNat pl → (pl = 0 → m_cOf n a = 0) → (∀ j, pl = j + 1 → m_cOf n a = a j) → (¬ (v5 = 0) → am_ar σ 1001 (some D) (Int32.ofNat o + v5)) ∧ ∀ w10 : Int64, w10 = (if v5 = 0 then 0 else am_aL σ D (Int32.ofNat o + v5).toNatClampNeg) → F w10 σ := by
      intro pl hpl ev h0 h1
      rw [ev]
      refine ⟨fun _ => (hD.pj hpl).1, ?_⟩
      rintro w10 rfl
      cases pl with
      | zero =>
        rw [if_pos (by decide)]
        rw [h0 rfl] at K
        exact K
      | succ j =>
        rw [if_neg (fun z => by
          have z : Int32.ofNat (j + 1) = Int32.ofNat 0 := z
          rw [i32e, n32 (by omega), n32 (by omega)] at z
          omega), hD.pa (by omega)]
        rw [h1 j rfl] at K
        exact K
    have hn : n = 12 ∨ n = 13 ∨ n = 14 ∨ n = 15 ∨ n = 16 ∨ n = 17 ∨ n = 18 ∨ n = 19 := by omega
    rcases hn with rfl | rfl | rfl | rfl | rfl | rfl | rfl | rfl
    · exact key 4 (by decide) e5 (fun z => absurd z (by decide)) (fun j hj => by have : j = 3 := (by omega); subst this; rfl)
    · exact key 3 (by decide) e5 (fun z => absurd z (by decide)) (fun j hj => by have : j = 2 := (by omega); subst this; rfl)
    · exact key 0 (by decide) e5 (fun _ => rfl) (fun j hj => absurd hj (by omega))
    · exact key 0 (by decide) e5 (fun _ => rfl) (fun j hj => absurd hj (by omega))
    · exact key 5 (by decide) e5 (fun z => absurd z (by decide)) (fun j hj => by have : j = 4 := (by omega); subst this; rfl)
    · exact key 4 (by decide) e5 (fun z => absurd z (by decide)) (fun j hj => by have : j = 3 := (by omega); subst this; rfl)
    · exact key 3 (by decide) e5 (fun z => absurd z (by decide)) (fun j hj => by have : j = 2 := (by omega); subst this; rfl)
    · exact key 3 (by decide) e5 (fun z => absurd z (by decide)) (fun j hj => by have : j = 2 := (by omega); subst this; rfl)
theorem bk_isAsTold {i cc : Nat} {x : mCase} {F : Bool → am_S → Prop} (h12 : 12 ≤ n) (h19 : n ≤ 19) (hBD : BkD σ w b P T Ls Cs) (hw : WfD P T Ls Cs) (hi : Cs[i]? = some x) (hcc : am_aR σ (bA σ b 6006) i = some cc) (hD : DdR σ D o len n a) (K : ∀ bo : Bool, (bo = true ↔ m_good n a (m_items Ls (m_base Ls x.2.2.1)).length) → F bo σ) : k_Bk_isAsTold nl Ln xs (d + 2) b (some cc) (some D) (Int32.ofNat o) σ F := by
  obtain ⟨c', pc, lc, p, l, c1, c2, -, -, -, -, c7, c8, c9, c10, c11, -⟩ := hBD.case hw hi
  have ec : c' = cc := Option.some.inj (c1.symm.trans hcc)
  subst ec
  have t12 : (1000000000000 : Int64).toInt = 1000000000000 := by decide
  have t1 : (1 : Int64).toInt = 1 := by decide
  have t2 : (2 : Int64).toInt = 2 := by decide
  have t6 : (6 : Int64).toInt = 6 := by decide
  have tD : (10949 : Int64).toInt = 10949 := by decide
  have hmon : ∀ x : Int64, (¬ (x < 0) ∧ ¬ (1000000000000 < x)) ↔ m_rg x 0 1000000000000 := fun x => by
    unfold m_rg
    rw [i64lt, i64lt, z64i, t12]
    omega
  refine w_Bk_isAsTold (bk_centsIn (d := d) h12 h19 hD (fun _ => w_Co_isMoney (fun _ => ⟨fun hm => ?_, fun hm => K false ⟨fun z => absurd z (by decide), fun hg => ?_⟩⟩)))
  · have hm := (hmon _).mp (of_decide_eq_true hm)
    rw [Option.getD_some, hD.h3, hD.h0, act32 (by omega)]
    refine ⟨hD.s3, ?_⟩
    rintro v7 rfl
    have neq : ∀ {m : Nat}, m < 100 → (Int32.ofNat n = Int32.ofNat m ↔ n = m) := fun hm => by
      rw [i32e, n32 (by omega), n32 (by omega)]
      omega
    refine ⟨hD.s0, fun hv => ?_, fun hv => ?_, fun hv => ?_, fun hv => ?_, fun hv => ?_⟩
    · have h02 : (¬ (a 2 < 0) ∧ ¬ (2 < a 2)) ↔ m_rg (a 2) 0 2 := by
        unfold m_rg
        rw [i64lt, i64lt, z64i, t2]
        omega
      refine K _ ⟨fun z => ?_, fun hg => decide_eq_true (h02.mpr ?_)⟩
      · have z := h02.mp (of_decide_eq_true z)
        rcases hv with h | h
        · have := (neq (m := 12) (by decide)).mp h
          subst this
          exact ⟨z, hm⟩
        · have := (neq (m := 15) (by decide)).mp h
          subst this
          exact z
      · rcases hv with h | h
        · have := (neq (m := 12) (by decide)).mp h
          subst this
          exact hg.1
        · have := (neq (m := 15) (by decide)).mp h
          subst this
          exact hg
    · have := (neq (m := 13) (by decide)).mp hv
      subst this
      have hm : m_rg (a 2) 0 1000000000000 := hm
      refine K _ ⟨fun z => ?_, fun hg => decide_eq_true ?_⟩
      · have z : 0 < a 2 := of_decide_eq_true z
        rw [i64lt, z64i] at z
        exact ⟨by omega, hm.2⟩
      · show 0 < a 2
        rw [i64lt, z64i]
        have := hg.1
        omega
    · have := (neq (m := 16) (by decide)).mp hv
      subst this
      have hm : m_rg (a 4) 0 1000000000000 := hm
      refine ⟨fun h0 => K false ⟨fun z => absurd z (by decide), fun hg => ?_⟩, fun h0 => ⟨is_mk c2.1.2.1, ?_⟩⟩
      · rw [i64lt, z64i] at h0
        have := hg.1.1
        omega
      · rw [i64lt, z64i] at h0
        rw [Option.getD_some, c7, Option.getD_some]
        refine ⟨is_mk c10.2.1, ?_⟩
        refine ls_base (d := d) hBD hw.2.2.1 (lt_of_get c9) c8 (fun bc hbl hbc _ => ?_)
        obtain ⟨bc', z1, z2, z3⟩ := hBD.2.2.2.1 _ _ (getD_some mLoss0 hbl)
        have eb : bc' = bc := Option.some.inj (z1.symm.trans hbc)
        subst eb
        rw [Option.getD_some, z2.2.2.2.2.2.2.2.1, hD.h4]
        have h6 : (m_items Ls (m_base Ls x.2.2.1)).length ≤ 6 := (hw.2.2.1.2.1 _ _ (getD_some mLoss0 hbl)).2.2.2
        have hit : (Ls.getD (m_base Ls x.2.2.1) mLoss0).2.2.2.2.2 = m_items Ls (m_base Ls x.2.2.1) := rfl
        rw [hit]
        have elt : (a 2 < (Int32.ofNat (m_items Ls (m_base Ls x.2.2.1)).length).toInt64) ↔ (a 2).toInt < (m_items Ls (m_base Ls x.2.2.1)).length := by
          rw [i64lt, t64, n32 (by omega)]
        have hday : (¬ (a 5 < 0) ∧ ¬ (10949 < a 5)) ↔ m_rg (a 5) 0 10949 := by
          unfold m_rg
          rw [i64lt, i64lt, z64i, tD]
          omega
        have fin : (a 2).toInt < (m_items Ls (m_base Ls x.2.2.1)).length → m_rg (a 3) 0 1 → c_Bk_isAsTold_147 nl Ln xs (d + 2) b (some c') (some D) (Int32.ofNat o) (m_cOf 16 a) (a 2) σ F := fun h2 h3 => by
          refine w_Bk_isAsTold_147 ⟨hD.s6, ?_⟩
          rw [Option.getD_some, hD.h6]
          refine w_Co_isDay (fun _ => K _ ⟨fun z => ?_, fun hg => ?_⟩)
          · exact ⟨⟨by omega, h2⟩, h3, hm, hday.mp (of_decide_eq_true (of_decide_eq_true z))⟩
          · exact decide_eq_true (decide_eq_true (hday.mpr hg.2.2.2))
        refine ⟨is_mk z2.2.1, fun h2 => ⟨hD.s4, fun h3 => fin (elt.mp h2) ?_, fun h3 => ⟨hD.s4, fun h4 => fin (elt.mp h2) ?_, fun h4 => K false ⟨fun z => absurd z (by decide), fun hg => ?_⟩⟩⟩, fun h2 => K false ⟨fun z => absurd z (by decide), fun hg => absurd (elt.mpr hg.1.2) h2⟩⟩
        · rw [h3]
          exact ⟨by decide, by decide⟩
        · rw [h4]
          exact ⟨by decide, by decide⟩
        · have h5 := hg.2.1
          rw [i64e, z64i] at h3
          rw [i64e, t1] at h4
          have := h5.1
          have := h5.2
          omega
    · have := (neq (m := 17) (by decide)).mp hv
      subst this
      have h15 : (¬ (a 2 < 1) ∧ (a 2 < 6)) ↔ m_rg (a 2) 1 5 := by
        unfold m_rg
        rw [i64lt, i64lt, t1, t6]
        omega
      exact K _ ⟨fun z => ⟨h15.mp (of_decide_eq_true z), hm⟩, fun hg => decide_eq_true (h15.mpr hg.1)⟩
    · rw [n32 (by omega)] at hv
      have hn : n = 14 ∨ n = 18 ∨ n = 19 := by
        rcases hv with h | h
        · omega
        · exact Or.inl ((neq (m := 14) (by decide)).mp h)
      refine K true ⟨fun _ => ?_, fun _ => rfl⟩
      rcases hn with rfl | rfl | rfl
      · exact trivial
      · exact hm
      · exact hm
  · refine absurd (decide_eq_true ((hmon _).mpr ?_)) hm
    have hn : n = 12 ∨ n = 13 ∨ n = 14 ∨ n = 15 ∨ n = 16 ∨ n = 17 ∨ n = 18 ∨ n = 19 := by omega
    rcases hn with rfl | rfl | rfl | rfl | rfl | rfl | rfl | rfl
    · exact hg.2
    · exact ⟨by have := hg.1; show 0 ≤ (a 2).toInt; omega, hg.2⟩
    · exact ⟨show 0 ≤ (0 : Int64).toInt by decide, show (0 : Int64).toInt ≤ 1000000000000 by decide⟩
    · exact ⟨show 0 ≤ (0 : Int64).toInt by decide, show (0 : Int64).toInt ≤ 1000000000000 by decide⟩
    · exact hg.2.2.1
    · exact hg.2
    · exact hg
    · exact hg
end
