/-! WORKING OUT, by the reference: conditions; the state of a working -/
def hgt : mF → Nat
  | .append a b => max (hgt a) (hgt b) + 1
  | .tag _ a => hgt a + 1
  | _ => 0
theorem ofInt_to {n : Int} (h0 : 0 ≤ n) (h1 : n < 1000000000) : (Int32.ofInt n).toInt = n := by
  rw [Int32.toInt_ofInt]
  have hs : Int32.size = 4294967296 := rfl
  rw [hs]
  exact Int.bmod_eq_of_le (by omega) (by omega)
section
variable {nl : Bool} {Ln : Nat} {xs : Nat → Int32} {d : Nat} {σ : am_S} {o : Nat} {P : List mPol} {T : List mTell} {Ls : List mLoss} {Cs : List mCase} {i : Nat} {c : mCase} {day at' : Int32} {lk : Bool} {rows : List mRow} {tr : List Int32}
abbrev m_hld (Ls : List mLoss) (c : mCase) (day at' : Int32) (t : mF) (op : Bool) : mTr Bool := m_holds (m_lis Ls c.2.2.1) (m_all Ls c day at' 0) (Int32.ofNat (m_items Ls (m_base Ls c.2.2.1)).length) (c.2.2.2.1 - m_ld Ls c) (m_hasSort Ls (m_base Ls c.2.2.1)) t op
theorem Rc.nodes {fs as ms : List Nat} {σ1 : am_S} (hr : Rc o fs as ms σ σ1) (lo : 1063 ≤ o) (hm : ∀ x ∈ ms, x < 1063) (h4 : 24 ∉ as) (h5 : 25 ∉ as) (h6 : 26 ∉ as) {t : mF} {op k : Nat} (h : CndR σ o t op k) : CndR σ1 o t op k :=
  CndR.eq t op k (fun j _ => ⟨hr.aI lo hm h4, hr.aI lo hm h5, hr.aI lo hm h6⟩) h
theorem tM_lt (lk : Bool) : ∀ x ∈ tM lk, x < 1063 := by cases lk <;> simp [tM]
theorem r_holds (w : WfD P T Ls Cs) : ∀ (t : mF) (op idx : Nat) (σ : am_S) (tr : List Int32) (F : Bool → am_S → Prop), Ev σ o P T Ls Cs i c day at' lk rows tr → CndR σ o t op idx → idx < 30400 → (∀ σ', Ev σ' o P T Ls Cs i c day at' lk rows (tr ++ (m_hld Ls c day at' t (decide (op = 0))).2) → Rc o (tF lk) [] (tM lk) σ σ' → F (m_hld Ls c day at' t (decide (op = 0))).1 σ') → k_Ro_holds nl Ln xs (d + hgt t + 8) o (Int32.ofNat idx) σ F := by
  intro t
  have h200 := w.l200
  have h100 := w.c100
  induction t with
  | append a b iha ihb =>
    intro op idx σ tr F E hc hid K
    obtain ⟨⟨ho, h1⟩, x, y, hx, hy, h2, h3, h4, h5⟩ := hc
    have lo := E.1.k.lo
    have bi : 0 ≤ (Int32.ofNat idx).toInt ∧ (Int32.ofNat idx).toInt < 30400 := by rw [n32 (by omega)]; omega
    have hd1 : d + hgt a + 8 ≤ d + hgt (.append a b) + 7 := by simp only [hgt]; omega
    have hd2 : d + hgt b + 8 ≤ d + hgt (.append a b) + 7 := by simp only [hgt]; omega
    refine w_Ro_holds ?_
    rw [oG_13033 E.1.k, oG_13032 E.1.k, n32c (by omega), h2, h1]
    refine ⟨is_mk E.1.k.2.1, oA_13033 E.1.k bi.1 bi.2, ?_⟩
    rintro v3 rfl
    have h01 : op = 0 ∨ op = 1 := by omega
    rcases h01 with rfl | rfl
    · refine ⟨oA_13032 E.1.k bi.1 bi.2, fun _ => w_Ro_holds_56 ⟨is_mk E.1.k.2.1, ?_⟩, fun q => absurd q (by decide), fun q => absurd q (by decide), fun q => absurd q (by decide), fun q => absurd q (by decide), fun q => absurd q (by decide), fun q => absurd q (by decide), fun q => absurd q (by decide)⟩
      refine (iha 0 x σ tr _ E h4 (by omega) (fun s1 E1 hr1 _ => ⟨fun h => ?_, fun h => ?_⟩)).dn hd1
      · have e : m_hld Ls c day at' (.append a b) (decide (0 = 0)) = (true, (m_hld Ls c day at' a (decide (0 = 0))).2) := by
          exact if_pos h
        rw [e] at K
        exact K s1 E1 hr1
      · have e : m_hld Ls c day at' (.append a b) (decide (0 = 0)) = ((m_hld Ls c day at' b (decide (0 = 0))).1, (m_hld Ls c day at' a (decide (0 = 0))).2 ++ (m_hld Ls c day at' b (decide (0 = 0))).2) := by
          exact if_neg h
        rw [e] at K
        have v3 : am_aI s1 (o + 26) idx = Int32.ofNat y := (hr1.aI lo (tM_lt lk) (by simp)).trans h3
        rw [oG_13034 E1.1.k, n32c (by omega), v3]
        refine ⟨oA_13034 E1.1.k bi.1 bi.2, (ihb 0 y s1 _ _ E1 (hr1.nodes lo (tM_lt lk) (by simp) (by simp) (by simp) h5) (by omega) (fun s2 E2 hr2 _ => ?_)).dn hd2⟩
        rw [dtrue]
        exact K s2 (by rw [List.append_assoc] at E2; exact E2) (hr1.trans hr2)
    · refine ⟨oA_13032 E.1.k bi.1 bi.2, fun q => absurd q (by decide), fun _ => w_Ro_holds_83 ⟨is_mk E.1.k.2.1, ?_⟩, fun q => absurd q (by decide), fun q => absurd q (by decide), fun q => absurd q (by decide), fun q => absurd q (by decide), fun q => absurd q (by decide), fun q => absurd q (by decide)⟩
      refine (iha 1 x σ tr _ E h4 (by omega) (fun s1 E1 hr1 _ => ⟨fun h => ?_, fun h => ?_⟩)).dn hd1
      · have e : m_hld Ls c day at' (.append a b) (decide (1 = 0)) = ((m_hld Ls c day at' b (decide (1 = 0))).1, (m_hld Ls c day at' a (decide (1 = 0))).2 ++ (m_hld Ls c day at' b (decide (1 = 0))).2) := by
          show (if _ = _ then _ else _) = _
          rw [if_neg (by rw [h]; decide)]
        rw [e] at K
        have v3 : am_aI s1 (o + 26) idx = Int32.ofNat y := (hr1.aI lo (tM_lt lk) (by simp)).trans h3
        rw [oG_13034 E1.1.k, n32c (by omega), v3]
        refine ⟨oA_13034 E1.1.k bi.1 bi.2, (ihb 1 y s1 _ _ E1 (hr1.nodes lo (tM_lt lk) (by simp) (by simp) (by simp) h5) (by omega) (fun s2 E2 hr2 _ => ?_)).dn hd2⟩
        rw [dtrue]
        exact K s2 (by rw [List.append_assoc] at E2; exact E2) (hr1.trans hr2)
      · have hf : (m_hld Ls c day at' a (decide (1 = 0))).1 = false := by
          cases hb : (m_hld Ls c day at' a (decide (1 = 0))).1
          · rfl
          · exact absurd hb h
        have e : m_hld Ls c day at' (.append a b) (decide (1 = 0)) = (false, (m_hld Ls c day at' a (decide (1 = 0))).2) := by
          exact if_pos hf
        rw [e] at K
        exact K s1 E1 hr1
  | tag k a iha =>
    intro op idx σ tr F E hc hid K
    have lo := E.1.k.lo
    have bi : 0 ≤ (Int32.ofNat idx).toInt ∧ (Int32.ofNat idx).toInt < 30400 := by rw [n32 (by omega)]; omega
    unfold CndR at hc
    by_cases hk : k = 2
    · rw [if_pos hk] at hc
      obtain ⟨h1, x, hx, h2, h3⟩ := hc
      have e : m_hld Ls c day at' (.tag k a) (decide (op = 0)) = (! (m_hld Ls c day at' a true).1, (m_hld Ls c day at' a true).2) := by
        show (if k = 2 then _ else _) = _
        rw [if_pos hk]
      rw [e] at K
      refine w_Ro_holds ?_
      rw [oG_13033 E.1.k, oG_13032 E.1.k, n32c (by omega), h2, h1]
      refine ⟨is_mk E.1.k.2.1, oA_13033 E.1.k bi.1 bi.2, ?_⟩
      rintro v3 rfl
      refine ⟨oA_13032 E.1.k bi.1 bi.2, fun q => absurd q (by decide), fun q => absurd q (by decide), fun _ => w_Ro_holds_110 ⟨is_mk E.1.k.2.1, ?_⟩, fun q => absurd q (by decide), fun q => absurd q (by decide), fun q => absurd q (by decide), fun q => absurd q (by decide), fun q => absurd q (by decide)⟩
      refine (iha 0 x σ tr _ E h3 (by omega) (fun s1 E1 hr1 _ => ?_)).dn (by simp only [hgt]; omega)
      have e2 : decide (¬ (m_hld Ls c day at' a (decide (0 = 0))).1 = true) = ! (m_hld Ls c day at' a true).1 := by
        show decide (¬ (m_hld Ls c day at' a true).1 = true) = _
        cases (m_hld Ls c day at' a true).1 <;> rfl
      rw [e2]
      exact K s1 E1 hr1
    · rw [if_neg hk] at hc
      have e : m_hld Ls c day at' (.tag k a) (decide (op = 0)) = m_hld Ls c day at' a (decide (k = 0)) := by
        show (if k = 2 then _ else _) = _
        rw [if_neg hk]
      rw [e] at K
      exact (iha k idx σ tr F E hc hid K).dn (by simp only [hgt]; omega)
  | nest cc a iha =>
    intro op idx σ tr F E hc hid K
    cases a with
    | nest n b =>
      cases b with
      | nil =>
        obtain ⟨h1, h2, h3, h4, h5, h6, h7⟩ := hc
        have bi : 0 ≤ (Int32.ofNat idx).toInt ∧ (Int32.ofNat idx).toInt < 30400 := by rw [n32 (by omega)]; omega
        have hn := ofInt_to h5 h6
        have hl := (w.c E.2.1).2.1
        have hgl := getD_some mLoss0 hl
        have hi := E.2.1
        have hlt := lt_of_get hi
        refine w_Ro_holds ?_
        rw [oG_13033 E.1.k, oG_13032 E.1.k, n32c (by omega), h2, h1]
        refine ⟨is_mk E.1.k.2.1, oA_13033 E.1.k bi.1 bi.2, ?_⟩
        rintro v3 rfl
        have hcs : cc = 3 ∨ cc = 4 ∨ cc = 5 ∨ cc = 6 ∨ cc = 7 := by omega
        rcases hcs with rfl | rfl | rfl | rfl | rfl
        · refine ⟨oA_13032 E.1.k bi.1 bi.2, fun q => absurd q (by decide), fun q => absurd q (by decide), fun q => absurd q (by decide), fun _ => w_Ro_holds_124 ⟨is_mk E.1.k.2.1, r_all w E (Or.inl rfl) (fun _ => ?_)⟩, fun q => absurd q (by decide), fun q => absurd q (by decide), fun q => absurd q (by decide), fun q => absurd q (by decide)⟩
          have e : decide ((Int32.ofInt n).toInt64 < m_all Ls c day at' 0) = decide (n < (m_all Ls c day at' 0).toInt) := decide_eq_decide.mpr (by rw [i64lt, t64, hn])
          rw [e]
          exact K σ (by rw [show (m_hld Ls c day at' (.nest 3 (.nest n .nil)) (decide (op = 0))).2 = [] from rfl, List.append_nil]; exact E) Rc.rf
        · refine ⟨oA_13032 E.1.k bi.1 bi.2, fun q => absurd q (by decide), fun q => absurd q (by decide), fun q => absurd q (by decide), fun q => absurd q (by decide), fun _ => w_Ro_holds_141 ⟨is_mk E.1.k.2.1, r_items w E (fun _ => ?_)⟩, fun q => absurd q (by decide), fun q => absurd q (by decide), fun q => absurd q (by decide)⟩
          have e : decide (Int32.ofInt n < Int32.ofNat (m_items Ls (m_base Ls c.2.2.1)).length) = decide (n < (Int32.ofNat (m_items Ls (m_base Ls c.2.2.1)).length).toInt) := decide_eq_decide.mpr (by rw [i32lt, hn])
          rw [e]
          exact K σ (by rw [show (m_hld Ls c day at' (.nest 4 (.nest n .nil)) (decide (op = 0))).2 = [] from rfl, List.append_nil]; exact E) Rc.rf
        · have v4 : am_aI σ (o + 39) i = c.2.2.2.1 := E.1.cas.2.2.2.2.1 i _ hi
          have v5 : am_aI σ (o + 28) c.2.2.1 = m_ld Ls c := E.1.los.2.2.1 _ _ hgl
          refine ⟨oA_13032 E.1.k bi.1 bi.2, fun q => absurd q (by decide), fun q => absurd q (by decide), fun q => absurd q (by decide), fun q => absurd q (by decide), fun q => absurd q (by decide), fun _ => w_Ro_holds_155 ?_, fun q => absurd q (by decide), fun q => absurd q (by decide)⟩
          rw [E.2.2.1, E.2.2.2.1, oG_13049 E.1.k, oG_13037 E.1.k, n32c (show i < 2147483648 by omega), n32c (show c.2.2.1 < 2147483648 by omega), v4, v5]
          refine ⟨is_mk E.1.k.2.1, oA_13049 E.1.k (by rw [n32 (by omega)]; omega) (by rw [n32 (by omega)]; omega), oA_13037 E.1.k (by rw [n32 (by omega)]; omega) (by rw [n32 (by omega)]; omega), ?_⟩
          have e : decide (Int32.ofInt n < c.2.2.2.1 - m_ld Ls c) = decide (n < (c.2.2.2.1 - m_ld Ls c).toInt) := decide_eq_decide.mpr (by rw [i32lt, hn])
          rw [e]
          exact K σ (by rw [show (m_hld Ls c day at' (.nest 5 (.nest n .nil)) (decide (op = 0))).2 = [] from rfl, List.append_nil]; exact E) Rc.rf
        · refine ⟨oA_13032 E.1.k bi.1 bi.2, fun q => absurd q (by decide), fun q => absurd q (by decide), fun q => absurd q (by decide), fun q => absurd q (by decide), fun q => absurd q (by decide), fun q => absurd q (by decide), fun _ => w_Ro_holds_184 ⟨is_mk E.1.k.2.1, ?_⟩, fun q => absurd q (by decide)⟩
          rw [E.2.2.2.1]
          have hb := root_lt w.l 4 c.2.2.1 hl
          have hb2 : m_base Ls c.2.2.1 < Ls.length := by unfold m_base; omega
          refine r_root E.1.k E.1.los w.l h200 hl (fun _ => r_hasSort E.1.k E.1.los w.l h200 hb2 (fun _ => ?_))
          rw [dtrue]
          exact K σ (by rw [show (m_hld Ls c day at' (.nest 6 (.nest n .nil)) (decide (op = 0))).2 = [] from rfl, List.append_nil]; exact E) Rc.rf
        · refine ⟨oA_13032 E.1.k bi.1 bi.2, fun q => absurd q (by decide), fun q => absurd q (by decide), fun q => absurd q (by decide), fun q => absurd q (by decide), fun q => absurd q (by decide), fun q => absurd q (by decide), fun q => absurd q (by decide), fun _ => w_Ro_holds_199 ⟨fun h => ?_, fun h => ⟨is_mk E.1.k.2.1, r_is w E (fun s1 E1 hr1 _ => ?_)⟩⟩⟩
          · have hn5 : n = 5 := by
              have := congrArg Int32.toInt h
              rw [hn] at this
              exact this
            subst hn5
            exact K σ (by rw [show (m_hld Ls c day at' (.nest 7 (.nest 5 .nil)) (decide (op = 0))).2 = [] from rfl, List.append_nil]; exact E) Rc.rf
          · have hn5 : ¬ n = 5 := fun q => h (by rw [q]; rfl)
            have e : m_hld Ls c day at' (.nest 7 (.nest n .nil)) (decide (op = 0)) = m_lis Ls c.2.2.1 (Int32.ofInt n) := by
              show (if n = 5 then _ else _) = _
              rw [if_neg hn5]
            rw [e] at K
            rw [dtrue]
            exact K s1 E1 hr1
      | _ => exact absurd hc (by simp [CndR])
    | _ => exact absurd hc (by simp [CndR])
  | _ => intro op idx σ tr F E hc; exact absurd hc (by simp [CndR])
end
