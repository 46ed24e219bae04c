/-! THE MODEL: what the reader of texts may give -/
/-- a condition as the reader makes it -/
def tgO : mF → Prop
  | .append a b => tgO a ∧ tgO b ∧ isP b
  | .tag q a => (if q = 2 then isP a else q ≤ 1 ∧ ∃ x y, a = .append x y) ∧ tgO a
  | .nest c (.nest n .nil) => 3 ≤ c ∧ c ≤ 7 ∧ 0 ≤ n ∧ n < 1000000000 ∧ (c = 7 → n ≤ 5)
  | _ => False
def TkV (l : List mTok) : Prop := ∀ y ∈ l, 0 ≤ y.2.1.toInt ∧ y.2.1.toInt < 1000000000
def AcO (l r : List mTok) (t : mF) (dp : Nat) : Prop := r <:+ l ∧ tgO t ∧ r.length + hgt t + 1 ≤ l.length ∧ csz t + 28 + 30 * r.length ≤ 30 * l.length ∧ ndep t ≤ dp
def PcO (l r : List mTok) (t : mF) (dp : Nat) : Prop := isP t ∧ AcO l r t dp
section
variable {l l0 r : List mTok} {t acc : mF} {dp dp' : Nat}
theorem TkV.suf (h : TkV l) (s : r <:+ l) : TkV r := fun y hy => h y (s.subset hy)
theorem hd_cons (h : (m_hd l).1 ≠ 30) : ∃ x k, l = x :: k ∧ m_hd l = x := by
  cases l with
  | nil => exact absurd rfl h
  | cons x k => exact ⟨x, k, rfl, rfl⟩
theorem tl_len (h : (m_hd l).1 ≠ 30) : l.tail.length + 1 = l.length := by
  obtain ⟨x, k, rfl, -⟩ := hd_cons h
  rfl
theorem AcO.mono (h : AcO l r t dp) (hd : dp ≤ dp') : AcO l r t dp' := ⟨h.1, h.2.1, h.2.2.1, h.2.2.2.1, Nat.le_trans h.2.2.2.2 hd⟩
theorem PcO.mono (h : PcO l r t dp) (hd : dp ≤ dp') : PcO l r t dp' := ⟨h.1, h.2.mono hd⟩
theorem AcO.pre (h : AcO l r t dp) (hs : l <:+ l0) : AcO l0 r t dp := by
  have := hs.length_le
  exact ⟨h.1.trans hs, h.2.1, by have := h.2.2.1; omega, by have := h.2.2.2.1; omega, h.2.2.2.2⟩
theorem ac_join (A : AcO l0 l acc dp) (h : (m_hd l).1 ≠ 30) (B : PcO l.tail r t dp) : AcO l0 r (.append acc t) dp ∧ ∀ q, q ≤ 1 → PcO l0 r (.tag q (.append acc t)) (dp + 1) := by
  obtain ⟨a1, a2, a3, a4, a5⟩ := A
  obtain ⟨b0, b1, b2, b3, b4, b5⟩ := B
  have e := tl_len h
  have s : r <:+ l0 := (b1.trans (List.tail_suffix l)).trans a1
  have hh : hgt (.append acc t) = max (hgt acc) (hgt t) + 1 := rfl
  have hc : csz (.append acc t) = csz acc + csz t + 40 := rfl
  have hn : ndep (.append acc t) = max (ndep acc) (ndep t) := rfl
  refine ⟨⟨s, ⟨a2, b2, b0⟩, by omega, by omega, by omega⟩, fun q hq => ⟨trivial, s, ⟨?_, a2, b2, b0⟩, ?_, ?_, ?_⟩⟩
  · rw [if_neg (by omega)]
    exact ⟨hq, acc, t, rfl⟩
  · have : hgt (.tag q (.append acc t)) = hgt (.append acc t) + 1 := rfl
    omega
  · have : csz (.tag q (.append acc t)) = csz (.append acc t) + 10 := rfl
    omega
  · have : ndep (.tag q (.append acc t)) = ndep (.append acc t) + 1 := rfl
    omega
end
theorem cond_ok : ∀ (f : Nat),
    (∀ op acc l t r, op ≤ 20 → TkV l → m_cond f 0 op acc l = .inr (t, r) → PcO l r t (2 * (20 - op))) ∧
    (∀ op acc l t r, op ≤ 20 → TkV l → m_cond f 1 op acc l = .inr (t, r) → PcO l r t (2 * (20 - op) + 1)) ∧
    (∀ op acc l0 l t r, op ≤ 20 → TkV l → (m_hd l).1 = 13 → AcO l0 l acc (2 * (20 - op)) → m_cond f 2 op acc l = .inr (t, r) → PcO l0 r t (2 * (20 - op) + 1)) ∧
    (∀ op acc l t r, op ≤ 20 → TkV l → m_cond f 3 op acc l = .inr (t, r) → PcO l r t (2 * (20 - op) + 2)) ∧
    (∀ op acc l0 l t r, op ≤ 20 → TkV l → (m_hd l).1 = 12 → AcO l0 l acc (2 * (20 - op) + 1) → m_cond f 4 op acc l = .inr (t, r) → PcO l0 r t (2 * (20 - op) + 2)) := by
  intro f
  induction f with
  | zero =>
    refine ⟨?_, ?_, ?_, ?_, ?_⟩
    · intro op acc l t r _ _ h; exact absurd h (by simp [m_cond])
    · intro op acc l t r _ _ h; exact absurd h (by simp [m_cond])
    · intro op acc l0 l t r _ _ _ _ h; exact absurd h (by simp [m_cond])
    · intro op acc l t r _ _ h; exact absurd h (by simp [m_cond])
    · intro op acc l0 l t r _ _ _ _ h; exact absurd h (by simp [m_cond])
  | succ f ih =>
    obtain ⟨i0, i1, i2, i3, i4⟩ := ih
    have leaf : ∀ {l : List mTok} {c n : Int} {dp : Nat}, (m_hd l).1 ≠ 30 → (m_hd l.tail).1 ≠ 30 → 3 ≤ c → c ≤ 7 → 0 ≤ n → n < 1000000000 → (c = 7 → n ≤ 5) → PcO l l.tail.tail (.nest c (.nest n .nil)) dp := by
      intro l c n dp h1 h2 c1 c2 n1 n2 n3
      have e1 := tl_len h1
      have e2 := tl_len h2
      have hh : hgt (.nest c (.nest n .nil)) = 0 := rfl
      have hc : csz (.nest c (.nest n .nil)) = 32 := rfl
      have hn : ndep (.nest c (.nest n .nil)) = 0 := rfl
      exact ⟨trivial, (List.tail_suffix _).trans (List.tail_suffix _), ⟨c1, c2, n1, n2, n3⟩, by omega, by omega, by omega⟩
    refine ⟨?_, ?_, ?_, ?_, ?_⟩
    · intro op acc l t r ho hv h
      rw [m_cond, if_pos rfl] at h
      have ts : l.tail <:+ l := List.tail_suffix l
      by_cases h14 : (m_hd l).1 = 14
      · rw [if_pos h14] at h
        have e1 := tl_len (l := l) (by omega)
        by_cases h20 : 20 ≤ op
        · rw [if_pos h20] at h; exact absurd h (by simp)
        · rw [if_neg h20] at h
          cases hm : m_cond f 0 (op + 1) acc l.tail with
          | inl e => rw [hm] at h; exact absurd h (by simp)
          | inr tr =>
            obtain ⟨t1, r1⟩ := tr
            rw [hm] at h
            have h := Sum.inr.inj h
            obtain ⟨rfl, rfl⟩ := Prod.mk.inj h
            obtain ⟨b0, b1, b2, b3, b4, b5⟩ := i0 (op + 1) acc l.tail t1 r1 (by omega) (hv.suf ts) hm
            refine ⟨trivial, b1.trans ts, ⟨by rw [if_pos rfl]; exact b0, b2⟩, ?_, ?_, ?_⟩
            · have : hgt (.tag 2 t1) = hgt t1 + 1 := rfl
              omega
            · have : csz (.tag 2 t1) = csz t1 + 10 := rfl
              omega
            · have : ndep (.tag 2 t1) = ndep t1 + 1 := rfl
              omega
      · rw [if_neg h14] at h
        by_cases h27 : (m_hd l).1 = 27
        · rw [if_pos h27] at h
          have e1 := tl_len (l := l) (by omega)
          by_cases h20 : 20 ≤ op
          · rw [if_pos h20] at h; exact absurd h (by simp)
          · rw [if_neg h20] at h
            cases hm : m_cond f 3 (op + 1) acc l.tail with
            | inl e => rw [hm] at h; exact absurd h (by simp)
            | inr tr =>
              obtain ⟨t1, r1⟩ := tr
              rw [hm] at h
              simp only at h
              by_cases h28 : (m_hd r1).1 = 28
              · rw [if_pos h28] at h
                have h := Sum.inr.inj h
                obtain ⟨rfl, rfl⟩ := Prod.mk.inj h
                have e2 := tl_len (l := r1) (by omega)
                obtain ⟨b0, b1, b2, b3, b4, b5⟩ := i3 (op + 1) acc l.tail t1 r1 (by omega) (hv.suf ts) hm
                exact ⟨b0, ((List.tail_suffix r1).trans b1).trans ts, b2, by omega, by omega, by omega⟩
              · rw [if_neg h28] at h; exact absurd h (by simp)
        · rw [if_neg h27] at h
          by_cases h15 : 15 ≤ (m_hd l).1 ∧ (m_hd l).1 ≤ 18
          · rw [if_pos h15] at h
            by_cases h26 : (m_hd l.tail).1 = 26
            · rw [if_pos h26] at h
              have h := Sum.inr.inj h
              obtain ⟨rfl, rfl⟩ := Prod.mk.inj h
              obtain ⟨x, k, hx, hx2⟩ := hd_cons (l := l.tail) (by omega)
              have hb := hv (m_hd l.tail) (ts.subset (by rw [hx2, hx]; exact List.mem_cons_self))
              exact leaf (by omega) (by omega) (by simp only [Int.ofNat_eq_natCast]; omega) (by simp only [Int.ofNat_eq_natCast]; omega) hb.1 hb.2 (fun z => by simp only [Int.ofNat_eq_natCast] at z; omega)
            · rw [if_neg h26] at h; exact absurd h (by simp)
          · rw [if_neg h15] at h
            by_cases h19 : (m_hd l).1 = 19
            · rw [if_pos h19] at h
              by_cases h20 : 20 ≤ (m_hd l.tail).1 ∧ (m_hd l.tail).1 ≤ 25
              · rw [if_pos h20] at h
                have h := Sum.inr.inj h
                obtain ⟨rfl, rfl⟩ := Prod.mk.inj h
                exact leaf (by omega) (by omega) (by decide) (by decide) (by simp only [Int.ofNat_eq_natCast]; omega) (by simp only [Int.ofNat_eq_natCast]; omega) (fun _ => by simp only [Int.ofNat_eq_natCast]; omega)
              · rw [if_neg h20] at h; exact absurd h (by simp)
            · rw [if_neg h19] at h; exact absurd h (by simp)
    · intro op acc l t r ho hv h
      rw [m_cond, if_neg (by decide), if_pos rfl] at h
      cases hm : m_cond f 0 op acc l with
      | inl e => rw [hm] at h; exact absurd h (by simp)
      | inr tr =>
        obtain ⟨t1, r1⟩ := tr
        rw [hm] at h
        simp only at h
        have A := i0 op acc l t1 r1 ho hv hm
        by_cases h13 : (m_hd r1).1 = 13
        · rw [if_pos h13] at h
          exact i2 op t1 l r1 t r ho (hv.suf A.2.1) h13 A.2 h
        · rw [if_neg h13] at h
          have h := Sum.inr.inj h
          obtain ⟨rfl, rfl⟩ := Prod.mk.inj h
          exact A.mono (by omega)
    · intro op acc l0 l t r ho hv h13 A h
      rw [m_cond, if_neg (by decide), if_neg (by decide), if_pos rfl] at h
      have ts : l.tail <:+ l := List.tail_suffix l
      cases hm : m_cond f 0 op acc l.tail with
      | inl e => rw [hm] at h; exact absurd h (by simp)
      | inr tr =>
        obtain ⟨t1, r1⟩ := tr
        rw [hm] at h
        simp only at h
        have B := i0 op acc l.tail t1 r1 ho (hv.suf ts) hm
        have J := ac_join A (by omega) B
        by_cases h13' : (m_hd r1).1 = 13
        · rw [if_pos h13'] at h
          exact i2 op (.append acc t1) l0 r1 t r ho ((hv.suf ts).suf B.2.1) h13' J.1 h
        · rw [if_neg h13'] at h
          have h := Sum.inr.inj h
          obtain ⟨rfl, rfl⟩ := Prod.mk.inj h
          exact J.2 1 (by decide)
    · intro op acc l t r ho hv h
      rw [m_cond, if_neg (by decide), if_neg (by decide), if_neg (by decide), if_pos rfl] at h
      cases hm : m_cond f 1 op acc l with
      | inl e => rw [hm] at h; exact absurd h (by simp)
      | inr tr =>
        obtain ⟨t1, r1⟩ := tr
        rw [hm] at h
        simp only at h
        have A := i1 op acc l t1 r1 ho hv hm
        by_cases h13 : (m_hd r1).1 = 12
        · rw [if_pos h13] at h
          exact i4 op t1 l r1 t r ho (hv.suf A.2.1) h13 A.2 h
        · rw [if_neg h13] at h
          have h := Sum.inr.inj h
          obtain ⟨rfl, rfl⟩ := Prod.mk.inj h
          exact A.mono (by omega)
    · intro op acc l0 l t r ho hv h13 A h
      rw [m_cond, if_neg (by decide), if_neg (by decide), if_neg (by decide), if_neg (by decide)] at h
      have ts : l.tail <:+ l := List.tail_suffix l
      cases hm : m_cond f 1 op acc l.tail with
      | inl e => rw [hm] at h; exact absurd h (by simp)
      | inr tr =>
        obtain ⟨t1, r1⟩ := tr
        rw [hm] at h
        simp only at h
        have B := i1 op acc l.tail t1 r1 ho (hv.suf ts) hm
        have J := ac_join A (by omega) B
        by_cases h13' : (m_hd r1).1 = 12
        · rw [if_pos h13'] at h
          exact i4 op (.append acc t1) l0 r1 t r ho ((hv.suf ts).suf B.2.1) h13' J.1 h
        · rw [if_neg h13'] at h
          have h := Sum.inr.inj h
          obtain ⟨rfl, rfl⟩ := Prod.mk.inj h
          exact J.2 0 (by decide)
/-- what a clause keeps to -/
def ClC (c : mCl) : Prop := WfCl c ∧ ∀ f, c.2.2 = some f → isP f ∧ tgO f ∧ hgt f ≤ 400 ∧ ndep f ≤ 42 ∧ c.1.toInt ≤ 1
section
variable {l r : List mTok} {c : mCl}
theorem stop_ok {c0 : mCl} (h : m_stop c0 l = .inr (c, r)) : c = c0 ∧ r <:+ l ∧ r.length + 1 ≤ l.length := by
  unfold m_stop at h
  by_cases h29 : (m_hd l).1 = 29
  · rw [if_pos h29] at h
    obtain ⟨rfl, rfl⟩ := Prod.mk.inj (Sum.inr.inj h)
    have := tl_len (l := l) (by omega)
    exact ⟨rfl, List.tail_suffix l, by omega⟩
  · rw [if_neg h29] at h; exact absurd h (by simp)
theorem numd_ok {code : Int32} (hv : TkV l) (h : m_numd code l = .inr (c, r)) (h0 : 2 ≤ code.toInt) (h1 : code.toInt ≤ 11) : ClC c ∧ r <:+ l ∧ clsz c + 30 * r.length ≤ 30 * l.length + 70 := by
  unfold m_numd at h
  by_cases h26 : (m_hd l).1 = 26
  · rw [if_pos h26] at h
    obtain ⟨rfl, s1, s2⟩ := stop_ok h
    have e := tl_len (l := l) (by omega)
    obtain ⟨x, k, hx, hx2⟩ := hd_cons (l := l) (by omega)
    have hb := hv (m_hd l) (by rw [hx2, hx]; exact List.mem_cons_self)
    refine ⟨⟨⟨by show 0 ≤ code.toInt; omega, h1, hb.1, hb.2, fun z => absurd (show code.toInt ≤ 1 from z) (by omega)⟩, fun f hf => absurd hf (by simp)⟩, s1.trans (List.tail_suffix l), ?_⟩
    show 70 + 0 + _ ≤ _
    omega
  · rw [if_neg h26] at h; exact absurd h (by simp)
theorem bare_ok {code n : Int32} (h : m_stop (code, n, none) l = .inr (c, r)) (h0 : 0 ≤ code.toInt) (h1 : code.toInt ≤ 11) (n0 : 0 ≤ n.toInt) (n1 : n.toInt ≤ 5) : ClC c ∧ r <:+ l ∧ clsz c + 30 * r.length ≤ 30 * l.length + 70 := by
  obtain ⟨rfl, s1, s2⟩ := stop_ok h
  refine ⟨⟨⟨h0, h1, n0, by show n.toInt < _; omega, fun _ => n1⟩, fun f hf => absurd hf (by simp)⟩, s1, ?_⟩
  show 70 + 0 + _ ≤ _
  omega
theorem clause_ok (hl : l.length ≤ 401) (hv : TkV l) (h : m_clause l = .inr (c, r)) : ClC c ∧ r <:+ l ∧ clsz c + 30 * r.length ≤ 30 * l.length + 70 := by
  have ts : l.tail <:+ l := List.tail_suffix l
  have ts2 : l.tail.tail <:+ l := (List.tail_suffix _).trans ts
  have up : ∀ {k : List mTok}, k <:+ l → ClC c ∧ r <:+ k ∧ clsz c + 30 * r.length ≤ 30 * k.length + 70 → ClC c ∧ r <:+ l ∧ clsz c + 30 * r.length ≤ 30 * l.length + 70 := fun s q => ⟨q.1, q.2.1.trans s, by have := s.length_le; have := q.2.2; omega⟩
  unfold m_clause at h
  by_cases h01 : (m_hd l).1 = 0 ∨ (m_hd l).1 = 1
  · rw [if_pos h01] at h
    have bk : 0 ≤ (Int32.ofNat (m_hd l).1).toInt ∧ (Int32.ofNat (m_hd l).1).toInt ≤ 11 := by rw [n32 (by omega)]; omega
    by_cases h20 : 20 ≤ (m_hd l.tail).1 ∧ (m_hd l.tail).1 ≤ 25
    · rw [if_pos h20] at h
      have bn : 0 ≤ (Int32.ofNat ((m_hd l.tail).1 - 20)).toInt ∧ (Int32.ofNat ((m_hd l.tail).1 - 20)).toInt ≤ 5 := by rw [n32 (by omega)]; omega
      by_cases h11 : (m_hd l.tail.tail).1 = 11
      · rw [if_pos h11] at h
        have ts3 : l.tail.tail.tail <:+ l := (List.tail_suffix _).trans ts2
        cases hm : m_cond (4 * l.length + 20) 3 0 .nil l.tail.tail.tail with
        | inl e => rw [hm] at h; exact absurd h (by simp)
        | inr tr =>
          obtain ⟨t1, r1⟩ := tr
          rw [hm] at h
          simp only at h
          obtain ⟨b0, b1, b2, b3, b4, b5⟩ := (cond_ok _).2.2.2.1 0 .nil _ t1 r1 (by omega) (hv.suf ts3) hm
          obtain ⟨rfl, s1, s2⟩ := stop_ok h
          have := ts3.length_le
          refine ⟨⟨⟨bk.1, bk.2, bn.1, by show (Int32.ofNat ((m_hd l.tail).1 - 20)).toInt < _; omega, fun _ => bn.2⟩, fun f hf => ?_⟩, (s1.trans b1).trans ts3, ?_⟩
          · obtain rfl := Option.some.inj hf
            exact ⟨b0, b2, by omega, b5, by show (Int32.ofNat (m_hd l).1).toInt ≤ 1; rw [n32 (by omega)]; omega⟩
          · show 70 + csz t1 + _ ≤ _
            omega
      · rw [if_neg h11] at h
        exact up ts2 (bare_ok h bk.1 bk.2 bn.1 bn.2)
    · rw [if_neg h20] at h; exact absurd h (by simp)
  · rw [if_neg h01] at h
    by_cases h2 : (m_hd l).1 = 2 ∨ (m_hd l).1 = 3 ∨ (m_hd l).1 = 4 ∨ (m_hd l).1 = 6 ∨ (m_hd l).1 = 8
    · rw [if_pos h2] at h
      have bc : 2 ≤ (m_ncode (m_hd l).1).toInt ∧ (m_ncode (m_hd l).1).toInt ≤ 11 := by
        rcases h2 with q | q | q | q | q <;> rw [q] <;> decide
      exact up ts (numd_ok (hv.suf ts) h bc.1 bc.2)
    · rw [if_neg h2] at h
      by_cases h5 : (m_hd l).1 = 5
      · rw [if_pos h5] at h
        by_cases h3 : (m_hd l.tail).1 = 3
        · rw [if_pos h3] at h
          exact up ts2 (numd_ok (hv.suf ts2) h (by decide) (by decide))
        · rw [if_neg h3] at h
          by_cases h4 : (m_hd l.tail).1 = 4
          · rw [if_pos h4] at h
            exact up ts2 (numd_ok (hv.suf ts2) h (by decide) (by decide))
          · rw [if_neg h4] at h; exact absurd h (by simp)
      · rw [if_neg h5] at h
        by_cases h7 : (m_hd l).1 = 7
        · rw [if_pos h7] at h
          exact up ts (bare_ok h (by decide) (by decide) (by decide) (by decide))
        · rw [if_neg h7] at h
          by_cases h9 : (m_hd l).1 = 9
          · rw [if_pos h9] at h
            by_cases h3 : (m_hd l.tail).1 = 3
            · rw [if_pos h3] at h
              exact up ts2 (bare_ok h (by decide) (by decide) (by decide) (by decide))
            · rw [if_neg h3] at h
              by_cases h10 : (m_hd l.tail).1 = 10
              · rw [if_pos h10] at h
                exact up ts2 (bare_ok h (by decide) (by decide) (by decide) (by decide))
              · rw [if_neg h10] at h; exact absurd h (by simp)
          · rw [if_neg h9] at h; exact absurd h (by simp)
end
/-- what a text of clauses keeps to -/
def ClO (C : List mCl) : Prop := C.length ≤ 30 ∧ cszs C ≤ 17000 ∧ ∀ c ∈ C, ClC c
theorem cll_ok : ∀ (n : Nat) (l : List mTok) (C : List mCl), l.length ≤ 401 → TkV l → m_cll n l = .inr C → C.length ≤ n ∧ cszs C ≤ 30 * l.length + 70 * n ∧ ∀ c ∈ C, ClC c
  | n, l, C, hl, hv, h => by
    rw [m_cll.eq_def] at h
    simp only at h
    by_cases h30 : (m_hd l).1 = 30
    · rw [if_pos h30] at h
      obtain rfl := (Sum.inr.inj h)
      exact ⟨Nat.zero_le _, Nat.zero_le _, fun c hc => absurd hc (by simp)⟩
    · rw [if_neg h30] at h
      cases n with
      | zero => exact absurd h (by simp)
      | succ k =>
        simp only at h
        cases hm : m_clause l with
        | inl e => rw [hm] at h; exact absurd h (by simp)
        | inr cr =>
          obtain ⟨c, r⟩ := cr
          rw [hm] at h
          simp only at h
          obtain ⟨q1, q2, q3⟩ := clause_ok hl hv hm
          cases hk : m_cll k r with
          | inl e => rw [hk] at h; exact absurd h (by simp)
          | inr cs =>
            rw [hk] at h
            obtain rfl := (Sum.inr.inj h)
            obtain ⟨z1, z2, z3⟩ := cll_ok k r cs (by have := q2.length_le; omega) (hv.suf q2) hk
            refine ⟨by rw [List.length_cons]; omega, ?_, fun c' hc => ?_⟩
            · rw [cszs]
              omega
            · rcases List.mem_cons.mp hc with rfl | hc
              · exact q1
              · exact z3 c' hc
theorem parse_ok {t : List Int32} {C : List mCl} (hl : t.length ≤ 400) (h : m_parse t = .inr C) : ClO C := by
  have T := tk_ok hl
  have e : m_lex (t.length + 1) 0 t = m_tk t 0 := tk_of (by omega) (by simp)
  unfold m_parse at h
  rw [e] at h
  obtain ⟨z1, z2, z3⟩ := cll_ok 30 _ C (by have := T.2; omega) (fun y hy => (T.1.2.1 y hy).2.2) h
  exact ⟨z1, by have := T.2; omega, z3⟩
