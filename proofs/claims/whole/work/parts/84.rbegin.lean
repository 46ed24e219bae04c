/-! WORKING OUT, by the reference: up to row 7 -/
section
variable {P : List mPol} {T : List mTell} {Ls : List mLoss} {Cs : List mCase} {i : Nat} {c : mCase} {day at' : Int32}
theorem corr_rng (w : WfD P T Ls Cs) (hi : Cs[i]? = some c) {item what : Int32} : ∀ (l : List mFact) (fr : Int32) (v : Int64), (∀ f ∈ l, f ∈ c.2.2.2.2.2) → 0 ≤ v.toInt ∧ v.toInt ≤ 1000000000000 → 0 ≤ (m_corr day at' item what fr v l).toInt ∧ (m_corr day at' item what fr v l).toInt ≤ 1000000000000
  | [], fr, v, _, h => h
  | f :: l, fr, v, hl, h => by
    have hl' : ∀ f ∈ l, f ∈ c.2.2.2.2.2 := fun g hg => hl g (List.mem_cons_of_mem _ hg)
    rw [m_corr]
    split
    · have wf := (w.c hi).2.2.2.2.1.2.1 f (hl f List.mem_cons_self)
      exact corr_rng w hi l _ _ hl' ⟨wf.2.2.2.2.1, wf.2.2.2.2.2.1⟩
    · exact corr_rng w hi l _ _ hl' h
theorem amt_rng (w : WfD P T Ls Cs) (hi : Cs[i]? = some c) (k : Nat) (what : Int32) : 0 ≤ (m_amt Ls c day at' k what).toInt ∧ (m_amt Ls c day at' k what).toInt ≤ 1000000000000 := by
  unfold m_amt
  refine corr_rng w hi _ _ _ (fun f hf => hf) ?_
  have hl := (w.c hi).2.1
  have hb := root_lt w.l 4 c.2.2.1 hl
  have hb2 : m_base Ls c.2.2.1 < Ls.length := by unfold m_base; omega
  have wl := w.ls _ (List.mem_of_getElem? (getD_some mLoss0 hb2))
  have z : (0 : Int64).toInt = 0 := by decide
  by_cases hk : k < ((Ls.getD (m_base Ls c.2.2.1) mLoss0).2.2.2.2.2).length
  · have wx := wl.2.2.2.2.2.2.2 _ (List.mem_of_getElem? (getD_some mItem0 hk))
    split
    · exact ⟨wx.2.2.1, wx.2.2.2.1⟩
    · exact ⟨wx.2.2.2.2.1, wx.2.2.2.2.2⟩
  · have e : ((Ls.getD (m_base Ls c.2.2.1) mLoss0).2.2.2.2.2).getD k mItem0 = mItem0 := by
      rw [List.getD, List.getElem?_eq_none (by omega)]
      rfl
    rw [e]
    split
    · show 0 ≤ (0 : Int64).toInt ∧ (0 : Int64).toInt ≤ _
      rw [z]; omega
    · show 0 ≤ (0 : Int64).toInt ∧ (0 : Int64).toInt ≤ _
      rw [z]; omega
theorem worthN_rng {amt : Nat → Int32 → Int64} (h : ∀ k what, 0 ≤ (amt k what).toInt ∧ (amt k what).toInt ≤ 1000000000000) {third : Bool} {n : Int64} (hn : 0 ≤ n.toInt) : ∀ k : Nat, k ≤ 6 → 0 ≤ (m_worthN amt third n k).toInt ∧ (m_worthN amt third n k).toInt ≤ 1000000000000 * k
  | 0, _ => by
    have z : (0 : Int64).toInt = 0 := by decide
    rw [m_worthN, z]
    omega
  | k + 1, hk => by
    have ih := worthN_rng h (third := third) hn k (by omega)
    have a0 := h k 0
    have a1 := h k 1
    rw [m_worthN]
    have e : 0 ≤ (m_least (m_least (amt k 0) (if third then amt k 0 else amt k 1)) n).toInt ∧ (m_least (m_least (amt k 0) (if third then amt k 0 else amt k 1)) n).toInt ≤ 1000000000000 := by
      rw [least_int, least_int]
      split <;> omega
    have hk6 : (k : Int) ≤ 5 := by omega
    rw [i64add (by omega) (by omega)]
    rw [Int.natCast_add, Int.mul_add]
    omega
theorem worth_rng (w : WfD P T Ls Cs) (hi : Cs[i]? = some c) {n : Int64} (hn : 0 ≤ n.toInt) : ∀ (f l : Nat), l < Ls.length → 0 ≤ (m_worth Ls (m_amt Ls c day at') n f l).1.toInt ∧ (m_worth Ls (m_amt Ls c day at') n f l).1.toInt ≤ 6000000000000
  | 0, l, _ => by
    have z : (0 : Int64).toInt = 0 := by decide
    rw [m_worth]
    show 0 ≤ (0 : Int64).toInt ∧ (0 : Int64).toInt ≤ _
    rw [z]; omega
  | f + 1, l, hl => by
    have hg := getD_some mLoss0 hl
    have h6 : (m_items Ls l).length ≤ 6 := (w.l l _ hg).2.2.2
    have hN := fun th => worthN_rng (third := th) (fun k what => amt_rng (day := day) (at' := at') w hi k what) hn (m_items Ls l).length h6
    have h6' : ((m_items Ls l).length : Int) ≤ 6 := by omega
    have mx : (1000000000000 : Int) * (m_items Ls l).length ≤ 6000000000000 := by omega
    have h100 : (100 : Int64).toInt = 100 := by decide
    rw [m_worth]
    cases hq : (Ls.getD l mLoss0).2.2.1 with
    | some u =>
      have hu := (w.l l _ hg).2.1 u hq
      have ih := worth_rng w hi hn f u (by omega)
      have wl := w.ls _ (List.mem_of_getElem? hg)
      show 0 ≤ ((m_worth Ls (m_amt Ls c day at') n f u).1 * (Ls.getD l mLoss0).2.2.2.1.toInt64 / 100).toInt ∧ ((m_worth Ls (m_amt Ls c day at') n f u).1 * (Ls.getD l mLoss0).2.2.2.1.toInt64 / 100).toInt ≤ _
      have h1 := wl.2.2.2.2.1
      have h2 := wl.2.2.2.2.2.1
      have hm0 : 0 ≤ (m_worth Ls (m_amt Ls c day at') n f u).1.toInt * (Ls.getD l mLoss0).2.2.2.1.toInt := Int.mul_nonneg ih.1 h1
      have hm1 : (m_worth Ls (m_amt Ls c day at') n f u).1.toInt * (Ls.getD l mLoss0).2.2.2.1.toInt ≤ 6000000000000 * 100 := Int.mul_le_mul ih.2 h2 h1 (by decide)
      have hm : ((m_worth Ls (m_amt Ls c day at') n f u).1 * (Ls.getD l mLoss0).2.2.2.1.toInt64).toInt = (m_worth Ls (m_amt Ls c day at') n f u).1.toInt * (Ls.getD l mLoss0).2.2.2.1.toInt := by rw [i64mul (by rw [t64]; omega) (by rw [t64]; omega), t64]
      rw [i64div (by rw [hm]; exact hm0) (by rw [h100]; omega), hm, h100]
      omega
    | none =>
      simp only
      split
      · have hN := hN false
        show 0 ≤ (m_worthN (m_amt Ls c day at') false n (m_items Ls l).length / 100 * 100).toInt ∧ (m_worthN (m_amt Ls c day at') false n (m_items Ls l).length / 100 * 100).toInt ≤ _
        have hd : (m_worthN (m_amt Ls c day at') false n (m_items Ls l).length / 100).toInt = (m_worthN (m_amt Ls c day at') false n (m_items Ls l).length).toInt / 100 := by rw [i64div hN.1 (by rw [h100]; omega), h100]
        rw [i64mul (by rw [hd, h100]; omega) (by rw [hd, h100]; omega), hd, h100]
        omega
      · split
        · have hN := hN true
          show 0 ≤ (m_worthN (m_amt Ls c day at') true n (m_items Ls l).length).toInt ∧ (m_worthN (m_amt Ls c day at') true n (m_items Ls l).length).toInt ≤ _
          omega
        · have hN := hN false
          show 0 ≤ (m_worthN (m_amt Ls c day at') false n (m_items Ls l).length).toInt ∧ (m_worthN (m_amt Ls c day at') false n (m_items Ls l).length).toInt ≤ _
          omega
theorem less_rng {rs : List mRow × Int64} {code arg : Int32} {v : Int64} (h0 : 0 ≤ rs.2.toInt) (h1 : rs.2.toInt ≤ 6000000000000) (hv0 : 0 ≤ v.toInt) (hv1 : v.toInt ≤ rs.2.toInt) : 0 ≤ (m_less rs code arg v).2.toInt ∧ (m_less rs code arg v).2.toInt ≤ 6000000000000 := by
  unfold m_less
  split
  · exact ⟨h0, h1⟩
  · show 0 ≤ (rs.2 - v).toInt ∧ (rs.2 - v).toInt ≤ _
    rw [i64sub (by omega) (by omega)]
    omega
theorem self_rng (is : Int32 → mTr Bool) (k : Int32) : 0 ≤ (m_self is k).1.toInt ∧ (m_self is k).1.toInt ≤ 15 := by
  have a0 : (0 : Int32).toInt = 0 := by decide
  have a5 : (5 : Int32).toInt = 5 := by decide
  have a10 : (10 : Int32).toInt = 10 := by decide
  have a15 : (15 : Int32).toInt = 15 := by decide
  unfold m_self m_tr
  split
  · split <;> simp_all
  · split
    · split <;> simp_all
    · simp_all
end
