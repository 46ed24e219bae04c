/-! RANGES of shares, of what a case brings -/
section
variable {al : Nat → Option Int64} {ord : List Nat}
theorem cents_sh (hn : ord.Nodup) (hB : ∀ y ∈ ord, (alv al y).toInt ≤ 10000000000000) : ∀ (n : Nat) (x : (Nat → Int64) × Int64), ShI al ord x → ShI al ord (m_cents al ord n x)
  | 0, x, h => h
  | n + 1, x, hs => by
    rw [m_cents]
    split
    · exact cents_sh hn hB n _ (cent_ok hn hB ord x (fun y hy => hy) hs).1
    · exact hs
theorem rounds_sh (hn : ord.Nodup) (hlen : ord.length ≤ 6) (hB : ∀ y ∈ ord, (alv al y).toInt ≤ 10000000000000) : ∀ (n : Nat) (x : (Nat → Int64) × Int64), ShI al ord x → ShI al ord (m_rounds al ord n x)
  | 0, x, h => h
  | n + 1, x, hs => by
    have z64 : (0 : Int64).toInt = 0 := by decide
    rw [m_rounds]
    split
    · rename_i hq
      split
      · exact (cent_ok hn hB ord x (fun y hy => hy) hs).1
      · rename_i h0
        have hle := lack_le al x.1 ord
        have hL : (Int64.ofNat (m_lack al x.1 ord)).toInt = m_lack al x.1 ord := n64 (by omega)
        have hLpos : 0 < (m_lack al x.1 ord : Int) := by omega
        have ed : (x.2 / Int64.ofNat (m_lack al x.1 ord)).toInt = x.2.toInt / (m_lack al x.1 ord : Int) := by rw [i64div (by omega) (by omega), hL]
        have hdm := Int.mul_ediv_add_emod x.2.toInt (m_lack al x.1 ord : Int)
        have hmod0 := Int.emod_nonneg x.2.toInt (show (m_lack al x.1 ord : Int) ≠ 0 by omega)
        have hepos : 0 < (x.2 / Int64.ofNat (m_lack al x.1 ord)).toInt := by
          rw [ed]
          have h1 : 0 ≤ x.2.toInt / (m_lack al x.1 ord : Int) := Int.ediv_nonneg (by omega) (by omega)
          have h2 : x.2.toInt / (m_lack al x.1 ord : Int) ≠ 0 := fun q => h0 (Int64.toInt_inj.mp (by rw [ed, q, z64]))
          omega
        have hmul : (x.2 / Int64.ofNat (m_lack al x.1 ord)).toInt * (m_lack al x.1 ord : Int) ≤ x.2.toInt := by rw [ed, Int.mul_comm]; omega
        obtain ⟨G, g1, g2, g3, g4, g5, g6, g7, g8⟩ := give_ok hn hB hepos ord x hn (fun y hy => hy) hs.1 hmul
        exact rounds_sh hn hlen hB n _ ⟨g4, by omega, by have := hs.2.2; omega⟩
    · exact hs
theorem ranks_rng (hB : ∀ y, 0 ≤ (alv al y).toInt ∧ (alv al y).toInt ≤ 10000000000000) : ∀ (l : List Nat) (x : (Nat → Int64) × Int64), 0 ≤ x.2.toInt → (∀ y, 0 ≤ (x.1 y).toInt ∧ (x.1 y).toInt ≤ (alv al y).toInt) → ∀ y, 0 ≤ ((m_ranks al l x).1 y).toInt ∧ ((m_ranks al l x).1 y).toInt ≤ (alv al y).toInt
  | [], x, _, h => h
  | z :: l, x, h0, h => by
    intro y
    have hb := hB z
    have e1 : (m_least ((al z).getD 0) x.2).toInt = min (alv al z).toInt x.2.toInt := least_int
    have hx := r64 x.2
    have e2 : (x.2 - m_least ((al z).getD 0) x.2).toInt = x.2.toInt - min (alv al z).toInt x.2.toInt := by rw [i64sub (by rw [e1]; omega) (by rw [e1]; omega), e1]
    refine ranks_rng hB l (va_up x.1 z (m_least ((al z).getD 0) x.2), x.2 - m_least ((al z).getD 0) x.2) (by show 0 ≤ (x.2 - m_least ((al z).getD 0) x.2).toInt; rw [e2]; omega) ?_ y
    intro y
    show 0 ≤ (va_up x.1 z (m_least ((al z).getD 0) x.2) y).toInt ∧ (va_up x.1 z (m_least ((al z).getD 0) x.2) y).toInt ≤ _
    by_cases hy : y = z
    · subst hy
      rw [up_same, e1]
      omega
    · rw [am_vup hy]
      exact h y
theorem share_rng {rule : Int32} {w : Int64} (hn : ord.Nodup) (hlen : ord.length ≤ 6) (h0 : 0 ∈ ord) (hB : ∀ y, 0 ≤ (alv al y).toInt ∧ (alv al y).toInt ≤ 10000000000000) (hw : 0 ≤ w.toInt) (hr : (m_share rule al ord (m_least w (m_tot al ord)) (m_tot al ord)).1 = 0) : 0 ≤ (m_share rule al ord (m_least w (m_tot al ord)) (m_tot al ord)).2.toInt ∧ (m_share rule al ord (m_least w (m_tot al ord)) (m_tot al ord)).2.toInt ≤ (alv al 0).toInt := by
  have z64 : (0 : Int64).toInt = 0 := by decide
  have ht := tot_int ord hlen (fun y _ => hB y)
  have ht0 : 0 ≤ SI (alv al) ord := SI_nn (fun y _ => (hB y).1)
  have hA : (m_least w (m_tot al ord)).toInt = min w.toInt (m_tot al ord).toInt := least_int
  have hz : ∀ y ∈ ord, 0 ≤ ((fun _ => 0 : Nat → Int64) y).toInt ∧ ((fun _ => 0 : Nat → Int64) y).toInt ≤ (alv al y).toInt := fun y _ => by
    show 0 ≤ (0 : Int64).toInt ∧ (0 : Int64).toInt ≤ _
    rw [z64]
    have := hB y
    omega
  have hs0 : ∀ l : List Nat, SI (fun _ => 0) l = 0 := by
    intro l
    induction l with
    | nil => rfl
    | cons a l ih => rw [SI, ih]; decide
  unfold m_share at hr ⊢
  split at hr
  · rename_i e0
    rw [if_pos e0]
    split at hr
    · exact absurd hr (by decide)
    · rename_i e1
      rw [if_neg e1]
      split at hr
      · exact absurd hr (by decide)
      · rename_i e2
        rw [if_neg e2]
        have hp : 0 < (m_tot al ord).toInt := by
          rcases Int.lt_or_eq_of_le (show 0 ≤ (m_tot al ord).toInt by omega) with h | h
          · exact h
          · exact absurd (Int64.toInt_inj.mp h.symm) e1
        have h := parts_sh hn hlen (fun y _ => hB y) ht hp (by rw [hA]; omega) (by rw [hA]; omega) (by simpa using e2)
        exact (cents_sh hn (fun y _ => (hB y).2) 6 _ h.1).1 0 h0
  · rename_i e0
    rw [if_neg e0]
    split
    · exact (rounds_sh hn hlen (fun y _ => (hB y).2) 14 (fun _ => 0, m_least w (m_tot al ord)) ⟨hz, by show 0 ≤ (m_least w (m_tot al ord)).toInt; rw [hA]; omega, by show SI (fun _ => 0) ord + (m_least w (m_tot al ord)).toInt ≤ _; rw [hs0, hA]; omega⟩).1 0 h0
    · exact ranks_rng hB ord (fun _ => 0, m_least w (m_tot al ord)) (by show 0 ≤ (m_least w (m_tot al ord)).toInt; rw [hA]; omega) (fun y => by
        show 0 ≤ (0 : Int64).toInt ∧ (0 : Int64).toInt ≤ _
        rw [z64]
        have := hB y
        omega) 0
theorem ord_zero (rk : Nat → Int32) (h : (al 0).isSome = true) : ∀ n, 0 ∈ m_ord rk al (n + 1)
  | 0 => by rw [m_ord, if_pos h]; simp [m_ord, m_ins, m_pos]
  | n + 1 => by
    have ih := ord_zero rk h n
    rw [m_ord]
    split
    · unfold m_ins
      rw [List.mem_append, List.mem_cons]
      rw [← List.take_append_drop (m_pos rk (n + 1) (m_ord rk al (n + 1)) (m_ord rk al (n + 1)).length) (m_ord rk al (n + 1)), List.mem_append] at ih
      rcases ih with h | h
      · exact Or.inl h
      · exact Or.inr (Or.inr h)
    · exact ih
end
section
variable {P : List mPol} {T : List mTell} {Ls : List mLoss} {Cs : List mCase} {i : Nat} {c : mCase} {day at' : Int32} {p : Nat} {st : Option Nat}
/-- what a result brings, how many rows it has -/
def RgB (n : Nat) (R : mRes) : Prop := 0 ≤ R.2.2.2.2.toInt ∧ R.2.2.2.2.toInt ≤ 6000000000000 ∧ R.1.length ≤ n
theorem sG_rng (w : WfD P T Ls Cs) (hi : Cs[i]? = some c) {W : Int64} {rs : List mRow × Int64} {tr : List Int32} {n : Nat} (hW : 0 ≤ W.toInt) (h0 : 0 ≤ rs.2.toInt) (h1 : rs.2.toInt ≤ 6000000000000) (hn : rs.1.length ≤ n) : RgB (n + 1) (m_sG T at' p W rs tr (m_al c.2.2.2.2.2 day at' rs.2) (m_ord (fun q => m_rank T (Int32.ofNat q) at') (m_al c.2.2.2.2.2 day at' rs.2) 6)) := by
  have z64 : (0 : Int64).toInt = 0 := by decide
  obtain ⟨al, hal⟩ : ∃ al, al = m_al c.2.2.2.2.2 day at' rs.2 := ⟨_, rfl⟩
  have hrng := fun y => al_rng (day := day) (at' := at') (s := rs.2) w hi h0 (by omega) y
  have hs : (al 0).isSome = true := by rw [hal]; rfl
  have ha0 : alv al 0 = rs.2 := by rw [hal]; rfl
  rw [← hal] at hrng ⊢
  have hnd := ord_nodup (fun q => m_rank T (Int32.ofNat q) at') al 6
  have hz := ord_zero (fun q => m_rank T (Int32.ofNat q) at') hs 5
  have hlen := ord_len (fun q => m_rank T (Int32.ofNat q) at') al 6
  obtain ⟨ord, hord⟩ : ∃ ord, ord = m_ord (fun q => m_rank T (Int32.ofNat q) at') al 6 := ⟨_, rfl⟩
  rw [← hord] at hnd hz hlen ⊢
  unfold m_sG
  split
  · exact ⟨h0, h1, by show rs.1.length ≤ _; omega⟩
  · split
    · rename_i hsh
      have h := share_rng (rule := m_rule T p at') hnd hlen hz hrng hW hsh
      rw [ha0] at h
      have hl := less_len (rs := rs) (code := 7) (arg := Int32.ofNat (ord.length - 1)) (cents := rs.2 - (m_share (m_rule T p at') al ord (m_least W (m_tot al ord)) (m_tot al ord)).2)
      have hd : (rs.2 - (m_share (m_rule T p at') al ord (m_least W (m_tot al ord)) (m_tot al ord)).2).toInt = rs.2.toInt - (m_share (m_rule T p at') al ord (m_least W (m_tot al ord)) (m_tot al ord)).2.toInt := i64sub (by omega) (by omega)
      have hr := less_rng (rs := rs) (code := 7) (arg := Int32.ofNat (ord.length - 1)) h0 h1 (show 0 ≤ (rs.2 - (m_share (m_rule T p at') al ord (m_least W (m_tot al ord)) (m_tot al ord)).2).toInt by rw [hd]; omega) (by rw [hd]; omega)
      exact ⟨hr.1, hr.2, Nat.le_trans hl (by omega)⟩
    · exact ⟨by show 0 ≤ (0 : Int64).toInt; decide, by show (0 : Int64).toInt ≤ _; decide, by show rs.1.length ≤ _; omega⟩
theorem sF_rng (w : WfD P T Ls Cs) (hi : Cs[i]? = some c) (hst : ∀ j, st = some j → j < (tlA T 6).length) {W : Int64} {rs : List mRow × Int64} {tr : List Int32} {sf : mTr Int32} {n : Nat} (hW : 0 ≤ W.toInt) (h0 : 0 ≤ rs.2.toInt) (h1 : rs.2.toInt ≤ 6000000000000) (hn : rs.1.length ≤ n) (hsf : 0 ≤ sf.1.toInt ∧ sf.1.toInt ≤ 15) : RgB (n + 4) (m_sF T c day at' p (clOf T st) W rs tr sf) := by
  have z64 : (0 : Int64).toInt = 0 := by decide
  have h100 : (100 : Int64).toInt = 100 := by decide
  have hm0 : 0 ≤ rs.2.toInt * sf.1.toInt := Int.mul_nonneg h0 hsf.1
  have hm1 : rs.2.toInt * sf.1.toInt ≤ rs.2.toInt * 15 := Int.mul_le_mul_of_nonneg_left hsf.2 h0
  have hmul : (rs.2 * sf.1.toInt64).toInt = rs.2.toInt * sf.1.toInt := by rw [i64mul (by rw [t64]; omega) (by rw [t64]; omega), t64]
  have hdiv : (rs.2 * sf.1.toInt64 / 100).toInt = rs.2.toInt * sf.1.toInt / 100 := by rw [i64div (by rw [hmul]; exact hm0) (by rw [h100]; omega), hmul, h100]
  have hq1r := less_rng (code := 4) (arg := sf.1) h0 h1 (show 0 ≤ (rs.2 * sf.1.toInt64 / 100).toInt by rw [hdiv]; omega) (show (rs.2 * sf.1.toInt64 / 100).toInt ≤ rs.2.toInt by rw [hdiv]; omega)
  have hq1l := less_len (rs := rs) (code := 4) (arg := sf.1) (cents := rs.2 * sf.1.toInt64 / 100)
  unfold m_sF
  obtain ⟨q1, hq1⟩ : ∃ q1, q1 = m_less rs 4 sf.1 (rs.2 * sf.1.toInt64 / 100) := ⟨_, rfl⟩
  rw [← hq1] at hq1r hq1l ⊢
  have hown : 0 ≤ (m_own (clOf T st) q1.2).toInt ∧ (m_own (clOf T st) q1.2).toInt ≤ q1.2.toInt := by
    unfold m_own
    split
    · rw [z64]; omega
    · rename_i hne
      rw [least_int]
      rcases told_rng w hst 5 with q | q
      · exact absurd q hne
      · omega
  have hq2r := less_rng (code := 5) (arg := 0) hq1r.1 hq1r.2 hown.1 hown.2
  have hq2l := less_len (rs := q1) (code := 5) (arg := 0) (cents := m_own (clOf T st) q1.2)
  simp only []
  obtain ⟨q2, hq2⟩ : ∃ q2, q2 = m_less q1 5 0 (m_own (clOf T st) q1.2) := ⟨_, rfl⟩
  rw [← hq2] at hq2r hq2l ⊢
  have hlim : 0 ≤ (m_lim (clOf T st) q2.2).toInt ∧ (m_lim (clOf T st) q2.2).toInt ≤ q2.2.toInt := by
    unfold m_lim
    split
    · rename_i hq
      rw [i64lt] at hq
      rcases told_rng w hst 3 with q | q
      · exact absurd q hq.1
      · rw [i64sub (by omega) (by omega)]
        omega
    · rw [z64]; omega
  have hq3r := less_rng (code := 6) (arg := 0) hq2r.1 hq2r.2 hlim.1 hlim.2
  have hq3l := less_len (rs := q2) (code := 6) (arg := 0) (cents := m_lim (clOf T st) q2.2)
  exact sG_rng w hi hW hq3r.1 hq3r.2 (n := n + 3) (by omega)
theorem seven_rng (w : WfD P T Ls Cs) (hi : Cs[i]? = some c) (hst : ∀ j, st = some j → j < (tlA T 6).length) {sum : Int64} (hsum0 : 0 ≤ sum.toInt) : RgB 6 (m_sB P T Ls c day at' p (clOf T st) sum (m_worth Ls (m_amt Ls c day at') (m_most (clOf T st)) 5 c.2.2.1)) := by
  have z64 : (0 : Int64).toInt = 0 := by decide
  have hl := (w.c hi).2.1
  have hmost : 0 ≤ (m_most (clOf T st)).toInt := by
    unfold m_most
    split
    · decide
    · rename_i h
      rcases told_rng w hst 2 with q | q
      · exact absurd q h
      · exact q.1
  have hWr := worth_rng (day := day) (at' := at') w hi hmost 5 c.2.2.1 hl
  obtain ⟨W, hW⟩ : ∃ W, W = m_worth Ls (m_amt Ls c day at') (m_most (clOf T st)) 5 c.2.2.1 := ⟨_, rfl⟩
  rw [← hW] at hWr ⊢
  have zz : ∀ (l : List mRow) (tr : List Int32) (f : Int32) (b : Bool), l.length ≤ 6 → RgB 6 (l, tr, f, b, 0) := fun l tr f b h => ⟨by show 0 ≤ (0 : Int64).toInt; decide, by show (0 : Int64).toInt ≤ _; decide, h⟩
  have hsf := self_rng (m_lis Ls c.2.2.1) (P.getD p mPol0).1
  unfold m_sB
  split
  · exact zz _ _ _ _ (by simp)
  · split
    · exact zz _ _ _ _ (by simp)
    · unfold m_sC
      split
      · exact zz _ _ _ _ (by simp)
      · unfold m_sD
        split
        · exact zz _ _ _ _ (by simp)
        · unfold m_sE
          split
          · exact sF_rng w hi hst (n := 2) hWr.1 hWr.1 hWr.2 (by simp) hsf
          · split
            · exact zz _ _ _ _ (by simp)
            · rename_i hg
              split
              · exact zz _ _ _ _ (by simp)
              · rename_i h0
                have h6 : (m_items Ls (m_base Ls c.2.2.1)).length ≤ 6 := by
                  have hb := root_lt w.l 4 c.2.2.1 hl
                  have hb2 : m_base Ls c.2.2.1 < Ls.length := by unfold m_base; omega
                  exact (w.l _ _ (getD_some mLoss0 hb2)).2.2.2
                have hall := allOf_rng (fun k => (amt_rng (day := day) (at' := at') w hi k 1)) (m_items Ls (m_base Ls c.2.2.1)).length h6
                have hall0 : 0 < (m_all Ls c day at' 1).toInt := by
                  rcases Int.lt_or_eq_of_le hall.1 with h | h
                  · exact h
                  · exact absurd (Int64.toInt_inj.mp h.symm) h0
                have hgr : W.1.toInt * sum.toInt ≤ 4611686018427387904 := by
                  unfold m_great at hg
                  rw [decide_eq_true_eq] at hg
                  omega
                have hpr : 0 ≤ W.1.toInt * sum.toInt := Int.mul_nonneg hWr.1 hsum0
                have hm : (W.1 * sum).toInt = W.1.toInt * sum.toInt := i64mul (by omega) (by omega)
                have hd : (W.1 * sum / m_all Ls c day at' 1).toInt = W.1.toInt * sum.toInt / (m_all Ls c day at' 1).toInt := by rw [i64div (by rw [hm]; exact hpr) hall0, hm]
                have hd0 : 0 ≤ (W.1 * sum / m_all Ls c day at' 1).toInt := by rw [hd]; exact Int.ediv_nonneg hpr hall.1
                have hv : 0 ≤ (if W.1 * sum / m_all Ls c day at' 1 < W.1 then W.1 - W.1 * sum / m_all Ls c day at' 1 else 0).toInt ∧ (if W.1 * sum / m_all Ls c day at' 1 < W.1 then W.1 - W.1 * sum / m_all Ls c day at' 1 else 0).toInt ≤ W.1.toInt := by
                  split
                  · rename_i hlt
                    rw [i64lt] at hlt
                    rw [i64sub (by omega) (by omega)]
                    omega
                  · rw [z64]; omega
                have hlr := less_rng (rs := ([(0, 0, W.1)], W.1)) (code := 3) (arg := 0) hWr.1 hWr.2 hv.1 hv.2
                have hll := less_len (rs := ([(0, 0, W.1)], W.1)) (code := 3) (arg := 0) (cents := (if W.1 * sum / m_all Ls c day at' 1 < W.1 then W.1 - W.1 * sum / m_all Ls c day at' 1 else 0))
                exact sF_rng w hi hst (n := 2) hWr.1 hlr.1 hlr.2 (by simpa using hll) hsf
theorem begin_rng (w : WfD P T Ls Cs) (hi : Cs[i]? = some c) : RgB 6 (m_begin P T Ls c day at') := by
  have zz : ∀ (l : List mRow) (tr : List Int32) (f : Int32) (b : Bool), l.length ≤ 6 → RgB 6 (l, tr, f, b, 0) := fun l tr f b h => ⟨by show 0 ≤ (0 : Int64).toInt; decide, by show (0 : Int64).toInt ≤ _; decide, h⟩
  unfold m_begin
  cases hcv : m_cover P T c at' with
  | none => exact zz _ _ _ _ (by simp)
  | some p =>
    simp only []
    split
    · exact zz _ _ _ _ (by simp)
    · cases hs : m_sum T p (m_year (m_ld Ls c)) at' with
      | none => exact zz _ _ _ _ (by simp)
      | some sum =>
        simp only []
        have hset := m_set_cls T p at'
        have eC : m_cls T p at' = clOf T (m_set T p at') := by rw [hset.1]; rfl
        unfold m_seven
        rw [eC]
        exact seven_rng w hi hset.2 (sum_rng w hs).1
end
