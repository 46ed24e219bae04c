/-! THE MODEL: no row is the least long -/
def GdR (l : List mRow) : Prop := ∀ r ∈ l, -9223372036854775808 < r.2.2.toInt
theorem GdR.nil : GdR [] := fun r hr => absurd hr (by simp)
theorem GdR.snoc {l : List mRow} {r : mRow} (h : GdR l) (hr : -9223372036854775808 < r.2.2.toInt) : GdR (l ++ [r]) := fun x hx => by
  rcases List.mem_append.mp hx with q | q
  · exact h x q
  · rw [List.mem_singleton.mp q]; exact hr
theorem gd_neg {v : Int64} (h : 0 ≤ v.toInt) : -9223372036854775808 < (-v).toInt := by
  have := r64 v
  rw [i64neg (by omega)]
  omega
theorem less_gd {rs : List mRow × Int64} {code arg : Int32} {v : Int64} (h : GdR rs.1) (hv : 0 ≤ v.toInt) : GdR (m_less rs code arg v).1 := by
  unfold m_less
  split
  · exact h
  · exact h.snoc (gd_neg hv)
section
variable {P : List mPol} {T : List mTell} {Ls : List mLoss} {Cs : List mCase} {i : Nat} {c : mCase} {day at' : Int32} {p : Nat} {st : Option Nat}
theorem sG_gd (w : WfD P T Ls Cs) (hi : Cs[i]? = some c) {W : Int64} {rs : List mRow × Int64} {tr : List Int32} (hW : 0 ≤ W.toInt) (h0 : 0 ≤ rs.2.toInt) (h1 : rs.2.toInt ≤ 6000000000000) (hg : GdR rs.1) : GdR (m_sG T at' p W rs tr (m_al c.2.2.2.2.2 day at' rs.2) (m_ord (fun q => m_rank T (Int32.ofNat q) at') (m_al c.2.2.2.2.2 day at' rs.2) 6)).1 := by
  obtain ⟨al, hal⟩ : ∃ al, al = m_al c.2.2.2.2.2 day at' rs.2 := ⟨_, rfl⟩
  have hrng := fun y => al_rng (day := day) (at' := at') (s := rs.2) w hi h0 (by omega) y
  have hs : (al 0).isSome = true := by rw [hal]; rfl
  have ha0 : alv al 0 = rs.2 := by rw [hal]; rfl
  rw [← hal] at hrng ⊢
  have hnd := ord_nodup (fun q => m_rank T (Int32.ofNat q) at') al 6
  have hz := ord_zero (fun q => m_rank T (Int32.ofNat q) at') hs 5
  have hlen := ord_len (fun q => m_rank T (Int32.ofNat q) at') al 6
  obtain ⟨ord, hord⟩ : ∃ ord, ord = m_ord (fun q => m_rank T (Int32.ofNat q) at') al 6 := ⟨_, rfl⟩
  rw [← hord] at hnd hz hlen ⊢
  unfold m_sG
  split
  · exact hg
  · split
    · rename_i hsh
      have h := share_rng (rule := m_rule T p at') hnd hlen hz hrng hW hsh
      rw [ha0] at h
      have hd : (rs.2 - (m_share (m_rule T p at') al ord (m_least W (m_tot al ord)) (m_tot al ord)).2).toInt = rs.2.toInt - (m_share (m_rule T p at') al ord (m_least W (m_tot al ord)) (m_tot al ord)).2.toInt := i64sub (by omega) (by omega)
      exact less_gd hg (by rw [hd]; omega)
    · exact hg
theorem sF_gd (w : WfD P T Ls Cs) (hi : Cs[i]? = some c) (hst : ∀ j, st = some j → j < (tlA T 6).length) {W : Int64} {rs : List mRow × Int64} {tr : List Int32} {sf : mTr Int32} (hW : 0 ≤ W.toInt) (h0 : 0 ≤ rs.2.toInt) (h1 : rs.2.toInt ≤ 6000000000000) (hg : GdR rs.1) (hsf : 0 ≤ sf.1.toInt ∧ sf.1.toInt ≤ 15) : GdR (m_sF T c day at' p (clOf T st) W rs tr sf).1 := by
  have z64 : (0 : Int64).toInt = 0 := by decide
  have h100 : (100 : Int64).toInt = 100 := by decide
  have hm0 : 0 ≤ rs.2.toInt * sf.1.toInt := Int.mul_nonneg h0 hsf.1
  have hm1 : rs.2.toInt * sf.1.toInt ≤ rs.2.toInt * 15 := Int.mul_le_mul_of_nonneg_left hsf.2 h0
  have hmul : (rs.2 * sf.1.toInt64).toInt = rs.2.toInt * sf.1.toInt := by rw [i64mul (by rw [t64]; omega) (by rw [t64]; omega), t64]
  have hdiv : (rs.2 * sf.1.toInt64 / 100).toInt = rs.2.toInt * sf.1.toInt / 100 := by rw [i64div (by rw [hmul]; exact hm0) (by rw [h100]; omega), hmul, h100]
  have hq1r := less_rng (code := 4) (arg := sf.1) h0 h1 (show 0 ≤ (rs.2 * sf.1.toInt64 / 100).toInt by rw [hdiv]; omega) (show (rs.2 * sf.1.toInt64 / 100).toInt ≤ rs.2.toInt by rw [hdiv]; omega)
  have hq1g := less_gd (code := 4) (arg := sf.1) hg (show 0 ≤ (rs.2 * sf.1.toInt64 / 100).toInt by rw [hdiv]; omega)
  unfold m_sF
  obtain ⟨q1, hq1⟩ : ∃ q1, q1 = m_less rs 4 sf.1 (rs.2 * sf.1.toInt64 / 100) := ⟨_, rfl⟩
  rw [← hq1] at hq1r hq1g ⊢
  have hown : 0 ≤ (m_own (clOf T st) q1.2).toInt ∧ (m_own (clOf T st) q1.2).toInt ≤ q1.2.toInt := by
    unfold m_own
    split
    · rw [z64]; omega
    · rename_i hne
      rw [least_int]
      rcases told_rng w hst 5 with q | q
      · exact absurd q hne
      · omega
  have hq2r := less_rng (code := 5) (arg := 0) hq1r.1 hq1r.2 hown.1 hown.2
  have hq2g := less_gd (code := 5) (arg := 0) hq1g hown.1
  simp only []
  obtain ⟨q2, hq2⟩ : ∃ q2, q2 = m_less q1 5 0 (m_own (clOf T st) q1.2) := ⟨_, rfl⟩
  rw [← hq2] at hq2r hq2g ⊢
  have hlim : 0 ≤ (m_lim (clOf T st) q2.2).toInt ∧ (m_lim (clOf T st) q2.2).toInt ≤ q2.2.toInt := by
    unfold m_lim
    split
    · rename_i hq
      rw [i64lt] at hq
      rcases told_rng w hst 3 with q | q
      · exact absurd q hq.1
      · rw [i64sub (by omega) (by omega)]
        omega
    · rw [z64]; omega
  have hq3r := less_rng (code := 6) (arg := 0) hq2r.1 hq2r.2 hlim.1 hlim.2
  exact sG_gd w hi hW hq3r.1 hq3r.2 (less_gd hq2g hlim.1)
theorem seven_gd (w : WfD P T Ls Cs) (hi : Cs[i]? = some c) (hst : ∀ j, st = some j → j < (tlA T 6).length) {sum : Int64} (hsum0 : 0 ≤ sum.toInt) : GdR (m_sB P T Ls c day at' p (clOf T st) sum (m_worth Ls (m_amt Ls c day at') (m_most (clOf T st)) 5 c.2.2.1)).1 := by
  have z64 : (0 : Int64).toInt = 0 := by decide
  have hl := (w.c hi).2.1
  have hmost : 0 ≤ (m_most (clOf T st)).toInt := by
    unfold m_most
    split
    · decide
    · rename_i h
      rcases told_rng w hst 2 with q | q
      · exact absurd q h
      · exact q.1
  have hWr := worth_rng (day := day) (at' := at') w hi hmost 5 c.2.2.1 hl
  obtain ⟨W, hW⟩ : ∃ W, W = m_worth Ls (m_amt Ls c day at') (m_most (clOf T st)) 5 c.2.2.1 := ⟨_, rfl⟩
  rw [← hW] at hWr ⊢
  have g1 : GdR [((0 : Int32), (0 : Int32), W.1)] := GdR.nil.snoc (by show _ < W.1.toInt; omega)
  have g2 : ∀ a b : Int32, GdR [((0 : Int32), (0 : Int32), W.1), (a, b, -W.1)] := fun a b => g1.snoc (gd_neg hWr.1)
  have hsf := self_rng (m_lis Ls c.2.2.1) (P.getD p mPol0).1
  unfold m_sB
  split
  · exact g2 _ _
  · split
    · exact g1
    · unfold m_sC
      split
      · exact g2 _ _
      · unfold m_sD
        split
        · exact g2 _ _
        · unfold m_sE
          split
          · exact sF_gd w hi hst hWr.1 hWr.1 hWr.2 g1 hsf
          · split
            · exact g1
            · rename_i hg
              split
              · exact g1
              · rename_i h0
                have h6 : (m_items Ls (m_base Ls c.2.2.1)).length ≤ 6 := by
                  have hb := root_lt w.l 4 c.2.2.1 hl
                  have hb2 : m_base Ls c.2.2.1 < Ls.length := by unfold m_base; omega
                  exact (w.l _ _ (getD_some mLoss0 hb2)).2.2.2
                have hall := allOf_rng (fun k => (amt_rng (day := day) (at' := at') w hi k 1)) (m_items Ls (m_base Ls c.2.2.1)).length h6
                have hall0 : 0 < (m_all Ls c day at' 1).toInt := by
                  rcases Int.lt_or_eq_of_le hall.1 with h | h
                  · exact h
                  · exact absurd (Int64.toInt_inj.mp h.symm) h0
                have hgr : W.1.toInt * sum.toInt ≤ 4611686018427387904 := by
                  unfold m_great at hg
                  rw [decide_eq_true_eq] at hg
                  omega
                have hpr : 0 ≤ W.1.toInt * sum.toInt := Int.mul_nonneg hWr.1 hsum0
                have hm : (W.1 * sum).toInt = W.1.toInt * sum.toInt := i64mul (by omega) (by omega)
                have hd : (W.1 * sum / m_all Ls c day at' 1).toInt = W.1.toInt * sum.toInt / (m_all Ls c day at' 1).toInt := by rw [i64div (by rw [hm]; exact hpr) hall0, hm]
                have hd0 : 0 ≤ (W.1 * sum / m_all Ls c day at' 1).toInt := by rw [hd]; exact Int.ediv_nonneg hpr hall.1
                have hv : 0 ≤ (if W.1 * sum / m_all Ls c day at' 1 < W.1 then W.1 - W.1 * sum / m_all Ls c day at' 1 else 0).toInt ∧ (if W.1 * sum / m_all Ls c day at' 1 < W.1 then W.1 - W.1 * sum / m_all Ls c day at' 1 else 0).toInt ≤ W.1.toInt := by
                  split
                  · rename_i hlt
                    rw [i64lt] at hlt
                    rw [i64sub (by omega) (by omega)]
                    omega
                  · rw [z64]; omega
                have hlr := less_rng (rs := ([(0, 0, W.1)], W.1)) (code := 3) (arg := 0) hWr.1 hWr.2 hv.1 hv.2
                exact sF_gd w hi hst hWr.1 hlr.1 hlr.2 (less_gd g1 hv.1) hsf
theorem begin_gd (w : WfD P T Ls Cs) (hi : Cs[i]? = some c) : GdR (m_begin P T Ls c day at').1 := by
  unfold m_begin
  cases hcv : m_cover P T c at' with
  | none => exact GdR.nil
  | some p =>
    simp only []
    split
    · exact GdR.nil
    · cases hs : m_sum T p (m_year (m_ld Ls c)) at' with
      | none => exact GdR.nil
      | some sum =>
        simp only []
        have hset := m_set_cls T p at'
        have eC : m_cls T p at' = clOf T (m_set T p at') := by rw [hset.1]; rfl
        unfold m_seven
        rw [eC]
        exact seven_gd w hi hset.2 (sum_rng w hs).1
theorem behind_gd {rs : List mRow × Int64} {tr : List Int32} {n : Nat} {C : List mCl} (w : WfD P T Ls Cs) (hi : Cs[i]? = some c) (h0 : 0 ≤ rs.2.toInt) (hg : GdR rs.1) : GdR (m_behind c day at' C rs tr n).1 := by
  have hs := fun act => summed_nn (day := day) (at' := at') (act := act) w hi
  unfold m_behind
  dsimp only
  have hl : GdR (m_less rs 10 0 (m_least (m_summed c.2.2.2.2.2 18 day at') rs.2)).1 := less_gd hg (by rw [least_int]; have := hs 18; omega)
  generalize m_less rs 10 0 (m_least (m_summed c.2.2.2.2.2 18 day at') rs.2) = r1 at hl
  split
  · exact hl
  · obtain ⟨it, hit⟩ : ∃ it, it = (if m_told C 9 = -1 then 0 else m_days2 r1.2 day at' 0 c.2.2.2.1 c.2.2.2.2.2 * m_told C 9 / 3650000) := ⟨_, rfl⟩
    rw [← hit]
    have hb : -9223372036854775808 < it.toInt := by
      rw [hit]
      split
      · decide
      · have := div_rng (m_days2 r1.2 day at' 0 c.2.2.2.1 c.2.2.2.2.2 * m_told C 9)
        omega
    have hr : GdR (if it = 0 then r1.1 else r1.1 ++ [((11 : Int32), (0 : Int32), it)]) := by
      split
      · exact hl
      · exact hl.snoc hb
    show GdR (if _ then _ else _)
    split
    · exact hr
    · exact hr.snoc (gd_neg (hs 13).1)
theorem work_gd (w : WfD P T Ls Cs) (hi : Cs[i]? = some c) : GdR (m_work P T Ls Cs i day at').1 := by
  have hb := begin_rng (day := day) (at' := at') w hi
  have hg := begin_gd (day := day) (at' := at') w hi
  unfold m_work
  rw [getD_of mCase0 hi]
  dsimp only
  obtain ⟨B, hB⟩ : ∃ B, B = m_begin P T Ls c day at' := ⟨_, rfl⟩
  rw [← hB] at hb hg ⊢
  split
  · exact hg
  · split
    · exact hg
    · split
      · exact hg
      · rename_i p _
        unfold m_after
        split
        · exact behind_gd w hi hb.1 hg
        · dsimp only
          have hset := m_set_cls T p at'
          have eC : m_cls T p at' = clOf T (m_set T p at') := by rw [hset.1]; rfl
          have t6 := told_rng w hset.2 6
          have t4 := told_rng w hset.2 4
          rw [← eC] at t6 t4
          have hmine : (m_brings P T Ls Cs day at' i B.2.2.2.2 i) = B.2.2.2.2 := by unfold m_brings; rw [if_pos rfl]
          have hzr := laid_rng (m_brings P T Ls Cs day at' i B.2.2.2.2) i (decide (m_told (m_cls T p at') 4 ≠ -1)) (m_ordL P T Ls Cs c day at' p (m_cls T p at') i) (if m_told (m_cls T p at') 6 = -1 then 0 else m_told (m_cls T p at') 6) (m_told (m_cls T p at') 4) (0, 0) (fun k hk => by
            unfold m_brings
            split
            · exact ⟨hb.1, hb.2.1⟩
            · have := (lay_lt _ _ _ k hk).1
              have := begin_rng (day := day) (at' := at') w (getD_some mCase0 this)
              exact ⟨this.1, this.2.1⟩) (by
            split
            · decide
            · rename_i h
              rcases t6 with q | q
              · exact absurd q h
              · exact q.1) (by
            intro h
            rcases t4 with q | q
            · rw [q] at h; exact absurd h (by decide)
            · exact q.1) (by
            rw [hmine]
            have := hb.1
            show 0 ≤ (0 : Int64).toInt ∧ 0 ≤ (0 : Int64).toInt ∧ (0 : Int64).toInt + (0 : Int64).toInt ≤ _
            rw [show (0 : Int64).toInt = 0 by decide]
            omega)
          rw [hmine] at hzr
          generalize m_laid (m_brings P T Ls Cs day at' i B.2.2.2.2) i (decide (m_told (m_cls T p at') 4 ≠ -1)) (if m_told (m_cls T p at') 6 = -1 then 0 else m_told (m_cls T p at') 6) (m_told (m_cls T p at') 4) (0, 0) (m_ordL P T Ls Cs c day at' p (m_cls T p at') i) = Z at hzr ⊢
          have b1 := less_rng (rs := (B.1, B.2.2.2.2)) (code := 8) (arg := 0) hb.1 hb.2.1 hzr.1 (show Z.1.toInt ≤ B.2.2.2.2.toInt by omega)
          have v1 : (m_less (B.1, B.2.2.2.2) 8 0 Z.1).2.toInt = B.2.2.2.2.toInt - Z.1.toInt := by
            have h1 := hb.1
            have h2 := hb.2.1
            unfold m_less
            split
            · rename_i h
              rw [h, show (0 : Int64).toInt = 0 by decide]
              show B.2.2.2.2.toInt = _
              omega
            · show (B.2.2.2.2 - Z.1).toInt = _
              exact i64sub (by omega) (by omega)
          have b2 := less_rng (rs := m_less (B.1, B.2.2.2.2) 8 0 Z.1) (code := 9) (arg := 0) b1.1 b1.2 hzr.2.1 (by omega)
          exact behind_gd w hi b2.1 (less_gd (less_gd hg hzr.1) hzr.2.1)
end
