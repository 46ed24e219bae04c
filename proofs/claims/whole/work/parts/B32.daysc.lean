/-! THE CLASS: the same as the model's -/
theorem q_5 (a b : Int64) : a * b = b * a := by grind
theorem q_6 (a : Int32) : a - a = 0 := by grind
theorem q_7 (a : Int64) : (0 : Int64) * a = 0 := by grind
theorem q_8 (a : Int64) : (0 : Int64) + a = a := by grind
theorem un_day {day : Int32} {f : mFact} (h0 : 0 ≤ f.2.1.toInt) (h1 : f.2.1.toInt ≤ 10949) : c_un day f = (if f.2.1 + 1 < day then f.2.1 + 1 else day) := by
  have t1 : (1 : Int32).toInt = 1 := by decide
  have e1 : (f.2.1 + 1).toInt = f.2.1.toInt + 1 := by rw [i32add (by rw [t1]; omega) (by rw [t1]; omega), t1]
  unfold c_un
  by_cases a : day < f.2.1 + 1
  · rw [if_pos a]
    rw [i32lt, e1] at a
    rw [if_neg (by rw [i32lt, e1]; omega)]
  · rw [if_neg a]
    rw [i32lt, e1] at a
    by_cases c : f.2.1 + 1 < day
    · rw [if_pos c]
    · rw [if_neg c]
      rw [i32lt, e1] at c
      rw [i32e, e1]
      omega
theorem fd_zero {s : Int64} {at' day : Int32} : ∀ (l : List mFact) (paid : Int64), (∀ g ∈ l, WfFac g ∧ day.toInt < g.2.1.toInt) → c_fd s at' day paid day l = 0
  | [], paid, _ => by
    show (day - day).toInt64 * _ = 0
    rw [q_6]
    exact q_7 _
  | g :: l, paid, h => by
    obtain ⟨w, hd⟩ := h g List.mem_cons_self
    have i1 := fun p => fd_zero (s := s) (at' := at') (day := day) l p (fun z hz => h z (List.mem_cons_of_mem _ hz))
    have t1 : (1 : Int32).toInt = 1 := by decide
    have e1 : (g.2.1 + 1).toInt = g.2.1.toInt + 1 := by rw [i32add (by rw [t1]; have := w.2.2.1; omega) (by rw [t1]; have := w.2.2.2.1; omega), t1]
    have eu : c_un day g = day := by
      unfold c_un
      rw [if_pos (by rw [i32lt, e1]; omega)]
    rw [c_fd, eu, i1, i1, q_6]
    by_cases hk : c_kn at' g = true
    · rw [if_pos hk, q_1]
      exact q_7 _
    · rw [if_neg hk]
theorem days_skip {s : Int64} {at' day : Int32} {paid : Int64} {fr : Int32} : ∀ (l : List mFact), (∀ g ∈ l, day.toInt < g.2.1.toInt) → m_days2 s day at' paid fr l = (if paid < s then s - paid else 0) * (day - fr).toInt64
  | [], _ => rfl
  | g :: l, h => by
    have hd := h g List.mem_cons_self
    have i1 := days_skip (s := s) (at' := at') (day := day) (paid := paid) (fr := fr) l (fun z hz => h z (List.mem_cons_of_mem _ hz))
    have hc : (decide (g.1 = 13) && m_counts g day at') = false := by
      unfold m_counts
      rw [decide_eq_false (show ¬ ¬ day < g.2.1 from fun z => z (i32lt.mpr hd)), Bool.and_false, Bool.and_false]
    rw [m_days2, hc, if_neg (by decide)]
    exact i1
theorem fd_days {s : Int64} {at' day : Int32} (hs0 : 0 ≤ s.toInt) (hs1 : s.toInt ≤ 10000000000000) : ∀ (l : List mFact) (paid : Int64) (fr : Int32), (∀ f ∈ l, WfFac f) → l.Pairwise (fun f g => f.2.1.toInt ≤ g.2.1.toInt) → l.length ≤ 40 → 0 ≤ paid.toInt → paid.toInt ≤ 1000000000000 * (40 - l.length) → c_fd s at' day paid fr l = m_days2 s day at' paid fr l
  | [], paid, fr, _, _, _, h0, _ => by
    show (day - fr).toInt64 * c_mx (s - paid) = _ * (day - fr).toInt64
    unfold c_mx
    rw [max_less hs0 hs1 h0, q_5]
  | f :: l, paid, fr, hw, hp, hl, h0, h1 => by
    have w := hw f List.mem_cons_self
    have hwl : ∀ g ∈ l, WfFac g := fun g hg => hw g (List.mem_cons_of_mem _ hg)
    rw [List.pairwise_cons] at hp
    rw [List.length_cons] at hl h1
    have i1 := fun p z hz hz2 => fd_days (s := s) (at' := at') (day := day) hs0 hs1 l p z hwl hp.2 (by omega) hz hz2
    have wd0 := w.2.2.1
    have wd1 := w.2.2.2.1
    have hfc0 := w.2.2.2.2.1
    have hfc1 := w.2.2.2.2.2.1
    have hfi0 := w.2.2.2.2.2.2.1
    have hfi1 := w.2.2.2.2.2.2.2.1
    have t9 : (10949 : Int32).toInt = 10949 := by decide
    have h9 : ¬ (10949 : Int32) < f.2.1 := by rw [i32lt, t9]; omega
    have ed : (m_fc f - m_fi f).toInt = (m_fc f).toInt - (m_fi f).toInt := i64sub (by omega) (by omega)
    have ep : (paid + (m_fc f - m_fi f)).toInt = paid.toInt + ((m_fc f).toInt - (m_fi f).toInt) := by rw [i64add (by rw [ed]; omega) (by rw [ed]; omega), ed]
    have hn0 : 0 ≤ (paid + (m_fc f - m_fi f)).toInt := by rw [ep]; omega
    have hn1 : (paid + (m_fc f - m_fi f)).toInt ≤ 1000000000000 * (40 - l.length) := by rw [ep]; omega
    rw [c_fd, m_days2, i1 _ _ hn0 hn1, i1 _ _ h0 (by omega)]
    by_cases hd : day < f.2.1
    · have hc : (decide (f.1 = 13) && m_counts f day at') = false := by
        unfold m_counts
        rw [decide_eq_false (show ¬ ¬ day < f.2.1 from fun z => z hd), Bool.and_false, Bool.and_false]
      rw [hc, if_neg (show ¬ (false = true) by decide)]
      by_cases hk : c_kn at' f = true
      · have hgd : ∀ g ∈ l, day.toInt < g.2.1.toInt := fun g hg => by
          have := hp.1 g hg
          have := i32lt.mp hd
          omega
        have eu : c_un day f = day := by
          rw [un_day wd0 wd1, if_neg]
          have t1 : (1 : Int32).toInt = 1 := by decide
          have := i32lt.mp hd
          rw [i32lt, i32add (by rw [t1]; omega) (by rw [t1]; omega), t1]
          omega
        rw [if_pos hk, eu, ← i1 _ _ hn0 hn1, fd_zero l _ (fun g hg => ⟨hwl g hg, hgd g hg⟩), q_1, days_skip l hgd]
        unfold c_mx
        rw [max_less hs0 hs1 h0, q_5]
      · rw [if_neg hk]
    · have hk : c_kn at' f = (decide (f.1 = 13) && m_counts f day at') := by
        unfold c_kn m_counts
        rw [decide_eq_true h9, decide_eq_true hd]
      rw [hk]
      by_cases hc : (decide (f.1 = 13) && m_counts f day at') = true
      · rw [if_pos hc, if_pos hc, un_day wd0 wd1]
        unfold c_mx
        rw [max_less hs0 hs1 h0, q_5]
      · rw [if_neg hc, if_neg hc]
