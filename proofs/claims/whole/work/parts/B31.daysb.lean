/-! THE CLASS: the same, from the first fact on -/
abbrev c_kn (at' : Int32) (f : mFact) : Bool := decide (f.1 = 13) && m_counts f 10949 at'
def c_fd (s : Int64) (at' un : Int32) : Int64 → Int32 → List mFact → Int64
  | paid, fr, [] => (un - fr).toInt64 * c_mx (s - paid)
  | paid, fr, f :: l => if c_kn at' f = true then (c_un un f - fr).toInt64 * c_mx (s - paid) + c_fd s at' un (paid + (m_fc f - m_fi f)) (c_un un f) l else c_fd s at' un paid fr l
def c_pd (at' : Int32) : List mFact → Int64
  | [] => 0
  | f :: l => (if c_kn at' f = true then m_fc f - m_fi f else 0) + c_pd at' l
theorem q_1 (a : Int64) : a + 0 = a := by grind
theorem q_2 (a b c : Int64) : a + b + c = a + (b + c) := by grind
theorem q_3 (a b c : Int64) : a + (b + c) - c = a + b := by grind
theorem q_4 (t a c : Int64) : t + a + c = t + (c + a) := by grind
theorem pd_app (at' : Int32) (f : mFact) : ∀ m : List mFact, c_pd at' (m ++ [f]) = c_pd at' m + (if c_kn at' f = true then m_fc f - m_fi f else 0)
  | [] => by
    show _ + (0 : Int64) = 0 + _
    rw [q_1]
    grind
  | g :: m => by
    have := pd_app at' f m
    rw [List.cons_append]
    unfold c_pd
    rw [this, q_2]
theorem fd_app {s : Int64} {at' un : Int32} {f : mFact} : ∀ (m : List mFact) (paid : Int64) (fr : Int32), (∀ g ∈ m, c_un (c_un un f) g = c_un un g) → c_fd s at' un paid fr (m ++ [f]) = if c_kn at' f = true then c_fd s at' (c_un un f) paid fr m + (un - c_un un f).toInt64 * c_mx (s - (paid + (c_pd at' m + (m_fc f - m_fi f)))) else c_fd s at' un paid fr m
  | [], paid, fr, _ => by
    have e : (0 : Int64) + (m_fc f - m_fi f) = m_fc f - m_fi f := i640a _
    show c_fd s at' un paid fr [f] = _
    unfold c_pd
    rw [e]
    by_cases h : c_kn at' f = true
    · rw [if_pos h]
      unfold c_fd
      rw [if_pos h]
      rfl
    · rw [if_neg h]
      show (if c_kn at' f = true then _ else _) = _
      rw [if_neg h]
  | g :: m, paid, fr, hg => by
    have hg1 := hg g List.mem_cons_self
    have i1 := fd_app (s := s) (at' := at') (un := un) (f := f) m (paid + (m_fc g - m_fi g)) (c_un un g) (fun z hz => hg z (List.mem_cons_of_mem _ hz))
    have i2 := fd_app (s := s) (at' := at') (un := un) (f := f) m paid fr (fun z hz => hg z (List.mem_cons_of_mem _ hz))
    rw [List.cons_append]
    rw [c_fd, c_fd, c_fd, c_pd, hg1]
    by_cases h : c_kn at' g = true
    · rw [if_pos h, if_pos h, if_pos h, if_pos h, i1]
      by_cases h2 : c_kn at' f = true
      · rw [if_pos h2, if_pos h2, q_2, q_2, q_2]
      · rw [if_neg h2, if_neg h2]
    · rw [if_neg h, if_neg h, if_neg h, if_neg h, i2, i640a]
theorem bd_fd {s : Int64} {at' notice : Int32} {p0 : Int64} : ∀ (n : Nat) (l : List mFact) (tot : Int64) (un : Int32), l.length = n → l.Pairwise (fun f g => f.2.1.toInt ≤ g.2.1.toInt) → (∀ f ∈ l, f.2.1.toInt ≤ 10949) → (∀ f ∈ l, 0 ≤ f.2.1.toInt) → c_bd s notice at' tot (p0 + c_pd at' l) un l.reverse = tot + c_fd s at' un p0 notice l := by
  intro n
  induction n with
  | zero =>
    intro l tot un hl _ _ _
    obtain rfl := List.length_eq_zero_iff.mp hl
    show tot + _ * c_mx (s - (p0 + 0)) = _
    rw [q_1]
    rfl
  | succ n ih =>
    intro l tot un hl hp hd hd0
    have hne : l ≠ [] := fun h => by rw [h] at hl; simp at hl
    obtain ⟨m, f, e2⟩ : ∃ m f, l = m ++ [f] := ⟨_, _, (List.dropLast_concat_getLast hne).symm⟩
    subst e2
    have hm : m.length = n := by rw [List.length_append] at hl; simp at hl; exact hl
    rw [List.pairwise_append] at hp
    have hgf : ∀ g ∈ m, g.2.1.toInt ≤ f.2.1.toInt := fun g hg => hp.2.2 g hg f (by simp)
    have hf := hd f (by simp)
    have hf0 := hd0 f (by simp)
    have t1 : (1 : Int32).toInt = 1 := by decide
    have hcu : ∀ g ∈ m, c_un (c_un un f) g = c_un un g := by
      intro g hg
      have h1 := hgf g hg
      have h2 := hd0 g (List.mem_append.mpr (Or.inl hg))
      have e1 : (f.2.1 + 1).toInt = f.2.1.toInt + 1 := by rw [i32add (by rw [t1]; omega) (by rw [t1]; omega), t1]
      have e3 : (g.2.1 + 1).toInt = g.2.1.toInt + 1 := by rw [i32add (by rw [t1]; omega) (by rw [t1]; omega), t1]
      unfold c_un
      by_cases a : un < f.2.1 + 1
      · rw [if_pos a]
      · rw [if_neg a]
        rw [i32lt, e1] at a
        by_cases c : f.2.1 + 1 < g.2.1 + 1
        · rw [i32lt, e1, e3] at c
          omega
        · rw [if_neg c, if_neg (by rw [i32lt, e3]; omega)]
    rw [List.reverse_append, List.reverse_singleton, List.singleton_append, fd_app m p0 notice hcu, pd_app]
    have i1 := fun tot un => ih m tot un hm hp.1 (fun g hg => hd g (List.mem_append.mpr (Or.inl hg))) (fun g hg => hd0 g (List.mem_append.mpr (Or.inl hg)))
    rw [c_bd]
    by_cases h : c_kn at' f = true
    · rw [if_pos h, if_pos h, if_pos h, q_3, i1, q_4]
    · rw [if_neg h, if_neg h, if_neg h, q_1, i1]
