/-! SHARES: the model's rounds and cents come to their end -/
def SI (f : Nat → Int64) : List Nat → Int
  | [] => 0
  | i :: l => (f i).toInt + SI f l
abbrev alv (al : Nat → Option Int64) (y : Nat) : Int64 := (al y).getD 0
theorem SI_up {g : Nat → Int64} {z : Nat} {v : Int64} : ∀ {l : List Nat}, l.Nodup → SI (va_up g z v) l = SI g l + (if z ∈ l then v.toInt - (g z).toInt else 0)
  | [], _ => by simp [SI]
  | y :: l, h => by
    rw [List.nodup_cons] at h
    rw [SI, SI, SI_up h.2]
    by_cases hy : y = z
    · subst hy
      rw [up_same, if_neg h.1, if_pos List.mem_cons_self]
      omega
    · rw [am_vup hy]
      by_cases hz : z ∈ l
      · rw [if_pos hz, if_pos (List.mem_cons_of_mem _ hz)]; omega
      · rw [if_neg hz, if_neg (by rw [List.mem_cons]; rintro (q | q); exact hy q.symm; exact hz q)]; omega
theorem SI_le {f g : Nat → Int64} : ∀ {l : List Nat}, (∀ y ∈ l, (f y).toInt ≤ (g y).toInt) → SI f l ≤ SI g l
  | [], _ => Int.le_refl _
  | y :: l, h => by
    have h1 := h y List.mem_cons_self
    have h2 := SI_le (l := l) (fun z hz => h z (List.mem_cons_of_mem _ hz))
    rw [SI, SI]
    omega
theorem SI_nn {f : Nat → Int64} : ∀ {l : List Nat}, (∀ y ∈ l, 0 ≤ (f y).toInt) → 0 ≤ SI f l
  | [], _ => Int.le_refl _
  | y :: l, h => by
    have h1 := h y List.mem_cons_self
    have h2 := SI_nn (l := l) (fun z hz => h z (List.mem_cons_of_mem _ hz))
    rw [SI]
    omega
theorem SI_mx {f : Nat → Int64} {B : Int} (hB : 0 ≤ B) : ∀ {l : List Nat}, (∀ y ∈ l, (f y).toInt ≤ B) → SI f l ≤ B * l.length
  | [], _ => by simp [SI]
  | y :: l, h => by
    have h1 := h y List.mem_cons_self
    have h2 := SI_mx hB (l := l) (fun z hz => h z (List.mem_cons_of_mem _ hz))
    rw [SI, List.length_cons, Int.natCast_add, Int.mul_add]
    omega
/-- shares so far: none has more than it would owe alone, no more is left than is wanting -/
def ShI (al : Nat → Option Int64) (ord : List Nat) (x : (Nat → Int64) × Int64) : Prop := (∀ y ∈ ord, 0 ≤ (x.1 y).toInt ∧ (x.1 y).toInt ≤ (alv al y).toInt) ∧ 0 ≤ x.2.toInt ∧ SI x.1 ord + x.2.toInt ≤ SI (alv al) ord
theorem lt64 {a b : Int64} : a < b ↔ a.toInt < b.toInt := i64lt
section
variable {al : Nat → Option Int64} {ord : List Nat}
theorem cent_ok (hn : ord.Nodup) (hB : ∀ y ∈ ord, (alv al y).toInt ≤ 10000000000000) : ∀ (l : List Nat) (x : (Nat → Int64) × Int64), (∀ y ∈ l, y ∈ ord) → ShI al ord x → ShI al ord (m_cent al l x) ∧ (m_cent al l x).2.toInt ≤ x.2.toInt ∧ (0 < x.2.toInt → (∃ y ∈ l, x.1 y < alv al y) → (m_cent al l x).2.toInt ≤ x.2.toInt - 1)
  | [], x, _, h => ⟨h, Int.le_refl _, fun _ q => by obtain ⟨y, hy, _⟩ := q; exact absurd hy List.not_mem_nil⟩
  | z :: l, x, hl, h => by
    have hz := hl z List.mem_cons_self
    have hl' : ∀ y ∈ l, y ∈ ord := fun y hy => hl y (List.mem_cons_of_mem _ hy)
    rw [m_cent]
    by_cases hc : 0 < x.2.toInt ∧ x.1 z < alv al z
    · rw [if_pos hc]
      have hlt := lt64.mp hc.2
      have hb := hB z hz
      have h0 := h.1 z hz
      have one : (1 : Int64).toInt = 1 := by decide
      have e1 : (x.1 z + 1).toInt = (x.1 z).toInt + 1 := by rw [i64add (by rw [one]; omega) (by rw [one]; omega), one]
      have hx2 := r64 x.2
      have e2 : (x.2 - 1).toInt = x.2.toInt - 1 := by rw [i64sub (by rw [one]; omega) (by rw [one]; omega), one]
      have h' : ShI al ord (va_up x.1 z (x.1 z + 1), x.2 - 1) := by
        refine ⟨fun y hy => ?_, by show 0 ≤ (x.2 - 1).toInt; omega, ?_⟩
        · show 0 ≤ (va_up x.1 z (x.1 z + 1) y).toInt ∧ (va_up x.1 z (x.1 z + 1) y).toInt ≤ _
          by_cases hyz : y = z
          · subst hyz; rw [up_same]; omega
          · rw [am_vup hyz]; exact h.1 y hy
        · show SI (va_up x.1 z (x.1 z + 1)) ord + (x.2 - 1).toInt ≤ _
          rw [SI_up hn, if_pos hz]
          have := h.2.2
          omega
      have r := cent_ok hn hB l _ hl' h'
      refine ⟨r.1, by have := r.2.1; show _ ≤ _; have e : (va_up x.1 z (x.1 z + 1), x.2 - 1).2.toInt = (x.2 - 1).toInt := rfl; omega, fun _ _ => ?_⟩
      have := r.2.1
      have e : (va_up x.1 z (x.1 z + 1), x.2 - 1).2.toInt = (x.2 - 1).toInt := rfl
      omega
    · rw [if_neg hc]
      have r := cent_ok hn hB l x hl' h
      refine ⟨r.1, r.2.1, fun hp q => r.2.2 hp ?_⟩
      obtain ⟨y, hy, hlt⟩ := q
      rcases List.mem_cons.mp hy with e | e
      · subst e; exact absurd ⟨hp, hlt⟩ hc
      · exact ⟨y, e, hlt⟩
theorem lack_ex (x : (Nat → Int64) × Int64) (h : ShI al ord x) (hp : 0 < x.2.toInt) : ∃ y ∈ ord, x.1 y < alv al y := by
  apply Classical.byContradiction
  intro q
  have : ∀ y ∈ ord, (alv al y).toInt ≤ (x.1 y).toInt := by
    intro y hy
    apply Int.not_lt.mp
    intro hlt
    exact q ⟨y, hy, lt64.mpr hlt⟩
  have h1 := SI_le this
  have := h.2.2
  omega
theorem cents_ok (hn : ord.Nodup) (hB : ∀ y ∈ ord, (alv al y).toInt ≤ 10000000000000) : ∀ (n : Nat) (x : (Nat → Int64) × Int64), ShI al ord x → x.2.toInt ≤ n → (m_cents al ord n x).2.toInt ≤ 0
  | 0, x, _, h => h
  | n + 1, x, hs, h => by
    rw [m_cents]
    by_cases hp : 0 < x.2.toInt
    · rw [if_pos hp]
      have r := cent_ok hn hB ord x (fun y hy => hy) hs
      have h2 := r.2.2 hp (lack_ex x hs hp)
      exact cents_ok hn hB n _ r.1 (by omega)
    · rw [if_neg hp]; omega
/-- as many cents as at most lack one each -/
theorem cent_all (hn : ord.Nodup) (hB : ∀ y ∈ ord, (alv al y).toInt ≤ 10000000000000) : ∀ (l : List Nat) (x : (Nat → Int64) × Int64), l.Nodup → (∀ y ∈ l, y ∈ ord) → ShI al ord x → x.2.toInt ≤ m_lack al x.1 l → (m_cent al l x).2.toInt ≤ 0
  | [], x, _, _, _, h => by simpa [m_cent, m_lack] using h
  | z :: l, x, hnl, hl, hs, h => by
    have hz := hl z List.mem_cons_self
    have hl' : ∀ y ∈ l, y ∈ ord := fun y hy => hl y (List.mem_cons_of_mem _ hy)
    rw [List.nodup_cons] at hnl
    rw [lack_cons] at h
    have step := cent_ok hn hB [z] x (fun y hy => by rw [List.mem_singleton] at hy; subst hy; exact hz) hs
    have e1 : m_cent al (z :: l) x = m_cent al l (m_cent al [z] x) := rfl
    rw [e1]
    have e2 : m_cent al [z] x = if 0 < x.2.toInt ∧ x.1 z < alv al z then (va_up x.1 z (x.1 z + 1), x.2 - 1) else x := rfl
    have hlk : m_lack al (m_cent al [z] x).1 l = m_lack al x.1 l := by
      rw [e2]
      split
      · unfold m_lack
        congr 1
        apply List.filter_congr
        intro y hy
        have : y ≠ z := fun q => hnl.1 (by rw [← q]; exact hy)
        show decide (va_up x.1 z (x.1 z + 1) y < _) = _
        rw [am_vup this]
      · rfl
    refine cent_all hn hB l _ hnl.2 hl' step.1 ?_
    rw [hlk]
    by_cases hc : x.1 z < alv al z
    · rw [if_pos hc] at h
      by_cases hp : 0 < x.2.toInt
      · have := step.2.2 hp ⟨z, List.mem_singleton.mpr rfl, hc⟩
        omega
      · have := step.2.1
        omega
    · rw [if_neg hc] at h
      have := step.2.1
      omega
theorem least_int {a b : Int64} : (m_least a b).toInt = min a.toInt b.toInt := by
  unfold m_least
  split
  · rename_i h; rw [lt64] at h; omega
  · rename_i h; rw [lt64] at h; omega
/-- what one round gives, over a piece of the order -/
theorem give_ok (hn : ord.Nodup) (hB : ∀ y ∈ ord, (alv al y).toInt ≤ 10000000000000) {e : Int64} (he : 0 < e.toInt) : ∀ (l : List Nat) (x : (Nat → Int64) × Int64), l.Nodup → (∀ y ∈ l, y ∈ ord) → (∀ y ∈ ord, 0 ≤ (x.1 y).toInt ∧ (x.1 y).toInt ≤ (alv al y).toInt) → e.toInt * m_lack al x.1 l ≤ x.2.toInt → ∃ G : Int, 0 ≤ G ∧ G ≤ e.toInt * m_lack al x.1 l ∧ (m_give al e l x).2.toInt = x.2.toInt - G ∧ (∀ y ∈ ord, 0 ≤ ((m_give al e l x).1 y).toInt ∧ ((m_give al e l x).1 y).toInt ≤ (alv al y).toInt) ∧ SI (m_give al e l x).1 ord = SI x.1 ord + G ∧ m_lack al (m_give al e l x).1 l ≤ m_lack al x.1 l ∧ (m_lack al (m_give al e l x).1 l = m_lack al x.1 l → G = e.toInt * m_lack al x.1 l) ∧ ∀ y, y ∉ l → (m_give al e l x).1 y = x.1 y
  | [], x, _, _, h, _ => ⟨0, Int.le_refl _, by simp [m_lack], by simp [m_give], h, by simp [m_give], by simp [m_give], fun _ => by simp [m_lack], fun y _ => rfl⟩
  | z :: l, x, hnl, hl, h, hle => by
    have hz := hl z List.mem_cons_self
    have hl' : ∀ y ∈ l, y ∈ ord := fun y hy => hl y (List.mem_cons_of_mem _ hy)
    rw [List.nodup_cons] at hnl
    have h0 := h z hz
    have hb := hB z hz
    have hx2 := r64 x.2
    have hr := r64 e
    rw [lack_cons] at hle
    have e1 : m_give al e (z :: l) x = m_give al e l (va_up x.1 z (x.1 z + m_least (alv al z - x.1 z) e), x.2 - m_least (alv al z - x.1 z) e) := rfl
    have d1 : (alv al z - x.1 z).toInt = (alv al z).toInt - (x.1 z).toInt := i64sub (by omega) (by omega)
    have d2 : (m_least (alv al z - x.1 z) e).toInt = min ((alv al z).toInt - (x.1 z).toInt) e.toInt := by rw [least_int, d1]
    obtain ⟨m, hm⟩ : ∃ m, m = m_least (alv al z - x.1 z) e := ⟨_, rfl⟩
    rw [← hm] at e1 d2
    have d3 : (x.1 z + m).toInt = (x.1 z).toInt + m.toInt := i64add (by omega) (by omega)
    have hlk0 : 0 ≤ e.toInt * (m_lack al x.1 l : Int) := Int.mul_nonneg (by omega) (by omega)
    have hcase : (x.1 z < alv al z) ↔ (x.1 z).toInt < (alv al z).toInt := lt64
    have hmle : m.toInt ≤ e.toInt * ((if x.1 z < alv al z then 1 else 0 : Nat) : Int) := by
      by_cases hc : x.1 z < alv al z
      · rw [if_pos hc]; simp; omega
      · rw [if_neg hc]; rw [hcase] at hc; simp; omega
    have hle2 : e.toInt * ((m_lack al x.1 l : Int) + ((if x.1 z < alv al z then 1 else 0 : Nat) : Int)) ≤ x.2.toInt := by
      have : ((m_lack al x.1 l + if x.1 z < alv al z then 1 else 0 : Nat) : Int) = (m_lack al x.1 l : Int) + ((if x.1 z < alv al z then 1 else 0 : Nat) : Int) := by omega
      rw [← this]; exact hle
    rw [Int.mul_add] at hle2
    have d4 : (x.2 - m).toInt = x.2.toInt - m.toInt := i64sub (by omega) (by omega)
    have hlk : m_lack al (va_up x.1 z (x.1 z + m)) l = m_lack al x.1 l := by
      unfold m_lack
      congr 1
      apply List.filter_congr
      intro y hy
      have : y ≠ z := fun q => hnl.1 (by rw [← q]; exact hy)
      show decide (va_up x.1 z (x.1 z + m) y < _) = _
      rw [am_vup this]
    have ih := give_ok hn hB he l (va_up x.1 z (x.1 z + m), x.2 - m) hnl.2 hl' (fun y hy => by
      show 0 ≤ (va_up x.1 z (x.1 z + m) y).toInt ∧ (va_up x.1 z (x.1 z + m) y).toInt ≤ _
      by_cases hyz : y = z
      · subst hyz; rw [up_same, d3]; omega
      · rw [am_vup hyz]; exact h y hy) (by
      show e.toInt * (m_lack al (va_up x.1 z (x.1 z + m)) l : Int) ≤ (x.2 - m).toInt
      rw [hlk, d4]
      omega)
    obtain ⟨G, g1, g2, g3, g4, g5, g6, g7, g8⟩ := ih
    have hlk' : m_lack al (va_up x.1 z (x.1 z + m), x.2 - m).1 l = m_lack al x.1 l := hlk
    rw [hlk'] at g2 g6 g7
    rw [← e1] at g3 g4 g5 g6 g7 g8
    have gz : (m_give al e (z :: l) x).1 z = x.1 z + m := by
      rw [g8 z hnl.1]
      exact up_same
    refine ⟨G + m.toInt, by omega, ?_, ?_, g4, ?_, ?_, ?_, ?_⟩
    · rw [lack_cons]
      have : ((m_lack al x.1 l + if x.1 z < alv al z then 1 else 0 : Nat) : Int) = (m_lack al x.1 l : Int) + ((if x.1 z < alv al z then 1 else 0 : Nat) : Int) := by omega
      rw [this, Int.mul_add]
      omega
    · rw [g3]
      show (x.2 - m).toInt - G = _
      rw [d4]
      omega
    · rw [g5]
      show SI (va_up x.1 z (x.1 z + m)) ord + G = _
      rw [SI_up hn, if_pos hz, d3]
      omega
    · rw [lack_cons, lack_cons, gz]
      have : ¬ (x.1 z < alv al z) → ¬ (x.1 z + m < alv al z) := by
        intro q
        rw [lt64] at q ⊢
        rw [d3]
        omega
      by_cases hc : x.1 z < alv al z
      · rw [if_pos hc]; split <;> omega
      · rw [if_neg hc, if_neg (this hc)]; omega
    · rw [lack_cons, lack_cons, gz]
      intro heq
      have : ((m_lack al x.1 l + if x.1 z < alv al z then 1 else 0 : Nat) : Int) = (m_lack al x.1 l : Int) + ((if x.1 z < alv al z then 1 else 0 : Nat) : Int) := by omega
      rw [this, Int.mul_add]
      by_cases hc : x.1 z < alv al z
      · rw [if_pos hc] at heq ⊢
        have hc2 : x.1 z + m < alv al z := by
          apply Classical.byContradiction
          intro q
          rw [if_neg q] at heq
          omega
        rw [if_pos hc2] at heq
        have hG := g7 (by omega)
        rw [lt64, d3] at hc2
        have : m.toInt = e.toInt := by omega
        rw [hG, this]
        simp
      · rw [if_neg hc] at heq ⊢
        have hc2 : ¬ x.1 z + m < alv al z := by
          rw [lt64] at hc ⊢
          rw [d3]
          omega
        rw [if_neg hc2] at heq
        have hG := g7 (by omega)
        rw [hcase] at hc
        have : m.toInt = 0 := by omega
        rw [hG, this]
        simp
    · intro y hy
      rw [List.mem_cons] at hy
      rw [g8 y (fun q => hy (Or.inr q))]
      exact am_vup (fun q => hy (Or.inl q))
theorem rounds_ok (hn : ord.Nodup) (hlen : ord.length ≤ 6) (hB : ∀ y ∈ ord, (alv al y).toInt ≤ 10000000000000) : ∀ (n : Nat) (x : (Nat → Int64) × Int64), ShI al ord x → m_lack al x.1 ord ≤ n → m_rdone al ord (n + 2) x := by
  intro n
  have z64 : (0 : Int64).toInt = 0 := by decide
  induction n with
  | zero => intro x _ h q; exact absurd (by omega) q.2
  | succ n ih =>
    intro x hs h
    rw [m_rdone]
    intro hq
    have hle := lack_le al x.1 ord
    have hL : (Int64.ofNat (m_lack al x.1 ord)).toInt = m_lack al x.1 ord := n64 (by omega)
    have hLpos : 0 < (m_lack al x.1 ord : Int) := by omega
    have ed : (x.2 / Int64.ofNat (m_lack al x.1 ord)).toInt = x.2.toInt / (m_lack al x.1 ord : Int) := by rw [i64div (by omega) (by omega), hL]
    have hdm := Int.mul_ediv_add_emod x.2.toInt (m_lack al x.1 ord : Int)
    have hmod := Int.emod_lt_of_pos x.2.toInt hLpos
    have hmod0 := Int.emod_nonneg x.2.toInt (show (m_lack al x.1 ord : Int) ≠ 0 by omega)
    refine ⟨fun h0 => ?_, fun h0 => ?_⟩
    · refine cent_all hn hB ord x hn (fun y hy => hy) hs ?_
      have h0' : x.2.toInt / (m_lack al x.1 ord : Int) = 0 := by rw [← ed, h0, z64]
      rw [h0', Int.mul_zero] at hdm
      omega
    · have hepos : 0 < (x.2 / Int64.ofNat (m_lack al x.1 ord)).toInt := by
        rw [ed]
        have h1 : 0 ≤ x.2.toInt / (m_lack al x.1 ord : Int) := Int.ediv_nonneg (by omega) (by omega)
        have h2 : x.2.toInt / (m_lack al x.1 ord : Int) ≠ 0 := fun q => h0 (Int64.toInt_inj.mp (by rw [ed, q, z64]))
        omega
      obtain ⟨e, he⟩ : ∃ e, e = x.2 / Int64.ofNat (m_lack al x.1 ord) := ⟨_, rfl⟩
      rw [← he] at hepos ed ⊢
      have hmul : e.toInt * (m_lack al x.1 ord : Int) = x.2.toInt - x.2.toInt % (m_lack al x.1 ord : Int) := by rw [ed, Int.mul_comm]; omega
      obtain ⟨G, g1, g2, g3, g4, g5, g6, g7, g8⟩ := give_ok hn hB hepos ord x hn (fun y hy => hy) hs.1 (by omega)
      have hs' : ShI al ord (m_give al e ord x) := ⟨g4, by omega, by have := hs.2.2; omega⟩
      by_cases hlt : m_lack al (m_give al e ord x).1 ord ≤ n
      · exact ih _ hs' hlt
      · have heq : m_lack al (m_give al e ord x).1 ord = m_lack al x.1 ord := by omega
        have hG := g7 heq
        rw [m_rdone]
        intro hq2
        have hL2 : (Int64.ofNat (m_lack al (m_give al e ord x).1 ord)).toInt = m_lack al x.1 ord := by rw [heq]; exact hL
        have hsm : (m_give al e ord x).2.toInt < m_lack al x.1 ord := by omega
        refine ⟨fun _ => cent_all hn hB ord _ hn (fun y hy => hy) hs' (by rw [heq]; omega), fun q => absurd ?_ q⟩
        apply Int64.toInt_inj.mp
        rw [i64div (by omega) (by omega), hL2, z64]
        exact Int.ediv_eq_zero_of_lt (by omega) hsm
end
