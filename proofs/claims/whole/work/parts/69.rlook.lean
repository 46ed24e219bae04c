/-! LOOKING UP of the reference -/
theorem ite2 {α : Type} {A B : Prop} [Decidable A] [Decidable B] {x y : α} : (if A then (if B then x else y) else x) = if (decide A && decide (¬ B)) = true then y else x := by
  by_cases hA : A <;> by_cases hB : B <;> simp [hA, hB]
theorem ite3 {α : Type} {A C B : Prop} [Decidable A] [Decidable B] [Decidable C] {x y : α} : (if A then (if C then (if B then x else y) else x) else x) = if (decide A && (decide C && decide (¬ B))) = true then y else x := by
  by_cases hA : A <;> by_cases hB : B <;> by_cases hC : C <;> simp [hA, hB, hC]
theorem m_last_map {α β : Type} (q : α → Bool) (f : α → β) (z : β) : ∀ (l : List α) (u : Option α), m_last q f (u.elim z f) l = (m_last q some u l).elim z f
  | [], u => rfl
  | x :: l, u => by
    rw [m_last, m_last, ← m_last_map q f z l]
    congr 1
    by_cases hq : q x = true
    · rw [if_pos hq, if_pos hq]; rfl
    · rw [if_neg hq, if_neg hq]
theorem m_last_filter {α β : Type} (p q q' : α → Bool) (f : α → β) (h : ∀ x, q x = (p x && q' x)) : ∀ (l : List α) (z : β), m_last q f z l = m_last q' f z (l.filter p)
  | [], z => rfl
  | x :: l, z => by
    rw [m_last, m_last_filter p q q' f h l, h x]
    by_cases hp : p x = true
    · rw [List.filter_cons_of_pos hp, m_last, hp, Bool.true_and]
    · rw [List.filter_cons_of_neg hp]
      simp only [Bool.not_eq_true] at hp
      rw [hp, Bool.false_and]
      rfl
abbrev m_q3 (who : Nat) (which at' : Int32) (t : mTell) : Bool := decide (t.2.1 = who) && (decide (t.2.2.1 = which) && decide (¬ at' < t.2.2.2.1))
theorem look_eq {β : Type} (f : mTell → β) (z : β) (T : List mTell) (act : Int32) (who : Nat) (which at' : Int32) : (m_look T act who which at').elim z f = m_last (m_q3 who which at') f z (tlA T act) := by
  unfold m_look
  rw [← m_last_map _ f z T none]
  show m_last _ f z T = _
  exact m_last_filter _ _ _ _ (fun x => rfl) T z
theorem m_last_congr {α β : Type} (q q' : α → Bool) (f : α → β) : ∀ (l : List α) (z : β), (∀ x ∈ l, q x = q' x) → m_last q f z l = m_last q' f z l
  | [], z, _ => rfl
  | x :: l, z, h => by
    rw [m_last, m_last, h x List.mem_cons_self]
    exact m_last_congr q q' f l _ (fun y hy => h y (List.mem_cons_of_mem _ hy))
def tl0 : mTell := (0, 0, 0, 0, 0, [])
theorem drop_cons {α : Type} {l : List α} {k : Nat} (z : α) (h : k < l.length) : l.drop k = l.getD k z :: l.drop (k + 1) := by
  rw [List.drop_eq_getElem_cons h]
  simp [List.getD, List.getElem?_eq_getElem h]
/-- what was told is of policies that there are -/
def WfT (T : List mTell) : Prop := ∀ t ∈ T, t.2.1 < 1000 ∧ (t.1 = 2 → t.2.1 = 0)
theorem WfT.get {T : List mTell} {n : Int32} (h : WfT T) {i : Nat} {t : mTell} (hi : (tlA T n)[i]? = some t) : t.2.1 < 1000 ∧ t.1 = n ∧ t ∈ T := by
  have hm := List.mem_of_getElem? hi
  unfold tlA at hm
  rw [List.mem_filter] at hm
  exact ⟨(h t hm.1).1, of_decide_eq_true hm.2, hm.1⟩
section
variable {nl : Bool} {Ln : Nat} {xs : Nat → Int32} {d : Nat} {σ : am_S} {o : Nat}
theorem r_rankOf {T : List mTell} {who at' : Int32} {F : Int32 → am_S → Prop} (hK : OffK σ o) (hR' : rRnk σ o (tlA T 2)) (h60 : (tlA T 2).length ≤ 60) (hT : WfT T) (K : F (m_rank T who at') σ) : k_Ro_rank nl Ln xs (d + 1) o who at' σ F := by
  obtain ⟨R, hRe⟩ : ∃ R, R = tlA T 2 := ⟨_, rfl⟩
  have K' : F (m_last (fun t : mTell => decide (t.2.2.1 = who) && decide (¬ at' < t.2.2.2.1)) (fun t => (tVal t).toInt32) who (R.drop 0)) σ := by
    have em : m_rank T who at' = (m_look T 2 0 who at').elim who (fun t => t.2.2.2.2.1.toInt32) := by unfold m_rank; cases m_look T 2 0 who at' <;> rfl
    rw [em, look_eq (fun t => t.2.2.2.2.1.toInt32) who T 2 0 who at'] at K
    rw [hRe, List.drop_zero, ← m_last_congr (m_q3 0 who at')]
    · exact K
    · intro x hx
      have hm := List.mem_filter.mp hx
      have := (hT x hm.1).2 (of_decide_eq_true hm.2)
      simp [m_q3, this]
  rw [← hRe] at hR' h60
  have hR := hR'
  have loop : ∀ (j k : Nat) (acc : Int32), k + j = R.length → F (m_last (fun t : mTell => decide (t.2.2.1 = who) && decide (¬ at' < t.2.2.2.1)) (fun t => (tVal t).toInt32) acc (R.drop k)) σ → c_Ro_rank_5 nl Ln xs (d + 1) o who at' acc (Int32.ofNat k) σ F := by
    intro j
    induction j with
    | zero =>
      intro k acc hk K
      refine w_Ro_rank_5 ⟨is_mk hK.2.1, fun q => ?_, fun _ => ?_⟩
      · rw [hR.1, n32lt (by omega) (by omega)] at q; omega
      · rw [List.drop_eq_nil_of_le (by omega)] at K; exact K
    | succ j ih =>
      intro k acc hk K
      have hg := getD_some tl0 (show k < R.length by omega)
      have b : 0 ≤ (Int32.ofNat k).toInt ∧ (Int32.ofNat k).toInt < 60 := by rw [n32 (by omega)]; omega
      refine w_Ro_rank_5 ⟨is_mk hK.2.1, fun _ => ?_, fun q => absurd (by rw [hR.1, n32lt (by omega) (by omega)]; omega) q⟩
      have v1 : am_aI σ (o + 4) k = (R.getD k tl0).2.2.1 := hR.2.1 k _ hg
      have v2 : am_aI σ (o + 5) k = (tVal (R.getD k tl0)).toInt32 := hR.2.2.1 k _ hg
      have v3 : am_aI σ (o + 6) k = (R.getD k tl0).2.2.2.1 := hR.2.2.2 k _ hg
      rw [oG_13007 hK, oG_13008 hK, oG_13009 hK, n32c (by omega), v1, v2, v3]
      refine ⟨oA_13007 hK b.1 b.2, fun _ => oA_13009 hK b.1 b.2, fun _ _ => oA_13008 hK b.1 b.2, fun w9 e9 => ?_⟩
      rw [n32s]
      refine ih (k + 1) w9 (by omega) ?_
      rw [drop_cons tl0 (by omega), m_last] at K
      rw [e9, ite2]
      exact K
  exact w_Ro_rank (loop R.length 0 who (by omega) K')
theorem r_rule' {T : List mTell} {p : Nat} {at' : Int32} {F : Int32 → am_S → Prop} (hK : OffK σ o) (hR' : rRul σ o (tlA T 7)) (h150 : (tlA T 7).length ≤ 150) (hT : WfT T) (h0 : ∀ t ∈ T, t.1 = 7 → t.2.2.1 = 0) (hp : p < 1000) (K : F (m_rule T p at') σ) : k_Ro_rule nl Ln xs (d + 1) o (Int32.ofNat p) at' σ F := by
  obtain ⟨R, hRe⟩ : ∃ R, R = tlA T 7 := ⟨_, rfl⟩
  have K' : F (m_last (fun t : mTell => decide (tWho t = Int32.ofNat p) && decide (¬ at' < t.2.2.2.1)) (fun t => (tVal t).toInt32) 0 (R.drop 0)) σ := by
    have em : m_rule T p at' = (m_look T 7 p 0 at').elim 0 (fun t => t.2.2.2.2.1.toInt32) := by unfold m_rule; cases m_look T 7 p 0 at' <;> rfl
    rw [em, look_eq (fun t => t.2.2.2.2.1.toInt32) 0 T 7 p 0 at'] at K
    rw [hRe, List.drop_zero, ← m_last_congr (m_q3 p 0 at')]
    · exact K
    · intro x hx
      have hm := List.mem_filter.mp hx
      have h1 := hT x hm.1
      have h2 := h0 x hm.1 (of_decide_eq_true hm.2)
      simp only [m_q3, h2, tWho, n32i (show x.2.1 < 2147483648 by omega) (show p < 2147483648 by omega)]
      simp
  rw [← hRe] at hR' h150
  have hR := hR'
  have loop : ∀ (j k : Nat) (acc : Int32), k + j = R.length → F (m_last (fun t : mTell => decide (tWho t = Int32.ofNat p) && decide (¬ at' < t.2.2.2.1)) (fun t => (tVal t).toInt32) acc (R.drop k)) σ → c_Ro_rule_5 nl Ln xs (d + 1) o (Int32.ofNat p) at' acc (Int32.ofNat k) σ F := by
    intro j
    induction j with
    | zero =>
      intro k acc hk K
      refine w_Ro_rule_5 ⟨is_mk hK.2.1, fun q => ?_, fun _ => ?_⟩
      · rw [hR.1, n32lt (by omega) (by omega)] at q; omega
      · rw [List.drop_eq_nil_of_le (by omega)] at K; exact K
    | succ j ih =>
      intro k acc hk K
      have hg := getD_some tl0 (show k < R.length by omega)
      have b : 0 ≤ (Int32.ofNat k).toInt ∧ (Int32.ofNat k).toInt < 150 := by rw [n32 (by omega)]; omega
      refine w_Ro_rule_5 ⟨is_mk hK.2.1, fun _ => ?_, fun q => absurd (by rw [hR.1, n32lt (by omega) (by omega)]; omega) q⟩
      have v1 : am_aI σ (o + 15) k = tWho (R.getD k tl0) := hR.2.1 k _ hg
      have v2 : am_aI σ (o + 16) k = (tVal (R.getD k tl0)).toInt32 := hR.2.2.1 k _ hg
      have v3 : am_aI σ (o + 17) k = (R.getD k tl0).2.2.2.1 := hR.2.2.2 k _ hg
      rw [oG_13021 hK, oG_13022 hK, oG_13023 hK, n32c (by omega), v1, v2, v3]
      refine ⟨oA_13021 hK b.1 b.2, fun _ => oA_13023 hK b.1 b.2, fun _ _ => oA_13022 hK b.1 b.2, fun w9 e9 => ?_⟩
      rw [n32s]
      refine ih (k + 1) w9 (by omega) ?_
      rw [drop_cons tl0 (by omega), m_last] at K
      rw [e9, ite2]
      exact K
  exact w_Ro_rule (loop R.length 0 0 (by omega) K')
theorem q3_eq {T : List mTell} {n : Int32} {p : Nat} {which at' : Int32} (hT : WfT T) (hp : p < 1000) {β : Type} (f : mTell → β) (z : β) : m_last (m_q3 p which at') f z (tlA T n) = m_last (fun t : mTell => decide (tWho t = Int32.ofNat p) && (decide (t.2.2.1 = which) && decide (¬ at' < t.2.2.2.1))) f z (tlA T n) := by
  apply m_last_congr
  intro x hx
  have hm := List.mem_filter.mp hx
  have h1 := (hT x hm.1).1
  simp only [m_q3, tWho, n32i (show x.2.1 < 2147483648 by omega) (show p < 2147483648 by omega)]
theorem r_sumOf {T : List mTell} {p : Nat} {year at' : Int32} {F : Int64 → am_S → Prop} (hK : OffK σ o) (hR' : rPer σ o (tlA T 5)) (h300 : (tlA T 5).length ≤ 300) (hT : WfT T) (hp : p < 1000) (K : F (match m_sum T p year at' with
    | none => -1
    | some v => v) σ) : k_Ro_sumOf nl Ln xs (d + 1) o (Int32.ofNat p) year at' σ F := by
  obtain ⟨R, hRe⟩ : ∃ R, R = tlA T 5 := ⟨_, rfl⟩
  have K' : F (m_last (fun t : mTell => decide (tWho t = Int32.ofNat p) && (decide (t.2.2.1 = year) && decide (¬ at' < t.2.2.2.1))) tVal (-1) (R.drop 0)) σ := by
    have e : (match m_sum T p year at' with
      | none => -1
      | some v => v) = (m_look T 5 p year at').elim (-1) tVal := by
      unfold m_sum
      cases m_look T 5 p year at' <;> rfl
    rw [e, look_eq tVal (-1) T 5 p year at', q3_eq hT hp] at K
    rw [hRe, List.drop_zero]
    exact K
  rw [← hRe] at hR' h300
  have hR := hR'
  have loop : ∀ (j k : Nat) (acc : Int64), k + j = R.length → F (m_last (fun t : mTell => decide (tWho t = Int32.ofNat p) && (decide (t.2.2.1 = year) && decide (¬ at' < t.2.2.2.1))) tVal acc (R.drop k)) σ → c_Ro_sumOf_8 nl Ln xs (d + 1) o (Int32.ofNat p) year at' acc (Int32.ofNat k) σ F := by
    intro j
    induction j with
    | zero =>
      intro k acc hk K
      refine w_Ro_sumOf_8 ⟨is_mk hK.2.1, fun q => ?_, fun _ => ?_⟩
      · rw [hR.1, n32lt (by omega) (by omega)] at q; omega
      · rw [List.drop_eq_nil_of_le (by omega)] at K; exact K
    | succ j ih =>
      intro k acc hk K
      have hg := getD_some tl0 (show k < R.length by omega)
      have b : 0 ≤ (Int32.ofNat k).toInt ∧ (Int32.ofNat k).toInt < 300 := by rw [n32 (by omega)]; omega
      refine w_Ro_sumOf_8 ⟨is_mk hK.2.1, fun _ => ?_, fun q => absurd (by rw [hR.1, n32lt (by omega) (by omega)]; omega) q⟩
      have v1 : am_aI σ (o + 11) k = tWho (R.getD k tl0) := hR.2.1 k _ hg
      have v2 : am_aI σ (o + 12) k = (R.getD k tl0).2.2.1 := hR.2.2.1 k _ hg
      have v3 : am_aL σ (o + 13) k = tVal (R.getD k tl0) := hR.2.2.2.1 k _ hg
      have v4 : am_aI σ (o + 14) k = (R.getD k tl0).2.2.2.1 := hR.2.2.2.2 k _ hg
      rw [oG_13016 hK, oG_13017 hK, oG_13018 hK, oG_13019 hK, n32c (by omega), v1, v2, v3, v4]
      refine ⟨oA_13016 hK b.1 b.2, fun _ => oA_13017 hK b.1 b.2, fun _ _ => oA_13019 hK b.1 b.2, fun _ _ _ => oA_13018 hK b.1 b.2, fun w9 e9 => ?_⟩
      rw [n32s]
      refine ih (k + 1) w9 (by omega) ?_
      rw [drop_cons tl0 (by omega), m_last] at K
      rw [e9, ite3]
      exact K
  exact w_Ro_sumOf (loop R.length 0 (-1) (by omega) K')
/-- places hold a policy that there is, or nothing -/
def WfPl (T : List mTell) (n : Nat) : Prop := ∀ t ∈ T, t.1 = 4 → -1 ≤ (tVal t).toInt ∧ (tVal t).toInt < n
theorem m_last_mem {α β : Type} (q : α → Bool) (f : α → β) (P : β → Prop) : ∀ (l : List α) (z : β), P z → (∀ x ∈ l, P (f x)) → P (m_last q f z l)
  | [], z, h, _ => h
  | x :: l, z, h, h2 => by
    rw [m_last]
    refine m_last_mem q f P l _ ?_ (fun y hy => h2 y (List.mem_cons_of_mem _ hy))
    split
    · exact h2 x List.mem_cons_self
    · exact h
theorem m_part_lt {T : List mTell} {n p q : Nat} {pl at' : Int32} (h : WfPl T n) (hq : m_part T p pl at' = some q) : q < n := by
  unfold m_part m_look at hq
  have key : ∀ u, m_last (m_tq 4 p pl at') some none T = some u → u ∈ T ∧ u.1 = 4 := by
    have : ∀ (l : List mTell) (z : Option mTell), (∀ x ∈ l, x ∈ T) → (∀ u, z = some u → u ∈ T ∧ u.1 = 4) → ∀ u, m_last (m_tq 4 p pl at') some z l = some u → u ∈ T ∧ u.1 = 4 := by
      intro l
      induction l with
      | nil => intro z _ hz u hu; exact hz u hu
      | cons x l ih =>
        intro z hl hz u hu
        rw [m_last] at hu
        refine ih _ (fun y hy => hl y (List.mem_cons_of_mem _ hy)) ?_ u hu
        intro v hv
        split at hv
        · rename_i hx
          cases hv
          unfold m_tq at hx
          rw [Bool.and_eq_true] at hx
          exact ⟨hl x List.mem_cons_self, of_decide_eq_true hx.1⟩
        · exact hz v hv
    exact fun u hu => this T none (fun x hx => hx) (fun u hu => by cases hu) u hu
  split at hq
  · cases hq
  · rename_i t ht
    have := key t ht
    split at hq
    · cases hq
    · cases hq
      have h2 : -1 ≤ t.2.2.2.2.1.toInt ∧ t.2.2.2.2.1.toInt < n := h t this.1 this.2
      omega
theorem r_partOf {T : List mTell} {p n : Nat} {pl at' : Int32} {F : Int32 → am_S → Prop} (hK : OffK σ o) (hR' : rPla σ o (tlA T 4)) (h200 : (tlA T 4).length ≤ 200) (hT : WfT T) (hpl : WfPl T n) (hn : n ≤ 100) (hp : p < 1000) (K : F (ixO (m_part T p pl at')) σ) : k_Ro_partOf nl Ln xs (d + 1) o (Int32.ofNat p) pl at' σ F := by
  obtain ⟨R, hRe⟩ : ∃ R, R = tlA T 4 := ⟨_, rfl⟩
  have K' : F (m_last (fun t : mTell => decide (tWho t = Int32.ofNat p) && (decide (t.2.2.1 = pl) && decide (¬ at' < t.2.2.2.1))) (fun t => (tVal t).toInt32) (-1) (R.drop 0)) σ := by
    have e : ixO (m_part T p pl at') = m_last (m_q3 p pl at') (fun t => (tVal t).toInt32) (-1) (tlA T 4) := by
      rw [← look_eq (fun t => (tVal t).toInt32) (-1) T 4 p pl at']
      unfold m_part
      cases hq : m_look T 4 p pl at' with
      | none => rfl
      | some t =>
        have ht : -1 ≤ t.2.2.2.2.1.toInt ∧ t.2.2.2.2.1.toInt < n := by
          have hz := m_last_mem (m_tq 4 p pl at') some (fun u => ∀ t, u = some t → t.1 = 4 → -1 ≤ (tVal t).toInt ∧ (tVal t).toInt < n) T none (fun t ht => by cases ht) (fun x hx t ht h4 => by cases ht; exact hpl x hx h4)
          have h4 : t.1 = 4 := by
            have : ∀ (l : List mTell) (z : Option mTell), (∀ u, z = some u → u.1 = 4) → ∀ u, m_last (m_tq 4 p pl at') some z l = some u → u.1 = 4 := by
              intro l
              induction l with
              | nil => intro z hz u hu; exact hz u hu
              | cons x l ih =>
                intro z hz u hu
                rw [m_last] at hu
                refine ih _ ?_ u hu
                intro v hv
                split at hv
                · rename_i hx
                  cases hv
                  unfold m_tq at hx
                  rw [Bool.and_eq_true] at hx
                  exact of_decide_eq_true hx.1
                · exact hz v hv
            exact this T none (fun u hu => by cases hu) t hq
          exact hz t hq h4
        show ixO (if t.2.2.2.2.1.toInt < 0 then none else some t.2.2.2.2.1.toInt.toNat) = t.2.2.2.2.1.toInt32
        by_cases h0 : t.2.2.2.2.1.toInt < 0
        · rw [if_pos h0]
          show (-1 : Int32) = _
          apply Int32.toInt_inj.mp
          rw [t32 (by omega) (by omega)]
          have : (-1 : Int32).toInt = -1 := by decide
          omega
        · rw [if_neg h0]
          show Int32.ofNat _ = _
          apply Int32.toInt_inj.mp
          rw [t32 (by omega) (by omega), n32 (by omega)]
          omega
    rw [e, q3_eq hT hp] at K
    rw [hRe, List.drop_zero]
    exact K
  rw [← hRe] at hR' h200
  have hR := hR'
  have loop : ∀ (j k : Nat) (acc : Int32), k + j = R.length → F (m_last (fun t : mTell => decide (tWho t = Int32.ofNat p) && (decide (t.2.2.1 = pl) && decide (¬ at' < t.2.2.2.1))) (fun t => (tVal t).toInt32) acc (R.drop k)) σ → c_Ro_partOf_6 nl Ln xs (d + 1) o (Int32.ofNat p) pl at' acc (Int32.ofNat k) σ F := by
    intro j
    induction j with
    | zero =>
      intro k acc hk K
      refine w_Ro_partOf_6 ⟨is_mk hK.2.1, fun q => ?_, fun _ => ?_⟩
      · rw [hR.1, n32lt (by omega) (by omega)] at q; omega
      · rw [List.drop_eq_nil_of_le (by omega)] at K; exact K
    | succ j ih =>
      intro k acc hk K
      have hg := getD_some tl0 (show k < R.length by omega)
      have b : 0 ≤ (Int32.ofNat k).toInt ∧ (Int32.ofNat k).toInt < 200 := by rw [n32 (by omega)]; omega
      refine w_Ro_partOf_6 ⟨is_mk hK.2.1, fun _ => ?_, fun q => absurd (by rw [hR.1, n32lt (by omega) (by omega)]; omega) q⟩
      have v1 : am_aI σ (o + 7) k = tWho (R.getD k tl0) := hR.2.1 k _ hg
      have v2 : am_aI σ (o + 8) k = (R.getD k tl0).2.2.1 := hR.2.2.1 k _ hg
      have v3 : am_aI σ (o + 9) k = (tVal (R.getD k tl0)).toInt32 := hR.2.2.2.1 k _ hg
      have v4 : am_aI σ (o + 10) k = (R.getD k tl0).2.2.2.1 := hR.2.2.2.2 k _ hg
      rw [oG_13011 hK, oG_13012 hK, oG_13013 hK, oG_13014 hK, n32c (by omega), v1, v2, v3, v4]
      refine ⟨oA_13011 hK b.1 b.2, fun _ => oA_13012 hK b.1 b.2, fun _ _ => oA_13014 hK b.1 b.2, fun _ _ _ => oA_13013 hK b.1 b.2, fun w9 e9 => ?_⟩
      rw [n32s]
      refine ih (k + 1) w9 (by omega) ?_
      rw [drop_cons tl0 (by omega), m_last] at K
      rw [e9, ite3]
      exact K
  exact w_Ro_partOf (loop R.length 0 (-1) (by omega) K')
end
