/-! CLAUSES, COVERS, FACTS of the reference -/
/-- the number of the set that holds; none -/
def m_lastI (q : mTell → Bool) : Option Nat → Nat → List mTell → Option Nat
  | z, _, [] => z
  | z, k, x :: l => m_lastI q (if q x then some k else z) (k + 1) l
def m_set (T : List mTell) (p : Nat) (at' : Int32) : Option Nat := m_lastI (m_q3 p 0 at') none 0 (tlA T 6)
theorem m_lastI_get (q : mTell → Bool) (R : List mTell) : ∀ (l : List mTell) (k : Nat) (z : Option Nat) (u : Option mTell), R.drop k = l → (z.bind fun i => R[i]?) = u → (∀ i, z = some i → i < R.length) → ((m_lastI q z k l).bind fun i => R[i]?) = m_last q some u l ∧ ∀ i, m_lastI q z k l = some i → i < R.length
  | [], k, z, u, _, h, h2 => ⟨h, h2⟩
  | x :: l, k, z, u, hd, h, h2 => by
    rw [m_lastI, m_last]
    have hk : R[k]? = some x := by
      have := congrArg (fun l => l[0]?) hd
      simp only [List.getElem?_drop, Nat.add_zero, List.getElem?_cons_zero] at this
      exact this
    have hd2 : R.drop (k + 1) = l := by
      have := congrArg List.tail hd
      rw [List.tail_drop] at this
      exact this
    refine m_lastI_get q R l (k + 1) _ _ hd2 ?_ ?_
    · by_cases hq : q x = true
      · rw [if_pos hq, if_pos hq]; exact hk
      · rw [if_neg hq, if_neg hq]; exact h
    · intro i hi
      by_cases hq : q x = true
      · rw [if_pos hq] at hi
        cases hi
        exact lt_of_get hk
      · rw [if_neg hq] at hi
        exact h2 i hi
theorem m_set_cls (T : List mTell) (p : Nat) (at' : Int32) : m_cls T p at' = (match m_set T p at' with
    | none => []
    | some i => tCls ((tlA T 6).getD i tl0)) ∧ ∀ i, m_set T p at' = some i → i < (tlA T 6).length := by
  have h := m_lastI_get (m_q3 p 0 at') (tlA T 6) (tlA T 6) 0 none none List.drop_zero rfl (fun i hi => by cases hi)
  refine ⟨?_, h.2⟩
  have e : m_cls T p at' = (m_look T 6 p 0 at').elim [] tCls := by unfold m_cls; cases m_look T 6 p 0 at' <;> rfl
  rw [e, look_eq tCls [] T 6 p 0 at']
  rw [show m_last (m_q3 p 0 at') tCls [] (tlA T 6) = (m_last (m_q3 p 0 at') some none (tlA T 6)).elim [] tCls from m_last_map _ tCls [] _ none, ← h.1]
  show _ = (match m_set T p at' with
    | none => []
    | some i => tCls ((tlA T 6).getD i tl0))
  have hl := h.2
  unfold m_set
  cases hq : m_lastI (m_q3 p 0 at') none 0 (tlA T 6) with
  | none => rfl
  | some i =>
    have hi := hl i hq
    show ((tlA T 6)[i]?).elim [] tCls = _
    rw [getD_some tl0 hi]
    rfl
/-- where the clauses of a set lie -/
theorem flat_get {R : List mTell} {i j : Nat} {c : mCl} (hi : i < R.length) (hj : (tCls (R.getD i tl0))[j]? = some c) : (R.flatMap tCls)[((R.take i).flatMap tCls).length + j]? = some c := by
  have e : R = R.take i ++ (R.getD i tl0 :: R.drop (i + 1)) := by rw [← drop_cons tl0 hi, List.take_append_drop]
  have e2 : R.flatMap tCls = (R.take i).flatMap tCls ++ (tCls (R.getD i tl0) ++ (R.drop (i + 1)).flatMap tCls) := by
    conv => lhs; rw [e]
    rw [List.flatMap_append, List.flatMap_cons]
  rw [e2, List.getElem?_append_right (by omega), Nat.add_sub_cancel_left, List.getElem?_append_left (lt_of_get hj)]
  exact hj
theorem flat_len1 {R : List mTell} {i : Nat} (hi : i < R.length) : ((R.take (i + 1)).flatMap tCls).length = ((R.take i).flatMap tCls).length + (tCls (R.getD i tl0)).length := by
  have e : R.take (i + 1) = R.take i ++ [R.getD i tl0] := by
    rw [List.take_succ, getD_some tl0 hi]
    rfl
  rw [e, List.flatMap_append, List.length_append]
  simp
theorem flat_le {R : List mTell} (h : ∀ t ∈ R, (tCls t).length ≤ 30) : (R.flatMap tCls).length ≤ 30 * R.length := by
  induction R with
  | nil => simp
  | cons x l ih =>
    have h1 := h x List.mem_cons_self
    have h2 := ih (fun t ht => h t (List.mem_cons_of_mem _ ht))
    simp only [List.flatMap_cons, List.length_append, List.length_cons]
    omega
section
variable {nl : Bool} {Ln : Nat} {xs : Nat → Int32} {d : Nat} {σ : am_S} {o : Nat}
theorem r_setOf {T : List mTell} {p : Nat} {at' : Int32} {F : Int32 → am_S → Prop} (hK : OffK σ o) (hR' : rSet σ o (tlA T 6)) (h150 : (tlA T 6).length ≤ 150) (hT : WfT T) (h0 : ∀ t ∈ T, t.1 = 6 → t.2.2.1 = 0) (hp : p < 1000) (K : F (ixO (m_set T p at')) σ) : k_Ro_setOf nl Ln xs (d + 1) o (Int32.ofNat p) at' σ F := by
  obtain ⟨R, hRe⟩ : ∃ R, R = tlA T 6 := ⟨_, rfl⟩
  have hq : ∀ t ∈ R, m_q3 p 0 at' t = (decide (tWho t = Int32.ofNat p) && decide (¬ at' < t.2.2.2.1)) := by
    intro x hx
    rw [hRe] at hx
    have hm := List.mem_filter.mp hx
    have h1 := hT x hm.1
    have h2 := h0 x hm.1 (of_decide_eq_true hm.2)
    simp only [m_q3, h2, tWho, n32i (show x.2.1 < 2147483648 by omega) (show p < 2147483648 by omega)]
    simp
  unfold m_set at K
  rw [← hRe] at hR' h150 K
  have hR := hR'
  have loop : ∀ (j k : Nat) (z : Option Nat), k + j = R.length → F (ixO (m_lastI (m_q3 p 0 at') z k (R.drop k))) σ → c_Ro_setOf_5 nl Ln xs (d + 1) o (Int32.ofNat p) at' (ixO z) (Int32.ofNat k) σ F := by
    intro j
    induction j with
    | zero =>
      intro k z hk K
      refine w_Ro_setOf_5 ⟨is_mk hK.2.1, fun q => ?_, fun _ => ?_⟩
      · rw [hR.1, n32lt (by omega) (by omega)] at q; omega
      · rw [List.drop_eq_nil_of_le (by omega)] at K; exact K
    | succ j ih =>
      intro k z hk K
      have hg := getD_some tl0 (show k < R.length by omega)
      have b : 0 ≤ (Int32.ofNat k).toInt ∧ (Int32.ofNat k).toInt < 150 := by rw [n32 (by omega)]; omega
      refine w_Ro_setOf_5 ⟨is_mk hK.2.1, fun _ => ?_, fun q => absurd (by rw [hR.1, n32lt (by omega) (by omega)]; omega) q⟩
      have v1 : am_aI σ (o + 18) k = tWho (R.getD k tl0) := hR.2.1 k _ hg
      have v2 : am_aI σ (o + 19) k = (R.getD k tl0).2.2.2.1 := hR.2.2.1 k _ hg
      rw [oG_13025 hK, oG_13026 hK, n32c (by omega), v1, v2]
      refine ⟨oA_13025 hK b.1 b.2, fun _ => oA_13026 hK b.1 b.2, fun w9 e9 => ?_⟩
      rw [n32s]
      have e : w9 = ixO (if m_q3 p 0 at' (R.getD k tl0) = true then some k else z) := by
        rw [e9, ite2, ← hq _ (List.mem_of_getElem? hg)]
        split <;> rfl
      rw [e]
      refine ih (k + 1) _ (by omega) ?_
      rw [drop_cons tl0 (by omega), m_lastI] at K
      exact K
  exact w_Ro_setOf (loop R.length 0 none (by omega) (by rw [List.drop_zero]; exact K))
theorem r_told {R : List mTell} {s : Option Nat} {code : Int32} {F : Int64 → am_S → Prop} (hK : OffK σ o) (hR : rSet σ o R) (h150 : R.length ≤ 150) (h30 : ∀ t ∈ R, (tCls t).length ≤ 30) (hs : ∀ i, s = some i → i < R.length) (K : F (m_told (match s with
    | none => []
    | some i => tCls (R.getD i tl0)) code) σ) : k_Ro_told nl Ln xs (d + 1) o (ixO s) code σ F := by
  cases s with
  | none =>
    refine w_Ro_told ⟨fun q => absurd rfl q, fun q => absurd rfl q, fun w5 e5 => ?_⟩
    exact w_Ro_told_21 ⟨fun _ => K, fun q => absurd rfl q⟩
  | some i =>
    have hi := hs i rfl
    obtain ⟨h1, h2, h3, h4, nn, h5, h6, h7, h8, h9⟩ := hR
    have hne : ¬ ixO (some i) = -1 := fun q => by
      have := congrArg Int32.toInt q
      rw [show ixO (some i) = Int32.ofNat i from rfl, n32 (by omega)] at this
      have h' : (-1 : Int32).toInt = -1 := by decide
      omega
    have b : 0 ≤ (Int32.ofNat i).toInt ∧ (Int32.ofNat i).toInt < 151 := by rw [n32 (by omega)]; omega
    have b1 : 0 ≤ (Int32.ofNat (i + 1)).toInt ∧ (Int32.ofNat (i + 1)).toInt < 151 := by rw [n32 (by omega)]; omega
    have f1 := h4 i (by omega) (by omega)
    have f2 := h4 (i + 1) (by omega) (by omega)
    have hfl := flat_le h30
    have hl1 := flat_len1 hi
    have hl2 : ((R.take (i + 1)).flatMap tCls).length ≤ (R.flatMap tCls).length := by
      conv => rhs; rw [← List.take_append_drop (i + 1) R, List.flatMap_append, List.length_append]
      omega
    refine w_Ro_told ⟨fun _ => is_mk hK.2.1, fun _ => oA_13027 hK b.1 b.2, fun w5 e5 => ?_⟩
    rw [if_neg hne, oG_13027 hK, show (ixO (some i)).toNatClampNeg = i from n32c (by omega), f1] at e5
    have loop : ∀ (j k : Nat) (acc : Int64), k + j = (tCls (R.getD i tl0)).length → F (m_last (fun c : mCl => decide (c.1 = code)) (fun c => c.2.1.toInt64) acc ((tCls (R.getD i tl0)).drop k)) σ → c_Ro_told_21 nl Ln xs (d + 1) o (Int32.ofNat i) code acc (Int32.ofNat (((R.take i).flatMap tCls).length + k)) σ F := by
      intro j
      induction j with
      | zero =>
        intro k acc hk K
        refine w_Ro_told_21 ⟨fun q => absurd q hne, fun _ => ⟨is_mk hK.2.1, by rw [n32s]; exact oA_13027 hK b1.1 b1.2, ?_, ?_⟩⟩
        · rw [n32s, oG_13027 hK, n32c (by omega), f2, n32lt (by omega) (by omega)]
          intro q
          omega
        · intro _
          rw [List.drop_eq_nil_of_le (by omega)] at K
          exact K
      | succ j ih =>
        intro k acc hk K
        have hg := getD_some (l := tCls (R.getD i tl0)) ((0, 0, none) : mCl) (show k < (tCls (R.getD i tl0)).length by omega)
        have hfg := flat_get hi hg
        have v1 : am_aI σ (o + 21) (((R.take i).flatMap tCls).length + k) = ((tCls (R.getD i tl0)).getD k (0, 0, none)).1 := h7 _ _ hfg
        have v2 : am_aI σ (o + 22) (((R.take i).flatMap tCls).length + k) = ((tCls (R.getD i tl0)).getD k (0, 0, none)).2.1 := h8 _ _ hfg
        have bb : 0 ≤ (Int32.ofNat (((R.take i).flatMap tCls).length + k)).toInt ∧ (Int32.ofNat (((R.take i).flatMap tCls).length + k)).toInt < 4560 := by rw [n32 (by omega)]; omega
        refine w_Ro_told_21 ⟨fun q => absurd q hne, fun _ => ⟨is_mk hK.2.1, by rw [n32s]; exact oA_13027 hK b1.1 b1.2, ?_, ?_⟩⟩
        · intro _
          rw [oG_13028 hK, oG_13029 hK, n32c (show ((R.take i).flatMap tCls).length + k < 2147483648 by omega), v1, v2]
          refine ⟨oA_13028 hK bb.1 bb.2, fun _ => oA_13029 hK bb.1 bb.2, fun w9 e9 => ?_⟩
          rw [n32s]
          refine ih (k + 1) w9 (by omega) ?_
          rw [drop_cons ((0, 0, none) : mCl) (by omega), m_last] at K
          rw [e9]
          simp only [decide_eq_true_eq] at K
          exact K
        · rw [n32s, oG_13027 hK, n32c (by omega), f2, n32lt (by omega) (by omega)]
          intro q
          omega
    rw [e5]
    exact loop (tCls (R.getD i tl0)).length 0 (-1) (by omega) (by rw [List.drop_zero]; exact K)
end
