/-! THE CLASS: what is told: a book with its room -/
def ne (M : mOff) : Nat := (tlA (o_tel M) 2).length + sumN (fun i => (tlP (o_tel M) i).length) (o_pol M).length + sumN (fun i => ((o_cas M).getD i mCase0).2.2.2.2.2.length) (o_cas M).length
def Room (σ : am_S) (X : Stx) (M : mOff) (nu gl : Nat) (V : Nat × Nat × Nat × Nat × Nat) (C : Nat × Nat) : Prop := (X.1.length + ne M + V.1 ≤ 9800 ∧ X.2.1.length + (o_pol M).length + V.2.1 ≤ 200 ∧ X.2.2.1.length + (o_los M).length + V.2.2.1 ≤ 400 ∧ X.2.2.2.1.length + (o_cas M).length + V.2.2.2.1 ≤ 200 ∧ X.2.2.2.2.length + nu + V.2.2.2.2 ≤ 12000) ∧ am_nx σ ≤ 1189 + (X.1.length + ne M + V.1) + (X.2.1.length + (o_pol M).length + V.2.1) + 3 * (X.2.2.1.length + (o_los M).length + V.2.2.1) + (X.2.2.2.1.length + (o_cas M).length + V.2.2.2.1) + (X.2.2.2.2.length + nu + V.2.2.2.2) + gl + C.1 ∧ am_sl σ ≤ 1704035 + 10 * (X.1.length + ne M + V.1) + 6 * (X.2.1.length + (o_pol M).length + V.2.1) + 28 * (X.2.2.1.length + (o_los M).length + V.2.2.1) + 8 * (X.2.2.2.1.length + (o_cas M).length + V.2.2.2.1) + 5 * (X.2.2.2.2.length + nu + V.2.2.2.2) + 128 * 2 ^ gl + C.2
/-- what acts of a book may touch -/
def bkK (b v : Nat) (q : Nat × Nat) : Prop := q.1 = b ∨ q.1 = 1 ∨ (q.1 = 2 ∧ ((1008 ≤ q.2 ∧ q.2 ≤ 1021) ∨ (1027 ≤ q.2 ∧ q.2 ≤ 1038) ∨ (v ≤ q.2 ∧ q.2 ≤ v + 4)))
def Vok (V : Nat × Nat × Nat × Nat × Nat) : Prop := V.1 ≤ 4860 ∧ V.2.1 ≤ 100 ∧ V.2.2.1 ≤ 200 ∧ V.2.2.2.1 ≤ 100
/-- a deed in a row of longs -/
def DdR (σ : am_S) (D o len n : Nat) (a : mArg) : Prop := am_kd σ D = (1001, len) ∧ o + 7 ≤ len ∧ len < 1000 ∧ am_aL σ D o = Int64.ofNat n ∧ ∀ j, j < 6 → am_aL σ D (o + 1 + j) = a j
/-- the first stage of an act: refused, or done but for the moment and the log -/
def Stg (M : mOff) (fnd : Int32) (n : Nat) (a : mArg) (t : List Int32) (r : mAns) (ans : Int32) (M1 : mOff) : Prop := (ans.toInt < 0 ∧ r = (ans, M, fnd) ∧ M1 = M) ∨ (0 ≤ ans.toInt ∧ r = (ans, m_done M1 n a t, fnd))
theorem sumN_congr {f g : Nat → Nat} : ∀ {n : Nat}, (∀ i, i < n → f i = g i) → sumN f n = sumN g n
  | 0, _ => rfl
  | n + 1, h => by rw [sumN, sumN, sumN_congr (fun i hi => h i (by omega)), h n (by omega)]
theorem sumN_upd {f g : Nat → Nat} {p c : Nat} : ∀ {n : Nat}, p < n → g p = f p + c → (∀ i, i < n → i ≠ p → g i = f i) → sumN g n = sumN f n + c
  | n + 1, hp, h1, h2 => by
    rw [sumN, sumN]
    by_cases h : p = n
    · subst h
      rw [sumN_congr (f := g) (g := f) (fun i hi => h2 i (by omega) (by omega)), h1]
      omega
    · rw [sumN_upd (n := n) (by omega) h1 (fun i hi hne => h2 i (by omega) hne), h2 n (by omega) (fun z => h z.symm)]
      omega
theorem tlP_app {T : List mTell} {t : mTell} {i : Nat} : tlP (T ++ [t]) i = if t.2.1 = i ∧ t.1 ≠ 2 then tlP T i ++ [t] else tlP T i := by
  unfold tlP
  rw [List.filter_append]
  by_cases h : t.2.1 = i ∧ t.1 ≠ 2
  · rw [if_pos h, List.filter_cons_of_pos (by simp [h.1, h.2])]
    rfl
  · rw [if_neg h, List.filter_cons_of_neg (by rw [Bool.and_eq_true]; exact fun z => h ⟨of_decide_eq_true z.1, of_decide_eq_true z.2⟩)]
    simp
theorem tlA_app {T : List mTell} {t : mTell} {n : Int32} : tlA (T ++ [t]) n = if t.1 = n then tlA T n ++ [t] else tlA T n := by
  unfold tlA
  rw [List.filter_append]
  by_cases h : t.1 = n
  · rw [if_pos h, List.filter_cons_of_pos (by simp [h])]
    rfl
  · rw [if_neg h, List.filter_cons_of_neg (by simpa using h)]
    simp
theorem cnt_app {T : List mTell} {t : mTell} {n : Int32} : m_cnt (T ++ [t]) n = m_cnt T n + if t.1 = n then 1 else 0 := by
  unfold m_cnt
  rw [List.filter_append]
  by_cases h : t.1 = n
  · rw [if_pos h, List.filter_cons_of_pos (by simp [h])]
    simp
  · rw [if_neg h, List.filter_cons_of_neg (by simpa using h)]
    simp
theorem cnt_tlA (T : List mTell) (n : Int32) : m_cnt T n = (tlA T n).length := rfl
section
variable {nl : Bool} {Ln : Nat} {xs : Nat → Int32} {d : Nat} {σ : am_S} {w : ow_T} {b v gl nu : Nat} {X : Stx} {M : mOff} {V : Nat × Nat × Nat × Nat × Nat} {C : Nat × Nat}
theorem low {T : am_T} {d x pc : Nat} {L : List (Option Value)} {st : List Value} {σ : am_S} {Q : Option Value → am_S → Prop} (h : LowK σ → am_C T d x pc L st σ Q) : am_C T d x pc L st σ Q := fun hI => h (fun n hn => am_kd0 hI hn) hI
theorem DdR.ar {D o len n : Nat} {a : mArg} (h : DdR σ D o len n a) {j : Nat} (hj : j ≤ 6) : am_ar σ 1001 (some D) (Int32.ofNat (o + j)) ∧ (Int32.ofNat (o + j)).toNatClampNeg = o + j := by
  obtain ⟨h1, h2, h3, -⟩ := h
  exact ⟨ar_mk h1 (by rw [n32 (by omega)]; omega) (by rw [n32 (by omega)]; omega), n32c (by omega)⟩
theorem DdR.eq {D o len n : Nat} {a : mArg} {σ' : am_S} (h : DdR σ D o len n a) (e : am_eqc σ σ' D) : DdR σ' D o len n a := ⟨e.kd.trans h.1, h.2.1, h.2.2.1, e.aL.trans h.2.2.2.1, fun j hj => e.aL.trans (h.2.2.2.2 j hj)⟩
/-- the row of how often things may be told -/
theorem told_row : ∀ n ∈ [2, 4, 5, 6, 7], (dd_sr.getD 0 []).getD n 0 = ([0, 0, 60, 0, 200, 300, 150, 150] : List Int32).getD n 0 ∧ n < (dd_sr.getD 0 []).length := by decide +kernel
theorem bk_isToldOut {n most : Nat} {T : List mTell} {F : Bool → am_S → Prop} (hK : BkK σ w b) (hT : ∀ q, (q = 2 ∨ q = 4 ∨ q = 5 ∨ q = 6 ∨ q = 7) → am_aI σ (bA σ b 6007) q = Int32.ofNat (m_cnt T (Int32.ofNat q))) (hn : (n, most) ∈ [(2, 60), (4, 200), (5, 300), (6, 150), (7, 150)]) (hc : m_cnt T (Int32.ofNat n) ≤ most) (K : F (decide (m_cnt T (Int32.ofNat n) = most)) σ) : k_Bk_isToldOut nl Ln xs (d + 1) b (Int32.ofNat n) σ F := by
  refine low (fun hL => ?_)
  have hn5 : n = 2 ∨ n = 4 ∨ n = 5 ∨ n = 6 ∨ n = 7 := by
    simp only [List.mem_cons, Prod.mk.injEq, List.mem_nil_iff, or_false] at hn
    omega
  have hm : most ≤ 300 := by
    simp only [List.mem_cons, Prod.mk.injEq, List.mem_nil_iff, or_false] at hn
    omega
  obtain ⟨-, -, -, -, -, -, -, a4, -⟩ := id hK
  obtain ⟨r1, r2⟩ := told_row n (by simp; omega)
  have hrow : (dd_sr.getD 0 []).getD n 0 = Int32.ofNat most := by
    rw [r1]
    simp only [List.mem_cons, Prod.mk.injEq, List.mem_nil_iff, or_false] at hn
    rcases hn with ⟨rfl, rfl⟩ | ⟨rfl, rfl⟩ | ⟨rfl, rfl⟩ | ⟨rfl, rfl⟩ | ⟨rfl, rfl⟩ <;> rfl
  refine w_Bk_isToldOut ⟨is_mk hK.2.1, ?_⟩
  rw [a4.1, Option.getD_some, n32c (by omega), hT n hn5]
  have n8 : (Int32.ofNat n).toInt = n := n32 (by omega)
  refine ⟨ar_mk a4.2.2 (by rw [n8]; omega) (by rw [n8]; omega), hL 500 (by decide), by rw [n8]; omega, ?_, ?_⟩
  · rw [show (500 : Nat) = 500 + 0 from rfl, sr_rl (by decide), n8]
    omega
  · rw [show (500 : Nat) = 500 + 0 from rfl, sr_rv (by decide), hrow]
    have e : decide (¬ (Int32.ofNat (m_cnt T (Int32.ofNat n)) < Int32.ofNat most)) = decide (m_cnt T (Int32.ofNat n) = most) := by
      apply decide_eq_decide.mpr
      rw [n32lt (by omega) (by omega)]
      omega
    rw [e]
    exact K
end
