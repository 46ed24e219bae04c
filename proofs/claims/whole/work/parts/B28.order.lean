/-! THE CLASS: cases that are laid, in their order -/
def LyW (σ : am_S) (ab : Nat) (key : Nat → Int32) (l : List Nat) : Prop := ∀ k y, l[k]? = some y → am_aI σ (ab + 2) k = Int32.ofNat y ∧ am_aI σ (ab + 3) k = key y
def LhW (σ : am_S) (ab : Nat) (key : Nat → Int32) (l : List Nat) (a : Nat) : Prop := (∀ k y, k < a → l[k]? = some y → am_aI σ (ab + 2) k = Int32.ofNat y ∧ am_aI σ (ab + 3) k = key y) ∧ ∀ k y, a ≤ k → l[k]? = some y → am_aI σ (ab + 2) (k + 1) = Int32.ofNat y ∧ am_aI σ (ab + 3) (k + 1) = key y
section
variable {nl : Bool} {Ln : Nat} {xs : Nat → Int32} {d : Nat} {σ σ1 : am_S} {w : ow_T} {wk ab v b : Nat} {P : List mPol} {T : List mTell} {Ls : List mLoss} {Cs : List mCase} {i : Nat} {x : mCase} {cc lc : Nat} {day at' : Int32} {C : List mCl} {p pc : Nat} {q : mPol} {hd : Option Nat} {sum worth s : Int64} {rows : List mRow} {tr : List Int32} {fnd : Int32} {ov : Bool}
abbrev LaC (wk ab v : Nat) (σ σ' : am_S) : Prop := Wc wk ab v [] [2, 3] [] [] σ σ'
theorem WkX.la (X : WkX σ w wk ab v b P T Ls Cs i x cc lc day at' C p pc q hd sum worth s rows tr fnd ov) (r : LaC wk ab v σ σ1) : WkX σ1 w wk ab v b P T Ls Cs i x cc lc day at' C p pc q hd sum worth s rows tr fnd ov :=
  X.wc r (by decide) (by decide) (by decide) (by simp) (X.1.1.2.2.2.2.1.wc r X.1.1.1 (by decide) (by decide)) ((r.fL (by simp) (by simp)).trans X.1.2.2.2.1.2.2) ((r.fL (by simp) (by simp)).trans X.2.2.2.2)
/-- one goes to its place -/
theorem wk_place {l : List Nat} {n : Nat} {key : Nat → Int32} {x1 x6 : Option Nat} {x2 x3 : Int32} {F : Int32 → am_S → Prop} (h6 : l.length < 100) : ∀ (a : Nat) (σ : am_S), a ≤ l.length → m_pos key n l a = m_pos key n l l.length → WkX σ w wk ab v b P T Ls Cs i x cc lc day at' C p pc q hd sum worth s rows tr fnd ov → LhW σ ab key l a → (∀ σ', LaC wk ab v σ σ' → LyW σ' ab key (m_ins key n l) → ∀ y6 y7 y8, c_Wk_putInOrder_46 nl Ln xs (d + 1) wk x1 x2 x3 (Int32.ofNat (l.length + 1)) (Int32.ofNat (n + 1)) y6 y7 y8 σ' F) → c_Wk_putInOrder_151 nl Ln xs (d + 1) wk x1 x2 x3 (Int32.ofNat l.length) (Int32.ofNat n) x6 (key n) (Int32.ofNat a) σ F := by
  have t0 : (0 : Int32).toInt = 0 := by decide
  have put : ∀ (a : Nat) (σ s1 s2 : am_S), a ≤ l.length → m_pos key n l l.length = a → LhW σ ab key l a → s1 = am_saI σ (ab + 3) a (key n) → s2 = am_saI s1 (ab + 2) a (Int32.ofNat n) → LyW s2 ab key (m_ins key n l) := by
    intro a σ s1 s2 ha hp H e1 e2 k y hk
    rw [ins_get, hp] at hk
    rw [saI_all e2, saI_ne e2 (by omega), saI_ne e1 (by omega), saI_all e1]
    by_cases h1 : k < a
    · rw [if_pos h1] at hk
      rw [if_neg (by omega), if_neg (by omega)]
      exact H.1 k y h1 hk
    · rw [if_neg h1] at hk
      by_cases h2 : k = a
      · rw [if_pos h2] at hk
        rw [if_pos h2, if_pos h2, Option.some.inj hk]
        exact ⟨rfl, rfl⟩
      · rw [if_neg h2] at hk
        rw [if_neg h2, if_neg h2]
        have := H.2 (k - 1) y (by omega) hk
        rw [show k - 1 + 1 = k by omega] at this
        exact this
  -- it stays here: two writes
  have fin : ∀ (a : Nat) (σ : am_S) (y6 y7 y8 : Option Value), a ≤ l.length → m_pos key n l l.length = a → WkX σ w wk ab v b P T Ls Cs i x cc lc day at' C p pc q hd sum worth s rows tr fnd ov → LhW σ ab key l a → (∀ σ', LaC wk ab v σ σ' → LyW σ' ab key (m_ins key n l) → ∀ y6 y7 y8, c_Wk_putInOrder_46 nl Ln xs (d + 1) wk x1 x2 x3 (Int32.ofNat (l.length + 1)) (Int32.ofNat (n + 1)) y6 y7 y8 σ' F) → am_ar σ 1000 (some (ab + 3)) (Int32.ofNat a) ∧ ∀ s16, s16 = am_saI σ (ab + 3) a (key n) → am_ar s16 1000 (am_fR s16 2015 wk) (Int32.ofNat a) ∧ ∀ s20, s20 = am_saI s16 ((am_fR s16 2015 wk).getD 0) a (Int32.ofNat n) → c_Wk_putInOrder_46 nl Ln xs (d + 1) wk x1 x2 x3 (Int32.ofNat (l.length + 1)) (Int32.ofNat (n + 1)) y6 y7 y8 s20 F := by
    intro a σ y6 y7 y8 ha hp X H K
    obtain ⟨⟨-, f15, f16, -⟩, -, k2, k3, -⟩ := X.1.2.2.2.2
    have ba : 0 ≤ (Int32.ofNat a).toInt ∧ (Int32.ofNat a).toInt < 100 := by rw [n32 (by omega)]; omega
    refine ⟨ar_mk k3 ba.1 ba.2, ?_⟩
    intro s16 q16
    have r16 : LaC wk ab v σ s16 := by rw [q16]; exact Wc.saI (k := 3) (by decide)
    rw [(r16.fR (by simp) (by simp)).trans f15, Option.getD_some]
    refine ⟨ar_mk (by rw [r16.kd]; exact k2) ba.1 ba.2, ?_⟩
    intro s20 q20
    have r20 : LaC wk ab v s16 s20 := by rw [q20]; exact Wc.saI (k := 2) (by decide)
    exact K s20 (r16.trans r20) (put a σ s16 s20 ha hp H q16 q20) _ _ _
  intro a
  induction a with
  | zero =>
    intro σ ha hp X H K
    obtain ⟨⟨-, f15, f16, -⟩, -, k2, k3, -⟩ := X.1.2.2.2.2
    refine w_Wk_putInOrder_151 ⟨fun z => absurd z (by decide), fun _ => ⟨is_mk X.1.1.2.2.1, ?_⟩⟩
    rw [f16, Option.getD_some, n32c (show 0 < 2147483648 by omega), n32s, n32s]
    exact fin 0 σ _ _ _ (by omega) hp.symm X H K
  | succ a ih =>
    intro σ ha hp X H K
    obtain ⟨⟨-, f15, f16, -⟩, -, k2, k3, -⟩ := X.1.2.2.2.2
    obtain ⟨y, hy⟩ := get_ex (show a < l.length by omega)
    have gy : l.getD a 0 = y := getD_of 0 hy
    obtain ⟨vo, vk⟩ := H.1 a y (by omega) hy
    have ba : 0 ≤ (Int32.ofNat a).toInt ∧ (Int32.ofNat a).toInt < 100 := by rw [n32 (by omega)]; omega
    have bb : 0 ≤ (Int32.ofNat (a + 1)).toInt ∧ (Int32.ofNat (a + 1)).toInt < 100 := by rw [n32 (by omega)]; omega
    refine w_Wk_putInOrder_151 ⟨fun _ => ⟨is_mk X.1.1.2.2.1, ?_⟩, fun z => absurd (by rw [i32lt, t0, n32 (by omega)]; omega) z⟩
    rw [f16, Option.getD_some, n32m, n32q, n32c (show a < 2147483648 by omega), n32c (show a + 1 < 2147483648 by omega), vk, n32s, n32s]
    refine ⟨ar_mk k3 ba.1 ba.2, fun hlt => ⟨ar_mk k3 ba.1 ba.2, ar_mk k3 bb.1 bb.2, ?_⟩, fun hlt => ?_⟩
    · intro s7 q7
      have r7 : LaC wk ab v σ s7 := by rw [q7]; exact Wc.saI (k := 3) (by decide)
      rw [(r7.fR (by simp) (by simp)).trans f15, Option.getD_some, (show am_aI s7 (ab + 2) a = Int32.ofNat y by rw [saI_ne q7 (by omega)]; exact vo)]
      refine ⟨ar_mk (by rw [r7.kd]; exact k2) ba.1 ba.2, ar_mk (by rw [r7.kd]; exact k2) bb.1 bb.2, ?_⟩
      intro s12 q12
      have r12 : LaC wk ab v s7 s12 := by rw [q12]; exact Wc.saI (k := 2) (by decide)
      have e2 : ∀ k, am_aI s12 (ab + 2) k = if k = a + 1 then Int32.ofNat y else am_aI σ (ab + 2) k := fun k => by rw [saI_all q12, saI_ne q7 (by omega)]
      have e3 : ∀ k, am_aI s12 (ab + 3) k = if k = a + 1 then key y else am_aI σ (ab + 3) k := fun k => by rw [saI_ne q12 (by omega), saI_all q7]
      refine ih s12 (by omega) ?_ (X.la (r7.trans r12)) ⟨fun k z hk hz => ?_, fun k z hk hz => ?_⟩ (fun s2 r2 => K s2 ((r7.trans r12).trans r2))
      · have hlt' : key n < key (l.getD a 0) := by rw [gy]; exact hlt
        rw [← hp]
        show _ = if _ then _ else _
        rw [if_pos hlt']
      · rw [e2, e3, if_neg (by omega), if_neg (by omega)]
        exact H.1 k z (by omega) hz
      · rw [e2, e3]
        by_cases hka : k = a
        · rw [if_pos (by omega), if_pos (by omega)]
          rw [hka, hy] at hz
          rw [Option.some.inj hz]
          exact ⟨rfl, rfl⟩
        · rw [if_neg (by omega), if_neg (by omega)]
          exact H.2 k z (by omega) hz
    · have hlt' : ¬ key n < key (l.getD a 0) := by rw [gy]; exact hlt
      have hpa : m_pos key n l l.length = a + 1 := by
        rw [← hp]
        show (if _ then _ else _) = _
        rw [if_neg hlt']
      exact fin (a + 1) σ _ _ _ ha hpa X H K
end
