/-! THE CLASS: those who share, in their turns (all of it) -/
theorem i32an (a : Int32) : a + 1 + -1 = a := by grind
theorem n32m (k : Nat) : Int32.ofNat (k + 1) - 1 = Int32.ofNat k := by rw [← n32s]; exact i32as _ _
theorem n32q (k : Nat) : Int32.ofNat (k + 1) + -1 = Int32.ofNat k := by rw [← n32s]; exact i32an _
def HoW (σ : am_S) (ab : Nat) (l : List Nat) (a : Nat) : Prop := (∀ k y, k < a → l[k]? = some y → am_aI σ (ab + 6) k = Int32.ofNat y) ∧ ∀ k y, a ≤ k → l[k]? = some y → am_aI σ (ab + 6) (k + 1) = Int32.ofNat y
section
variable {nl : Bool} {Ln : Nat} {xs : Nat → Int32} {d : Nat} {σ σ1 : am_S} {w : ow_T} {wk ab v b : Nat} {P : List mPol} {T : List mTell} {Ls : List mLoss} {Cs : List mCase} {i : Nat} {x : mCase} {cc lc : Nat} {day at' : Int32} {C : List mCl} {p pc : Nat} {q : mPol} {hd : Option Nat} {sum worth s : Int64} {rows : List mRow} {tr : List Int32} {fnd : Int32} {ov : Bool}
abbrev RkM (T : List mTell) (at' : Int32) (y : Nat) : Int32 := m_rank T (Int32.ofNat y) at'
abbrev TuC (wk ab v : Nat) (σ σ' : am_S) : Prop := Wc wk ab v [] [6] [] [] σ σ'
theorem tu_al {wk ab v : Nat} {σ σ' : am_S} (r : TuC wk ab v σ σ') : AlC wk ab v σ σ' := Wc.mono r (by simp) (by decide) (by simp) (by simp)
/-- one goes to its place -/
theorem wk_turn {l : List Nat} {n : Nat} {F : Int32 → am_S → Prop} (hw : WfD P T Ls Cs) (h6 : l.length < 6) : ∀ (a : Nat) (σ : am_S), a ≤ l.length → m_pos (RkM T at') n l a = m_pos (RkM T at') n l l.length → WkX σ w wk ab v b P T Ls Cs i x cc lc day at' C p pc q hd sum worth s rows tr fnd ov → HoW σ ab l a → (∀ σ', TuC wk ab v σ σ' → TnW σ' ab (m_ins (RkM T at') n l) → ∀ y3 y4, c_Wk_takeAlone_111 nl Ln xs (d + 3) wk (Int32.ofNat (l.length + 1)) (Int32.ofNat (n + 1)) y3 y4 σ' F) → c_Wk_takeAlone_149 nl Ln xs (d + 3) wk (Int32.ofNat l.length) (Int32.ofNat n) (Int32.ofNat a) (RkM T at' n) σ F := by
  have t0 : (0 : Int32).toInt = 0 := by decide
  -- it stays here
  have put : ∀ (a : Nat) (σ s1 : am_S), a ≤ l.length → m_pos (RkM T at') n l l.length = a → HoW σ ab l a → s1 = am_saI σ (ab + 6) a (Int32.ofNat n) → TnW s1 ab (m_ins (RkM T at') n l) := by
    intro a σ s1 ha hp H e k y hk
    rw [ins_get, hp] at hk
    rw [saI_all e]
    by_cases h1 : k < a
    · rw [if_pos h1] at hk
      rw [if_neg (by omega)]
      exact H.1 k y h1 hk
    · rw [if_neg h1] at hk
      by_cases h2 : k = a
      · rw [if_pos h2] at hk ⊢
        rw [Option.some.inj hk]
      · rw [if_neg h2] at hk ⊢
        have := H.2 (k - 1) y (by omega) hk
        rw [show k - 1 + 1 = k by omega] at this
        exact this
  intro a
  induction a with
  | zero =>
    intro σ ha hp X H K
    obtain ⟨⟨-, -, -, f17, f18, f19⟩, -, -, -, k4, k5, k6⟩ := X.1.2.2.2.2
    refine w_Wk_takeAlone_149 ⟨fun z => absurd z (by decide), fun _ => ⟨is_mk X.1.1.2.2.1, ?_⟩⟩
    rw [f19, Option.getD_some, n32s, n32s]
    refine ⟨ar_mk k6 (by decide) (by decide), ?_⟩
    intro s19 q19
    have r19 : TuC wk ab v σ s19 := by rw [q19]; exact Wc.saI (k := 6) (by decide)
    exact K s19 r19 (put 0 σ s19 (by omega) hp.symm H q19) _ _
  | succ a ih =>
    intro σ ha hp X H K
    obtain ⟨⟨-, -, -, f17, f18, f19⟩, -, -, -, k4, k5, k6⟩ := X.1.2.2.2.2
    obtain ⟨y, hy⟩ := get_ex (show a < l.length by omega)
    have gy : l.getD a 0 = y := getD_of 0 hy
    have vy := H.1 a y (by omega) hy
    have ba : 0 ≤ (Int32.ofNat a).toInt ∧ (Int32.ofNat a).toInt < 6 := by rw [n32 (by omega)]; omega
    have bb : 0 ≤ (Int32.ofNat (a + 1)).toInt ∧ (Int32.ofNat (a + 1)).toInt < 6 := by rw [n32 (by omega)]; omega
    refine w_Wk_takeAlone_149 ⟨fun _ => ⟨is_mk X.1.1.2.2.1, ?_⟩, fun z => absurd (by rw [i32lt, t0, n32 (by omega)]; omega) z⟩
    rw [f19, Option.getD_some, n32m, n32q, n32c (show a < 2147483648 by omega), n32c (show a + 1 < 2147483648 by omega), vy, X.1.2.1, Option.getD_some, X.1.2.2.2.1.2.1, n32s, n32s]
    refine ⟨ar_mk k6 ba.1 ba.2, is_mk X.1.1.2.2.2.2.2.1.1.2.1, bk_rankOf (d := d) X.1.1.2.2.2.2.2.1 hw.2.1.1 (fun _ => ?_)⟩
    rw [f19, Option.getD_some, vy]
    refine ⟨fun hlt => ⟨?_, ?_, ?_⟩, fun hlt => ⟨?_, ?_⟩⟩
    · exact ar_mk k6 ba.1 ba.2
    · exact ar_mk k6 bb.1 bb.2
    · intro s10 q10
      have r10 : TuC wk ab v σ s10 := by rw [q10]; exact Wc.saI (k := 6) (by decide)
      refine ih s10 (by omega) ?_ (X.al (tu_al r10)) ⟨fun k z hk hz => ?_, fun k z hk hz => ?_⟩ (fun s2 r2 => K s2 (r10.trans r2))
      · have hlt' : RkM T at' n < RkM T at' (l.getD a 0) := by rw [gy]; exact hlt
        rw [← hp]
        show _ = if _ then _ else _
        rw [if_pos hlt']
      · rw [saI_all q10, if_neg (by omega)]
        exact H.1 k z (by omega) hz
      · rw [saI_all q10]
        by_cases hka : k = a
        · rw [if_pos (by omega)]
          rw [hka, hy] at hz
          rw [Option.some.inj hz]
        · rw [if_neg (by omega)]
          exact H.2 k z (by omega) hz
    · exact ar_mk k6 bb.1 bb.2
    · intro s14 q14
      have r14 : TuC wk ab v σ s14 := by rw [q14]; exact Wc.saI (k := 6) (by decide)
      have hlt' : ¬ RkM T at' n < RkM T at' (l.getD a 0) := by rw [gy]; exact hlt
      have hpa : m_pos (RkM T at') n l l.length = a + 1 := by
        rw [← hp]
        show (if _ then _ else _) = _
        rw [if_neg hlt']
      exact K s14 r14 (put (a + 1) σ s14 ha hpa H q14) _ _
/-- all of them -/
theorem wk_turns {al : Nat → Option Int64} {F : Int32 → am_S → Prop} (hw : WfD P T Ls Cs) (hal : ∀ y, y < 6 → ∀ z, al y = some z → ¬ z = -1) : ∀ (n k : Nat) (y3 y4 : Option Value) (σ : am_S), k + n = 6 → WkX σ w wk ab v b P T Ls Cs i x cc lc day at' C p pc q hd sum worth s rows tr fnd ov → AlW σ ab al → TnW σ ab (m_ord (RkM T at') al k) → (∀ σ', TuC wk ab v σ σ' → TnW σ' ab (m_ord (RkM T at') al 6) → F (Int32.ofNat (m_ord (RkM T at') al 6).length - 1) σ') → c_Wk_takeAlone_111 nl Ln xs (d + 3) wk (Int32.ofNat (m_ord (RkM T at') al k).length) (Int32.ofNat k) y3 y4 σ F := by
  intro n
  induction n with
  | zero =>
    intro k y3 y4 σ hk X A H K
    obtain rfl : k = 6 := by omega
    exact w_Wk_takeAlone_111 ⟨fun z => absurd z (by decide), fun _ => K σ Wc.rf H⟩
  | succ n ih =>
    intro k y3 y4 σ hk X A H K
    obtain ⟨⟨-, -, -, f17, f18, f19⟩, -, -, -, k4, k5, k6⟩ := X.1.2.2.2.2
    have hol := ord_len (RkM T at') al k
    have bk : 0 ≤ (Int32.ofNat k).toInt ∧ (Int32.ofNat k).toInt < 6 := by rw [n32 (by omega)]; omega
    have va := A k (by omega)
    have eo : m_ord (RkM T at') al (k + 1) = if (al k).isSome = true then m_ins (RkM T at') k (m_ord (RkM T at') al k) else m_ord (RkM T at') al k := rfl
    refine w_Wk_takeAlone_111 ⟨fun _ => ⟨is_mk X.1.1.2.2.1, ?_⟩, fun z => absurd ((n32lt (a := k) (b := 6) (by omega) (by omega)).mpr (by omega)) z⟩
    rw [f17, Option.getD_some, n32c (by omega), va, X.1.2.1, Option.getD_some, X.1.2.2.2.1.2.1]
    refine ⟨ar_mk k4 bk.1 bk.2, fun hm => ?_, fun hm => ⟨is_mk X.1.1.2.2.2.2.2.1.1.2.1, ?_⟩⟩
    · have hnone : (al k).isSome = false := by
        cases hq : al k with
        | none => rfl
        | some z => rw [hq] at hm; exact absurd hm (hal k (by omega) z hq)
      rw [if_neg (by rw [hnone]; decide)] at eo
      rw [n32s, ← eo]
      rw [← eo] at H
      exact ih (k + 1) y3 y4 σ (by omega) X A H K
    · have hsome : (al k).isSome = true := by
        cases hq : al k with
        | none => rw [hq] at hm; exact absurd rfl hm
        | some z => rfl
      rw [if_pos hsome] at eo
      refine bk_rankOf (d := d) X.1.1.2.2.2.2.2.1 hw.2.1.1 (fun _ => ?_)
      refine wk_turn (d := d) hw (by omega) _ σ (Nat.le_refl _) rfl X ⟨fun j y hj hy => H j y hy, fun j y hj hy => ?_⟩ (fun s2 r2 H2 y3' y4' => ?_)
      · have := (List.getElem?_eq_some_iff.mp hy).1
        omega
      · have el : (m_ord (RkM T at') al k).length + 1 = (m_ord (RkM T at') al (k + 1)).length := by rw [eo, ins_len]
        rw [el]
        rw [← eo] at H2
        refine ih (k + 1) y3' y4' s2 (by omega) (X.al (tu_al r2)) (fun y hy => ?_) H2 (fun s3 r3 => K s3 (r2.trans r3))
        rw [r2.aL X.1.1.1 (by decide) (by decide) (by simp)]
        exact A y hy
theorem wk_takeAlone {F : Int32 → am_S → Prop} (hw : WfD P T Ls Cs) (hs0 : 0 ≤ s.toInt) (X : WkX σ w wk ab v b P T Ls Cs i x cc lc day at' C p pc q hd sum worth s rows tr fnd ov) (K : ∀ σ', WkX σ' w wk ab v b P T Ls Cs i x cc lc day at' C p pc q hd sum worth s rows tr fnd ov → ShB σ' wk ab v (m_ord (RkM T at') (m_al x.2.2.2.2.2 day at' s) 6) (m_al x.2.2.2.2.2 day at' s) → GeW σ' ab (fun _ => 0) → AlC wk ab v σ σ' → F (Int32.ofNat (m_ord (RkM T at') (m_al x.2.2.2.2.2 day at' s) 6).length - 1) σ') : k_Wk_takeAlone nl Ln xs (d + 3) wk σ F := by
  obtain ⟨⟨-, -, -, f17, f18, f19⟩, -, -, -, k4, k5, k6⟩ := X.1.2.2.2.2
  have hm1 : (-1 : Int64).toInt = -1 := by decide
  have wc := hw.2.2.2.2 x (List.mem_of_getElem? X.1.2.2.1.2.1)
  refine w_Wk_takeAlone ⟨is_mk X.1.1.2.2.1, ?_⟩
  rw [f17]
  refine wk_fill (d := d + 1) (wk := wk) (v := v) (ab := ab) (j := 4) rfl (by decide) k4 (fun s2 r2 a2 i2 h2 _ => ?_)
  have X2 := X.al r2
  rw [X2.1.2.2.2.2.1.2.2.2.2.1]
  refine wk_fill (d := d + 1) (wk := wk) (v := v) (ab := ab) (j := 5) rfl (by decide) (by rw [r2.kd]; exact k5) (fun s4 r4 a4 i4 h4 _ => ?_)
  have X4 := X2.al r4
  rw [X4.1.2.2.2.2.1.2.2.2.1, Option.getD_some, X4.1.2.2.2.1.2.2]
  refine ⟨ar_mk (by rw [r4.kd, r2.kd]; exact k4) (by decide) (by decide), ?_⟩
  intro s7 q7
  rw [show (0 : Int32).toNatClampNeg = 0 from rfl] at q7
  have r7 : AlC wk ab v s4 s7 := by rw [q7]; exact Wc.saL (k := 4) (by decide)
  have X7 := X4.al r7
  rw [X7.1.2.2.1.1, Option.getD_some]
  refine ⟨is_mk X7.cas.1.2.1, ?_⟩
  rintro v11 rfl
  refine wk_aloneL (d := d + 1) x.2.2.2.2.2.reverse _ none s7 (fun f hf => wc.2.2.2.2.1.2.1 f (List.mem_reverse.mp hf)) X7.cas.1.2.2 X7 (fun s8 r8 h5 hz hy => ?_)
  have X8 := X7.al r8
  have A8 : AlW s8 ab (m_al x.2.2.2.2.2 day at' s) := by
    intro y hy6
    unfold m_al
    by_cases h0 : y = 0
    · rw [if_pos h0, h0, hz, saL_all q7, if_pos rfl]
      rfl
    · rw [if_neg h0, hy y (by omega) hy6, saL_all q7, if_neg h0, a4 _ (by omega), h2 y hy6, if_pos rfl]
      unfold m_alone
      rw [m_last_map2]
      show _ = (((x.2.2.2.2.2.reverse.find? (aq day at' y)).map (fun f => some (m_fc f))).getD none).getD (-1)
      cases x.2.2.2.2.2.reverse.find? (aq day at' y) <;> rfl
  have hal : ∀ y, y < 6 → ∀ z, m_al x.2.2.2.2.2 day at' s y = some z → ¬ z = -1 := by
    intro y hy6 z hz
    unfold m_al at hz
    by_cases h0 : y = 0
    · rw [if_pos h0] at hz
      rw [← Option.some.inj hz, i64e, hm1]
      omega
    · rw [if_neg h0] at hz
      unfold m_alone at hz
      rw [m_last_map2] at hz
      have hz' : ((x.2.2.2.2.2.reverse.find? (aq day at' y)).map (fun f => some (m_fc f))).getD none = some z := hz
      cases hf : x.2.2.2.2.2.reverse.find? (aq day at' y) with
      | none => rw [hf] at hz'; exact absurd hz' (by simp)
      | some f =>
        rw [hf] at hz'
        have e : m_fc f = z := Option.some.inj hz'
        have := (wc.2.2.2.2.1.2.1 f (List.mem_reverse.mp (List.mem_of_find?_eq_some hf))).2.2.2.2.1
        rw [← e, i64e, hm1]
        omega
  refine wk_turns (d := d) hw hal 6 0 none none s8 (by omega) X8 A8 (fun k y hk => absurd hk (by simp [m_ord])) (fun s9 r9 H9 => ?_)
  have X9 := X8.al (tu_al r9)
  refine K s9 X9 ⟨X9.1.1.1, X9.1.1.2.2.1, X9.1.2.2.2.2, H9, fun y hy6 => ?_, ord_len _ _ 6, fun y hy => ord_lt _ _ 6 y hy⟩ (fun y hy6 => ?_) ((((r2.trans r4).trans r7).trans r8).trans (tu_al r9))
  · rw [r9.aL X8.1.1.1 (by decide) (by decide) (by simp)]
    exact A8 y hy6
  · rw [r9.aL X8.1.1.1 (by decide) (by decide) (by simp), h5 y, q7, aL_n (by omega)]
    exact h4 y hy6
end
