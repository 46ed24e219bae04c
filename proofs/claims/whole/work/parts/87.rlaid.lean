/-! WORKING OUT, by the reference: cases that are laid in their order -/
section
variable {nl : Bool} {Ln : Nat} {xs : Nat → Int32} {d : Nat} {σ : am_S} {o : Nat} {P : List mPol} {T : List mTell} {Ls : List mLoss} {Cs : List mCase} {i : Nat} {c : mCase} {day at' : Int32} {lk : Bool} {p : Nat} {st : Option Nat} {nf fnd : Int32} {ends : Bool} {s worth : Int64} {rows : List mRow} {tr : List Int32}
theorem r_isBehind {a b : Nat} {ca cb : mCase} {F : Bool → am_S → Prop} (w : WfD P T Ls Cs) (D : Dat σ o P T Ls Cs) (h72 : am_fI σ 13072 o = day) (h73 : am_fI σ 13073 o = at') (ha : Cs[a]? = some ca) (hb : Cs[b]? = some cb) (K : F (decide (m_key Ls day at' true cb < m_key Ls day at' true ca)) σ) : k_Ro_isBehind nl Ln xs (d + 3) o (Int32.ofNat a) (Int32.ofNat b) σ F := by
  have hK := D.k
  have h100 := w.c100
  have h200 := w.l200
  have la := lt_of_get ha
  have lb := lt_of_get hb
  have wa := w.c ha
  have wb := w.c hb
  have ba : 0 ≤ (Int32.ofNat a).toInt ∧ (Int32.ofNat a).toInt < 100 := by rw [n32 (by omega)]; omega
  have bb : 0 ≤ (Int32.ofNat b).toInt ∧ (Int32.ofNat b).toInt < 100 := by rw [n32 (by omega)]; omega
  have bla : 0 ≤ (Int32.ofNat ca.2.2.1).toInt ∧ (Int32.ofNat ca.2.2.1).toInt < 200 := by rw [n32 (by have := wa.2.1; omega)]; have := wa.2.1; omega
  have blb : 0 ≤ (Int32.ofNat cb.2.2.1).toInt ∧ (Int32.ofNat cb.2.2.1).toInt < 200 := by rw [n32 (by have := wb.2.1; omega)]; have := wb.2.1; omega
  have va : am_aI σ (o + 38) a = Int32.ofNat ca.2.2.1 := D.cas.2.2.2.1 a _ ha
  have vb : am_aI σ (o + 38) b = Int32.ofNat cb.2.2.1 := D.cas.2.2.2.1 b _ hb
  have ua : am_aI σ (o + 28) ca.2.2.1 = m_ld Ls ca := D.los.2.2.1 _ _ (getD_some mLoss0 wa.2.1)
  have ub : am_aI σ (o + 28) cb.2.2.1 = m_ld Ls cb := D.los.2.2.1 _ _ (getD_some mLoss0 wb.2.1)
  refine w_Ro_isBehind ⟨is_mk hK.2.1, ?_⟩
  rw [h72, h73]
  refine r_isOpen hK D.cas h100 ha wa.2.2.2.2.1.1 (fun _ => ?_)
  rw [h72, h73]
  refine r_isOpen hK D.cas h100 hb wb.2.2.2.2.1.1 (fun _ => ?_)
  rw [oG_13048 hK, oG_13037 hK, n32c (by omega), n32c (by omega), va, vb, n32c (show ca.2.2.1 < 2147483648 by have := wa.2.1; omega), n32c (show cb.2.2.1 < 2147483648 by have := wb.2.1; omega), ua, ub]
  refine ⟨fun _ _ => oA_13048 hK ba.1 ba.2, fun _ _ => oA_13037 hK bla.1 bla.2, fun _ _ => oA_13048 hK bb.1 bb.2, fun _ _ => oA_13037 hK blb.1 blb.2, ?_⟩
  have na : 0 ≤ (m_ld Ls ca).toInt := (w.ls _ (List.mem_of_getElem? (getD_some mLoss0 wa.2.1))).2.2.1
  have nb : 0 ≤ (m_ld Ls cb).toInt := (w.ls _ (List.mem_of_getElem? (getD_some mLoss0 wb.2.1))).2.2.1
  have m1 : (-1 : Int32).toInt = -1 := by decide
  have e : decide (m_open ca.2.2.2.2.2 day at' = true ∧ (¬ m_open cb.2.2.2.2.2 day at' = true ∨ m_ld Ls cb < m_ld Ls ca)) = decide (m_key Ls day at' true cb < m_key Ls day at' true ca) := by
    apply decide_eq_decide.mpr
    unfold m_key
    rw [Bool.true_and, Bool.true_and]
    cases m_open ca.2.2.2.2.2 day at' <;> cases m_open cb.2.2.2.2.2 day at' <;> simp [i32lt] <;> omega
  rw [e]
  exact K
theorem r_lay {x : Nat} {l : List Nat} {by' : Bool} {F : Int32 → am_S → Prop} (w : WfD P T Ls Cs) (D : Dat σ o P T Ls Cs) (h72 : am_fI σ 13072 o = day) (h73 : am_fI σ 13073 o = at') (hO : rwI σ (o + 57) l (fun x => Int32.ofNat x)) (hl : l.length < 100) (hm : ∀ y ∈ l, y < Cs.length) (hx : x < Cs.length)
    (K : ∀ σ', rwI σ' (o + 57) (m_ins (fun k => m_key Ls day at' by' (Cs.getD k mCase0)) x l) (fun x => Int32.ofNat x) → Rc o [] [57] [] σ σ' → F (Int32.ofNat (l.length + 1)) σ') : k_Ro_lay nl Ln xs (d + 4) o (Int32.ofNat x) (Int32.ofNat l.length) (b2i by') σ F := by
  obtain ⟨rk, hrk⟩ : ∃ rk : Nat → Int32, rk = (fun k => m_key Ls day at' by' (Cs.getD k mCase0)) := ⟨_, rfl⟩
  rw [← hrk] at K
  have fin : ∀ (k : Nat) (σ1 : am_S), k ≤ l.length → m_pos rk x l l.length = k → Rc o [] [57] [] σ σ1 → (∀ q y, q < k → l[q]? = some y → am_aI σ1 (o + 57) q = Int32.ofNat y) → (∀ q y, k ≤ q → l[q]? = some y → am_aI σ1 (o + 57) (q + 1) = Int32.ofNat y) → ∀ s2, s2 = am_saI σ1 (o + 57) k (Int32.ofNat x) → F (Int32.ofNat l.length + 1) s2 := by
    intro k σ1 hk hp hr1 h1 h2 s2 e2
    rw [n32s]
    have r3 : Rc o [] [57] [] σ1 s2 := by rw [e2]; exact Rc.saI (by decide)
    refine K s2 ?_ (hr1.trans r3)
    intro q y hq
    rw [ins_get, hp] at hq
    rw [e2]
    show am_aI (am_saI σ1 (o + 57) k (Int32.ofNat x)) (o + 57) q = Int32.ofNat y
    by_cases q1 : q < k
    · rw [if_pos q1] at hq
      rw [aI_i (by omega)]
      exact h1 q y q1 hq
    · rw [if_neg q1] at hq
      by_cases q2 : q = k
      · rw [if_pos q2] at hq
        cases hq
        rw [q2]
        exact aI_same
      · rw [if_neg q2] at hq
        rw [aI_i q2]
        have := h2 (q - 1) y (by omega) hq
        rw [show q - 1 + 1 = q by omega] at this
        exact this
  have bL : 0 ≤ (Int32.ofNat l.length).toInt ∧ (Int32.ofNat l.length).toInt < 100 := by rw [n32 (by omega)]; omega
  cases by' with
  | false =>
    refine w_Ro_lay (w_Ro_lay_3 ⟨fun _ => ⟨is_mk D.k.2.1, oA_13085 D.k bL.1 bL.2, ?_⟩, fun q => absurd rfl q⟩)
    rw [oG_13085 D.k, n32c (by omega)]
    intro s4 q4
    have hp : m_pos rk x l l.length = l.length := by
      cases hll : l.length with
      | zero => rfl
      | succ n =>
        rw [m_pos, if_neg]
        rw [hrk]
        show ¬ ((-1 : Int32) < (-1 : Int32))
        decide
    exact fin l.length σ (Nat.le_refl _) hp Rc.rf (fun q y _ hy => hO q y hy) (fun q y hq hy => absurd (lt_of_get hy) (by omega)) s4 q4
  | true =>
    have loop : ∀ (k : Nat) (σ1 : am_S), k ≤ l.length → m_pos rk x l l.length = m_pos rk x l k → Rc o [] [57] [] σ σ1 → (∀ q y, q < k → l[q]? = some y → am_aI σ1 (o + 57) q = Int32.ofNat y) → (∀ q y, k ≤ q → l[q]? = some y → am_aI σ1 (o + 57) (q + 1) = Int32.ofNat y) → c_Ro_lay_3 nl Ln xs (d + 4) o (Int32.ofNat x) (Int32.ofNat l.length) (b2i true) (Int32.ofNat k) σ1 F := by
      intro k
      induction k with
      | zero =>
        intro σ1 hk hp hr1 h1 h2
        have D1 := D.rc hr1 (by decide)
        refine w_Ro_lay_3 ⟨fun q => absurd q (by decide), fun _ => ⟨fun q => absurd q (by decide), fun _ => ⟨is_mk D1.k.2.1, oA_13085 D1.k (by decide) (by decide), ?_⟩⟩⟩
        rw [oG_13085 D1.k, n32c (by decide)]
        intro s2 e2
        exact fin 0 σ1 hk hp hr1 h1 h2 s2 e2
      | succ k ih =>
        intro σ1 hk hp hr1 h1 h2
        have D1 := D.rc hr1 (by decide)
        obtain ⟨y, hy⟩ := get_ex (show k < l.length by omega)
        have hyl := hm y (List.mem_of_getElem? hy)
        have v := h1 k y (by omega) hy
        have bk : 0 ≤ (Int32.ofNat k).toInt ∧ (Int32.ofNat k).toInt < 100 := by rw [n32 (by omega)]; omega
        have bk1 : 0 ≤ (Int32.ofNat (k + 1)).toInt ∧ (Int32.ofNat (k + 1)).toInt < 100 := by rw [n32 (by omega)]; omega
        have hps : m_pos rk x l (k + 1) = if rk x < rk y then m_pos rk x l k else k + 1 := by
          rw [m_pos, getD_of 0 hy]
        refine w_Ro_lay_3 ⟨fun q => absurd q (by decide), fun _ => ⟨fun _ => ⟨is_mk D1.k.2.1, by rw [o32]; exact oA_13085 D1.k bk.1 bk.2, ?_⟩, fun q => absurd (by rw [show (0 : Int32) = Int32.ofNat 0 from rfl, n32lt (by decide) (by omega)]; omega) q⟩⟩
        rw [o32, oG_13085 D1.k, n32c (by omega), v]
        refine r_isBehind w D1 ((hr1.fI (by simp)).trans h72) ((hr1.fI (by simp)).trans h73) (getD_some mCase0 hyl) (getD_some mCase0 hx) (fun _ => ?_)
        have hk' : (decide (m_key Ls day at' true (Cs.getD x mCase0) < m_key Ls day at' true (Cs.getD y mCase0)) = true) ↔ rk x < rk y := by rw [decide_eq_true_eq, hrk]
        rw [hk']
        refine ⟨fun h => ⟨oA_13085 D1.k bk.1 bk.2, oA_13085 D1.k bk1.1 bk1.2, ?_⟩, fun h => ⟨oA_13085 D1.k bk1.1 bk1.2, ?_⟩⟩
        · rw [oG_13085 D1.k, n32c (show k + 1 < 2147483648 by omega), v]
          intro s11 e11
          have r11 : Rc o [] [57] [] σ1 s11 := by rw [e11]; exact Rc.saI (by decide)
          have ek : Int32.ofNat (k + 1) + -1 = Int32.ofNat k := by rw [← n32s]; grind
          rw [ek]
          refine ih s11 (by omega) (hp.trans (by rw [hps, if_pos h])) (hr1.trans r11) ?_ ?_
          · intro q z hq hz
            rw [e11]
            show am_aI (am_saI σ1 (o + 57) (k + 1) _) (o + 57) q = _
            rw [aI_i (by omega)]
            exact h1 q z (by omega) hz
          · intro q z hq hz
            rw [e11]
            show am_aI (am_saI σ1 (o + 57) (k + 1) _) (o + 57) (q + 1) = _
            by_cases hqk : q = k
            · subst hqk
              rw [hy] at hz
              cases hz
              rw [aI_same]
            · rw [aI_i (by omega)]
              exact h2 q z (by omega) hz
        · rw [oG_13085 D1.k, n32c (show k + 1 < 2147483648 by omega)]
          intro s15 e15
          exact fin (k + 1) σ1 hk (hp.trans (by rw [hps, if_neg h])) hr1 h1 h2 s15 e15
    exact w_Ro_lay (loop l.length σ (Nat.le_refl _) rfl Rc.rf (fun q y _ hy => hO q y hy) (fun q y hq hy => absurd (lt_of_get hy) (by omega)))
end
