/-! THE MODEL: every act keeps it well-formed -/
section
variable {M : mOff} {fnd : Int32} {n : Nat} {a : mArg} {t : List Int32}
/-- the facts of a batch -/
theorem endL_ok : ∀ (l : List mDeed) (h : Nat) (M1 : mOff) (fnd : Int32), WfO M1 → (∀ q ∈ l, 12 ≤ q.1 ∧ q.1 ≤ 19) → (o_now M1).toInt + l.length ≤ 2147483646 → WfO (m_endL h M1 fnd l).2.1 ∧ (o_pol (m_endL h M1 fnd l).2.1 = o_pol M1 ∧ o_tel (m_endL h M1 fnd l).2.1 = o_tel M1 ∧ o_los (m_endL h M1 fnd l).2.1 = o_los M1) ∧ (o_now M1).toInt ≤ (o_now (m_endL h M1 fnd l).2.1).toInt ∧ (o_now (m_endL h M1 fnd l).2.1).toInt ≤ (o_now M1).toInt + l.length
  | [], h, M1, fnd, w, _, _ => ⟨w, ⟨rfl, rfl, rfl⟩, Int.le_refl _, by show (o_now M1).toInt ≤ (o_now M1).toInt + (0 : Nat); omega⟩
  | q :: l, h, M1, fnd, w, hq, hn => by
    rw [List.length_cons] at hn ⊢
    have hq1 := hq q List.mem_cons_self
    have one : (1 : Int32).toInt = 1 := by decide
    have m0 := w.2.2.1
    rw [m_endL]
    rcases fact_wf (a := q.2) (fnd := fnd) w hq1.1 hq1.2 (by omega) with ⟨u1, u2⟩ | ⟨it, u1, u2, u3, u4⟩
    · dsimp only
      rw [if_pos (by rw [i32lt]; exact u2)]
      show WfO (m_fact M1 fnd q.1 q.2).2.1 ∧ _
      rw [u1]
      exact ⟨w, ⟨rfl, rfl, rfl⟩, Int.le_refl _, by show (o_now M1).toInt ≤ _; omega⟩
    · dsimp only
      rw [if_neg (by rw [u2, i32lt]; decide), u1]
      have en : (o_now (m_keep M1 q.1 q.2 it)).toInt = (o_now M1).toInt + 1 := by
        show (o_now M1 + 1).toInt = _
        rw [i32add (by rw [one]; omega) (by rw [one]; omega), one]
      obtain ⟨v1, v2, v3, v4⟩ := endL_ok l (h + 1) (m_keep M1 q.1 q.2 it) (m_fact M1 fnd q.1 q.2).2.2 u3 (fun x hx => hq x (List.mem_cons_of_mem _ hx)) (by omega)
      exact ⟨v1, v2, by omega, by omega⟩
theorem dW_len : ∀ l : List mDeed, l.length ≤ dW l
  | [] => Nat.le_refl _
  | q :: l => by
    have := dW_len l
    rw [List.length_cons]
    show _ ≤ 10 * (1 + m_args q.1) + 1 + dW l
    omega
theorem over_q {now : Int32} {Cs : List mCase} {k : Nat} {x y : Int32} (h : InvM M) (hu : o_und M = true) (h0 : (o_now M).toInt ≤ now.toInt) (h1 : now.toInt ≤ (o_now M).toInt + (o_hel M).length) (hw : WfO (m_over M now Cs k)) (hx : (o_now M).toInt.toNat + (o_hel M).length = now.toInt.toNat ∨ True) : IQ M n t (x, m_over M now Cs k, y) := by
  obtain ⟨⟨⟨-, wH, m0, m1, m2⟩, hp, h60, hh⟩, -, pl, cl⟩ := h
  refine ⟨⟨hw, hp, by show 0 ≤ 60; omega, fun q hq => absurd hq (by show ¬ q ∈ []; simp)⟩, pl, cl, ?_⟩
  have e1 : (o_log (m_over M now Cs k)).length = (o_log M).length + ((m_batchLog (o_hel M)).length + (m_enc (Int64.ofNat k)).length) := by
    show (o_log M ++ (m_batchLog (o_hel M) ++ m_enc (Int64.ofNat k))).length = _
    rw [List.length_append, List.length_append]
  have b1 := m_enc_len (Int64.ofNat k)
  have b2 := m_enc_len 20
  unfold pot
  show (o_log (m_over M now Cs k)).length + now.toInt.toNat + 0 + 0 ≤ _
  rw [e1, hu, if_pos rfl]
  have hb : (m_batchLog (o_hel M)).length + (o_hel M).length ≤ 10 + dW (o_hel M) := by
    unfold m_batchLog
    rw [List.length_append]
    have h2 : ∀ l : List mDeed, (l.flatMap (fun q => m_note q.1 q.2 [])).length + l.length ≤ dW l := by
      intro l
      induction l with
      | nil => exact Nat.le_refl _
      | cons q l ih =>
        rw [List.flatMap_cons, List.length_append, List.length_cons]
        have := note_len q.1 q.2 []
        unfold aW at this
        have e : (if q.1 = 6 then ([] : List Int32).length else 0) = 0 := by split <;> rfl
        rw [e] at this
        show _ ≤ 10 * (1 + m_args q.1) + 1 + dW l
        omega
    have := h2 (o_hel M)
    omega
  have := aW_pos (n := n) (t := t)
  omega
theorem end_q (h : InvM M) (hnow : (o_now M).toInt ≤ 2000000000) (hu : o_und M = true) : IQ M n t (m_end M fnd) := by
  obtain ⟨⟨⟨wD, wH, m0, m1, m2⟩, hp, h60, hh⟩, -, pl, cl⟩ := id h
  have wo : WfO M := h.1.1
  obtain ⟨v1, ⟨v2, v3, v4⟩, v5, v6⟩ := endL_ok (o_hel M) 0 M fnd wo hh (by omega)
  unfold m_end
  dsimp only
  split
  · refine over_q h hu v5 v6 ?_ (Or.inr trivial)
    obtain ⟨z1, z2, z3⟩ := v1
    rw [v2, v3, v4] at z1
    rw [v3] at z2
    unfold WfMo at z3
    rw [v3] at z3
    exact ⟨z1, z2, z3⟩
  · refine over_q h hu v5 v6 ?_ (Or.inr trivial)
    refine ⟨wD, wH, by show 0 ≤ (o_now (m_endL 0 M fnd (o_hel M)).2.1).toInt; omega, fun c hc => ?_, fun s hs => ?_⟩
    · have := m1 c hc
      show _ ∧ _ ≤ (o_now (m_endL 0 M fnd (o_hel M)).2.1).toInt ∧ ∀ f ∈ _, _ ≤ (o_now (m_endL 0 M fnd (o_hel M)).2.1).toInt
      exact ⟨this.1, by omega, fun f hf => by have := this.2.2 f hf; omega⟩
    · have := m2 s hs
      show _ ≤ (o_now (m_endL 0 M fnd (o_hel M)).2.1).toInt
      omega
theorem nil_ok : ClO [] := ⟨Nat.zero_le _, Nat.zero_le _, fun c hc => absurd hc (by simp)⟩
theorem aW_nil (h : n ≠ 6) : aW n [] ≤ aW n t := by
  unfold aW
  rw [if_neg h, if_neg h]
  exact Nat.le_refl _
theorem rg32 {v : Int64} {lo hi : Int} (h : m_rg v lo hi) (h0 : -1000000000 ≤ lo) (h1 : hi ≤ 1000000000) : lo ≤ v.toInt32.toInt ∧ v.toInt32.toInt ≤ hi := by
  have e : v.toInt32.toInt = v.toInt := t32 (by have := h.1; omega) (by have := h.2; omega)
  rw [e]
  exact h
theorem act_q (h : InvM M) (hn1 : 1 ≤ n) (hn2 : n ≤ 22) (hnow : (o_now M).toInt ≤ 2000000000) : IQ M n t (m_act M fnd n a t) := by
  obtain ⟨⟨⟨⟨wP, wT, wL, wC⟩, wH, m0, m1, m2⟩, hp, h60, hh⟩, ⟨-, hwho, -⟩, pl, cl⟩ := id h
  have wo : WfO M := h.1.1
  have one : (1 : Int32).toInt = 1 := by decide
  have en : (o_now M + 1).toInt = (o_now M).toInt + 1 := by rw [i32add (by rw [one]; omega) (by rw [one]; omega), one]
  have nn : ∀ {p : Prop}, ¬ ¬ p → p := fun {p} z => Classical.byContradiction z
  have p100 := wP.1
  have pol : ∀ {v : Int64}, m_isPol (o_pol M) v → m_ix v < 1000 := fun {v} hv => by unfold m_ix; omega
  have same : ∀ {x y : Int32}, IQ M n t (x, M, y) := fun {x y} => iq_same h
  by_cases hf : 12 ≤ n ∧ n ≤ 19
  · have w0 : aW n t = 1 + m_args n := by unfold aW; rw [if_neg (by omega)]; rfl
    by_cases hu : o_und M = true
    · rw [act_hold hf hu]
      refine q_ite (Q := IQ M n t) (fun _ => same) (fun h6 => ⟨⟨⟨⟨wP, wT, wL, wC⟩, wH, m0, m1, m2⟩, hp, ?_, fun q hq => ?_⟩, pl, cl, ?_⟩)
      · show (o_hel M ++ [(n, a)]).length ≤ 60
        rw [len_app]
        omega
      · have hq : q ∈ o_hel M ++ [(n, a)] := hq
        rcases List.mem_append.mp hq with q1 | q1
        · exact hh q q1
        · rw [List.mem_singleton.mp q1]
          exact hf
      · unfold pot
        show (o_log M).length + (o_now M).toInt.toNat + dW (o_hel M ++ [(n, a)]) + (if o_und M = true then 10 else 0) ≤ _
        rw [dW_app, w0]
        show _ + (dW (o_hel M) + (10 * (1 + m_args n) + 1)) + _ ≤ _
        omega
    · have hu : o_und M = false := Bool.eq_false_iff.mpr hu
      rw [act_fact hf hu]
      rcases fact_wf (a := a) (fnd := fnd) wo hf.1 hf.2 (by omega) with ⟨u1, u2⟩ | ⟨it, u1, u2, u3, u4⟩
      · rw [if_neg (fun z => by rw [z] at u2; exact absurd u2 (by decide)), u1]
        exact same
      · rw [if_pos u2, u1]
        refine ⟨⟨u3, hp, h60, hh⟩, pl, cl, ?_⟩
        have nl := note_len n a []
        have e0 : aW n [] = 1 + m_args n := by unfold aW; rw [if_neg (by omega)]; rfl
        unfold pot
        show (o_log M ++ m_note n a []).length + (o_now M + 1).toInt.toNat + dW (o_hel M) + (if o_und M = true then 10 else 0) ≤ _
        rw [List.length_append, en, w0]
        rw [e0] at nl
        omega
  · by_cases hu : o_und M = decide (n = 21 ∨ n = 22)
    · have hgo : ¬ (o_und M ≠ decide (n = 21 ∨ n = 22)) := fun z => z hu
      unfold m_act
      rw [if_neg hf, if_neg hgo]
      refine q_ite (Q := IQ M n t) (fun h1 => q_ite (Q := IQ M n t) (fun _ => same) (fun hc => ?_)) (fun g1 => ?_)
      · subst h1
        refine done_q (M' := m_setPer M (o_per M + 1)) h hnow rfl rfl rfl rfl ?_ ⟨wP, wT, wL, wC⟩ (fun s hs => Or.inl hs) (fun c hc => Or.inl hc) (aW_nil (by decide))
        show 0 ≤ (o_per M + 1).toInt ∧ (o_per M + 1).toInt ≤ 100
        rw [i32add (by rw [one]; omega) (by rw [one]; omega), one]
        have : (o_per M).toInt ≠ 100 := fun z => hc (by rw [i32e, z]; rfl)
        omega
      refine q_ite (Q := IQ M n t) (fun h1 => q_ite (Q := IQ M n t) (fun _ => same) (fun hc => ?_)) (fun g2 => ?_)
      · subst h1
        have hc := nn hc
        exact tell_q h hnow (by omega) (by decide) (fun _ => rfl) (by omega) nil_ok (by omega) (by omega) (fun _ => hc.2) (by omega) (aW_nil (by decide))
      refine q_ite (Q := IQ M n t) (fun h1 => q_ite (Q := IQ M n t) (fun _ => same) (fun hc => q_ite (Q := IQ M n t) (fun _ => same) (fun h100 => ?_))) (fun g3 => ?_)
      · subst h1
        obtain ⟨c1, c2, c3, c4⟩ := nn hc
        have d1 := rg32 c1 (by decide) (by decide)
        have d3 := rg32 c3 (by decide) (by decide)
        have c3' := c3.1
        have d4 : (a 3).toInt32.toInt = (a 3).toInt := t32 (by have := c4.1; omega) (by have := c4.2; omega)
        have d3' : (a 2).toInt32.toInt = (a 2).toInt := t32 (by omega) (by have := c3.2; omega)
        refine done_q (M' := m_setPol M (o_pol M ++ [((a 0).toInt32, (a 2).toInt32, (a 3).toInt32)])) h hnow rfl rfl rfl rfl hp ⟨⟨?_, fun p hp => ?_⟩, ⟨wT.1, fun s hs h4 => ?_, fun at' => ?_, wT.2.2.2⟩, wL, wC.1, fun c hc => ?_⟩ (fun s hs => Or.inl hs) (fun c hc => Or.inl hc) (aW_nil (by decide))
        · show (o_pol M ++ [_]).length ≤ 100
          rw [len_app]
          omega
        · rcases List.mem_append.mp hp with q | q
          · exact wP.2 p q
          · rw [List.mem_singleton.mp q]
            refine ⟨d1.1, d1.2, d3.1, ?_, ?_⟩
            · show (a 2).toInt32.toInt ≤ (a 3).toInt32.toInt
              have := c4.1
              omega
            · show (a 3).toInt32.toInt ≤ 10949
              have := c4.2
              omega
        · have := wT.2.1 s hs h4
          show _ ∧ _ < ((o_pol M ++ [_]).length : Int)
          rw [len_app]
          omega
        · obtain ⟨r, hr⟩ := wT.2.2.1 at'
          refine ⟨r, fun x pl' y h6 hy => hr x pl' y ?_ hy⟩
          have h6 : ((o_pol M ++ [((a 0).toInt32, (a 2).toInt32, (a 3).toInt32)]).getD x mPol0).1 = 6 := h6
          by_cases hx : x < (o_pol M).length
          · rw [List.getD_eq_getElem?_getD, List.getElem?_append_left hx, ← List.getD_eq_getElem?_getD] at h6
            exact h6
          · exfalso
            have hy : m_part (o_tel M) x pl' at' = some y := hy
            unfold m_part at hy
            cases hl : m_look (o_tel M) 4 x pl' at' with
            | none => rw [hl] at hy; exact absurd hy (by simp)
            | some s =>
              rcases m_last_some _ (o_tel M) none s hl with q | ⟨q1, q2⟩
              · exact absurd q (by simp)
              · unfold m_tq at q2
                rw [Bool.and_eq_true, Bool.and_eq_true] at q2
                have e4 := of_decide_eq_true q2.1
                have ex := of_decide_eq_true q2.2.1
                have := hwho s q1 (by rw [e4]; decide)
                omega
        · obtain ⟨c1, c2⟩ := wC.2 c hc
          refine ⟨?_, c2⟩
          show c.1 < (o_pol M ++ [_]).length
          rw [len_app]
          omega
      refine q_ite (Q := IQ M n t) (fun h1 => q_ite (Q := IQ M n t) (fun _ => same) (fun hc => q_ite (Q := IQ M n t) (fun _ => same) (fun hd => ?_))) (fun g4 => ?_)
      · subst h1
        obtain ⟨c1, c2, c3, c4⟩ := nn hc
        have hd : ¬ (a 2 ≠ -1 ∧ m_within (o_pol M) (o_tel M) (o_now M) (m_ix (a 0)) (m_ix (a 2))) := fun z => hd (m_dec_eq.mpr z)
        have m1' : (-1 : Int64).toInt = -1 := by decide
        refine tell_q h hnow (by omega) (pol c1) (by omega) (by omega) nil_ok (by omega) (by omega) (by omega) (fun _ => ⟨rg32 c3 (by decide) (by decide), ?_, rfl, fun hv z => hd ⟨fun q => ?_, z⟩⟩) (aW_nil (by decide))
        · rcases c4 with q | q
          · rw [q, m1']
            omega
          · omega
        · rw [q, m1'] at hv
          omega
      refine q_ite (Q := IQ M n t) (fun h1 => q_ite (Q := IQ M n t) (fun _ => same) (fun hc => ?_)) (fun g5 => ?_)
      · subst h1
        obtain ⟨c1, c2, c3⟩ := nn hc
        exact tell_q h hnow (by omega) (pol c1.1) (by omega) (by omega) nil_ok (fun _ => c3) (by omega) (by omega) (by omega) (aW_nil (by decide))
      refine q_ite (Q := IQ M n t) (fun h1 => q_ite (Q := IQ M n t) (fun _ => same) (fun hc => q_ite (Q := IQ M n t) (fun _ => same) (fun hd => ?_))) (fun g6 => ?_)
      · subst h1
        obtain ⟨c1, c2⟩ := nn hc
        cases hm : m_parse t with
        | inl e => exact same
        | inr C => exact tell_q h hnow (by omega) (pol c1.1) (by omega) (fun _ => rfl) (parse_ok c2 hm) (by omega) (by omega) (by omega) (by omega) (Nat.le_refl _)
      refine q_ite (Q := IQ M n t) (fun h1 => q_ite (Q := IQ M n t) (fun _ => same) (fun hc => ?_)) (fun g7 => ?_)
      · subst h1
        obtain ⟨c1, c2⟩ := nn hc
        exact tell_q h hnow (by omega) (pol c1.1) (by omega) (fun _ => rfl) nil_ok (by omega) (fun _ => c2) (by omega) (by omega) (aW_nil (by decide))
      refine q_ite (Q := IQ M n t) (fun h1 => q_ite (Q := IQ M n t) (fun _ => same) (fun hc => ?_)) (fun g8 => ?_)
      · subst h1
        obtain ⟨c1, c2⟩ := nn hc
        have d1 := rg32 c1 (by decide) (by decide)
        refine loss_q h hnow ⟨fun z => ?_, fun z => absurd rfl z⟩ ⟨d1.1, by omega⟩ (rg32 c2 (by decide) (by decide)) ⟨by decide, by decide⟩ (fun u hu => absurd hu (by simp)) (aW_nil (by decide))
        rw [z] at d1
        exact absurd d1.2 (by decide)
      refine q_ite (Q := IQ M n t) (fun h1 => q_ite (Q := IQ M n t) (fun _ => same) (fun hc => q_ite (Q := IQ M n t) (fun _ => same) (fun h4 => ?_))) (fun g9 => ?_)
      · subst h1
        obtain ⟨c1, c2⟩ := nn hc
        have hl : m_ix (a 0) < (o_los M).length := by unfold m_ix; omega
        have hL := wL.2.2 _ (List.mem_of_getElem? (getD_some mLoss0 hl))
        have d2 := rg32 c2 (by decide) (by decide)
        refine loss_q h hnow ⟨fun _ => by simp, fun _ => rfl⟩ ⟨by decide, by decide⟩ ⟨hL.2.2.1, hL.2.2.2.1⟩ ⟨by omega, d2.2⟩ (fun u hu => ?_) (aW_nil (by decide))
        obtain rfl := Option.some.inj hu
        exact ⟨hl, h4⟩
      refine q_ite (Q := IQ M n t) (fun h1 => q_ite (Q := IQ M n t) (fun _ => same) (fun hc => q_ite (Q := IQ M n t) (fun _ => same) (fun h4 => q_ite (Q := IQ M n t) (fun _ => same) (fun h6 => ?_)))) (fun g10 => ?_)
      · subst h1
        obtain ⟨c1, c2, c3, c4, c5⟩ := nn hc
        have hl : m_ix (a 0) < (o_los M).length := by unfold m_ix; omega
        have hg := getD_some mLoss0 hl
        have d3 := rg32 c3 (by decide) (by decide)
        obtain ⟨z1, z2⟩ := los_mod (k := m_ix (a 0)) (g := fun l => (l.1, l.2.1, l.2.2.1, l.2.2.2.1, l.2.2.2.2.1, l.2.2.2.2.2 ++ [((a 1).toInt32, a 2, a 3)])) wL (fun l => ⟨rfl, rfl, rfl, rfl, by show _ ≤ (l.2.2.2.2.2 ++ [_]).length; rw [len_app]; omega⟩) (fun l hl' => by
          have e : l = (o_los M).getD (m_ix (a 0)) mLoss0 := (getD_of mLoss0 hl').symm
          have w5 := (wL.2.1 _ l hl').1
          have w6 := (wL.2.1 _ l hl').2.2.2
          have hL := wL.2.2 l (List.mem_of_getElem? hl')
          have h6' : l.2.2.2.2.2.length ≠ 6 := by rw [e]; exact h6
          refine ⟨by show (l.2.2.2.2.2 ++ [_]).length ≤ 6; rw [len_app]; omega, hL.1, hL.2.1, hL.2.2.1, hL.2.2.2.1, hL.2.2.2.2.1, hL.2.2.2.2.2.1, fun z => absurd (w5.mpr z) (by rw [e]; exact c2), fun x hx => ?_⟩
          have hx : x ∈ l.2.2.2.2.2 ++ [((a 1).toInt32, a 2, a 3)] := hx
          rcases List.mem_append.mp hx with q | q
          · exact hL.2.2.2.2.2.2.2 x q
          · rw [List.mem_singleton.mp q]
            exact ⟨d3.1, d3.2, c4.1, c4.2, c5.1, c5.2⟩)
        exact done_q (M' := m_setLos M ((o_los M).modify (m_ix (a 0)) (fun l => (l.1, l.2.1, l.2.2.1, l.2.2.2.1, l.2.2.2.2.1, l.2.2.2.2.2 ++ [((a 1).toInt32, a 2, a 3)])))) h hnow rfl rfl rfl rfl hp ⟨wP, wT, z1, wC.1, fun c hc => cas_x wL.2.1 z2 (wC.2 c hc)⟩ (fun s hs => Or.inl hs) (fun c hc => Or.inl hc) (aW_nil (by decide))
      refine q_ite (Q := IQ M n t) (fun h1 => q_ite (Q := IQ M n t) (fun _ => same) (fun hc => q_ite (Q := IQ M n t) (fun _ => same) (fun h4 => q_ite (Q := IQ M n t) (fun _ => same) (fun h100 => ?_)))) (fun g11 => ?_)
      · subst h1
        obtain ⟨c1, c2, c3, c4⟩ := nn hc
        have hl : m_ix (a 2) < (o_los M).length := by unfold m_ix; omega
        have hq : m_ix (a 0) < (o_pol M).length := by unfold m_ix; omega
        have hg := getD_some mLoss0 hl
        have d4 := rg32 c4 (by decide) (by decide)
        have d4' : (a 3).toInt32.toInt = (a 3).toInt := t32 (by have := c4.1; omega) (by have := c4.2; omega)
        obtain ⟨z1, z2⟩ := los_mod (k := m_base (o_los M) (m_ix (a 2))) (g := fun l => (l.1, l.2.1, l.2.2.1, l.2.2.2.1, true, l.2.2.2.2.2)) wL (fun l => ⟨rfl, rfl, rfl, rfl, Nat.le_refl _⟩) (fun l hl' => ⟨(wL.2.1 _ l hl').2.2.2, wL.2.2 l (List.mem_of_getElem? hl')⟩)
        have h4 : ¬ (a 3).toInt < ((o_los M).getD (m_ix (a 2)) mLoss0).2.1.toInt := fun z => h4 (Or.inl z)
        have wn : WfCas (o_pol M) (o_los M) (m_ix (a 0), (a 1).toInt32, m_ix (a 2), (a 3).toInt32, o_now M + 1, []) := by
          refine ⟨hq, hl, ?_, d4.2, ⟨by show 0 ≤ 40; omega, fun f hf => absurd hf (by simp), List.Pairwise.nil⟩, fun f hf => absurd hf (by simp), fun f hf => absurd hf (by simp)⟩
          show ((o_los M).getD (m_ix (a 2)) mLoss0).2.1.toInt ≤ (a 3).toInt32.toInt
          omega
        refine done_q (M' := m_setLos (m_setCas M (o_cas M ++ [(m_ix (a 0), (a 1).toInt32, m_ix (a 2), (a 3).toInt32, o_now M + 1, [])])) ((o_los M).modify (m_base (o_los M) (m_ix (a 2))) (fun l => (l.1, l.2.1, l.2.2.1, l.2.2.2.1, true, l.2.2.2.2.2)))) h hnow rfl rfl rfl rfl hp ⟨wP, wT, z1, ?_, fun c hc => ?_⟩ (fun s hs => Or.inl hs) (fun c hc => ?_) (aW_nil (by decide))
        · show (o_cas M ++ [_]).length ≤ 100
          rw [len_app]
          have := wC.1
          omega
        · rcases List.mem_append.mp hc with q | q
          · exact cas_x wL.2.1 z2 (wC.2 c q)
          · rw [List.mem_singleton.mp q]
            exact cas_x wL.2.1 z2 wn
        · rcases List.mem_append.mp hc with q | q
          · exact Or.inl q
          · rw [List.mem_singleton.mp q]
            exact Or.inr ⟨rfl, rfl⟩
      refine q_ite (Q := IQ M n t) (fun h1 => ⟨⟨⟨⟨wP, wT, wL, wC⟩, wH, m0, m1, m2⟩, hp, by show 0 ≤ 60; omega, fun q hq => absurd hq (by show ¬ q ∈ []; simp)⟩, pl, cl, ?_⟩) (fun h20 => ?_)
      · unfold pot
        show (o_log M).length + (o_now M).toInt.toNat + 0 + 10 ≤ _
        have := aW_pos (n := n) (t := t)
        omega
      refine q_ite (Q := IQ M n t) (fun h1 => ?_) (fun h21 => ?_)
      · refine end_q h hnow ?_
        rw [hu, h1]
        rfl
      · have h22 : n = 22 := by omega
        refine over_q h (by rw [hu, h22]; rfl) (Int.le_refl _) (by omega) ⟨⟨wP, wT, wL, wC⟩, wH, m0, m1, m2⟩ (Or.inr trivial)
    · rw [act_state hf hu]
      exact same
end
