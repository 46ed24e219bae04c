/-! THE MODEL: every call keeps the desk well-formed -/
def InvT (D : mTop) (c : Nat) : Prop := InvM (d_off D) ∧ (LkW (d_lok D) ∧ (d_lok D).2.1.length ≤ 13) ∧ pot (d_off D) + 11 * (d_tap D).length ≤ 88 * c ∧ (d_tap D).length ≤ 6000 ∧ d_tak D ≤ 40
section
variable {M : mOff} {fnd : Int32} {n : Nat} {a : mArg} {t : List Int32} {D : mTop} {c : Nat}
theorem cls_mem {T : List mTell} {p : Nat} {at' : Int32} {Q : List mCl → Prop} (h0 : Q []) (h : ∀ s ∈ T, Q (tCls s)) : Q (m_cls T p at') := by
  unfold m_cls
  cases hl : m_look T 6 p 0 at' with
  | none => exact h0
  | some s =>
    rcases m_last_some _ T none s hl with q | ⟨q1, -⟩
    · exact absurd q (by simp)
    · exact h s q1
theorem InvM.cls (h : InvM M) (p : Nat) (at' : Int32) : ClO (m_cls (o_tel M) p at') := cls_mem nil_ok h.2.2.2
theorem InvM.ck (h : InvM M) : CkM M := ⟨h.1, h.2.1.1, fun p at' c hc => ⟨((h.cls p at').2.2 c hc).1, fun f hf => ⟨(((h.cls p at').2.2 c hc).2 f hf).2.2.1, by have := (((h.cls p at').2.2 c hc).2 f hf).2.2.2.1; omega⟩⟩, h.2.1.2.1, h.2.1.2.2⟩
theorem rlog_le : (m_rlog M).length ≤ pot M := by
  unfold m_rlog pot
  split
  · rename_i hu
    rw [List.length_append]
    have := batch_len (o_hel M)
    omega
  · omega
theorem now_le (h : WfO M) : (o_now M).toInt ≤ pot M := by
  have := h.2.2.1
  unfold pot
  omega
theorem inv_act (h : InvM M) (hn1 : 1 ≤ n) (hn2 : n ≤ 22) (hnow : (o_now M).toInt ≤ 2000000000) : InvM (m_act M fnd n a t).2.1 ∧ pot (m_act M fnd n a t).2.1 ≤ pot M + 11 * aW n t := by
  obtain ⟨q1, q2, q3, q4⟩ := act_q (fnd := fnd) (a := a) (t := t) h hn1 hn2 hnow
  exact ⟨⟨q1, act_ck h.2.1 h.1.1 hnow, q2, q3⟩, q4⟩
theorem InvT.w (h : InvT D c) (hc : c ≤ 600) : DskW D := by
  obtain ⟨h1, h2, h3, h4, h5⟩ := h
  have := rlog_le (M := d_off D)
  have := now_le h1.1.1
  exact ⟨h1.1, by omega, by omega, h5, fun s hs => (h1.2.2.2 s hs).2.1, h2.1⟩
theorem InvT.now (h : InvT D c) (hc : c ≤ 600) : (o_now (d_off D)).toInt ≤ 2000000000 := (h.w hc).2.2.1
theorem InvT.log (h : InvT D c) (hc : c ≤ 600) : (o_log (d_off D)).length < 120000 := by
  have := h.2.2.1
  unfold pot at this
  omega
theorem inv_new : InvM m_new := by
  refine ⟨⟨⟨⟨⟨by decide, fun p hp => absurd hp List.not_mem_nil⟩, ⟨fun s hs => absurd hs List.not_mem_nil, fun s hs => absurd hs List.not_mem_nil, fun at' => ⟨fun _ => 0, fun x pl y _ hy => absurd hy ?_⟩, by decide, by decide, by decide, by decide, by decide, fun s hs => absurd hs List.not_mem_nil⟩, ⟨by decide, fun i l hi => absurd hi (show ¬ (none : Option mLoss) = some l by simp), fun l hl => absurd hl List.not_mem_nil⟩, by decide, fun c hc => absurd hc List.not_mem_nil⟩, fun s hs => absurd hs List.not_mem_nil, by decide, fun c hc => absurd hc List.not_mem_nil, fun s hs => absurd hs List.not_mem_nil⟩, ⟨by decide, by decide⟩, by decide, fun q hq => absurd hq List.not_mem_nil⟩, ⟨fun s hs => absurd hs List.not_mem_nil, fun s hs => absurd hs List.not_mem_nil, fun _ => rfl⟩, fun s hs => absurd hs List.not_mem_nil, fun s hs => absurd hs List.not_mem_nil⟩
  show ¬ (none : Option Nat) = some y
  simp
theorem inv_0 : InvT d_new 0 := ⟨inv_new, ⟨⟨by decide, fun r hr => absurd hr List.not_mem_nil⟩, by decide⟩, by decide, by decide, by decide⟩
theorem InvT.up {c' : Nat} (h : InvT D c) (hc : c ≤ c') : InvT D c' := ⟨h.1, h.2.1, by have := h.2.2.1; omega, h.2.2.2⟩
theorem inv_let {L : List Int32} (h : InvT D c) : InvT (d_setLet D L) c := h
theorem inv_dact {l : List Int64} (h : InvT D c) (hc : c ≤ 600) (hn1 : 1 ≤ n) (hn2 : n ≤ 22) (hn6 : n ≠ 6) : InvT (d_act D n l).2 (c + 1) := by
  have hq := inv_act (fnd := d_fnd D) (a := d_arg l) (t := []) h.1 hn1 hn2 (h.now hc)
  have hw : aW n [] ≤ 8 := by
    unfold aW
    rw [if_neg hn6]
    have : ∀ k, k ≤ 22 → m_args k ≤ 7 := by decide
    have := this n hn2
    omega
  refine ⟨hq.1, h.2.1, ?_, h.2.2.2⟩
  have h3 := h.2.2.1
  have h4 : pot (d_off (d_act D n l).2) ≤ pot (d_off D) + 11 * aW n [] := hq.2
  show pot (d_off (d_act D n l).2) + 11 * (d_tap D).length ≤ _
  omega
theorem bytes_len (w : Int64) : ∀ k, (d_bytes w k).length = k
  | 0 => rfl
  | k + 1 => by rw [d_bytes, List.length_cons, bytes_len w k]
theorem inv_type {w : Int64} {k : Int32} (h : InvT D c) : InvT (d_type D w k).2 (c + 1) := by
  obtain ⟨h1, h2, h3, h4, h5⟩ := h
  unfold d_type
  by_cases c1 : k.toInt < 0 ∨ 8 < k.toInt
  · rw [if_pos c1]; exact InvT.up ⟨h1, h2, h3, h4, h5⟩ (by omega)
  · rw [if_neg c1]
    by_cases c2 : k.toInt = 0
    · rw [if_pos c2]
      exact ⟨h1, h2, by show pot (d_off D) + 11 * 0 ≤ _; omega, by show 0 ≤ 6000; omega, h5⟩
    · rw [if_neg c2]
      by_cases c3 : 6000 < (d_tap D).length + k.toInt.toNat
      · rw [if_pos c3]; exact InvT.up ⟨h1, h2, h3, h4, h5⟩ (by omega)
      · rw [if_neg c3]
        have e : (d_tap D ++ d_bytes w k.toInt.toNat).length = (d_tap D).length + k.toInt.toNat := by rw [List.length_append, bytes_len]
        refine ⟨h1, h2, ?_, ?_, h5⟩
        · show pot (d_off D) + 11 * (d_tap D ++ d_bytes w k.toInt.toNat).length ≤ _
          rw [e]
          omega
        · show (d_tap D ++ d_bytes w k.toInt.toNat).length ≤ _
          rw [e]
          omega
theorem cl_neg (h : InvM M) (hneg : (m_act M fnd 6 a t).1.toInt < 0) : (m_act M fnd 6 a t).2.1 = M := by
  have key : ∀ r : mAns, r = m_act M fnd 6 a t → r.1.toInt < 0 → r.2.1 = M := by
    intro r hr hn
    unfold m_act at hr
    rw [if_neg (by omega)] at hr
    by_cases hu : o_und M ≠ decide (6 = 21 ∨ 6 = 22)
    · rw [if_pos hu] at hr; rw [hr]
    · rw [if_neg hu, if_neg (by decide), if_neg (by decide), if_neg (by decide), if_neg (by decide), if_neg (by decide), if_pos rfl] at hr
      by_cases c1 : ¬ (m_isCov (o_pol M) (a 0) ∧ t.length ≤ 400)
      · rw [if_pos c1] at hr; rw [hr]
      · rw [if_neg c1] at hr
        by_cases c2 : m_cnt (o_tel M) 6 = 150
        · rw [if_pos c2] at hr; rw [hr]
        · rw [if_neg c2] at hr
          cases hp : m_parse t with
          | inl e => rw [hp] at hr; rw [hr]
          | inr C =>
            rw [hp] at hr
            have hr : r = m_tellA M fnd 6 150 a t (m_ix (a 0)) 0 0 C (Int32.ofNat C.length) := hr
            have hC := (parse_ok (Classical.byContradiction (fun z => c1 (fun y => z y.2))) hp).1
            unfold m_tellA at hr
            rw [if_neg (show ¬ m_cnt (o_tel M) (Int32.ofNat 6) = 150 from c2)] at hr
            rw [hr] at hn
            have hn : (Int32.ofNat C.length).toInt < 0 := hn
            rw [n32 (by omega)] at hn
            omega
  exact key _ rfl hneg
theorem inv_clauses {p : Int32} (h : InvT D c) (hc : c ≤ 600) : InvT (d_clauses D p).2 (c + 1) := by
  have hq := inv_act (fnd := d_fnd D) (a := d_arg [p.toInt64, Int64.ofNat (d_tap D).length]) (t := d_tap D) h.1 (by decide : 1 ≤ 6) (by decide) (h.now hc)
  have hneg := cl_neg (fnd := d_fnd D) (a := d_arg [p.toInt64, Int64.ofNat (d_tap D).length]) (t := d_tap D) h.1
  obtain ⟨h1, h2, h3, h4, h5⟩ := h
  unfold d_clauses
  dsimp only
  generalize m_act (d_off D) (d_fnd D) 6 (d_arg [p.toInt64, Int64.ofNat (d_tap D).length]) (d_tap D) = r at hq hneg ⊢
  have hw : aW 6 (d_tap D) = 3 + (d_tap D).length := by
    unfold aW
    rw [if_pos rfl]
    show 1 + 2 + _ = _
    omega
  rw [hw] at hq
  refine ⟨hq.1, h2, ?_, ?_, h5⟩
  · show pot r.2.1 + 11 * (if r.1.toInt < 0 then d_tap D else []).length ≤ _
    by_cases hn : r.1.toInt < 0
    · rw [if_pos hn, hneg hn]
      omega
    · rw [if_neg hn]
      show pot r.2.1 + 11 * 0 ≤ _
      have := hq.2
      omega
  · show (if r.1.toInt < 0 then d_tap D else []).length ≤ _
    split
    · exact h4
    · show 0 ≤ 6000
      omega
/-! acts taken in -/
theorem rd_len : ∀ (l : List Int32) (sh : Nat) (u v : Int64) (r : List Int32), d_rd l sh u = some (v, r) → r.length + 1 ≤ l.length
  | [], _, _, _, _, h => absurd h (by simp [d_rd])
  | b :: l, sh, u, v, r, h => by
    rw [d_rd] at h
    split at h
    · exact absurd h (by simp)
    · split at h
      · obtain ⟨-, rfl⟩ := Prod.mk.inj (Option.some.inj h)
        exact Nat.le_refl _
      · have := rd_len l _ _ v r h
        rw [List.length_cons]
        omega
theorem rdA_len (n : Nat) : ∀ (m k : Nat) (l : List Int32) (vs : List Int64) (r : List Int32), d_rdA n m k l = some (vs, r) → r.length + m ≤ l.length ∧ vs.length = m
  | 0, _, l, vs, r, h => by
    obtain ⟨rfl, rfl⟩ := Prod.mk.inj (Option.some.inj h)
    exact ⟨Nat.le_refl _, rfl⟩
  | m + 1, k, l, vs, r, h => by
    rw [d_rdA] at h
    cases h1 : d_rd l 0 0 with
    | none => rw [h1] at h; exact absurd h (by simp)
    | some vr =>
      obtain ⟨v, r1⟩ := vr
      rw [h1] at h
      dsimp only at h
      split at h
      · exact absurd h (by simp)
      · cases h2 : d_rdA n m (k + 1) r1 with
        | none => rw [h2] at h; exact absurd h (by simp)
        | some wr =>
          obtain ⟨vs', r'⟩ := wr
          rw [h2] at h
          obtain ⟨rfl, rfl⟩ := Prod.mk.inj (Option.some.inj h)
          have := rd_len l 0 0 v r1 h1
          have := rdA_len n m (k + 1) r1 vs' r' h2
          exact ⟨by omega, by rw [List.length_cons]; omega⟩
theorem rdT_len : ∀ (m : Nat) (l : List Int32) (t r : List Int32), d_rdT m l = some (t, r) → r.length + m ≤ l.length ∧ t.length = m
  | 0, l, t, r, h => by
    obtain ⟨rfl, rfl⟩ := Prod.mk.inj (Option.some.inj h)
    exact ⟨Nat.le_refl _, rfl⟩
  | m + 1, l, t, r, h => by
    rw [d_rdT] at h
    cases h1 : d_rd l 0 0 with
    | none => rw [h1] at h; exact absurd h (by simp)
    | some vr =>
      obtain ⟨v, r1⟩ := vr
      rw [h1] at h
      dsimp only at h
      split at h
      · exact absurd h (by simp)
      · cases h2 : d_rdT m r1 with
        | none => rw [h2] at h; exact absurd h (by simp)
        | some wr =>
          obtain ⟨vs', r'⟩ := wr
          rw [h2] at h
          obtain ⟨rfl, rfl⟩ := Prod.mk.inj (Option.some.inj h)
          have := rd_len l 0 0 v r1 h1
          have := rdT_len m r1 vs' r' h2
          exact ⟨by omega, by rw [List.length_cons]; omega⟩
theorem rd1_len {l t r : List Int32} {n : Nat} {vs : List Int64} (h : d_rd1 l = some (n, vs, t, r)) : (1 ≤ n ∧ n ≤ 22) ∧ r.length + aW n t ≤ l.length ∧ t.length ≤ 400 ∧ (n ≠ 6 → t = []) ∧ vs.length = m_args n := by
  unfold d_rd1 at h
  cases h1 : d_rd l 0 0 with
  | none => rw [h1] at h; exact absurd h (by simp)
  | some vr =>
    obtain ⟨v, r1⟩ := vr
    rw [h1] at h
    dsimp only at h
    have e1 := rd_len l 0 0 v r1 h1
    split at h
    · exact absurd h (by simp)
    · rename_i hv
      have hv : 1 ≤ v.toInt ∧ v.toInt ≤ 22 := Classical.byContradiction hv
      cases h2 : d_rdA v.toInt.toNat (m_args v.toInt.toNat) 0 r1 with
      | none => rw [h2] at h; exact absurd h (by simp)
      | some wr =>
        obtain ⟨vs', l2⟩ := wr
        rw [h2] at h
        dsimp only at h
        have e2 := rdA_len _ _ _ r1 vs' l2 h2
        split at h
        · rename_i h6
          split at h
          · exact absurd h (by simp)
          · rename_i hs
            have hs : 0 ≤ (vs'.getD 1 0).toInt ∧ (vs'.getD 1 0).toInt ≤ 400 := Classical.byContradiction hs
            cases h3 : d_rdT (vs'.getD 1 0).toInt.toNat l2 with
            | none => rw [h3] at h; exact absurd h (by simp)
            | some tr =>
              obtain ⟨t', l3⟩ := tr
              rw [h3] at h
              have g0 := Option.some.inj h
              obtain ⟨rfl, g1⟩ := Prod.mk.inj g0
              obtain ⟨rfl, g2⟩ := Prod.mk.inj g1
              obtain ⟨rfl, rfl⟩ := Prod.mk.inj g2
              have e3 := rdT_len _ l2 t' l3 h3
              have e6 : v.toInt.toNat = 6 := by omega
              rw [e6] at e2
              refine ⟨⟨by decide, by decide⟩, ?_, by omega, fun z => absurd rfl z, e2.2⟩
              unfold aW
              rw [if_pos rfl]
              omega
        · rename_i h6
          have g0 := Option.some.inj h
          obtain ⟨rfl, g1⟩ := Prod.mk.inj g0
          obtain ⟨rfl, g2⟩ := Prod.mk.inj g1
          obtain ⟨rfl, rfl⟩ := Prod.mk.inj g2
          refine ⟨⟨by omega, by omega⟩, ?_, by show 0 ≤ 400; omega, fun _ => rfl, e2.2⟩
          unfold aW
          rw [if_neg (by omega)]
          omega
theorem acts_ok : ∀ (f k : Nat) (M : mOff) (fnd : Int32) (l : List Int32) (M' : mOff) (k' : Nat), InvM M → pot M + 11 * l.length ≤ 1000000 → (d_acts f k M fnd l).1 = .inr (M', k') → InvM M' ∧ pot M' ≤ pot M + 11 * l.length
  | 0, k, M, fnd, l, M', k', h, hp, e => by
    have e : (Sum.inr (M, k) : Nat ⊕ (mOff × Nat)) = .inr (M', k') := e
    obtain ⟨rfl, rfl⟩ := Prod.mk.inj (Sum.inr.inj e)
    exact ⟨h, Nat.le_add_right _ _⟩
  | f + 1, k, M, fnd, l, M', k', h, hp, e => by
    rw [d_acts] at e
    by_cases hl : l = []
    · rw [if_pos hl] at e
      obtain ⟨rfl, rfl⟩ := Prod.mk.inj (Sum.inr.inj e)
      exact ⟨h, Nat.le_add_right _ _⟩
    · rw [if_neg hl] at e
      cases h1 : d_rd1 l with
      | none => rw [h1] at e; exact absurd e (by simp)
      | some q =>
        obtain ⟨n, vs, t, r⟩ := q
        rw [h1] at e
        dsimp only at e
        obtain ⟨hn, hr, -⟩ := rd1_len h1
        have hnow := now_le h.1.1
        have hq := inv_act (fnd := fnd) (a := d_arg vs) (t := t) h hn.1 hn.2 (by omega)
        by_cases hg : m_dec (d_good n (m_act M fnd n (d_arg vs) t).1) = true
        · rw [if_pos hg] at e
          have := acts_ok f (k + 1) _ _ r M' k' hq.1 (by have := hq.2; omega) e
          exact ⟨this.1, by have := hq.2; omega⟩
        · rw [if_neg hg] at e
          exact absurd e (by simp)
theorem inv_takeIn (h : InvT D c) (hc : c ≤ 600) : InvT (d_takeIn D).2 (c + 1) := by
  have up := h.up (show c ≤ c + 1 by omega)
  obtain ⟨h1, h2, h3, h4, h5⟩ := h
  unfold d_takeIn
  by_cases c1 : o_und (d_off D) = true
  · rw [if_pos c1]; exact up
  · rw [if_neg c1]
    by_cases c2 : d_tak D = 40
    · rw [if_pos c2]; exact up
    · rw [if_neg c2]
      have u2 : InvT (d_setTak D (d_tak D + 1)) (c + 1) := ⟨h1, h2, by show pot (d_off D) + 11 * (d_tap D).length ≤ _; omega, h4, by show d_tak D + 1 ≤ 40; omega⟩
      by_cases c3 : (d_tap D).length < 4
      · rw [if_pos c3]; exact u2
      · rw [if_neg c3]
        dsimp only
        have hb : ((d_tap D).take ((d_tap D).length - 4)).length ≤ (d_tap D).length := by rw [List.length_take]; omega
        have ha := fun M' k' => acts_ok ((d_tap D).take ((d_tap D).length - 4)).length 0 m_new (d_fnd D) ((d_tap D).take ((d_tap D).length - 4)) M' k' inv_new (by show 0 + _ ≤ _; omega)
        generalize d_acts ((d_tap D).take ((d_tap D).length - 4)).length 0 m_new (d_fnd D) ((d_tap D).take ((d_tap D).length - 4)) = r at ha ⊢
        generalize ((d_tap D).take ((d_tap D).length - 4)) = B at hb ha ⊢
        obtain ⟨r1, r2⟩ := r
        cases r1 with
        | inl left => exact u2
        | inr Mk =>
          obtain ⟨M', k'⟩ := Mk
          dsimp only
          have hM := ha M' k' rfl
          split
          · refine ⟨hM.1, h2, ?_, by show 0 ≤ 6000; omega, u2.2.2.2.2⟩
            show pot M' + 11 * 0 ≤ _
            have : pot m_new = 0 := by decide
            have := hM.2
            omega
          · exact u2
end
