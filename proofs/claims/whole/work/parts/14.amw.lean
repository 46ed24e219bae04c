/-! the start: class numbers, array classes, the empty state -/
def am_s0 : am_S := (fun _ => (0, 0), fun _ _ => 0, fun _ _ => 0, fun _ _ => none, fun _ _ => 0, fun _ _ => 0, fun _ _ => none, 1000, 0)
theorem am_s0_I : am_I am_s0 := ⟨Nat.le_refl _, fun n h => absurd rfl h, fun _ _ _ => ⟨rfl, rfl, rfl, rfl, rfl, rfl⟩⟩
theorem am_s0_R (E : am_E) {H : Heap} (h : H.size = am_h0 E) : am_R E am_s0 H := by
  refine ⟨am_s0_I, by rw [h]; rfl, ?_⟩
  have e : am_pool E am_s0 = [] := by
    unfold am_pool
    show (List.range (1000 - 1000)).map _ = []
    rfl
  rw [e]
  intro k q h
  simp at h
theorem am_uK {D : am_dT} {s : State} {args : Array Value} (hC : ∀ q ∈ am_dcl D, am_kC D q = true) (hts : ∀ w ∈ am_dts D, w.before args s = true) : ∃ (dC : Nat → ClassId) (dI : Nat → Nat → Nat), ∀ (k : Nat) (q : vw_C), (am_dvc D)[k]? = some q → u_Kn s q.1 q.2.1 q.2.2 (dC k) (dI k) := by
  have h : ∀ k : Nat, ∃ w : ClassId × (Nat → Nat), ∀ q : vw_C, (am_dvc D)[k]? = some q → u_Kn s q.1 q.2.1 q.2.2 w.1 w.2 := by
    intro k
    cases hk : (am_dvc D)[k]? with
    | none => exact ⟨(0, fun _ => 0), fun q h => by cases h⟩
    | some q =>
      unfold am_dvc at hk
      rw [List.getElem?_map] at hk
      cases hq : (am_dcl D)[k]? with
      | none => rw [hq] at hk; cases hk
      | some r =>
        rw [hq] at hk
        have hk' : (r.1, am_uT r, r.2.1.length) = q := Option.some.inj hk
        have hr := hC r (List.mem_of_getElem? hq)
        unfold am_kC at hr
        obtain ⟨hr, -⟩ := am_of_and hr
        obtain ⟨hr, r5⟩ := am_of_and hr
        obtain ⟨hr, -⟩ := am_of_and hr
        obtain ⟨-, r3⟩ := am_of_and hr
        obtain ⟨cC, iS, hu⟩ := u_known (C := r.1) (T := am_uT r) (N := r.2.1.length) (n := r.2.1.length) hts (fun w hw => by
          unfold u_ws at hw
          obtain ⟨j, h1, h2⟩ := List.mem_map.mp hw
          rw [← h2]
          have := List.all_eq_true.mp r3 j h1
          obtain ⟨this, -⟩ := am_of_and this
          obtain ⟨this, -⟩ := am_of_and this
          exact am_wd_mem (of_decide_eq_true this)) (hts _ (am_wd_mem (of_decide_eq_true r5)))
        refine ⟨(cC, iS), fun q2 h2 => ?_⟩
        cases h2
        rw [← hk']
        exact hu
  exact ⟨fun k => (Classical.choose (h k)).1, fun k => (Classical.choose (h k)).2, fun k q hq => Classical.choose_spec (h k) q hq⟩
theorem am_uA {D : am_dT} {s : State} {args : Array Value} (hts : ∀ w ∈ am_dts D, w.before args s = true) (hzo : ∀ C ∈ am_zo (am_dz D), va_AO C s) (hu : ∀ q ∈ am_dac D, ∀ q' ∈ am_dac D, q.1 = q'.1 → q.2 = q'.2)
    (hk : ∀ q ∈ am_dac D, ((q.2 = .int ∨ q.2 = .long ∨ q.2 = .byte ∨ q.2 = .boolean) ∧ Cond.arrayClass q.2 ∈ am_dts D) ∨ ∃ C, q.2 = .object C ∧ C ∈ am_zo (am_dz D)) : ∃ aC : Nat → ClassId, ∀ q ∈ am_dac D, ArrOfT s (aC q.1) q.2 ∧ va_RA s (aC q.1) q.2 := by
  have h1 : ∀ q ∈ am_dac D, ∃ cA : ClassId, ArrOfT s cA q.2 ∧ va_RA s cA q.2 := by
    intro q hq
    rcases hk q hq with ⟨ht, hw⟩ | ⟨C, ht, hw⟩
    · obtain ⟨c, k, comp, e1, e2, e3⟩ := Cond.arrayClass_spec (hts _ hw)
      refine ⟨c, fun n z => ⟨fun k h => (by cases h), k, e2, comp, e3⟩, ?_⟩
      rcases ht with ht | ht | ht | ht <;> rw [ht] at e1 ⊢ <;> exact e1
    · obtain ⟨comp, c, k, e1, -, e2, e3, e4⟩ := Cond.arrayOver_spec (va_AO.use (A := #[]) (hzo C hw))
      rw [ht]
      exact ⟨c, fun n z => ⟨fun k h => (by cases h), k, e2, comp, e3⟩, k, comp, e2, e3, e1, e4⟩
  have h2 : ∀ j : Nat, ∃ cA : ClassId, ∀ q ∈ am_dac D, q.1 = j → ArrOfT s cA q.2 ∧ va_RA s cA q.2 := by
    intro j
    by_cases hj : ∃ q, q ∈ am_dac D ∧ q.1 = j
    · obtain ⟨q0, g1, g2⟩ := hj
      obtain ⟨cA, g3⟩ := h1 q0 g1
      exact ⟨cA, fun q hq e => by rw [hu q hq q0 g1 (e.trans g2.symm)]; exact g3⟩
    · exact ⟨0, fun q hq e => absurd ⟨q, hq, e⟩ hj⟩
  exact ⟨fun j => Classical.choose (h2 j), fun q hq => Classical.choose_spec (h2 q.1) q hq rfl⟩
theorem am_uW {D : am_dT} {s : State} {dC : Nat → ClassId} {dI : Nat → Nat → Nat} {aC : Nat → ClassId} {E : am_E} (hE : E = ((dC, dI), am_dvc D, am_tf (am_tbl D), aC, am_h0 E, am_ro E)) (hh : am_h0 E = s.heap.size)
    (h1 : ∀ (k : Nat) (q : vw_C), (am_dvc D)[k]? = some q → u_Kn s q.1 q.2.1 q.2.2 (dC k) (dI k)) (h2 : ∀ q ∈ am_dac D, ArrOfT s (aC q.1) q.2 ∧ va_RA s (aC q.1) q.2) : am_W E (am_dty E D) s am_s0 s.heap [] 0 := by
  have eD : am_D E = (dC, dI) := by rw [hE]
  have ecl : am_cl E = am_dvc D := by rw [hE]
  have eaC : am_aC E = aC := by rw [hE]
  refine ⟨⟨?_, ?_⟩, am_s0_R E hh.symm, va_S.rf, rfl, by rw [hh]; exact Nat.le_refl _⟩
  · intro k q hq
    rw [ecl] at hq
    rw [eD]
    exact h1 k q hq
  · intro k q hq
    unfold am_dty at hq
    rw [List.getElem?_map] at hq
    cases hr : (am_dac D)[k]? with
    | none => rw [hr] at hq; cases hq
    | some r =>
      rw [hr] at hq
      have e := Option.some.inj hq
      rw [← e]
      show ArrOfT s (am_aC E r.1) r.2 ∧ va_RA s (am_aC E r.1) r.2
      rw [eaC]
      exact h2 r (List.mem_of_getElem? hr)
