/-! what the check gives -/
section AmE
variable {D : am_dT} {E : am_E}
theorem am_gM_out {x : Nat} (h : (am_dmt D).length ≤ x) : am_gM D x = am_m0 := by
  unfold am_gM
  rw [List.getD_eq_getElem?_getD, List.getElem?_eq_none h]
  rfl
theorem am_dCls (hC : ∀ q ∈ am_dcl D, am_kC D q = true) (h500 : (am_dcl D).length < 500) (hE : am_cl E = am_dvc D) (hft : am_ft E = am_tf (am_tbl D)) {ci : Nat} (h : ci < (am_dcl D).length) :
    am_Cls E (am_dts D) ci (am_gC D ci).1 (am_uT (am_gC D ci)) (am_gC D ci).2.1.length (fun k => (am_gC D ci).2.2.1.getD k .int) := by
  have hq := hC _ (am_gC_mem h)
  unfold am_kC at hq
  obtain ⟨hq, q6⟩ := am_of_and hq
  obtain ⟨hq, q5⟩ := am_of_and hq
  obtain ⟨hq, q4⟩ := am_of_and hq
  obtain ⟨hq, q3⟩ := am_of_and hq
  obtain ⟨q1, q2⟩ := am_of_and hq
  have hk : ∀ k, k < (am_gC D ci).2.1.length → am_wd (am_dtc D) ((am_gC D ci).2.2.2.1.getD k 0) = some (u_lay (am_gC D ci).1 (am_uT (am_gC D ci)) k) ∧ parseFieldDescriptor (am_uT (am_gC D ci) k).2.2.1 = some ((am_gC D ci).2.2.1.getD k .int) ∧ am_tc ((am_gC D ci).2.2.1.getD k .int) < 4 := by
    intro k hk
    have := List.all_eq_true.mp q3 k (List.mem_range.mpr hk)
    obtain ⟨h1, h2⟩ := am_of_and this
    obtain ⟨h1, h3⟩ := am_of_and h1
    exact ⟨of_decide_eq_true h1, of_decide_eq_true h3, of_decide_eq_true h2⟩
  refine ⟨by omega, ?_, ?_, fun k hk' => (hk k hk').2.1, ?_, fun k hk' => ⟨by rw [hft]; rfl, (hk k hk').2.2⟩⟩
  · rw [hE]
    unfold am_dvc am_gC
    rw [List.getElem?_map, List.getD_eq_getElem?_getD, List.getElem?_eq_getElem h]
    rfl
  · intro w hw
    unfold u_ws at hw
    obtain ⟨k, h1, h2⟩ := List.mem_map.mp hw
    rw [← h2]
    exact am_wd_mem (hk k (List.mem_range.mp h1)).1
  · intro a ha b hb hab he
    have hn : ((am_gC D ci).2.1.map (fun f => f.2.1)).Nodup := of_decide_eq_true q4
    have hp := List.pairwise_iff_getElem.mp hn
    have e1 : ∀ k (hk : k < (am_gC D ci).2.1.length), (am_uT (am_gC D ci) k).2.1 = ((am_gC D ci).2.1.map (fun f => f.2.1))[k]'(by rw [List.length_map]; exact hk) := by
      intro k hk
      unfold am_uT
      rw [List.getElem_map, List.getD_eq_getElem?_getD, List.getElem?_eq_getElem hk]
      rfl
    rcases Nat.lt_or_gt_of_ne hab with hl | hl
    · exact hp a b (by rw [List.length_map]; exact ha) (by rw [List.length_map]; exact hb) hl (by rw [← e1 a ha, ← e1 b hb]; exact he)
    · exact hp b a (by rw [List.length_map]; exact hb) (by rw [List.length_map]; exact ha) hl (by rw [← e1 a ha, ← e1 b hb]; exact he.symm)
theorem am_lnk_some {x idx : Nat} (h : (am_lnk (am_tbl D) x idx).1 ≠ 0) : ∃ q, am_gL D (am_cn D x) idx = some q ∧ am_lnk (am_tbl D) x idx = am_kl (am_isI D x) q := by
  have hd : am_lnk (am_tbl D) x idx = match am_gL D (am_cn D x) idx with
     | some q => am_kl (am_isI D x) q
     | none => (0, 0, 0) := rfl
  rw [hd] at h ⊢
  cases hq : am_gL D (am_cn D x) idx with
  | none => rw [hq] at h; exact absurd rfl h
  | some q => exact ⟨q, rfl, rfl⟩
theorem am_kl_1 {b : Bool} {q : am_dL} {k : Nat} (h : (am_kl b q).1 = k) (h1 : k ≠ 1) (h9 : k ≠ 9) : q.2.1 = k ∧ am_kl b q = (k, q.2.2.1, q.2.2.2.1) := by
  unfold am_kl at h ⊢
  by_cases h2 : q.2.1 = 19
  · rw [if_pos h2] at h
    cases b
    · exact absurd h.symm h1
    · exact absurd h.symm h9
  · rw [if_neg h2] at h ⊢
    exact ⟨h, by rw [h]⟩
theorem am_kfl_ok {own : String} {idx p0 k : Nat} {F : u_T} (h : am_kfl D own idx (F k) p0 = true) : am_lkw (am_dz D) (am_dts D) own idx F k := by
  unfold am_kfl at h
  rcases Bool.or_eq_true_iff.mp h with h | h
  · exact Or.inl ((by first | exact am_wd_mem (of_decide_eq_true h) | exact List.mem_of_getElem? (of_decide_eq_true h)))
  · split at h
    · rename_i o i c n d hh hz
      obtain ⟨-, e1, e2, e3, e4, e5⟩ := of_decide_eq_true h
      subst e1; subst e2; subst e3; subst e4; subst e5
      exact Or.inr ⟨_, List.mem_of_getElem? hz⟩
    · cases h
theorem am_kml_ok {own : String} {idx p0 : Nat} {y : MethodName} (h : am_kml D own idx y p0 = true) : am_mlw (am_dz D) (am_dts D) own idx y := by
  unfold am_kml at h
  rcases Bool.or_eq_true_iff.mp h with h | h
  · exact Or.inl ((by first | exact am_wd_mem (of_decide_eq_true h) | exact List.mem_of_getElem? (of_decide_eq_true h)))
  · split at h
    · rename_i o i z hh hz
      obtain ⟨-, e1, e2, e3⟩ := of_decide_eq_true h
      subst e1; subst e2; subst e3
      exact Or.inr ⟨_, List.mem_of_getElem? hz⟩
    · cases h
def am_dty (E : am_E) (D : am_dT) : List (ClassId × FieldType) := (am_dac D).map (fun q => (am_aC E q.1, q.2))
theorem am_dAr {j k : Nat} {ty : FieldType} (h : (am_dac D)[k]? = some (j, ty)) : am_Ar E (am_dty E D) j ty := ⟨k, by unfold am_dty; rw [List.getElem?_map, h]; rfl⟩
set_option maxHeartbeats 2000000 in
theorem am_dOK (hC : ∀ q ∈ am_dcl D, am_kC D q = true) (hI : ∀ q ∈ am_dmt D, am_kI q = true) (hL : ∀ c, ∀ q ∈ (am_dlk D).getD c [], am_kL D c q = true) (hA : am_kA D = true)
    (b0 : Cond.arrayClass .int ∈ am_dts D) (b1 : Cond.arrayClass .long ∈ am_dts D) (b2 : Cond.arrayClass .byte ∈ am_dts D) (b3 : Cond.arrayClass .boolean ∈ am_dts D) (hS : Cond.initialized "java/lang/String" ∈ am_dts D) (hE : am_cl E = am_dvc D) (hft : am_ft E = am_tf (am_tbl D)) : am_OK (am_tbl D) (am_mch D) E (am_dty E D) (am_dts D) := by
  unfold am_kA at hA
  obtain ⟨hA, hA6⟩ := am_of_and hA
  obtain ⟨hA, hA5⟩ := am_of_and hA
  obtain ⟨hA, hA4⟩ := am_of_and hA
  obtain ⟨hA, hA3⟩ := am_of_and hA
  obtain ⟨hA1, hA2⟩ := am_of_and hA
  have h500 : (am_dcl D).length < 500 := of_decide_eq_true hA6
  have cls : ∀ {ci : Nat}, ci < (am_dcl D).length → am_Cls E (am_dts D) ci (am_gC D ci).1 (am_uT (am_gC D ci)) (am_gC D ci).2.1.length (fun k => (am_gC D ci).2.2.1.getD k .int) := fun h => am_dCls hC h500 hE hft h
  have hcl : ∀ {ci : Nat}, ci < (am_dcl D).length → (am_cl E)[ci]? = some ((am_gC D ci).1, am_uT (am_gC D ci), (am_gC D ci).2.1.length) := fun h => (cls h).2.1
  refine ⟨?_, ?_, ?_, ?_, ?_, ?_, hft⟩
  · -- instructions
    intro x pc i len h
    have h1 : (am_gM D x).2.2.2.2.2.2.1.getD pc none = some (i, len) := h
    rcases Nat.lt_or_ge x (am_dmt D).length with hx | hx
    · have h2 : (am_gM D x).2.2.2.2.2.2.1[pc]? = some (some (i, len)) := by
        rw [List.getD_eq_getElem?_getD] at h1
        cases h3 : (am_gM D x).2.2.2.2.2.2.1[pc]? with
        | none => rw [h3] at h1; cases h1
        | some o => rw [h3] at h1; exact congrArg some h1
      have := am_kIr_ok _ 0 pc _ (hI _ (am_gM_mem hx)) h2
      rw [Nat.zero_add] at this
      exact this
    · rw [am_gM_out hx] at h1
      simp [am_m0] at h1
  · -- fields
    intro x idx h
    obtain ⟨q, g1, g2⟩ := am_lnk_some (D := D) (x := x) (idx := idx) (by omega)
    obtain ⟨g3, g4⟩ := am_gL_mem g1
    have hk := hL _ q g3
    rw [g2] at h ⊢
    unfold am_kL at hk
    have hcase : q.2.1 = 1 ∨ q.2.1 = 9 ∨ q.2.1 = 19 := by
      unfold am_kl at h
      by_cases h2 : q.2.1 = 19
      · exact Or.inr (Or.inr h2)
      · rw [if_neg h2] at h
        simp only at h
        omega
    show ∃ (C : String) (F : u_T) (N : Nat) (ty : Nat → FieldType), am_Cls E (am_dts D) q.2.2.1 C F N ty ∧ q.2.2.2.1 < N ∧ am_lkw (am_dz D) (am_dts D) ((am_don D).getD (am_cn D x) "") idx F q.2.2.2.1 ∧ ((am_kl (am_isI D x) q).1 = 9 → (F q.2.2.2.1).2.2.2 = false ∨ ((F q.2.2.2.1).2.2.2 = true ∧ (am_gM D x).2.1.name = "<init>" ∧ (F q.2.2.2.1).1 = (am_don D).getD (am_cn D x) "" ∧ Cond.fieldLink ((am_don D).getD (am_cn D x) "") idx (F q.2.2.2.1).1 (F q.2.2.2.1).2.1 (F q.2.2.2.1).2.2.1 ∈ am_dts D))
    subst g4
    rcases hcase with hq | hq | hq <;> rw [hq] at hk <;> simp only at hk
    · obtain ⟨hk, k3⟩ := am_of_and hk
      obtain ⟨k1, k2⟩ := am_of_and hk
      refine ⟨_, _, _, _, cls (of_decide_eq_true k1), of_decide_eq_true k2, am_kfl_ok k3, fun h9 => ?_⟩
      unfold am_kl at h9
      rw [if_neg (by omega)] at h9
      simp only at h9
      omega
    · obtain ⟨hk, k4⟩ := am_of_and hk
      obtain ⟨hk, k3⟩ := am_of_and hk
      obtain ⟨k1, k2⟩ := am_of_and hk
      exact ⟨_, _, _, _, cls (of_decide_eq_true k1), of_decide_eq_true k2, am_kfl_ok k3, fun h9 => Or.inl (by simpa using k4)⟩
    · obtain ⟨hk, k5⟩ := am_of_and hk
      obtain ⟨hk, k4⟩ := am_of_and hk
      obtain ⟨hk, k3⟩ := am_of_and hk
      obtain ⟨k1, k2⟩ := am_of_and hk
      refine ⟨_, _, _, _, cls (of_decide_eq_true k1), of_decide_eq_true k2, Or.inl ((by first | exact am_wd_mem (of_decide_eq_true k3) | exact List.mem_of_getElem? (of_decide_eq_true k3))), fun h9 => Or.inr ⟨k4, ?_, of_decide_eq_true k5, (by first | exact am_wd_mem (of_decide_eq_true k3) | exact List.mem_of_getElem? (of_decide_eq_true k3))⟩⟩
      unfold am_kl at h9
      rw [if_pos hq] at h9
      cases hi : am_isI D x with
      | false => rw [hi] at h9; simp at h9
      | true => unfold am_isI at hi; simpa using hi
  · -- new
    intro x idx h
    obtain ⟨q, g1, g2⟩ := am_lnk_some (D := D) (x := x) (idx := idx) (by omega)
    obtain ⟨g3, g4⟩ := am_gL_mem g1
    have hk := hL _ q g3
    rw [g2] at h ⊢
    obtain ⟨e1, e2⟩ := am_kl_1 h (by omega) (by omega)
    rw [e2]
    unfold am_kL at hk
    rw [e1] at hk
    simp only at hk
    obtain ⟨k1, k2⟩ := am_of_and hk
    have hc := hC _ (am_gC_mem (of_decide_eq_true k1))
    unfold am_kC at hc
    obtain ⟨hc, c6⟩ := am_of_and hc
    obtain ⟨hc, c5⟩ := am_of_and hc
    subst g4
    exact ⟨_, _, _, _, cls (of_decide_eq_true k1), rfl, (by first | exact am_wd_mem (of_decide_eq_true k2) | exact List.mem_of_getElem? (of_decide_eq_true k2)), (by first | exact am_wd_mem (of_decide_eq_true c5) | exact List.mem_of_getElem? (of_decide_eq_true c5)), (by first | exact am_wd_mem (of_decide_eq_true c6) | exact List.mem_of_getElem? (of_decide_eq_true c6))⟩
  · -- arrays of references
    intro x idx h
    obtain ⟨q, g1, g2⟩ := am_lnk_some (D := D) (x := x) (idx := 100000 + idx) (by omega)
    obtain ⟨g3, g4⟩ := am_gL_mem g1
    have hk := hL _ q g3
    rw [g2] at h ⊢
    obtain ⟨e1, e2⟩ := am_kl_1 h (by omega) (by omega)
    rw [e2]
    unfold am_kL at hk
    rw [e1] at hk
    simp only at hk
    obtain ⟨-, hk⟩ := am_of_and hk
    have e5 : q.1 - 100000 = idx := by omega
    rw [e5] at hk
    split at hk
    · rename_i h5
      obtain ⟨hk, k3⟩ := am_of_and hk
      obtain ⟨k1, k2⟩ := am_of_and hk
      refine ⟨_, am_wd_mem (of_decide_eq_true k1), List.mem_of_getElem? (of_decide_eq_true k2), ?_⟩
      show am_Ar E (am_dty E D) (1000 + q.2.2.1) _
      rw [h5]
      exact am_dAr (of_decide_eq_true k3)
    · obtain ⟨hk, k3⟩ := am_of_and hk
      obtain ⟨k1, k2⟩ := am_of_and hk
      exact ⟨_, am_wd_mem (of_decide_eq_true k1), List.mem_of_getElem? (of_decide_eq_true k2), am_dAr (of_decide_eq_true k3)⟩
  · -- constants
    intro x idx
    have go : ∀ k, (am_lnk (am_tbl D) x idx).1 = k → k ≠ 0 → k ≠ 1 → k ≠ 9 → ∃ q : am_dL, am_lnk (am_tbl D) x idx = (k, q.2.2.1, q.2.2.2.1) ∧ q.2.1 = k ∧ q.1 = idx ∧ am_kL D (am_cn D x) q = true := by
      intro k h h0 h1 h9
      obtain ⟨q, g1, g2⟩ := am_lnk_some (D := D) (x := x) (idx := idx) (by rw [h]; exact h0)
      obtain ⟨g3, g4⟩ := am_gL_mem g1
      rw [g2] at h
      obtain ⟨e1, e2⟩ := am_kl_1 h h1 h9
      exact ⟨q, g2.trans e2, e1, g4, hL _ q g3⟩
    refine ⟨fun h => ?_, fun h => ?_, fun h => ?_, fun h => ?_, fun h => ?_⟩
    · obtain ⟨q, e1, e2, e3, e4⟩ := go 4 h (by omega) (by omega) (by omega)
      unfold am_kL at e4
      rw [e2] at e4
      simp only at e4
      subst e3
      show Cond.constant ((am_don D).getD (am_cn D x) "") q.1 (match ((am_dli D).getD (am_cn D x) []).find? (fun w => w.1 == q.1) with
        | some w => w.2
        | none => 0) ∈ am_dts D
      split at e4
      · rename_i w hw
        rw [hw]
        exact (by first | exact am_wd_mem (of_decide_eq_true e4) | exact List.mem_of_getElem? (of_decide_eq_true e4))
      · cases e4
    · obtain ⟨q, e1, e2, e3, e4⟩ := go 5 h (by omega) (by omega) (by omega)
      unfold am_kL at e4
      rw [e2] at e4
      simp only at e4
      rw [e1]
      subst e3
      split at e4
      · rename_i w hw
        obtain ⟨z1, z2, z3⟩ := of_decide_eq_true e4
        refine ⟨w.2.2.1, ?_⟩
        show ((am_don D).getD (am_cn D x) "", q.1, w.2.2.1, q.2.2.1) ∈ am_zt (am_dz D)
        rw [← z1, ← z2, ← z3]
        exact List.mem_of_getElem? hw
      · cases e4
    · obtain ⟨q, e1, e2, e3, e4⟩ := go 6 h (by omega) (by omega) (by omega)
      unfold am_kL at e4
      rw [e2] at e4
      simp only at e4
      subst e3
      show Cond.constantLong ((am_don D).getD (am_cn D x) "") q.1 (match ((am_dll D).getD (am_cn D x) []).find? (fun w => w.1 == q.1) with
        | some w => w.2
        | none => 0) ∈ am_dts D
      split at e4
      · rename_i w hw
        rw [hw]
        exact (by first | exact am_wd_mem (of_decide_eq_true e4) | exact List.mem_of_getElem? (of_decide_eq_true e4))
      · cases e4
    · obtain ⟨q, e1, e2, e3, e4⟩ := go 7 h (by omega) (by omega) (by omega)
      unfold am_kL at e4
      rw [e2] at e4
      simp only at e4
      subst e3
      split at e4
      · rename_i w hw
        obtain ⟨k1, k2⟩ := am_of_and e4
        have k3 := am_kfl_ok (F := fun _ => (w.1, w.2.1, w.2.2.1, true)) (k := 0) k1
        refine ⟨w.1, w.2.1, w.2.2.1, ?_, k3⟩
        have hv : w.2.2.2 = am_sv (am_tbl D) x q.1 := by
          unfold am_sv
          rw [e1]
          show w.2.2.2 = (if q.2.2.2.1 = 0 then Value.ref q.2.2.1 else if q.2.2.2.1 = 2 then Value.null else .int (am_li (am_tbl D) x q.1))
          split at k2
          · rename_i h0
            rw [if_pos h0]
            exact of_decide_eq_true k2
          · rename_i h0
            rw [if_neg h0]
            split at k2
            · rename_i h2
              rw [if_pos h2]
              exact of_decide_eq_true k2
            rename_i h2
            rw [if_neg h2]
            split at k2
            · rename_i z hz
              show w.2.2.2 = Value.int (match ((am_dli D).getD (am_cn D x) []).find? (fun w => w.1 == q.1) with
                | some w => w.2
                | none => 0)
              rw [hz]
              exact of_decide_eq_true k2
            · cases k2
        rw [← hv]
        exact List.mem_of_getElem? hw
      · cases e4
    · obtain ⟨q, e1, e2, e3, e4⟩ := go 8 h (by omega) (by omega) (by omega)
      unfold am_kL at e4
      rw [e2] at e4
      simp only at e4
      rw [e1]
      subst e3
      split at e4
      · rename_i h0
        rw [if_pos h0]
        exact (by first | exact am_wd_mem (of_decide_eq_true e4) | exact List.mem_of_getElem? (of_decide_eq_true e4))
      · rename_i h0
        rw [if_neg h0]
        exact (by first | exact am_wd_mem (of_decide_eq_true e4) | exact List.mem_of_getElem? (of_decide_eq_true e4))
  · -- array classes
    have hfd : ∀ j, am_ak (am_tbl D) j ≠ 0 → j < 100000 → ∃ q ∈ am_dac D, q.1 = j ∧ am_ak (am_tbl D) j = (if q.1 < 1000 then 3 else if q.1 = 1500 then 2 else 1) := by
      intro j h hj
      have e : am_ak (am_tbl D) j = (if 100000 ≤ j then am_rc (am_gM D (j - 100000)).2.2.2.2.2.1 else match (am_dac D).find? (fun q => q.1 == j) with
        | some q => if q.1 < 1000 then 3 else if q.1 = 1500 then 2 else 1
        | none => 0) := rfl
      rw [e, if_neg (by omega)] at h ⊢
      cases hq : (am_dac D).find? (fun q => q.1 == j) with
      | none => rw [hq] at h; exact absurd rfl h
      | some q => exact ⟨q, List.mem_of_find?_eq_some hq, by have := List.find?_some hq; simpa using this, rfl⟩
    have hmem : ∀ q ∈ am_dac D, am_Ar E (am_dty E D) q.1 q.2 := fun q hq => by
      obtain ⟨k, hk⟩ := List.getElem?_of_mem hq
      exact am_dAr hk
    have hch : ∀ q ∈ am_dac D, 1000 ≤ q.1 → q.1 ≠ 1500 → q.1 - 1000 < (am_dcl D).length ∧ q.2 = .object (am_gC D (q.1 - 1000)).1 := by
      intro q hq h1 h2
      have := List.all_eq_true.mp hA5 q hq
      rw [if_neg (by omega), if_neg h2] at this
      obtain ⟨this, k3⟩ := am_of_and this
      obtain ⟨k1, k2⟩ := am_of_and this
      exact ⟨of_decide_eq_true k1, of_decide_eq_true k3⟩
    have hst : ∀ q ∈ am_dac D, q.1 = 1500 → q.2 = .object "java/lang/String" := by
      intro q hq h1
      have := List.all_eq_true.mp hA5 q hq
      rw [if_neg (by omega), if_pos h1] at this
      exact of_decide_eq_true this
    refine ⟨am_dAr (of_decide_eq_true hA1), am_dAr (of_decide_eq_true hA2), am_dAr (of_decide_eq_true hA3), am_dAr (of_decide_eq_true hA4), b0, b1, b2, b3, fun j hl hj => ?_, fun ci hl hci => ?_, fun ci hl hci => ?_⟩
    · obtain ⟨q, g1, g2, -⟩ := hfd j hj (by omega)
      subst g2
      refine ⟨q.2, hmem q g1, fun h => ?_⟩
      by_cases h5 : q.1 = 1500
      · exact ⟨_, hst q g1 h5⟩
      · exact ⟨_, (hch q g1 h h5).2⟩
    · obtain ⟨q, g1, g2, g3⟩ := hfd (1000 + ci) (by omega) (by omega)
      have h5 : q.1 ≠ 1500 := fun h5 => by rw [hci, if_neg (by omega), if_pos h5] at g3; omega
      obtain ⟨k1, k2⟩ := hch q g1 (by omega) h5
      rw [g2, show 1000 + ci - 1000 = ci by omega] at k1 k2
      refine ⟨by omega, _, _, _, hcl k1, ?_⟩
      have := hmem q g1
      rw [g2, k2] at this
      exact this
    · obtain ⟨q, g1, g2, g3⟩ := hfd (1000 + ci) (by omega) (by omega)
      have h5 : q.1 = 1500 := by
        rcases Nat.lt_or_ge q.1 1000 with h | h
        · omega
        · by_cases h6 : q.1 = 1500
          · exact h6
          · rw [hci, if_neg (by omega), if_neg h6] at g3
            omega
      refine ⟨?_, hS⟩
      have := hmem q g1
      rw [hst q g1 h5, g2] at this
      exact this
set_option maxHeartbeats 2000000 in
theorem am_dOK8 (hM : ∀ y, y + 1 < (am_dmt D).length → am_kM D (am_gM D y) = true) (hW : ∀ y, y + 1 < (am_dmt D).length → (am_gM D y).2.2.1 = am_cw (am_dtc D) (am_gM D y).2.2.2.2.2.2.2.1) (hC : ∀ q ∈ am_dcl D, am_kC D q = true) (hL : ∀ c, ∀ q ∈ (am_dlk D).getD c [], am_kL D c q = true) (hA : am_kA D = true) (hE : am_cl E = am_dvc D) (hft : am_ft E = am_tf (am_tbl D)) : am_ok8 (am_tbl D) (am_mch D) E (am_dts D) := by
  have h500 : (am_dcl D).length < 500 := by
    unfold am_kA at hA
    exact of_decide_eq_true (am_of_and hA).2
  intro x idx
  have go : ∀ k, (am_lnk (am_tbl D) x idx).1 = k → k ≠ 0 → k ≠ 1 → k ≠ 9 → ∃ q : am_dL, am_lnk (am_tbl D) x idx = (k, q.2.2.1, q.2.2.2.1) ∧ q.2.1 = k ∧ q.1 = idx ∧ am_kL D (am_cn D x) q = true := by
    intro k h h0 h1 h9
    obtain ⟨q, g1, g2⟩ := am_lnk_some (D := D) (x := x) (idx := idx) (by rw [h]; exact h0)
    obtain ⟨g3, g4⟩ := am_gL_mem g1
    rw [g2] at h
    obtain ⟨e1, e2⟩ := am_kl_1 h h1 h9
    exact ⟨q, g2.trans e2, e1, g4, hL _ q g3⟩
  have mok : ∀ y n, y + 1 < (am_dmt D).length → am_np (am_gM D y).2.1.desc = some n → am_Mok (am_tbl D) (am_mch D) (am_dts D) y n := by
    intro y n hy hn
    have hk := hM _ hy
    unfold am_kM at hk
    obtain ⟨hk, k6⟩ := am_of_and hk
    obtain ⟨hk, k5⟩ := am_of_and hk
    obtain ⟨hk, k4⟩ := am_of_and hk
    obtain ⟨hk, k3⟩ := am_of_and hk
    obtain ⟨k1, k2⟩ := am_of_and hk
    refine ⟨?_, k2, of_decide_eq_true k3, (by first | exact am_wd_mem (of_decide_eq_true k4) | exact List.mem_of_getElem? (of_decide_eq_true k4)), of_decide_eq_true k5, of_decide_eq_true k6, hn, ?_⟩
    · show Cond.code (am_gM D y).2.1 (am_gM D y).2.2.1 (am_gM D y).2.2.2.1 (am_gM D y).2.2.2.2.2.1 ∈ am_dts D
      rw [hW y hy]
      exact am_kw_ok k1
    show (if 100000 ≤ 100000 + y then am_rc (am_gM D (100000 + y - 100000)).2.2.2.2.2.1 else _) = am_rc (am_gM D y).2.2.2.2.2.1
    rw [if_pos (by omega), show 100000 + y - 100000 = y by omega]
  have hcls : ∀ y, y + 1 < (am_dmt D).length → (am_gM D y).2.1.cls = am_own (am_mch D) y := by
    intro y hy
    have hk := hM _ hy
    unfold am_kM at hk
    obtain ⟨hk, k6⟩ := am_of_and hk
    obtain ⟨hk, k5⟩ := am_of_and hk
    obtain ⟨hk, k4⟩ := am_of_and hk
    obtain ⟨hk, k3⟩ := am_of_and hk
    exact of_decide_eq_true k3
  refine ⟨fun h => ?_, fun h => ?_, fun h => ?_, fun h => ?_, fun h => ?_⟩
  · obtain ⟨q, e1, e2, e3, e4⟩ := go 10 h (by omega) (by omega) (by omega)
    unfold am_kL at e4
    rw [e2] at e4
    simp only at e4
    rw [e1]
    subst e3
    obtain ⟨e4, k6⟩ := am_of_and e4
    obtain ⟨e4, k5⟩ := am_of_and e4
    obtain ⟨e4, k4⟩ := am_of_and e4
    obtain ⟨e4, k3⟩ := am_of_and e4
    obtain ⟨k1, k2⟩ := am_of_and e4
    have hy := of_decide_eq_true k1
    obtain ⟨n, hn, hn1⟩ : ∃ n, am_np (am_gM D q.2.2.1).2.1.desc = some n ∧ n + 1 = (am_gM D q.2.2.1).2.2.2.2.1 := by
      have := of_decide_eq_true k2
      cases hq : am_np (am_gM D q.2.2.1).2.1.desc with
      | none => rw [hq] at this; cases this
      | some n => rw [hq] at this; exact ⟨n, rfl, Option.some.inj this⟩
    have hc := hcls _ hy
    refine ⟨n, mok _ n hy hn, hn1.symm, am_kml_ok k3, (by first | exact am_wd_mem (of_decide_eq_true k4) | exact List.mem_of_getElem? (of_decide_eq_true k4)), ?_, fun h0 => ?_, fun h0 => ?_⟩
    · show Cond.selects (am_own (am_mch D) q.2.2.1) (am_gM D q.2.2.1).2.1 (am_gM D q.2.2.1).2.1 ∈ am_dts D
      rw [← hc]
      exact (by first | exact am_wd_mem (of_decide_eq_true k5) | exact List.mem_of_getElem? (of_decide_eq_true k5))
    · rw [if_neg h0] at k6
      obtain ⟨k6, k9⟩ := am_of_and k6
      obtain ⟨k7, k8⟩ := am_of_and k6
      have := (am_dCls hC h500 hE hft (of_decide_eq_true k8)).2.1
      rw [of_decide_eq_true k9, hc] at this
      exact ⟨of_decide_eq_true k7, _, _, this⟩
    · have h0' : q.2.2.2.1 = 0 := h0
      rw [if_pos h0'] at k6
      exact hc.symm.trans (of_decide_eq_true k6)
  · obtain ⟨q, e1, e2, e3, e4⟩ := go 11 h (by omega) (by omega) (by omega)
    unfold am_kL at e4
    rw [e2] at e4
    simp only at e4
    rw [e1]
    subst e3
    obtain ⟨e4, k6⟩ := am_of_and e4
    obtain ⟨e4, k5⟩ := am_of_and e4
    obtain ⟨e4, k4⟩ := am_of_and e4
    obtain ⟨e4, k3⟩ := am_of_and e4
    obtain ⟨k1, k2⟩ := am_of_and e4
    have hy := of_decide_eq_true k1
    obtain ⟨n, hn, hn1⟩ : ∃ n, am_np (am_gM D q.2.2.1).2.1.desc = some n ∧ n + 1 = (am_gM D q.2.2.1).2.2.2.2.1 := by
      have := of_decide_eq_true k2
      cases hq : am_np (am_gM D q.2.2.1).2.1.desc with
      | none => rw [hq] at this; cases this
      | some n => rw [hq] at this; exact ⟨n, rfl, Option.some.inj this⟩
    exact ⟨n, mok _ n hy hn, hn1.symm, am_kml_ok k3, (by first | exact am_wd_mem (of_decide_eq_true k4) | exact List.mem_of_getElem? (of_decide_eq_true k4)), of_decide_eq_true k5, of_decide_eq_true k6⟩
  · obtain ⟨q, e1, e2, e3, e4⟩ := go 12 h (by omega) (by omega) (by omega)
    unfold am_kL at e4
    rw [e2] at e4
    simp only at e4
    rw [e1]
    subst e3
    obtain ⟨e4, k4⟩ := am_of_and e4
    obtain ⟨e4, k3⟩ := am_of_and e4
    obtain ⟨k1, k2⟩ := am_of_and e4
    have hy := of_decide_eq_true k1
    exact ⟨_, mok _ _ hy (of_decide_eq_true k2), rfl, am_kml_ok k3, (by first | exact am_wd_mem (of_decide_eq_true k4) | exact List.mem_of_getElem? (of_decide_eq_true k4))⟩
  · obtain ⟨q, e1, e2, e3, e4⟩ := go 13 h (by omega) (by omega) (by omega)
    unfold am_kL at e4
    rw [e2] at e4
    simp only at e4
    subst e3
    obtain ⟨e4, k3⟩ := am_of_and e4
    obtain ⟨k1, k2⟩ := am_of_and e4
    exact ⟨(by first | exact am_wd_mem (of_decide_eq_true k1) | exact List.mem_of_getElem? (of_decide_eq_true k1)), (by first | exact am_wd_mem (of_decide_eq_true k2) | exact List.mem_of_getElem? (of_decide_eq_true k2)), (by first | exact am_wd_mem (of_decide_eq_true k3) | exact List.mem_of_getElem? (of_decide_eq_true k3))⟩
  · obtain ⟨q, e1, e2, e3, e4⟩ := go 14 h (by omega) (by omega) (by omega)
    unfold am_kL at e4
    rw [e2] at e4
    simp only at e4
    subst e3
    obtain ⟨e4, k4⟩ := am_of_and e4
    obtain ⟨e4, k3⟩ := am_of_and e4
    obtain ⟨k1, k2⟩ := am_of_and e4
    exact ⟨(by first | exact am_wd_mem (of_decide_eq_true k1) | exact List.mem_of_getElem? (of_decide_eq_true k1)), (by first | exact am_wd_mem (of_decide_eq_true k2) | exact List.mem_of_getElem? (of_decide_eq_true k2)), (by first | exact am_wd_mem (of_decide_eq_true k3) | exact List.mem_of_getElem? (of_decide_eq_true k3)), (by first | exact am_wd_mem (of_decide_eq_true k4) | exact List.mem_of_getElem? (of_decide_eq_true k4))⟩
end AmE
