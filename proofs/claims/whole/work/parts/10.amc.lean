/-! calls: what the tables must be for them, the start and the end of a method -/
def am_mlw (Z : am_Z) (Ts : List Cond) (own : String) (idx : Nat) (y : MethodName) : Prop := Cond.methodLink own idx y ∈ Ts ∨ ∃ host, Cond.methodLinkNest own idx y host ∈ am_zn Z
def am_rc (t : Option FieldType) : Nat := match t with
  | none => 0
  | some .int => 1
  | some .long => 2
  | some (.object _) => 3
  | some (.array _) => 3
  | some .boolean => 4
  | some .byte => 5
  | some .char => 6
  | _ => 7
/-- a method that may be called -/
def am_Mok (T : am_T) (M : am_M) (Ts : List Cond) (y n : Nat) : Prop := Cond.code (am_nm M y) (am_cd M y) (am_mi T y).1 (am_rt M y) ∈ Ts ∧ plainFor (am_nm M y) = true ∧ (am_nm M y).cls = am_own M y ∧ Cond.initialized (am_own M y) ∈ Ts ∧ (am_nm M y).cls ≠ "java/lang/invoke/MethodHandle" ∧ (am_nm M y).cls ≠ "java/lang/invoke/VarHandle" ∧ (parseMethodDescriptor (am_nm M y).desc).map (fun d => d.parameters.length) = some n ∧ am_ak T (100000 + y) = am_rc (am_rt M y)
def am_ok8 (T : am_T) (M : am_M) (E : am_E) (Ts : List Cond) : Prop := ∀ x idx,
  ((am_lnk T x idx).1 = 10 → ∃ n, am_Mok T M Ts (am_lnk T x idx).2.1 n ∧ (am_mi T (am_lnk T x idx).2.1).2 = n + 1 ∧ am_mlw (am_tz T) Ts (am_own M x) idx (am_nm M (am_lnk T x idx).2.1) ∧ Cond.instanceMethod (am_nm M (am_lnk T x idx).2.1) ∈ Ts ∧ Cond.selects (am_own M (am_lnk T x idx).2.1) (am_nm M (am_lnk T x idx).2.1) (am_nm M (am_lnk T x idx).2.1) ∈ Ts ∧
    ((am_lnk T x idx).2.2 ≠ 0 → (am_lnk T x idx).2.2 < 1000 ∧ ∃ F N, (am_cl E)[(am_lnk T x idx).2.2 - 1]? = some (am_own M (am_lnk T x idx).2.1, F, N)) ∧ ((am_lnk T x idx).2.2 = 0 → am_own M (am_lnk T x idx).2.1 = "java/lang/String")) ∧
  ((am_lnk T x idx).1 = 11 → ∃ n, am_Mok T M Ts (am_lnk T x idx).2.1 n ∧ (am_mi T (am_lnk T x idx).2.1).2 = n + 1 ∧ am_mlw (am_tz T) Ts (am_own M x) idx (am_nm M (am_lnk T x idx).2.1) ∧ Cond.instanceMethod (am_nm M (am_lnk T x idx).2.1) ∈ Ts ∧ (am_nm M (am_lnk T x idx).2.1).name = "<init>" ∧ am_rt M (am_lnk T x idx).2.1 = none) ∧
  ((am_lnk T x idx).1 = 12 → ∃ n, am_Mok T M Ts (am_lnk T x idx).2.1 n ∧ (am_mi T (am_lnk T x idx).2.1).2 = n ∧ am_mlw (am_tz T) Ts (am_own M x) idx (am_nm M (am_lnk T x idx).2.1) ∧ Cond.static (am_nm M (am_lnk T x idx).2.1) ∈ Ts) ∧
  ((am_lnk T x idx).1 = 13 → Cond.methodLink (am_own M x) idx Lib.objectInit ∈ Ts ∧ Cond.instanceMethod Lib.objectInit ∈ Ts ∧ Cond.code Lib.objectInit ⟨#[0xb1]⟩ 1 none ∈ Ts) ∧
  ((am_lnk T x idx).1 = 14 → Cond.methodLink (am_own M x) idx arraycopyName ∈ Ts ∧ Cond.native arraycopyName ∈ Ts ∧ Cond.static arraycopyName ∈ Ts ∧ Cond.initialized "java/lang/System" ∈ Ts)
def am_good (Ts : List Cond) : Prop := ∀ w ∈ Ts, (w.onTables && w.keeps) = true ∨ ∃ ty, w = .arrayClass ty
theorem am_in_len (ad : Nat → Nat) : ∀ as : List Value, (lg_sl (as.map (am_tr ad))).length = (am_in as).length := by
  intro as
  induction as with
  | nil => rfl
  | cons v t ih =>
    have e : lg_sl ((v :: t).map (am_tr ad)) = (if v.category = 2 then [.val (am_tr ad v), .second] else [.val (am_tr ad v)]) ++ lg_sl (t.map (am_tr ad)) := by
      simp only [lg_sl, List.map_cons, List.flatMap_cons, am_tr_cat]
    rw [e]
    simp only [am_in]
    split <;> simp only [List.length_append, List.length_cons, List.length_nil, ih] <;> omega
theorem am_in_mem (ad : Nat → Nat) : ∀ (as : List Value) (k j : Nat) (w : Value), (j, w) ∈ am_prs ad k (am_in as) → (j, w) ∈ lv_args k (as.map (am_tr ad)) := by
  intro as
  induction as with
  | nil => intro k j w h; simp [am_in, am_prs] at h
  | cons v t ih =>
    intro k j w h
    show (j, w) ∈ (k, am_tr ad v) :: lv_args (if (am_tr ad v).category = 2 then k + 2 else k + 1) (t.map (am_tr ad))
    rw [am_tr_cat]
    simp only [am_in] at h
    split at h
    · rename_i hc
      rw [if_pos hc]
      rcases List.mem_cons.mp h with h | h
      · rw [h]; exact List.mem_cons_self
      · exact List.mem_cons_of_mem _ (ih (k + 1 + 1) j w h)
    · rename_i hc
      rw [if_neg hc]
      rcases List.mem_cons.mp h with h | h
      · rw [h]; exact List.mem_cons_self
      · exact List.mem_cons_of_mem _ (ih (k + 1) j w h)
theorem am_lo_mem (ad : Nat → Nat) {as : List Value} {n j : Nat} {w : Value} (h : (j, w) ∈ am_prs ad 0 (am_lo n as)) : (j, w) ∈ am_prs ad 0 (am_in as) := by
  obtain ⟨v, h1, h2, h3⟩ := (am_prs_mem _ 0).mp h
  refine (am_prs_mem _ 0).mpr ⟨v, h1, ?_, h3⟩
  unfold am_lo at h2
  rcases Nat.lt_or_ge (j - 0) (am_in as).length with hj | hj
  · rw [List.getElem?_append_left hj] at h2
    exact h2
  · rw [List.getElem?_append_right hj, List.getElem?_replicate] at h2
    split at h2 <;> cases h2
theorem am_entry (E : am_E) {as : List Value} {n : Nat} (h : (am_in as).length ≤ n) : am_L (am_ad E) ((lg_sl (as.map (am_tr (am_ad E))) ++ List.replicate (n - (lg_sl (as.map (am_tr (am_ad E)))).length) Slot.unset).toArray) n (am_lo n as) := by
  have hv := lv_entry (as.map (am_tr (am_ad E))) (n := n) (by rw [am_in_len]; exact h)
  refine ⟨by unfold am_lo; rw [List.length_append, List.length_replicate]; omega, hv.1, hv.2.1, ?_⟩
  rintro ⟨j, w⟩ hq
  exact hv.2.2 (j, w) (am_in_mem _ _ _ _ _ (am_lo_mem _ hq))
theorem am_cats (ad : Nat → Nat) (r : List Value) : ((r.map (am_tr ad)).map fun v => v.category).sum = (r.map fun v => v.category).sum := by
  rw [List.map_map]
  congr 1
  exact List.map_congr_left fun v _ => am_tr_cat ad v
theorem am_O.same {E : am_E} {Z : am_Z} {U U' : State} {H : Heap} (hv : U.vm = U'.vm) (h : am_O E Z U H) : am_O E Z U' H := by
  have ha : U.vm.Alike U'.vm := by rw [← hv]; exact Vm.Alike.refl _
  refine ⟨fun n h1 h2 => (h.1 n h1 h2).moved ha, fun n h1 h2 => (h.2.1 n h1 h2).moved ha, fun n h1 h2 => ⟨(h.2.2.1 n h1 h2).1.moved ha, (h.2.2.1 n h1 h2).2.1.moved ha, (h.2.2.1 n h1 h2).2.2.moved ha⟩, fun q h1 => (h.2.2.2.1 q h1).moved ha, fun q h1 => ⟨(h.2.2.2.2.1 q h1).1, (h.2.2.2.2.1 q h1).2.same hv.symm⟩, fun w h1 => ⟨(h.2.2.2.2.2.1 w h1).1, ?_⟩, fun C h1 => (h.2.2.2.2.2.2 C h1).moved ha⟩
  obtain ⟨z1, z2⟩ := h.2.2.2.2.2.1 w h1
  cases w <;> first
    | (cases z1; done)
    | exact va_Nw.same rfl hv z2
def am_Pc (E : am_E) (tys : List (ClassId × FieldType)) (T : am_T) (σ : am_S) (as : List Value) : Array Value → State → Prop := va_Pc (as.map (am_tr (am_ad E))) (fun U => va_K (am_D E) (am_cl E) tys U ∧ am_R E σ U.heap ∧ am_O E (am_tz T) U U.heap ∧ am_h0 E ≤ U.heap.size)
def am_Qc (E : am_E) (σ1 : am_S) (v : Option Value) : Array Value → State → Outcome → State → Prop := fun _ st o t => (o = .returned (v.map (am_tr (am_ad E))) ∧ am_R E σ1 t.heap) ∧ va_F (am_A E) st t
theorem am_Pc_blind (E : am_E) (tys : List (ClassId × FieldType)) (T : am_T) (σ : am_S) (as : List Value) : FrameBlind (am_Pc E tys T σ as) := by
  intro a U g mk q
  obtain ⟨q0, qK, qR, qO, qh⟩ := q
  exact ⟨q0, va_K.moved (u := U) (U := U.calling g mk a) (Vm.Alike.refl U.vm) qK, qR, am_O.same (U := U) (U' := U.calling g mk a) rfl qO, qh⟩
section AmC
variable {p : Program} {l : Launch} {e : Env} {R : Room} {s : State} {m : MethodId} {args : Array Value} {below : List Frame} {meth : Method} {c : Code} {H : Heap} {locs : List Loc} {cells slots : Nat} {Q : State → Prop}
variable {pc : Nat} {ls : Array Slot} {E : am_E} {tys : List (ClassId × FieldType)} {σ : am_S} {Ts : List Cond} {T : am_T} {M : am_M}
/-- behind a call -/
theorem am_after {σ' : am_S} {v : Option Value} {st0 r : List Value} {mc ms : Nat} {a : Array Value} (hw : am_W E tys s σ H locs cells) (hmc : mc = am_nx σ' - am_nx σ) (hmono : am_nx σ ≤ am_nx σ') (hr : va_Run p l e R s m args below meth c H locs cells slots mc ms (F0 m pc ls st0) (r.map (am_tr (am_ad E))) (am_Qc E σ' v a) (am_A E))
    (kk : ∀ (H1 : Heap) (locs1 : List Loc), am_W E tys s σ' H1 locs1 (cells + mc) → W p l e R s m args below meth c H1 locs1 (cells + mc) (slots + ms) Q (F0 m (pc + 3) ls ((v.toList ++ r).map (am_tr (am_ad E))))) : W p l e R s m args below meth c H locs cells slots Q (F0 m pc ls st0) := by
  intro S hS X
  obtain ⟨v1, st₀, t, T', L, h0, X', hL, e1, e2, ⟨⟨hv, hR⟩, hz, hk⟩, st⟩ := hr S hS X
  rw [h0] at hz hk
  have hv' : v1 = v.map (am_tr (am_ad E)) := by cases hv; rfl
  have hsz : t.heap.size = H.size + mc := by
    have := hR.2.1
    have := hw.2.1.2.1
    omega
  have hS' : va_S (am_A E) s.heap T'.heap (locs ++ L) := by
    refine ⟨Nat.le_trans hw.2.2.1.1 (by rw [e1]; exact hz), fun q h1 h2 => ?_, fun q hq => ?_⟩
    · rw [e1, hk q (Nat.lt_of_lt_of_le h1 hw.2.2.1.1) h2]
      exact hw.2.2.1.2.1 q h1 h2
    · rcases List.mem_append.mp hq with h | h
      · exact hw.2.2.1.2.2 q h
      · exact hL q h
  obtain ⟨t2, b1, b2⟩ := kk T'.heap (locs ++ L) ⟨hw.1, by rw [e1]; exact hR, hS', by rw [e1, hsz, hw.2.2.2.1]; omega, hw.2.2.2.2⟩ T' rfl X'
  refine ⟨t2, st t2 ?_, b2⟩
  have e3 : (v.toList ++ r).map (am_tr (am_ad E)) = v1.toList ++ r.map (am_tr (am_ad E)) := by
    rw [hv', List.map_append]
    cases v <;> rfl
  rw [e3] at b1
  exact b1
/-- the end of a called method -/
theorem am_end {x : Nat} {i : Instr} {st' : List Value} {v : Option Value} {σ1 : am_S} (hx : p.tables.exec = Jvm.exec) (hb : c.code = am_cd M x) (hr : meth.sig.returnType = am_rt M x) (hlocks : meth.locks = false) (hrc : am_rcok (am_rc (am_rt M x)) v = true) (hd : decode (am_cd M x) pc = .ok (i, 1)) (hret : am_ret i 1 st' = some v) (hw : am_W E tys s σ1 H locs cells) :
    W p l e R s m args below meth c H locs cells slots (MQ below (am_Qc E σ1 v) args s cells slots (am_A E)) (F0 m pc ls (st'.map (am_tr (am_ad E)))) := by
  have hQ : ∀ t : State, t.heap = H → s.WarmedH t.vm → am_Qc E σ1 v args s (.returned (v.map (am_tr (am_ad E)))) t := fun t ht _ => ⟨⟨rfl, by rw [ht]; exact hw.2.1⟩, hw.2.2.1.F ht⟩
  cases i with
  | return_ =>
    simp only [am_ret] at hret
    split at hret
    · cases hret
      have h0 : am_rt M x = none := by
        cases h : am_rt M x with
        | none => rfl
        | some t => rw [h] at hrc; cases t <;> simp [am_rc, am_rcok] at hrc
      exact W.vret hx hb (hr.trans h0) hQ hw.2.2.1.2.2 hd
    · cases hret
  | ireturn =>
    simp only [am_ret] at hret
    split at hret
    · cases hret
      rename_i w
      cases h : am_rt M x with
      | none => rw [h] at hrc; simp [am_rc, am_rcok] at hrc
      | some t =>
        rw [h] at hrc hr
        have hn : narrow t (.int w) = .int w := by
          cases t <;> simp [am_rc, am_rcok] at hrc <;> first
            | rfl
            | (rcases hrc with hq | hq <;> subst hq <;> rfl)
            | (have h9 := hrc; unfold vp_nar at h9; split at h9 <;> rename_i h8 <;> first | (rw [h9] at h8; exact h8) | (exact absurd rfl (h8 _)))
        exact W.zret hx hb hr hn hQ hw.2.2.1.2.2 hd
    · cases hret
  | lreturn =>
    simp only [am_ret] at hret
    split at hret
    · cases hret
      cases h : am_rt M x with
      | none => rw [h] at hrc; simp [am_rc, am_rcok] at hrc
      | some t =>
        rw [h] at hrc hr
        cases t <;> simp [am_rc, am_rcok] at hrc
        exact W.lret hx hb hr hQ hw.2.2.1.2.2 hd
    · cases hret
  | areturn =>
    simp only [am_ret] at hret
    split at hret
    · cases hret
      cases h : am_rt M x with
      | none => rw [h] at hrc; simp [am_rc, am_rcok] at hrc
      | some t =>
        rw [h] at hrc hr
        cases t <;> simp [am_rc, am_rcok] at hrc
        · exact W.aret hx hb hr (Or.inl ⟨_, rfl⟩) (Or.inr ⟨_, rfl⟩) hQ hw.2.2.1.2.2 hd
        · exact W.aret hx hb hr (Or.inr ⟨_, rfl⟩) (Or.inr ⟨_, rfl⟩) hQ hw.2.2.1.2.2 hd
    · cases hret
      cases h : am_rt M x with
      | none => rw [h] at hrc; simp [am_rc, am_rcok] at hrc
      | some t =>
        rw [h] at hrc hr
        cases t <;> simp [am_rc, am_rcok] at hrc
        · exact W.aret hx hb hr (Or.inl ⟨_, rfl⟩) (Or.inl rfl) hQ hw.2.2.1.2.2 hd
        · exact W.aret hx hb hr (Or.inr ⟨_, rfl⟩) (Or.inl rfl) hQ hw.2.2.1.2.2 hd
    · cases hret
  | _ => cases hret
end AmC
