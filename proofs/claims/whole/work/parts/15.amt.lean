/-! a run of the interpreter from an entry with one thing that is only read (number 999) is the machine's -/
theorem am_top {l : Launch} {T : am_T} {M : am_M} {E : am_E} {tys : List (ClassId × FieldType)} {Ts : List Cond} (hOK : am_OK T M E tys Ts) (h8 : am_ok8 T M E Ts) (hG : am_good Ts) {p : Program} {e : Env} {R : Room} {s : State} {m : MethodId} {below : List Frame} {meth : Method} {c : Code} {Q : State → Prop} {b x f : Nat} {σ1 : am_S}
    (hx : p.tables.exec = Jvm.exec) (hb : c.code = am_cd M x) (hml : c.maxLocals = (am_mi T x).1) (hts : ∀ w ∈ Ts, w.before #[Value.ref b] s = true) (hown : s.vm.findClass (am_own M x) = some m.cls) (hnm : (am_nm M x).name ≠ "<init>") (hO : am_O E (am_tz T) s s.heap) (hw : am_W E tys s am_s0 s.heap [] 0) (hro : am_ro E 999 = b) (hlen : 1 ≤ (am_mi T x).1)
    (hrun : am_x T f R.frames R.locals x 0 (am_lo (am_mi T x).1 [.ref 999]) [] am_s0 = some (some (.int 1), σ1)) (hc : am_nx σ1 ≤ 1000 + R.cells) (hs : am_sl σ1 ≤ R.slots)
    (hend : ∀ (pc' : Nat) (ls' : Array Slot) (H1 : Heap) (locs1 : List Loc) (k n : Nat), k ≤ R.cells → n ≤ R.slots → decode (am_cd M x) pc' = .ok (.ireturn, 1) → va_S (am_A E) s.heap H1 locs1 → W p l e R s m #[Value.ref b] below meth c H1 locs1 k n Q (F0 m pc' ls' [.int 1])) :
    W p l e R s m #[Value.ref b] below meth c s.heap [] 0 0 Q (entryFrame m ([Value.ref b] : List Value).toArray (am_mi T x).1) := by
  have e0 : ([Value.ref b] : List Value) = ([Value.ref 999] : List Value).map (am_tr (am_ad E)) := by
    show [Value.ref b] = [Value.ref (am_ad E 999)]
    rw [am_ad_lo E (by decide), hro]
  have ef : entryFrame m ([Value.ref b] : List Value).toArray (am_mi T x).1 = F0 m 0 ((lg_sl (([Value.ref 999] : List Value).map (am_tr (am_ad E))) ++ List.replicate ((am_mi T x).1 - (lg_sl (([Value.ref 999] : List Value).map (am_tr (am_ad E)))).length) Slot.unset).toArray) [] := by
    rw [e0]
    exact lg_entry_eq _ _ _
  refine W.eq ef ?_
  have hl := am_entry E (as := [.ref 999]) (n := (am_mi T x).1) (by show 1 ≤ _; exact hlen)
  have n0 : am_nx am_s0 = 1000 := rfl
  have l0 : am_sl am_s0 = 0 := rfl
  refine am_go hOK h8 hG f R.frames R.locals x 0 _ [] am_s0 (some (.int 1)) σ1 hrun p e R s m #[Value.ref b] below meth c s.heap [] 0 0 Q _ hx hb hml hts hown (fun h => absurd h hnm) rfl rfl hO hw hl (by omega) (by omega) ?_
  intro pc' ls' i st' H1 locs1 hd hret _ hw1
  have hi : i = .ireturn ∧ st' = [.int 1] := by
    cases i <;> simp only [am_ret] at hret <;> first
      | (cases hret; done)
      | (split at hret <;> first
          | (cases hret; done)
          | (split at hret <;> first
              | (cases hret; done)
              | (cases hret; exact ⟨rfl, rfl⟩)))
  obtain ⟨rfl, rfl⟩ := hi
  exact hend pc' ls' H1 locs1 _ _ (by omega) (by omega) hd hw1.2.2.1
