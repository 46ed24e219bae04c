/-! THE INTERPRETER IS THE MACHINE'S -/
section AmCp
variable {p : Program} {l : Launch} {e : Env} {R : Room} {s : State} {m : MethodId} {args : Array Value} {below : List Frame} {meth : Method} {c : Code} {H : Heap} {locs : List Loc} {cells slots : Nat} {Q : State → Prop}
variable {cc : ByteArray} {pc : Nat} {ls : Array Slot} {E : am_E} {tys : List (ClassId × FieldType)} {σ : am_S}
theorem am_scL_I {d : Nat} {f : Nat → Int64} (hI : am_I σ) (h : d < am_nx σ) : am_I (am_scL σ d f) := ⟨hI.1, hI.2.1, fun j hj g => by
  have h1 := hI.2.2 j hj g
  refine ⟨h1.1, h1.2.1, h1.2.2.1, h1.2.2.2.1, ?_, h1.2.2.2.2.2⟩
  have h2 : am_aL (am_scL σ d f) j = am_aL σ j := by
    have h3 : j ≠ d := by have : am_nx σ ≤ j := hj; omega
    show va_up σ.2.2.2.2.2.1 d f j = _
    simp [va_up, h3]
  rw [h2]
  exact h1.2.2.2.2.1⟩
theorem am_scI_I {d : Nat} {f : Nat → Int32} (hI : am_I σ) (h : d < am_nx σ) : am_I (am_scI σ d f) := ⟨hI.1, hI.2.1, fun j hj g => by
  have h1 := hI.2.2 j hj g
  refine ⟨h1.1, h1.2.1, h1.2.2.1, ?_, h1.2.2.2.2⟩
  have h2 : am_aI (am_scI σ d f) j = am_aI σ j := by
    have h3 : j ≠ d := by have : am_nx σ ≤ j := hj; omega
    show va_up σ.2.2.2.2.1 d f j = _
    simp [va_up, h3]
  rw [h2]
  exact h1.2.2.2.1⟩
theorem am_scL_ent {d : Nat} {f : Nat → Int64} (j : Nat) (h : j ≠ d) : am_ent E (am_scL σ d f) j = am_ent E σ j := am_ent_same (σ' := am_scL σ d f) rfl rfl rfl rfl rfl (by show va_up σ.2.2.2.2.2.1 d f j = _; simp [va_up, h]) rfl
theorem am_scI_ent {d : Nat} {f : Nat → Int32} (j : Nat) (h : j ≠ d) : am_ent E (am_scI σ d f) j = am_ent E σ j := am_ent_same (σ' := am_scI σ d f) rfl rfl rfl rfl (by show va_up σ.2.2.2.2.1 d f j = _; simp [va_up, h]) rfl rfl
theorem am_scL_at {d len : Nat} {f : Nat → Int64} (hk : am_kd σ d = (1001, len)) : am_ent E (am_scL σ d f) d = .inl (am_aC E 1, len, .inr (.inl f)) := by
  refine (am_ent_l (σ := am_scL σ d f) hk).trans ?_
  have : am_aL (am_scL σ d f) d = f := by show va_up σ.2.2.2.2.2.1 d f d = _; simp [va_up]
  rw [this]
theorem am_scI_at {d k len : Nat} {f : Nat → Int32} (hk : am_kd σ d = (k, len)) (h1 : 1000 ≤ k) (h2 : k < 2000) (h3 : k ≠ 1001) : am_ent E (am_scI σ d f) d = .inl (am_aC E (k - 1000), len, .inl f) := by
  refine (am_ent_i (σ := am_scI σ d f) hk h1 h2 h3).trans ?_
  have : am_aI (am_scI σ d f) d = f := by show va_up σ.2.2.2.2.1 d f d = _; simp [va_up]
  rw [this]
set_option maxHeartbeats 1000000 in
theorem am_cp_ok (hx : p.tables.exec = Jvm.exec) (hb : c.code = cc) (hml : c.maxLocals = ls.size) {own : String} {idx : Nat} (hown : s.vm.findClass own = some m.cls) (hlink : (Cond.methodLink own idx arraycopyName).before args s = true) (hnat : (Cond.native arraycopyName).before args s = true) (hstat : (Cond.static arraycopyName).before args s = true) (hini : (Cond.initialized "java/lang/System").before args s = true)
    (a0 : am_Ar E tys 0 .int) (a1 : am_Ar E tys 1 .long) (a2 : am_Ar E tys 2 .byte) (hw : am_W E tys s σ H locs cells) {st r : List Value} {σ' : am_S} (h : am_cp σ st = some (r, σ')) (hfr : 1 ≤ R.frames) (hlo : 30 ≤ R.locals) (hcat : (r.map fun v => v.category).sum ≤ 8) (hd : decode cc pc = .ok (.invokestatic idx, 3))
    (kk : ∀ (H1 : Heap) (locs1 : List Loc), am_W E tys s σ' H1 locs1 cells → W p l e R s m args below meth c H1 locs1 cells slots Q (F0 m (pc + 3) ls (r.map (am_tr (am_ad E))))) : W p l e R s m args below meth c H locs cells slots Q (F0 m pc ls (st.map (am_tr (am_ad E)))) := by
  have hlocals : ((r.map (am_tr (am_ad E))).map fun v => v.category).sum + (nativeFrameWords "java/lang/System" "arraycopy" 5 + 11) ≤ R.locals := by
    rw [am_cats, show nativeFrameWords "java/lang/System" "arraycopy" 5 = 7 from by decide +kernel]
    omega
  unfold am_cp at h
  split at h
  · rename_i n dp d sp a r0
    split at h
    · rename_i hc
      obtain ⟨c1, c2, c3, c4, c5, c6⟩ := hc
      split at h
      · rename_i hk
        cases h
        obtain ⟨d1, d2⟩ := hw.at (n := d) (by omega)
        obtain ⟨s1, s2⟩ := hw.at (n := a) (by omega)
        obtain ⟨t0, ht⟩ := a1
        have he := am_pool_get E σ d1 d2
        have hs := am_pool_get E σ s1 s2
        rw [am_ent_l (len := (am_kd σ d).2) (by rw [← hk])] at he
        rw [am_ent_l (len := (am_kd σ a).2) (by rw [← hk, ← c1])] at hs
        exact va_copyl hx hb hml hown hlink hnat hstat hini hw.1 hw.2.1.2.2 (am_pool_D E σ) hw.2.2.1 (a - 1000) (d - 1000) t0 t0 hs he ht ht rfl c4 c3 c2 c5 c6 (fun _ _ => rfl) hfr hlocals hd (fun H1 locs1 q1 _ q3 => am_fin hw d1 d2 (am_scL_I hw.2.1.1 d2) rfl am_scL_ent (am_scL_at (len := (am_kd σ d).2) (by rw [← hk])) kk H1 locs1 q1 q3)
      · split at h
        · rename_i hk0 hk
          cases h
          have hkk : 1000 ≤ (am_kd σ d).1 ∧ (am_kd σ d).1 < 2000 ∧ (am_kd σ d).1 ≠ 1001 := by omega
          obtain ⟨d1, d2⟩ := hw.at (n := d) (by omega)
          obtain ⟨s1, s2⟩ := hw.at (n := a) (by omega)
          have he := am_pool_get E σ d1 d2
          have hs := am_pool_get E σ s1 s2
          rw [am_ent_i (k := (am_kd σ d).1) (len := (am_kd σ d).2) rfl hkk.1 hkk.2.1 hkk.2.2] at he
          rw [am_ent_i (k := (am_kd σ d).1) (len := (am_kd σ a).2) (by rw [← c1]) hkk.1 hkk.2.1 hkk.2.2] at hs
          have hgo : ∀ (t0 : Nat) (ty : FieldType), tys[t0]? = some (am_aC E ((am_kd σ d).1 - 1000), ty) → refKind ty = false → (∀ i, i < n.toNatClampNeg → fits ty (.int (am_aI σ a (sp.toNatClampNeg + i))) = true) → W p l e R s m args below meth c H locs cells slots Q (F0 m pc ls ((.int n :: .int dp :: .ref d :: .int sp :: .ref a :: r).map (am_tr (am_ad E)))) := fun t0 ty ht hp hf =>
            va_copyi hx hb hml hown hlink hnat hstat hini hw.1 hw.2.1.2.2 (am_pool_D E σ) hw.2.2.1 (a - 1000) (d - 1000) t0 t0 hs he ht ht hp c4 c3 c2 c5 c6 hf hfr hlocals hd (fun H1 locs1 q1 _ q3 => am_fin hw d1 d2 (am_scI_I hw.2.1.1 d2) rfl am_scI_ent (am_scI_at rfl hkk.1 hkk.2.1 hkk.2.2) kk H1 locs1 q1 q3)
          rcases hk with hk | ⟨hk, hf⟩
          · obtain ⟨t0, ht⟩ := a0
            exact hgo t0 .int (by rw [hk]; exact ht) rfl (fun _ _ => rfl)
          · obtain ⟨t0, ht⟩ := a2
            exact hgo t0 .byte (by rw [hk]; exact ht) rfl (fun i hi => List.all_eq_true.mp hf i (List.mem_range.mpr hi))
        · cases h
    · cases h
  · cases h
end AmCp
/-- from a place of a method on: if the interpreter ends there, so does the machine; 'the end' is taken where the interpreter returns -/
def am_Go (l : Launch) (T : am_T) (M : am_M) (E : am_E) (tys : List (ClassId × FieldType)) (Ts : List Cond) (f : Nat) : Prop :=
  ∀ (fr lo x pc : Nat) (L : List (Option Value)) (st : List Value) (σ : am_S) (v : Option Value) (σ1 : am_S), am_x T f fr lo x pc L st σ = some (v, σ1) →
  ∀ (p : Program) (e : Env) (R : Room) (s : State) (m : MethodId) (args : Array Value) (below : List Frame) (meth : Method) (c : Code) (H : Heap) (locs : List Loc) (cells slots : Nat) (Q : State → Prop) (ls : Array Slot),
    p.tables.exec = Jvm.exec → c.code = am_cd M x → c.maxLocals = (am_mi T x).1 → (∀ w ∈ Ts, w.before args s = true) → s.vm.findClass (am_own M x) = some m.cls → ((am_nm M x).name = "<init>" → meth.name = "<init>") → R.frames = fr → R.locals = lo → am_O E (am_tz T) s s.heap → am_W E tys s σ H locs cells → am_L (am_ad E) ls (am_mi T x).1 L →
    cells + (am_nx σ1 - am_nx σ) ≤ R.cells → slots + (am_sl σ1 - am_sl σ) ≤ R.slots →
    (∀ (pc' : Nat) (ls' : Array Slot) (i : Instr) (st' : List Value) (H1 : Heap) (locs1 : List Loc), decode (am_cd M x) pc' = .ok (i, 1) → am_ret i 1 st' = some v → am_rcok (am_ak T (100000 + x)) v = true → am_W E tys s σ1 H1 locs1 (cells + (am_nx σ1 - am_nx σ)) → W p l e R s m args below meth c H1 locs1 (cells + (am_nx σ1 - am_nx σ)) (slots + (am_sl σ1 - am_sl σ)) Q (F0 m pc' ls' (st'.map (am_tr (am_ad E))))) →
    W p l e R s m args below meth c H locs cells slots Q (F0 m pc ls (st.map (am_tr (am_ad E))))
theorem am_ret_len {i : Instr} {len : Nat} {st : List Value} {v : Option Value} (h : am_ret i len st = some v) : len = 1 := by
  cases i <;> simp only [am_ret] at h <;> first
    | (cases h; done)
    | (split at h <;> first
        | (cases h; done)
        | (split at h
           · rename_i hq; exact hq
           · cases h))
/-- a method by contract, out of the interpreter's run of it -/
theorem am_met {l : Launch} {T : am_T} {M : am_M} {E : am_E} {tys : List (ClassId × FieldType)} {Ts : List Cond} {f : Nat} (hgo : am_Go l T M E tys Ts f) {fr lo y n : Nat} {as : List Value} {σ σ1 : am_S} {v : Option Value} (hM : am_Mok T M Ts y n) (hlen : (am_in as).length ≤ (am_mi T y).1) (h : am_x T f fr lo y 0 (am_lo (am_mi T y).1 as) [] σ = some (v, σ1)) :
    Met l (am_nm M y) (Cond.code (am_nm M y) (am_cd M y) (am_mi T y).1 (am_rt M y) :: Ts) { frames := fr, cells := am_nx σ1 - am_nx σ, slots := am_sl σ1 - am_sl σ, locals := lo } (am_Pc E tys T σ as) (am_Qc E σ1 v) (am_nx σ1 - am_nx σ) (am_sl σ1 - am_sl σ) (am_A E) := by
  obtain ⟨m1, m2, m3, m4, m5, m6, m7, m8⟩ := hM
  refine va_MetF (cc := am_cd M y) (maxL := (am_mi T y).1) (ret := am_rt M y) m2 rfl ?_
  intro p e s m args below meth c s₁ B hml hv
  obtain ⟨rfl, hK, hR, hO, hh⟩ := hv
  have hts : ∀ w ∈ Ts, w.before (as.map (am_tr (am_ad E))).toArray s = true := fun w hw => atoms_spec (ws := Cond.code (am_nm M y) (am_cd M y) (am_mi T y).1 (am_rt M y) :: Ts) B.pre w (List.mem_cons_of_mem _ hw)
  have hown : s.vm.findClass (am_own M y) = some m.cls := by rw [← m3]; exact findClass_of_methodNamed B.named
  have hnm : (am_nm M y).name = "<init>" → meth.name = "<init>" := fun h => (name_of_methodNamed B.named B.method).1.trans h
  rw [lg_entry_eq]
  have hl := am_entry E hlen
  refine hgo fr lo y 0 (am_lo (am_mi T y).1 as) [] σ v σ1 h p e _ s m _ below meth c s.heap [] 0 0 _ _ B.exec B.bytes hml hts hown hnm rfl rfl hO ⟨hK, hR, va_S.rf, rfl, hh⟩ hl (by rw [Nat.zero_add]; exact Nat.le_refl _) (by rw [Nat.zero_add]; exact Nat.le_refl _) ?_
  intro pc' ls' i st' H1 locs1 hd hret hrc hw
  rw [Nat.zero_add] at hw ⊢
  rw [Nat.zero_add]
  rw [m8] at hrc
  exact am_end B.exec B.bytes B.returns B.notSynchronized hrc hd hret hw
theorem am_split {st as : List Value} {v : Value} {k : Nat} (h : (st.take k).reverse = v :: as) : st = as.reverse ++ v :: st.drop k := by
  have h2 : st.take k = as.reverse ++ [v] := by
    have := congrArg List.reverse h
    rw [List.reverse_reverse, List.reverse_cons] at this
    exact this
  have h3 := List.take_append_drop k st
  rw [h2] at h3
  rw [List.append_assoc] at h3
  exact h3.symm
set_option maxHeartbeats 4000000 in
theorem am_go {l : Launch} {T : am_T} {M : am_M} {E : am_E} {tys : List (ClassId × FieldType)} {Ts : List Cond} (hOK : am_OK T M E tys Ts) (h8 : am_ok8 T M E Ts) (hG : am_good Ts) : ∀ f, am_Go l T M E tys Ts f := by
  intro f
  induction f with
  | zero => intro fr lo x pc L st σ v σ1 h; simp [am_x] at h
  | succ f ih =>
    intro fr lo x pc L st σ v σ1 h p e R s m args below meth c H locs cells slots Q ls hx hb hml hts hown hnm hfr hlo hO hw hl hcells hslots hend
    simp only [am_x] at h
    split at h
    · cases h
    · rename_i i len hi
      have hd := hOK.1 x pc i len hi
      split at h
      · rename_i v0 hret
        split at h
        · rename_i hrc
          cases h
          have hn := am_ret_len hret
          subst hn
          have e1 : cells + (am_nx σ - am_nx σ) = cells := by omega
          have e2 : slots + (am_sl σ - am_sl σ) = slots := by omega
          rw [e1, e2] at hend
          exact hend pc ls i st H locs hd hret hrc hw
        · cases h
      · split at h
        · rename_i kd y as r hcall
          have hfix : CallFix p m c (am_cd M x) (am_mi T x).1 s args Ts (am_own M x) := ⟨hx, hb, hml, hown, hts⟩
          split at h
          · rename_i hk
            subst hk
            split at h
            · rename_i hc
              obtain ⟨c1, c2, c3⟩ := hc
              cases i <;> simp only [am_call] at hcall <;> first
                | (cases hcall; done)
                | skip
              · rename_i idx hrn
                split at hcall
                · rename_i hq
                  split at hcall
                  · rename_i n r0
                    cases hcall
                    obtain ⟨q1, q2⟩ := hq
                    subst q1
                    obtain ⟨w1, w2, w3⟩ := (h8 x idx).2.2.2.1 q2
                    refine W.objInit hx hb hown (hts _ w1) (hts _ w2) (hts _ w3) (g := F0 m pc ls ((.ref n :: r).map (am_tr (am_ad E)))) rfl (by rw [hml]; exact hl.2.1) rfl hd (by rw [hfr]; exact c1) (by rw [hlo, am_cats]; show 2 * 0 + _ + 12 ≤ _; omega) ?_
                    exact ih fr lo x (pc + 3) L r σ v σ1 h p e R s m args below meth c H locs cells slots Q ls hx hb hml hts hown hnm hfr hlo hO hw hl hcells hslots hend
                  · cases hcall
                · split at hcall
                  · split at hcall
                    · cases hcall
                    · cases hcall
                  · cases hcall
              · rename_i idx hrn
                split at hcall
                · cases hcall
                · split at hcall
                  · cases hcall
                  · cases hcall
              · rename_i idx hrn
                split at hcall
                · split at hcall
                  · cases hcall
                  · cases hcall
                · cases hcall
            · cases h
          · rename_i hk13
            split at h
            · rename_i hk
              subst hk
              split at h
              · rename_i r' σ' hcp
                split at h
                · rename_i hc
                  obtain ⟨c1, c2, c3⟩ := hc
                  obtain ⟨z1, z2⟩ := am_cp_mono hcp
                  cases i <;> simp only [am_call] at hcall <;> first
                    | (cases hcall; done)
                    | skip
                  · rename_i idx hrn
                    split at hcall
                    · split at hcall
                      · cases hcall
                      · cases hcall
                    · split at hcall
                      · split at hcall
                        · cases hcall
                        · cases hcall
                      · cases hcall
                  · rename_i idx hrn
                    split at hcall
                    · rename_i hq
                      cases hcall
                      obtain ⟨q1, q2⟩ := hq
                      subst q1
                      obtain ⟨w1, w2, w3, w4⟩ := (h8 x idx).2.2.2.2 q2
                      refine am_cp_ok hx hb (by rw [hml]; exact hl.2.1.symm) hown (hts _ w1) (hts _ w2) (hts _ w3) (hts _ w4) hOK.2.2.2.2.2.1.1 hOK.2.2.2.2.2.1.2.1 hOK.2.2.2.2.2.1.2.2.1 hw hcp (by rw [hfr]; exact c1) (by rw [hlo]; exact c2) c3 hd (fun H1 locs1 q => ?_)
                      exact ih fr lo x (pc + 3) L r' σ' v σ1 h p e R s m args below meth c H1 locs1 cells slots Q ls hx hb hml hts hown hnm hfr hlo hO q hl (by rw [z1]; exact hcells) (by rw [z2]; exact hslots) (by rw [z1, z2]; exact hend)
                    · split at hcall
                      · cases hcall
                      · cases hcall
                  · rename_i idx hrn
                    split at hcall
                    · split at hcall
                      · cases hcall
                      · cases hcall
                    · cases hcall
                · cases h
              · cases h
            · rename_i hk14
              split at h
              · rename_i hc
                obtain ⟨c1, c2, c3, c4⟩ := hc
                split at h
                · rename_i v' σ' hrun
                  have mono1 := am_x_mono _ _ _ _ _ _ _ _ _ _ hrun
                  have mono2 := am_x_mono _ _ _ _ _ _ _ _ _ _ h
                  have kk : ∀ (H1 : Heap) (locs1 : List Loc), am_W E tys s σ' H1 locs1 (cells + (am_nx σ' - am_nx σ)) → W p l e R s m args below meth c H1 locs1 (cells + (am_nx σ' - am_nx σ)) (slots + (am_sl σ' - am_sl σ)) Q (F0 m (pc + 3) ls ((v'.toList ++ r).map (am_tr (am_ad E)))) := by
                    intro H1 locs1 q
                    have e1 : cells + (am_nx σ' - am_nx σ) + (am_nx σ1 - am_nx σ') = cells + (am_nx σ1 - am_nx σ) := by omega
                    have e2 : slots + (am_sl σ' - am_sl σ) + (am_sl σ1 - am_sl σ') = slots + (am_sl σ1 - am_sl σ) := by omega
                    refine ih fr lo x (pc + 3) L (v'.toList ++ r) σ' v σ1 h p e R s m args below meth c H1 locs1 _ _ Q ls hx hb hml hts hown hnm hfr hlo hO q hl (by rw [e1]; exact hcells) (by rw [e2]; exact hslots) ?_
                    rw [e1, e2]
                    exact hend
                  have hroom : 2 * (F0 m pc ls (st.map (am_tr (am_ad E)))).monitorRoom + ((r.map (am_tr (am_ad E))).map fun v => v.category).sum ≤ 8 := by
                    rw [am_cats]
                    show 2 * 0 + _ ≤ 8
                    omega
                  have hfit : cells + (am_nx σ' - am_nx σ) ≤ R.cells ∧ slots + (am_sl σ' - am_sl σ) ≤ R.slots := ⟨by omega, by omega⟩
                  have hRoom : fr - 1 + 1 ≤ R.frames ∧ 8 + ((am_mi T y).1 + 11) + (lo - ((am_mi T y).1 + 19)) ≤ R.locals := ⟨by omega, by omega⟩
                  have hPre : ∀ U : State, U.heap = H → s.WarmedH U.vm → am_Pc E tys T σ as (as.map (am_tr (am_ad E))).toArray U := fun U hU hW => ⟨rfl, va_K.moved hW.alike hw.1, by rw [hU]; exact hw.2.1, by rw [hU]; exact hO.on hW hw.2.2.1.2.1, by rw [hU, hw.2.2.2.1]; exact Nat.le_trans hw.2.2.2.2 (Nat.le_add_right _ _)⟩
                  have hgood : ∀ n, am_Mok T M Ts y n → GoodIn Ts (Cond.code (am_nm M y) (am_cd M y) (am_mi T y).1 (am_rt M y) :: Ts) := fun n hM w hw => by
                    rcases List.mem_cons.mp hw with q | q
                    · rw [q]; exact ⟨hM.1, hG _ hM.1⟩
                    · exact ⟨q, hG _ q⟩
                  cases i <;> simp only [am_call] at hcall <;> first
                    | (cases hcall; done)
                    | skip
                  · -- invokespecial
                    rename_i idx hrn
                    split at hcall
                    · split at hcall
                      · cases hcall; exact absurd rfl hk13
                      · cases hcall
                    · split at hcall
                      · rename_i n as0 hsp
                        split at hcall
                        · rename_i hq
                          cases hcall
                          obtain ⟨q1, q2, q3⟩ := hq
                          subst q1
                          obtain ⟨k, hM, w2, w3, w4, w5, w6⟩ := (h8 x idx).2.1 q2
                          have hmet := am_met ih hM c4 hrun
                          have hst := am_split hsp
                          have hstack : (F0 m pc ls (st.map (am_tr (am_ad E)))).stack = (as0.map (am_tr (am_ad E))).reverse ++ .ref (am_ad E n) :: (st.drop (am_mi T (am_lnk T x idx).2.1).2).map (am_tr (am_ad E)) := by
                            show st.map (am_tr (am_ad E)) = _
                            conv => lhs; rw [hst]
                            rw [List.map_append, List.map_reverse]
                            rfl
                          have hcode : Cond.code (am_nm M (am_lnk T x idx).2.1) (am_cd M (am_lnk T x idx).2.1) (am_mi T (am_lnk T x idx).2.1).1 (am_rt M (am_lnk T x idx).2.1) :: Ts = Cond.code (am_nm M (am_lnk T x idx).2.1) (am_cd M (am_lnk T x idx).2.1) (am_mi T (am_lnk T x idx).2.1).1 none :: Ts := by rw [w6]
                          have hgd := hgood k hM
                          rw [hcode] at hgd hmet
                          have hini : (Cond.initialized (am_nm M (am_lnk T x idx).2.1).cls).before args s = true := by rw [hM.2.2.1]; exact hts _ hM.2.2.2.1
                          rcases w3 with w3 | ⟨host, w3⟩
                          · exact am_after hw rfl mono1.1 (va_runI (As := as0.map (am_tr (am_ad E))) (rest := (st.drop (am_mi T (am_lnk T x idx).2.1).2).map (am_tr (am_ad E))) (b := am_ad E n) hfix hmet (cwI k hts hgd rfl rfl rfl hini (hts _ w3) (hts _ w4) w5 ⟨hM.2.2.2.2.1, hM.2.2.2.2.2.1, hM.2.2.2.2.2.2.1⟩ hRoom) ⟨am_Pc_blind E tys T σ _, hPre⟩ rfl (by rw [List.length_map]; omega) hl.2.1 hstack hroom hd hfit) kk
                          · exact am_after hw rfl mono1.1 (va_runIN (As := as0.map (am_tr (am_ad E))) (rest := (st.drop (am_mi T (am_lnk T x idx).2.1).2).map (am_tr (am_ad E))) (b := am_ad E n) hfix hmet ⟨va_cnB k hts hgd rfl rfl rfl (hO.2.2.2.2.2.1 _ w3).2 hini ⟨hM.2.2.2.2.1, hM.2.2.2.2.2.1, hM.2.2.2.2.2.2.1⟩ hRoom, w5, hts _ w4⟩ ⟨am_Pc_blind E tys T σ _, hPre⟩ rfl (by rw [List.length_map]; omega) hl.2.1 hstack hroom hd hfit) kk
                        · cases hcall
                      · cases hcall
                  · -- invokestatic
                    rename_i idx hrn
                    split at hcall
                    · cases hcall; exact absurd rfl hk14
                    · split at hcall
                      · rename_i hq
                        cases hcall
                        obtain ⟨q1, q2, q3⟩ := hq
                        subst q1
                        obtain ⟨k, hM, w2, w3, w4⟩ := (h8 x idx).2.2.1 q2
                        have hmet := am_met ih hM c4 hrun
                        have hstack : (F0 m pc ls (st.map (am_tr (am_ad E)))).stack = (((st.take (am_mi T (am_lnk T x idx).2.1).2).reverse).map (am_tr (am_ad E))).reverse ++ (st.drop (am_mi T (am_lnk T x idx).2.1).2).map (am_tr (am_ad E)) := by
                          show st.map (am_tr (am_ad E)) = _
                          rw [← List.map_reverse, List.reverse_reverse, ← List.map_append, List.take_append_drop]
                        have hgd := hgood k hM
                        have hini : (Cond.initialized (am_nm M (am_lnk T x idx).2.1).cls).before args s = true := by rw [hM.2.2.1]; exact hts _ hM.2.2.2.1
                        have hlen : (((st.take (am_mi T (am_lnk T x idx).2.1).2).reverse).map (am_tr (am_ad E))).length = k := by
                          rw [List.length_map, List.length_reverse, List.length_take]
                          omega
                        rcases w3 with w3 | ⟨host, w3⟩
                        · exact am_after hw rfl mono1.1 (va_runS hfix hmet ⟨callB_of k hts hgd rfl rfl rfl hini (hts _ w3) ⟨hM.2.2.2.2.1, hM.2.2.2.2.2.1, hM.2.2.2.2.2.2.1⟩ hRoom, hts _ w4⟩ ⟨am_Pc_blind E tys T σ _, hPre⟩ rfl hlen hl.2.1 hstack hroom hd hfit) kk
                        · exact am_after hw rfl mono1.1 (va_runSN hfix hmet ⟨va_cnB k hts hgd rfl rfl rfl (hO.2.2.2.2.2.1 _ w3).2 hini ⟨hM.2.2.2.2.1, hM.2.2.2.2.2.1, hM.2.2.2.2.2.2.1⟩ hRoom, hts _ w4, trivial⟩ ⟨am_Pc_blind E tys T σ _, hPre⟩ rfl hlen hl.2.1 hstack hroom hd hfit) kk
                      · cases hcall
                  · -- invokevirtual
                    rename_i idx hrn
                    split at hcall
                    · rename_i n as0 hsp
                      split at hcall
                      · rename_i hq
                        cases hcall
                        obtain ⟨q1, q2, q3, q4⟩ := hq
                        subst q1
                        obtain ⟨k, hM, w2, w3, w4, w5, w6, w7⟩ := (h8 x idx).1 q2
                        have hmet := am_met ih hM c4 hrun
                        have hst := am_split hsp
                        have hstack : (F0 m pc ls (st.map (am_tr (am_ad E)))).stack = (as0.map (am_tr (am_ad E))).reverse ++ .ref (am_ad E n) :: (st.drop (am_mi T (am_lnk T x idx).2.1).2).map (am_tr (am_ad E)) := by
                          show st.map (am_tr (am_ad E)) = _
                          conv => lhs; rw [hst]
                          rw [List.map_append, List.map_reverse]
                          rfl
                        have hgd := hgood k hM
                        have hini : (Cond.initialized (am_nm M (am_lnk T x idx).2.1).cls).before args s = true := by rw [hM.2.2.1]; exact hts _ hM.2.2.2.1
                        have hrecv : ∃ cellB : Cell, H[am_ad E n]? = some cellB ∧ cellB.vm.isStatics = false ∧ s.vm.findClass (am_own M (am_lnk T x idx).2.1) = some cellB.cls := by
                          rcases q4 with ⟨u1, u2⟩ | ⟨u1, u2, u3⟩
                          · obtain ⟨v1, F, N, v2⟩ := w6 u1
                            obtain ⟨n1, n2⟩ := hw.at (n := n) (by omega)
                            have he := am_pool_get E σ n1 n2
                            rw [am_ent_o (ci := (am_lnk T x idx).2.2 - 1) (by omega) (by omega)] at he
                            exact va_recv hw.1 hw.2.1.2.2 v2 he
                          · obtain ⟨cell, g1, g2, g3, -⟩ := (hO.2.2.1 n u2 u3).1.kept hw.2.2.1.2.1
                            exact ⟨cell, by rw [am_ad_lo E (Nat.lt_of_lt_of_le u2 (by decide))]; exact g1, g2, by rw [w7 u1]; exact g3⟩
                        rcases w3 with w3 | ⟨host, w3⟩
                        · exact am_after hw rfl mono1.1 (va_runV (As := as0.map (am_tr (am_ad E))) (rest := (st.drop (am_mi T (am_lnk T x idx).2.1).2).map (am_tr (am_ad E))) (b := am_ad E n) hfix hmet ⟨callB_of k hts hgd rfl rfl rfl hini (hts _ w3) ⟨hM.2.2.2.2.1, hM.2.2.2.2.2.1, hM.2.2.2.2.2.2.1⟩ hRoom, hts _ w4, hts _ w5⟩ ⟨am_Pc_blind E tys T σ _, hrecv, hPre⟩ rfl (by rw [List.length_map]; omega) hl.2.1 hstack hroom hd hfit) kk
                        · exact am_after hw rfl mono1.1 (va_runVN (As := as0.map (am_tr (am_ad E))) (rest := (st.drop (am_mi T (am_lnk T x idx).2.1).2).map (am_tr (am_ad E))) (b := am_ad E n) hfix hmet ⟨va_cnB k hts hgd rfl rfl rfl (hO.2.2.2.2.2.1 _ w3).2 hini ⟨hM.2.2.2.2.1, hM.2.2.2.2.2.1, hM.2.2.2.2.2.2.1⟩ hRoom, hts _ w4, hts _ w5⟩ ⟨am_Pc_blind E tys T σ _, hrecv, hPre⟩ rfl (by rw [List.length_map]; omega) hl.2.1 hstack hroom hd hfit) kk
                      · cases hcall
                    · cases hcall
                · cases h
              · cases h
        · rename_i hcall
          split at h
          · rename_i pc' L' st' σ' hh
            have mono1 := am_h_mono hh
            have mono2 := am_x_mono _ _ _ _ _ _ _ _ _ _ h
            refine am_h_ok hOK hx hb hts hown hnm hO hw hd hl hh (by omega) (by omega) (fun H1 locs1 ls' q q' => ?_)
            have e1 : cells + (am_nx σ' - am_nx σ) + (am_nx σ1 - am_nx σ') = cells + (am_nx σ1 - am_nx σ) := by omega
            have e2 : slots + (am_sl σ' - am_sl σ) + (am_sl σ1 - am_sl σ') = slots + (am_sl σ1 - am_sl σ) := by omega
            refine ih fr lo x pc' L' st' σ' v σ1 h p e R s m args below meth c H1 locs1 _ _ Q ls' hx hb hml hts hown hnm hfr hlo hO q q' (by rw [e1]; exact hcells) (by rw [e2]; exact hslots) ?_
            rw [e1, e2]
            exact hend
          · cases h
