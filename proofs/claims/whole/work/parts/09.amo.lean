/-! what the tables must be of the machine's, and that a step over the heap is the machine's -/
abbrev am_M : Type := (Nat → String) × (Nat → MethodName) × (Nat → ByteArray) × (Nat → Option FieldType)
abbrev am_own (M : am_M) : Nat → String := M.1
abbrev am_nm (M : am_M) : Nat → MethodName := M.2.1
abbrev am_cd (M : am_M) : Nat → ByteArray := M.2.2.1
abbrev am_rt (M : am_M) : Nat → Option FieldType := M.2.2.2
def am_ok1 (T : am_T) (M : am_M) : Prop := ∀ x pc i len, am_ins T x pc = some (i, len) → decode (am_cd M x) pc = .ok (i, len)
def am_lkw (Z : am_Z) (Ts : List Cond) (own : String) (idx : Nat) (F : u_T) (k : Nat) : Prop :=
  Cond.fieldLink own idx (F k).1 (F k).2.1 (F k).2.2.1 ∈ Ts ∨ ∃ host, Cond.fieldLinkNest own idx (F k).1 (F k).2.1 (F k).2.2.1 host ∈ am_zn Z
def am_ok2 (T : am_T) (M : am_M) (E : am_E) (Ts : List Cond) : Prop := ∀ x idx, ((am_lnk T x idx).1 = 1 ∨ (am_lnk T x idx).1 = 9) → ∃ (C : String) (F : u_T) (N : Nat) (ty : Nat → FieldType), am_Cls E Ts (am_lnk T x idx).2.1 C F N ty ∧ (am_lnk T x idx).2.2 < N ∧ am_lkw (am_tz T) Ts (am_own M x) idx F (am_lnk T x idx).2.2 ∧
  ((am_lnk T x idx).1 = 9 → (F (am_lnk T x idx).2.2).2.2.2 = false ∨ ((F (am_lnk T x idx).2.2).2.2.2 = true ∧ (am_nm M x).name = "<init>" ∧ (F (am_lnk T x idx).2.2).1 = am_own M x ∧ Cond.fieldLink (am_own M x) idx (F (am_lnk T x idx).2.2).1 (F (am_lnk T x idx).2.2).2.1 (F (am_lnk T x idx).2.2).2.2.1 ∈ Ts))
def am_ok3 (T : am_T) (M : am_M) (E : am_E) (Ts : List Cond) : Prop := ∀ x idx, (am_lnk T x idx).1 = 2 → ∃ (C : String) (F : u_T) (N : Nat) (ty : Nat → FieldType), am_Cls E Ts (am_lnk T x idx).2.1 C F N ty ∧ am_tn T (am_lnk T x idx).2.1 = N ∧ Cond.classLink (am_own M x) idx C ∈ Ts ∧ Cond.instantiable C N ∈ Ts ∧ Cond.initialized C ∈ Ts
/-- arrays of references: their links stand 100000 places on, for the same place of the pool may serve 'new' too -/
def am_ok4 (T : am_T) (M : am_M) (E : am_E) (tys : List (ClassId × FieldType)) (Ts : List Cond) : Prop := ∀ x idx, (am_lnk T x (100000 + idx)).1 = 3 → ∃ C : String, Cond.classLink (am_own M x) idx C ∈ Ts ∧ C ∈ am_zo (am_tz T) ∧ am_Ar E tys (1000 + (am_lnk T x (100000 + idx)).2.1) (.object C)
def am_ok5 (T : am_T) (M : am_M) (Ts : List Cond) : Prop := ∀ x idx,
  ((am_lnk T x idx).1 = 4 → Cond.constant (am_own M x) idx (am_li T x idx) ∈ Ts) ∧ ((am_lnk T x idx).1 = 5 → ∃ tx, (am_own M x, idx, tx, (am_lnk T x idx).2.1) ∈ am_zt (am_tz T)) ∧ ((am_lnk T x idx).1 = 6 → Cond.constantLong (am_own M x) idx (am_ll T x idx) ∈ Ts) ∧
  ((am_lnk T x idx).1 = 7 → ∃ C n d, (C, n, d, am_sv T x idx) ∈ am_zs (am_tz T) ∧ (Cond.fieldLink (am_own M x) idx C n d ∈ Ts ∨ ∃ host, Cond.fieldLinkNest (am_own M x) idx C n d host ∈ am_zn (am_tz T))) ∧
  ((am_lnk T x idx).1 = 8 → if (am_lnk T x idx).2.1 = 0 then Cond.fieldLink (am_own M x) idx "java/lang/String" "coder" "B" ∈ Ts else Cond.fieldLink (am_own M x) idx "java/lang/String" "value" "[B" ∈ Ts)
/-- arrays: those of numbers, and for each kind of reference array its class -/
def am_ok6 (T : am_T) (E : am_E) (tys : List (ClassId × FieldType)) (Ts : List Cond) : Prop :=
  am_Ar E tys 0 .int ∧ am_Ar E tys 1 .long ∧ am_Ar E tys 2 .byte ∧ am_Ar E tys 3 .boolean ∧ Cond.arrayClass .int ∈ Ts ∧ Cond.arrayClass .long ∈ Ts ∧ Cond.arrayClass .byte ∈ Ts ∧ Cond.arrayClass .boolean ∈ Ts ∧
  (∀ j, j < 2000 → am_ak T j ≠ 0 → ∃ ty, am_Ar E tys j ty ∧ (1000 ≤ j → ∃ C, ty = .object C)) ∧ (∀ ci, ci < 1000 → am_ak T (1000 + ci) = 1 → ci < 999 ∧ ∃ C F N, (am_cl E)[ci]? = some (C, F, N) ∧ am_Ar E tys (1000 + ci) (.object C)) ∧ (∀ ci, ci < 1000 → am_ak T (1000 + ci) = 2 → am_Ar E tys (1000 + ci) (.object "java/lang/String") ∧ Cond.initialized "java/lang/String" ∈ Ts)
def am_OK (T : am_T) (M : am_M) (E : am_E) (tys : List (ClassId × FieldType)) (Ts : List Cond) : Prop := am_ok1 T M ∧ am_ok2 T M E Ts ∧ am_ok3 T M E Ts ∧ am_ok4 T M E tys Ts ∧ am_ok5 T M Ts ∧ am_ok6 T E tys Ts ∧ am_ft E = am_tf T
theorem am_vin {i : Int32} {n : Nat} (h1 : 0 ≤ i.toInt) (h2 : i.toInt < n) : vp_in i n := vp_in_iff.mpr ⟨h1, h2⟩
section AmO
variable {p : Program} {l : Launch} {e : Env} {R : Room} {s : State} {m : MethodId} {args : Array Value} {below : List Frame} {meth : Method} {c : Code} {H : Heap} {locs : List Loc} {cells slots : Nat} {Q : State → Prop}
variable {pc : Nat} {ls : Array Slot} {E : am_E} {tys : List (ClassId × FieldType)} {σ : am_S} {Ts : List Cond} {T : am_T} {M : am_M}
theorem am_lkw_ok {own : String} {idx k : Nat} {F : u_T} (hts : ∀ w ∈ Ts, w.before args s = true) (hO : am_O E (am_tz T) s s.heap) (h : am_lkw (am_tz T) Ts own idx F k) : am_Lk s args own idx F k := by
  rcases h with h | ⟨host, h⟩
  · exact Or.inl (hts _ h)
  · exact Or.inr ⟨host, am_nw_use (hO.2.2.2.2.2.1 _ h).1 (hO.2.2.2.2.2.1 _ h).2⟩
set_option maxHeartbeats 4000000 in
theorem am_h_ok (hOK : am_OK T M E tys Ts) (hx : p.tables.exec = Jvm.exec) {x : Nat} (hb : c.code = am_cd M x) (hts : ∀ w ∈ Ts, w.before args s = true) (hown : s.vm.findClass (am_own M x) = some m.cls) (hnm : (am_nm M x).name = "<init>" → meth.name = "<init>") (hO : am_O E (am_tz T) s s.heap) (hw : am_W E tys s σ H locs cells)
    {i : Instr} {len nL pc' : Nat} {L L' : List (Option Value)} {st st' : List Value} {σ' : am_S} (hd : decode (am_cd M x) pc = .ok (i, len)) (hl : am_L (am_ad E) ls nL L) (h : am_h T x i len pc L st σ = some (pc', L', st', σ')) (hcells : cells + (am_nx σ' - am_nx σ) ≤ R.cells) (hslots : slots + (am_sl σ' - am_sl σ) ≤ R.slots)
    (k : ∀ (H1 : Heap) (locs1 : List Loc) (ls' : Array Slot), am_W E tys s σ' H1 locs1 (cells + (am_nx σ' - am_nx σ)) → am_L (am_ad E) ls' nL L' → W p l e R s m args below meth c H1 locs1 (cells + (am_nx σ' - am_nx σ)) (slots + (am_sl σ' - am_sl σ)) Q (F0 m pc' ls' (st'.map (am_tr (am_ad E))))) : W p l e R s m args below meth c H locs cells slots Q (F0 m pc ls (st.map (am_tr (am_ad E)))) := by
  obtain ⟨o1, o2, o3, o4, o5, o6, o7⟩ := hOK
  obtain ⟨a0, a1, a2, a3, b0, b1, b2, b3, aq, ac, as⟩ := o6
  have same : ∀ {τ : am_S}, am_nx τ = am_nx σ → am_sl τ = am_sl σ → σ' = τ → ∀ (H1 : Heap) (locs1 : List Loc) (ls' : Array Slot), am_W E tys s σ' H1 locs1 cells → am_L (am_ad E) ls' nL L' → W p l e R s m args below meth c H1 locs1 cells slots Q (F0 m pc' ls' (st'.map (am_tr (am_ad E)))) := by
    intro τ h1 h2 h3 H1 locs1 ls' q1 q2
    have e1 : cells + (am_nx σ' - am_nx σ) = cells := by rw [h3, h1]; omega
    have e2 : slots + (am_sl σ' - am_sl σ) = slots := by rw [h3, h2]; omega
    have := k H1 locs1 ls'
    rw [e1, e2] at this
    exact this q1 q2
  cases i with
  | getfield idx =>
    simp only [am_h] at h
    split at h
    · rename_i n r
      split at h
      · rename_i hc
        obtain ⟨hc1, hc2, hc3⟩ := hc
        cases h
        subst hc1
        obtain ⟨C, F, N, ty, g1, g2, g3, -⟩ := o2 x idx hc2
        refine am_getf hx hb hts hown g1 g2 (am_lkw_ok hts hO g3) hw hc3 hd ?_
        rw [o7]
        exact same rfl rfl rfl H locs ls hw hl
      · split at h
        · rename_i hc
          obtain ⟨hc1, hc2, hc3, hc4⟩ := hc
          cases h
          subst hc1
          have h8 := (o5 x idx).2.2.2.2 hc2
          refine am_sgf hx hb hw hO hown hc3 hc4 ?_ hd (same rfl rfl rfl H locs ls hw hl)
          split at h8
          · rename_i h9
            exact Or.inl ⟨by rw [if_pos h9], hts _ h8⟩
          · rename_i h9
            exact Or.inr ⟨by rw [if_neg h9], hts _ h8⟩
        · cases h
    · cases h
  | putfield idx =>
    simp only [am_h] at h
    split at h
    · rename_i v n r
      split at h
      · rename_i hc
        obtain ⟨hc1, hc2, hc3⟩ := hc
        split at h
        · rename_i σ1 hp
          cases h
          subst hc1
          obtain ⟨C, F, N, ty, g1, g2, g3, g4⟩ := o2 x idx (Or.inr hc2)
          obtain ⟨-, e2, e3, -⟩ := am_fput_ok hp
          refine am_putf hx hb hts hown g1 g2 (am_lkw_ok hts hO g3) hw hc3 (by rw [o7]; exact hp) ?_ hd (fun H1 locs1 q => same e2 e3 rfl H1 locs1 ls q hl)
          rcases g4 hc2 with z | ⟨z1, z2, z3, z4⟩
          · exact Or.inl z
          · exact Or.inr ⟨z1, hnm z2, z3, hts _ z4⟩
        · cases h
      · cases h
    · cases h
  | getstatic idx =>
    simp only [am_h] at h
    split at h
    · rename_i hc
      obtain ⟨hc1, hc2⟩ := hc
      cases h
      subst hc1
      obtain ⟨C, n, d, g1, g2⟩ := (o5 x idx).2.2.2.1 hc2
      refine am_gets hx hb hw hO hown g1 ?_ hd (same rfl rfl rfl H locs ls hw hl)
      rcases g2 with g2 | ⟨host, g2⟩
      · exact Or.inl (hts _ g2)
      · exact Or.inr ⟨host, am_nw_use (hO.2.2.2.2.2.1 _ g2).1 (hO.2.2.2.2.2.1 _ g2).2⟩
    · cases h
  | ldc idx =>
    simp only [am_h] at h
    split at h
    · rename_i hc
      obtain ⟨hc1, hc2⟩ := hc
      cases h
      subst hc1
      exact lv_ldc hx hb hown (hts _ ((o5 x idx).1 hc2)) hd (same rfl rfl rfl H locs ls hw hl)
    · split at h
      · rename_i hc
        obtain ⟨hc1, hc2⟩ := hc
        cases h
        subst hc1
        obtain ⟨tx, g1⟩ := (o5 x idx).2.1 hc2
        exact am_ldcs hx hb hO hown g1 hd (same rfl rfl rfl H locs ls hw hl)
      · cases h
  | ldc_w idx =>
    simp only [am_h] at h
    split at h
    · rename_i hc
      obtain ⟨hc1, hc2⟩ := hc
      cases h
      subst hc1
      exact lv_ldcw hx hb hown (hts _ ((o5 x idx).1 hc2)) hd (same rfl rfl rfl H locs ls hw hl)
    · split at h
      · rename_i hc
        obtain ⟨hc1, hc2⟩ := hc
        cases h
        subst hc1
        obtain ⟨tx, g1⟩ := (o5 x idx).2.1 hc2
        exact am_ldcsw hx hb hO hown g1 hd (same rfl rfl rfl H locs ls hw hl)
      · cases h
  | ldc2_w idx =>
    simp only [am_h] at h
    split at h
    · rename_i hc
      obtain ⟨hc1, hc2⟩ := hc
      cases h
      subst hc1
      exact lv_ldc2 hx hb hown (hts _ ((o5 x idx).2.2.1 hc2)) hd (same rfl rfl rfl H locs ls hw hl)
    · cases h
  | new idx =>
    simp only [am_h] at h
    split at h
    · rename_i hc
      obtain ⟨hc1, hc2⟩ := hc
      cases h
      subst hc1
      obtain ⟨C, F, N, ty, g1, g2, g3, g4, g5⟩ := o3 x idx hc2
      have e1 : cells + (am_nx (am_new σ ((am_lnk T x idx).2.1 + 1) 0 (am_tn T (am_lnk T x idx).2.1)) - am_nx σ) = cells + 1 := by show cells + (am_nx σ + 1 - am_nx σ) = _; omega
      have e2 : slots + (am_sl (am_new σ ((am_lnk T x idx).2.1 + 1) 0 (am_tn T (am_lnk T x idx).2.1)) - am_sl σ) = slots + N := by show slots + (am_sl σ + am_tn T (am_lnk T x idx).2.1 - am_sl σ) = _; omega
      rw [e1] at hcells k
      rw [e2] at hslots k
      rw [g2] at k
      exact am_newo hx hb hts hown g1 (hts _ g3) (hts _ g4) (hts _ g5) hw hcells hslots hd (fun H1 q => k H1 locs ls q hl)
    · cases h
  | newarray t =>
    simp only [am_h] at h
    split at h
    · rename_i n r
      split at h
      · rename_i hc
        obtain ⟨hc1, hc2, hc3, hc4⟩ := hc
        cases h
        subst hc1
        have e1 : cells + (am_nx (am_new σ (am_at t) n.toNatClampNeg n.toNatClampNeg) - am_nx σ) = cells + 1 := by show cells + (am_nx σ + 1 - am_nx σ) = _; omega
        have e2 : slots + (am_sl (am_new σ (am_at t) n.toNatClampNeg n.toNatClampNeg) - am_sl σ) = slots + n.toNatClampNeg := by show slots + (am_sl σ + n.toNatClampNeg - am_sl σ) = _; omega
        rw [e1] at hcells k
        rw [e2] at hslots k
        cases t with
        | int => exact am_newi (atype := .int) (ty := .int) (k := 1000) hx hb rfl (Or.inl ⟨rfl, rfl⟩) (hts _ b0) a0 hw hc3 (by show n.toNatClampNeg * 4 ≤ 536870912; omega) hcells hslots hd (fun H1 q => k H1 locs ls q hl)
        | long => exact am_newl hx hb (hts _ b1) a1 hw hc3 (by show n.toNatClampNeg * 8 ≤ 536870912; omega) hcells hslots hd (fun H1 q => k H1 locs ls q hl)
        | byte => exact am_newi (atype := .byte) (ty := .byte) (k := 1002) hx hb rfl (Or.inr (Or.inl ⟨rfl, rfl⟩)) (hts _ b2) a2 hw hc3 (by show n.toNatClampNeg * 1 ≤ 536870912; omega) hcells hslots hd (fun H1 q => k H1 locs ls q hl)
        | boolean => exact am_newi (atype := .boolean) (ty := .boolean) (k := 1003) hx hb rfl (Or.inr (Or.inr ⟨rfl, rfl⟩)) (hts _ b3) a3 hw hc3 (by show n.toNatClampNeg * 1 ≤ 536870912; omega) hcells hslots hd (fun H1 q => k H1 locs ls q hl)
        | _ => exact absurd rfl hc2
      · cases h
    · cases h
  | anewarray idx =>
    simp only [am_h] at h
    split at h
    · rename_i n r
      split at h
      · rename_i hc
        obtain ⟨hc1, hc2, hc3, hc4⟩ := hc
        cases h
        subst hc1
        obtain ⟨C, g1, g2, g3⟩ := o4 x idx hc2
        have e1 : cells + (am_nx (am_new σ (2000 + (am_lnk T x (100000 + idx)).2.1) n.toNatClampNeg n.toNatClampNeg) - am_nx σ) = cells + 1 := by show cells + (am_nx σ + 1 - am_nx σ) = _; omega
        have e2 : slots + (am_sl (am_new σ (2000 + (am_lnk T x (100000 + idx)).2.1) n.toNatClampNeg n.toNatClampNeg) - am_sl σ) = slots + n.toNatClampNeg := by show slots + (am_sl σ + n.toNatClampNeg - am_sl σ) = _; omega
        rw [e1] at hcells k
        rw [e2] at hslots k
        exact am_newq hx hb hown (hts _ g1) (hO.2.2.2.2.2.2 _ g2) g3 hw hc3 (by omega) hcells hslots hd (fun H1 q => k H1 locs ls q hl)
      · cases h
    · cases h
  | arraylength =>
    simp only [am_h] at h
    split at h
    · rename_i n r
      split at h
      · rename_i hc
        obtain ⟨hc1, hc2, hc3⟩ := hc
        cases h
        subst hc1
        obtain ⟨z1, z2⟩ := am_aq_ok rfl hc3
        obtain ⟨ty, g1, -⟩ := aq ((am_kd σ n).1 - 1000) (by omega) (by rw [z2]; exact hc3)
        exact am_alen hx hb hw g1 rfl hc2 hd (same rfl rfl rfl H locs ls hw hl)
      · split at h
        · rename_i hc
          obtain ⟨hc1, hc2, hc3⟩ := hc
          cases h
          subst hc1
          exact am_rdlen hx hb hw hO hc2 hc3 hd (same rfl rfl rfl H locs ls hw hl)
        · cases h
    · cases h
  | iaload =>
    simp only [am_h] at h
    split at h
    · rename_i i n r
      split at h
      · rename_i hc
        obtain ⟨hc1, hc2, hc3, hc4⟩ := hc
        cases h
        subst hc1
        exact am_iald hx hb hw a0 (len := (am_kd σ n).2) (by rw [← hc2]) (am_vin hc3 hc4) hd (same rfl rfl rfl H locs ls hw hl)
      · split at h
        · rename_i hc
          obtain ⟨hc1, hc2, hc3, hc4, hc5⟩ := hc
          cases h
          subst hc1
          exact am_rdi hx hb hw hO hc2 hc3 (am_vin hc4 hc5) hd (same rfl rfl rfl H locs ls hw hl)
        · cases h
    · cases h
  | baload =>
    simp only [am_h] at h
    split at h
    · rename_i i n r
      split at h
      · rename_i hc
        obtain ⟨hc1, hc2, hc3, hc4⟩ := hc
        cases h
        subst hc1
        exact am_bald hx hb hw a2 a3 (k := (am_kd σ n).1) (len := (am_kd σ n).2) rfl hc2 (am_vin hc3 hc4) hd (same rfl rfl rfl H locs ls hw hl)
      · split at h
        · rename_i hc
          obtain ⟨hc1, hc2, hc3, hc4, hc5⟩ := hc
          cases h
          subst hc1
          exact am_rdb hx hb hw hO hc2 hc3 (am_vin hc4 hc5) hd (same rfl rfl rfl H locs ls hw hl)
        · cases h
    · cases h
  | laload =>
    simp only [am_h] at h
    split at h
    · rename_i i n r
      split at h
      · rename_i hc
        obtain ⟨hc1, hc2, hc3, hc4⟩ := hc
        cases h
        subst hc1
        exact am_lald hx hb hw a1 (len := (am_kd σ n).2) (by rw [← hc2]) (am_vin hc3 hc4) hd (same rfl rfl rfl H locs ls hw hl)
      · cases h
    · cases h
  | aaload =>
    simp only [am_h] at h
    split at h
    · rename_i i n r
      split at h
      · rename_i hc
        obtain ⟨hc1, hc2, hc3, hc4, hc5⟩ := hc
        cases h
        subst hc1
        obtain ⟨z1, z2⟩ := am_aq_ok rfl hc3
        obtain ⟨ty, g1, g2⟩ := aq ((am_kd σ n).1 - 1000) (by omega) (by rw [z2]; exact hc3)
        obtain ⟨C, g3⟩ := g2 (by omega)
        subst g3
        exact am_aald hx hb hw (ci := (am_kd σ n).1 - 2000) (len := (am_kd σ n).2) (by rw [show 1000 + ((am_kd σ n).1 - 2000) = (am_kd σ n).1 - 1000 by omega]; exact g1) (by rw [show 2000 + ((am_kd σ n).1 - 2000) = (am_kd σ n).1 by omega]) (am_vin hc4 hc5) hd (same rfl rfl rfl H locs ls hw hl)
      · cases h
    · cases h
  | iastore =>
    simp only [am_h] at h
    split at h
    · rename_i y i n r
      split at h
      · rename_i hc
        obtain ⟨hc1, hc2, hc3, hc4⟩ := hc
        cases h
        subst hc1
        exact am_iast hx hb hw a0 (len := (am_kd σ n).2) (by rw [← hc2]) (am_vin hc3 hc4) hd (fun H1 locs1 q => same (τ := am_saI σ n i.toNatClampNeg y) rfl rfl rfl H1 locs1 ls q hl)
      · cases h
    · cases h
  | lastore =>
    simp only [am_h] at h
    split at h
    · rename_i y i n r
      split at h
      · rename_i hc
        obtain ⟨hc1, hc2, hc3, hc4⟩ := hc
        cases h
        subst hc1
        exact am_last hx hb hw a1 (len := (am_kd σ n).2) (by rw [← hc2]) (am_vin hc3 hc4) hd (fun H1 locs1 q => same (τ := am_saL σ n i.toNatClampNeg y) rfl rfl rfl H1 locs1 ls q hl)
      · cases h
    · cases h
  | bastore =>
    simp only [am_h] at h
    split at h
    · rename_i y i n r
      split at h
      · rename_i hc
        obtain ⟨hc1, hc2, hc3, hc4⟩ := hc
        cases h
        subst hc1
        exact am_bast hx hb hw a2 (len := (am_kd σ n).2) (by rw [← hc2]) (am_vin hc3 hc4) hd (fun H1 locs1 q => same (τ := am_saI σ n i.toNatClampNeg (vp_nar .byte y)) rfl rfl rfl H1 locs1 ls q hl)
      · split at h
        · rename_i hc
          obtain ⟨hc1, hc2, hc3, hc4⟩ := hc
          cases h
          subst hc1
          exact am_zast hx hb hw a3 (len := (am_kd σ n).2) (by rw [← hc2]) (am_vin hc3 hc4) hd (fun H1 locs1 q => same (τ := am_saI σ n i.toNatClampNeg (vp_nar .boolean y)) rfl rfl rfl H1 locs1 ls q hl)
        · cases h
    · cases h
  | aastore =>
    simp only [am_h] at h
    split at h
    · rename_i i n r
      split at h
      · rename_i hc
        obtain ⟨hc1, hc2, hc3, hc4, hc5⟩ := hc
        cases h
        subst hc1
        obtain ⟨z1, z2⟩ := am_aq_ok rfl hc3
        obtain ⟨ty, g1, g2⟩ := aq ((am_kd σ n).1 - 1000) (by omega) (by rw [z2]; exact hc3)
        obtain ⟨C, g3⟩ := g2 (by omega)
        subst g3
        exact am_aastN hx hb hw (ci := (am_kd σ n).1 - 2000) (len := (am_kd σ n).2) (by rw [show 1000 + ((am_kd σ n).1 - 2000) = (am_kd σ n).1 - 1000 by omega]; exact g1) (by rw [show 2000 + ((am_kd σ n).1 - 2000) = (am_kd σ n).1 by omega]) (am_vin hc4 hc5) hd (fun H1 locs1 q => same (τ := am_saR σ n i.toNatClampNeg none) rfl rfl rfl H1 locs1 ls q hl)
      · cases h
    · rename_i v i n r
      split at h
      · rename_i hc
        obtain ⟨hc1, hc2, hc3, hc4, hc5, hc6⟩ := hc
        cases h
        subst hc1
        obtain ⟨z1, z2⟩ := am_aq_ok hc3 (by omega)
        have hc3' : am_ak T (1000 + ((am_kd σ n).1 - 2000)) = 1 := by rw [show 1000 + ((am_kd σ n).1 - 2000) = (am_kd σ n).1 - 1000 by omega]; exact z2
        obtain ⟨g0, C, F, N, g1, g2⟩ := ac ((am_kd σ n).1 - 2000) (by omega) hc3'
        exact am_aast hx hb hw (ci := (am_kd σ n).1 - 2000) (len := (am_kd σ n).2) g0 g1 g2 (by rw [show 2000 + ((am_kd σ n).1 - 2000) = (am_kd σ n).1 by omega]) (am_vin hc5 hc6) hc4 hd (fun H1 locs1 q => same (τ := am_saR σ n i.toNatClampNeg (some v)) rfl rfl rfl H1 locs1 ls q hl)
      · split at h
        · rename_i hc
          obtain ⟨hc1, hc2, hc3, hc4, hc5, hc6, hc7⟩ := hc
          cases h
          subst hc1
          obtain ⟨z1, z2⟩ := am_aq_ok hc3 (by omega)
          have hc3' : am_ak T (1000 + ((am_kd σ n).1 - 2000)) = 2 := by rw [show 1000 + ((am_kd σ n).1 - 2000) = (am_kd σ n).1 - 1000 by omega]; exact z2
          obtain ⟨g1, g2⟩ := as ((am_kd σ n).1 - 2000) (by omega) hc3'
          exact am_aastS hx hb hw hO (ci := (am_kd σ n).1 - 2000) (len := (am_kd σ n).2) g1 (by rw [show 2000 + ((am_kd σ n).1 - 2000) = (am_kd σ n).1 by omega]) (am_vin hc6 hc7) hc4 hc5 (hts _ g2) hd (fun H1 locs1 q => same (τ := am_saR σ n i.toNatClampNeg (some v)) rfl rfl rfl H1 locs1 ls q hl)
        · cases h
    · cases h
  | _ =>
    simp only [am_h] at h
    split at h
    · rename_i pc1 L1 st1 hp
      cases h
      exact am_p_ok hx hb (am_ad_inj E) hd hl hp (fun ls' hl' => same rfl rfl rfl H locs ls' hw hl')
    · cases h
end AmO
