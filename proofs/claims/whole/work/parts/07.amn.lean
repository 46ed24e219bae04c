/-! new cells; what is only read: texts (numbers below 200; their bytes 200 more), static rows, the script -/
/-- kinds, lengths, contents of what is only read; statics (class, name, descriptor, value); text constants (class, place in its pool, text, number); words on nest mates; classes that arrays are made of -/
abbrev am_Z : Type := (Nat → Nat) × (Nat → Nat) × (Nat → Nat → Int32) × List (String × String × String × Value) × List (String × Nat × String × Nat) × List Cond × List String
abbrev am_rk (Z : am_Z) : Nat → Nat := Z.1
abbrev am_rl (Z : am_Z) : Nat → Nat := Z.2.1
abbrev am_rv (Z : am_Z) : Nat → Nat → Int32 := Z.2.2.1
abbrev am_zs (Z : am_Z) : List (String × String × String × Value) := Z.2.2.2.1
abbrev am_zt (Z : am_Z) : List (String × Nat × String × Nat) := Z.2.2.2.2.1
abbrev am_zn (Z : am_Z) : List Cond := Z.2.2.2.2.2.1
abbrev am_zo (Z : am_Z) : List String := Z.2.2.2.2.2.2
def am_nw (w : Cond) : Bool := match w with
  | .fieldLinkNest _ _ _ _ _ _ => true
  | .methodLinkNest _ _ _ _ => true
  | _ => false
theorem am_nw_warm {w : Cond} (h : am_nw w = true) {s U : State} (hW : s.WarmedH U.vm) (hZ : va_Nw w s) : va_Nw w U := by
  cases w <;> first
    | (cases h; done)
    | exact va_Nw.warmF hW hZ
    | exact va_Nw.warmM hW hZ
theorem am_nw_use {w : Cond} (h : am_nw w = true) {A : Array Value} {s : State} (hZ : va_Nw w s) : w.before A s = true := by
  cases w <;> first
    | (cases h; done)
    | exact va_Nw.use rfl hZ
def am_O (E : am_E) (Z : am_Z) (s : State) (H : Heap) : Prop :=
  (∀ n, n < 1000 → am_rk Z n = 1000 → va_T .int (am_ro E n) (am_rl Z n) (fun j => .int (am_rv Z n j)) (am_A E) s H) ∧
  (∀ n, n < 1000 → am_rk Z n = 1002 → va_T .byte (am_ro E n) (am_rl Z n) (fun j => .int (am_rv Z n j)) (am_A E) s H) ∧
  (∀ n, n < 200 → am_rk Z n = 1 → va_O "java/lang/String" (am_ro E n) (am_A E) s H ∧ va_OF "java/lang/String" "coder" "B" (.int 0) (am_ro E n) (am_A E) s H ∧ va_OF "java/lang/String" "value" "[B" (.ref (am_ro E (n + 200))) (am_ro E n) (am_A E) s H) ∧
  (∀ q ∈ am_zs Z, va_Z q.1 q.2.1 q.2.2.1 (am_tr (am_ad E) q.2.2.2) (am_A E) s H) ∧
  (∀ q ∈ am_zt Z, q.2.2.2 < 1000 ∧ vk_R q.1 q.2.1 q.2.2.1 (am_ro E q.2.2.2) s) ∧ (∀ w ∈ am_zn Z, am_nw w = true ∧ va_Nw w s) ∧ ∀ C ∈ am_zo Z, va_AO C s
theorem am_O.on {E : am_E} {Z : am_Z} {s U : State} {H : Heap} (h : am_O E Z s s.heap) (hW : s.WarmedH U.vm) (hq : ∀ a : Nat, a < s.heap.size → ¬ am_A E a → H[a]? = s.heap[a]?) : am_O E Z U H :=
  ⟨fun n h1 h2 => ((h.1 n h1 h2).moved hW.alike).kept hq, fun n h1 h2 => ((h.2.1 n h1 h2).moved hW.alike).kept hq,
   fun n h1 h2 => ⟨((h.2.2.1 n h1 h2).1.moved hW.alike).kept hq, ((h.2.2.1 n h1 h2).2.1.moved hW.alike).kept hq, ((h.2.2.1 n h1 h2).2.2.moved hW.alike).kept hq⟩,
   fun q h1 => ((h.2.2.2.1 q h1).moved hW.alike).kept hq, fun q h1 => ⟨(h.2.2.2.2.1 q h1).1, (h.2.2.2.2.1 q h1).2.warm hW⟩, fun w h1 => ⟨(h.2.2.2.2.2.1 w h1).1, am_nw_warm (h.2.2.2.2.2.1 w h1).1 hW (h.2.2.2.2.2.1 w h1).2⟩, fun C h1 => (h.2.2.2.2.2.2 C h1).moved hW.alike⟩
theorem am_ad_lo (E : am_E) {n : Nat} (h : n < 1000) : am_ad E n = am_ro E n := by unfold am_ad; rw [if_pos h]
section AmN
variable {p : Program} {l : Launch} {e : Env} {R : Room} {s : State} {m : MethodId} {args : Array Value} {below : List Frame} {meth : Method} {c : Code} {H : Heap} {locs : List Loc} {cells slots : Nat} {Q : State → Prop}
variable {cc : ByteArray} {pc : Nat} {ls : Array Slot} {E : am_E} {tys : List (ClassId × FieldType)} {σ : am_S} {Ts : List Cond} {Z : am_Z}
set_option maxHeartbeats 1000000 in
theorem am_newo (hx : p.tables.exec = Jvm.exec) (hb : c.code = cc) (hts : ∀ w ∈ Ts, w.before args s = true) {own C : String} {T : u_T} {N ci idx : Nat} {ty : Nat → FieldType} (hown : s.vm.findClass own = some m.cls) (hC : am_Cls E Ts ci C T N ty) (hcl : (Cond.classLink own idx C).before args s = true) (hinst : (Cond.instantiable C N).before args s = true) (hini : (Cond.initialized C).before args s = true) (hw : am_W E tys s σ H locs cells)
    (hcells : cells + 1 ≤ R.cells) (hslots : slots + N ≤ R.slots) {r : List Value} (hd : decode cc pc = .ok (.new idx, 3)) (kk : ∀ H1 : Heap, am_W E tys s (am_new σ (ci + 1) 0 N) H1 locs (cells + 1) → W p l e R s m args below meth c H1 locs (cells + 1) (slots + N) Q (F0 m (pc + 3) ls ((.ref (am_nx σ) :: r).map (am_tr (am_ad E))))) : W p l e R s m args below meth c H locs cells slots Q (F0 m pc ls (r.map (am_tr (am_ad E)))) := by
  obtain ⟨c1, c2, c3, c4, c5, c6⟩ := hC
  have hN : am_nf (am_cl E) ci = N := by unfold am_nf; rw [c2]
  have hent : am_ent E (am_new σ (ci + 1) 0 N) (am_nx σ) = .inr (ci, am_fs E (am_new σ (ci + 1) 0 N) ci (am_nx σ)) := am_ent_o (by rw [am_new_kd]) c1
  refine va_new hx hb hts c3 ty c4 hown hcl hinst hini hw.1 hw.2.1.2.2 (am_pool_D E σ) hw.2.2.1 hw.A c2 (fs := am_fs E (am_new σ (ci + 1) 0 N) ci (am_nx σ)) (fun j hj => ?_) hcells hslots hd (fun q H1 q1 q2 q3 => am_born hw hent kk q H1 q1 q2 q3)
  unfold vp_V
  rw [List.getD_eq_getElem?_getD, am_fs_get E _ (by rw [hN]; exact hj)]
  obtain ⟨d1, d2⟩ := c6 j hj
  have hz := hw.2.1.1.2.2 (am_nx σ) (Nat.le_refl _) (1000 * ci + j)
  show defaultValue (ty j) = am_tr (am_ad E) (am_av (am_ft E) (am_new σ (ci + 1) 0 N) ci j (am_nx σ))
  unfold am_av
  rw [d1]
  cases hq : ty j <;> rw [hq] at d2 <;> simp only [am_tc] at d2 ⊢ <;> first
    | (exfalso; omega)
    | (show _ = am_tr _ (am_ov (am_fR σ _ _)); rw [hz.2.2.1]; rfl)
    | (show _ = am_tr _ (.long (am_fL σ _ _)); rw [hz.2.1]; rfl)
    | (show _ = am_tr _ (.int (am_fI σ _ _)); rw [hz.1]; rfl)
theorem am_arr_same {ty : FieldType} {j : Nat} {cA : ClassId} (ha : am_Ar E tys j ty) (hK : va_K (am_D E) (am_cl E) tys s) (hK1 : va_K (am_D E) (am_cl E) (tys ++ [(cA, ty)]) s) : cA = am_aC E j := by
  obtain ⟨t0, ht⟩ := ha
  have h1 := (hK.2 t0 _ ht).2
  have h2 := (hK1.2 tys.length (cA, ty) (by rw [List.getElem?_append_right (Nat.le_refl _), Nat.sub_self]; rfl)).2
  cases ty with
  | object C =>
    obtain ⟨-, -, -, -, -, e1⟩ := h1
    obtain ⟨-, -, -, -, -, e2⟩ := h2
    exact Option.some.inj (e2.symm.trans e1)
  | _ => exact Option.some.inj (Eq.trans (Eq.symm (show s.vm.findClass _ = some cA from h2)) h1)
set_option maxHeartbeats 1000000 in
theorem am_newi (hx : p.tables.exec = Jvm.exec) (hb : c.code = cc) {atype : ArrayType} {ty : FieldType} {k : Nat} (hty : newarray.typeOf atype = ty) (hk : (k = 1000 ∧ ty = .int) ∨ (k = 1002 ∧ ty = .byte) ∨ (k = 1003 ∧ ty = .boolean)) (harr : (Cond.arrayClass (newarray.typeOf atype)).before args s = true) (ha : am_Ar E tys (k - 1000) ty) (hw : am_W E tys s σ H locs cells)
    {n : Int32} (hn : ¬ n < 0) (hbytes : n.toNatClampNeg * componentBytes ty ≤ 536870912) (hcells : cells + 1 ≤ R.cells) (hslots : slots + n.toNatClampNeg ≤ R.slots) {r : List Value} (hd : decode cc pc = .ok (.newarray atype, 2))
    (kk : ∀ H1 : Heap, am_W E tys s (am_new σ k n.toNatClampNeg n.toNatClampNeg) H1 locs (cells + 1) → W p l e R s m args below meth c H1 locs (cells + 1) (slots + n.toNatClampNeg) Q (F0 m (pc + 2) ls ((.ref (am_nx σ) :: r).map (am_tr (am_ad E))))) : W p l e R s m args below meth c H locs cells slots Q (F0 m pc ls ((.int n :: r).map (am_tr (am_ad E)))) := by
  refine va_newa hx hb harr hty hw.1 hw.2.1.2.2 (am_pool_D E σ) hw.2.2.1 hw.A (a0 := (n.toNatClampNeg, .inl (fun _ => 0))) (fun cA => ?_) hn rfl hbytes hcells hslots hd (fun q cA H1 q0 q1 q2 q3 => ?_)
  · rcases hk with ⟨-, h⟩ | ⟨-, h⟩ | ⟨-, h⟩ <;> subst h <;> rfl
  · have hc := am_arr_same ha hw.1 q0
    subst hc
    refine am_born hw ?_ kk q H1 q1 q2 q3
    rw [am_ent_i (am_new_kd _ _ _) (by omega) (by omega) (by omega)]
    exact congrArg (fun f => (Sum.inl (am_aC E (k - 1000), n.toNatClampNeg, Sum.inl f) : va_E)) (funext fun j => (hw.2.1.1.2.2 (am_nx σ) (Nat.le_refl _) j).2.2.2.1)
set_option maxHeartbeats 1000000 in
theorem am_newl (hx : p.tables.exec = Jvm.exec) (hb : c.code = cc) (harr : (Cond.arrayClass .long).before args s = true) (ha : am_Ar E tys 1 .long) (hw : am_W E tys s σ H locs cells)
    {n : Int32} (hn : ¬ n < 0) (hbytes : n.toNatClampNeg * componentBytes .long ≤ 536870912) (hcells : cells + 1 ≤ R.cells) (hslots : slots + n.toNatClampNeg ≤ R.slots) {r : List Value} (hd : decode cc pc = .ok (.newarray .long, 2))
    (kk : ∀ H1 : Heap, am_W E tys s (am_new σ 1001 n.toNatClampNeg n.toNatClampNeg) H1 locs (cells + 1) → W p l e R s m args below meth c H1 locs (cells + 1) (slots + n.toNatClampNeg) Q (F0 m (pc + 2) ls ((.ref (am_nx σ) :: r).map (am_tr (am_ad E))))) : W p l e R s m args below meth c H locs cells slots Q (F0 m pc ls ((.int n :: r).map (am_tr (am_ad E)))) := by
  refine va_newa (atype := .long) (ty := .long) hx hb harr rfl hw.1 hw.2.1.2.2 (am_pool_D E σ) hw.2.2.1 hw.A (a0 := (n.toNatClampNeg, .inr (.inl (fun _ => 0)))) (fun cA => rfl) hn rfl hbytes hcells hslots hd (fun q cA H1 q0 q1 q2 q3 => ?_)
  have hc := am_arr_same ha hw.1 q0
  subst hc
  refine am_born hw ?_ kk q H1 q1 q2 q3
  rw [am_ent_l (am_new_kd _ _ _)]
  exact congrArg (fun f => (Sum.inl (am_aC E 1, n.toNatClampNeg, Sum.inr (Sum.inl f)) : va_E)) (funext fun j => (hw.2.1.1.2.2 (am_nx σ) (Nat.le_refl _) j).2.2.2.2.1)
set_option maxHeartbeats 1000000 in
theorem am_newq (hx : p.tables.exec = Jvm.exec) (hb : c.code = cc) {own C : String} {idx ci : Nat} (hown : s.vm.findClass own = some m.cls) (hcl : (Cond.classLink own idx C).before args s = true) (hover : va_AO C s) (ha : am_Ar E tys (1000 + ci) (.object C)) (hw : am_W E tys s σ H locs cells)
    {n : Int32} (hn : ¬ n < 0) (hbytes : n.toNatClampNeg * 4 ≤ 536870912) (hcells : cells + 1 ≤ R.cells) (hslots : slots + n.toNatClampNeg ≤ R.slots) {r : List Value} (hd : decode cc pc = .ok (.anewarray idx, 3))
    (kk : ∀ H1 : Heap, am_W E tys s (am_new σ (2000 + ci) n.toNatClampNeg n.toNatClampNeg) H1 locs (cells + 1) → W p l e R s m args below meth c H1 locs (cells + 1) (slots + n.toNatClampNeg) Q (F0 m (pc + 3) ls ((.ref (am_nx σ) :: r).map (am_tr (am_ad E))))) : W p l e R s m args below meth c H locs cells slots Q (F0 m pc ls ((.int n :: r).map (am_tr (am_ad E)))) := by
  refine va_newq hx hb hown hcl hover hw.1 hw.2.1.2.2 (am_pool_D E σ) hw.2.2.1 hw.A hn rfl hbytes hcells hslots hd (fun q cA H1 q0 q1 q2 q3 => ?_)
  have hc := am_arr_same ha hw.1 q0
  subst hc
  refine am_born hw ?_ kk q H1 q1 q2 q3
  rw [am_ent_q (am_new_kd _ _ _) (by omega), show 2000 + ci - 1000 = 1000 + ci by omega]
  refine congrArg (fun f => (Sum.inl (am_aC E (1000 + ci), n.toNatClampNeg, Sum.inr (Sum.inr (Sum.inr (Sum.inr f)))) : va_E)) (funext fun j => ?_)
  show Option.map (am_ad E) (am_aR σ (am_nx σ) j) = none
  rw [(hw.2.1.1.2.2 (am_nx σ) (Nat.le_refl _) j).2.2.2.2.2]
  rfl
theorem am_rdi (hx : p.tables.exec = Jvm.exec) (hb : c.code = cc) (hw : am_W E tys s σ H locs cells) (hO : am_O E Z s s.heap) {n : Nat} {i : Int32} {r : List Value} (hn : n < 1000) (hk : am_rk Z n = 1000) (hin : vp_in i (am_rl Z n)) (hd : decode cc pc = .ok (.iaload, 1))
    (kk : W p l e R s m args below meth c H locs cells slots Q (F0 m (pc + 1) ls ((.int (am_rv Z n i.toNatClampNeg) :: r).map (am_tr (am_ad E))))) : W p l e R s m args below meth c H locs cells slots Q (F0 m pc ls ((.int i :: .ref n :: r).map (am_tr (am_ad E)))) := by
  show W p l e R s m args below meth c H locs cells slots Q (F0 m pc ls (.int i :: .ref (am_ad E n) :: r.map (am_tr (am_ad E))))
  rw [am_ad_lo E hn]
  exact va_ti hx hb (hO.1 n hn hk) hw.2.2.1 hin rfl hd kk
theorem am_rdb (hx : p.tables.exec = Jvm.exec) (hb : c.code = cc) (hw : am_W E tys s σ H locs cells) (hO : am_O E Z s s.heap) {n : Nat} {i : Int32} {r : List Value} (hn : n < 1000) (hk : am_rk Z n = 1002) (hin : vp_in i (am_rl Z n)) (hd : decode cc pc = .ok (.baload, 1))
    (kk : W p l e R s m args below meth c H locs cells slots Q (F0 m (pc + 1) ls ((.int (am_rv Z n i.toNatClampNeg) :: r).map (am_tr (am_ad E))))) : W p l e R s m args below meth c H locs cells slots Q (F0 m pc ls ((.int i :: .ref n :: r).map (am_tr (am_ad E)))) := by
  show W p l e R s m args below meth c H locs cells slots Q (F0 m pc ls (.int i :: .ref (am_ad E n) :: r.map (am_tr (am_ad E))))
  rw [am_ad_lo E hn]
  exact va_tb hx hb (hO.2.1 n hn hk) hw.2.2.1 hin rfl hd kk
theorem am_rdlen (hx : p.tables.exec = Jvm.exec) (hb : c.code = cc) (hw : am_W E tys s σ H locs cells) (hO : am_O E Z s s.heap) {n : Nat} {r : List Value} (hn : n < 1000) (hk : am_rk Z n = 1000 ∨ am_rk Z n = 1002) (hd : decode cc pc = .ok (.arraylength, 1))
    (kk : W p l e R s m args below meth c H locs cells slots Q (F0 m (pc + 1) ls ((.int (Int32.ofNat (am_rl Z n)) :: r).map (am_tr (am_ad E))))) : W p l e R s m args below meth c H locs cells slots Q (F0 m pc ls ((.ref n :: r).map (am_tr (am_ad E)))) := by
  show W p l e R s m args below meth c H locs cells slots Q (F0 m pc ls (.ref (am_ad E n) :: r.map (am_tr (am_ad E))))
  rw [am_ad_lo E hn]
  rcases hk with hk | hk
  · exact va_tlen hx hb (hO.1 n hn hk) hw.2.2.1 rfl hd kk
  · exact va_tlen hx hb (hO.2.1 n hn hk) hw.2.2.1 rfl hd kk
/-- the two fields of a text that is only read -/
theorem am_sgf (hx : p.tables.exec = Jvm.exec) (hb : c.code = cc) (hw : am_W E tys s σ H locs cells) (hO : am_O E Z s s.heap) {own : String} {n idx : Nat} {v : Value} {r : List Value} (hown : s.vm.findClass own = some m.cls) (hn : n < 200) (hk : am_rk Z n = 1)
    (hf : (v = .int 0 ∧ (Cond.fieldLink own idx "java/lang/String" "coder" "B").before args s = true) ∨ (v = .ref (n + 200) ∧ (Cond.fieldLink own idx "java/lang/String" "value" "[B").before args s = true)) (hd : decode cc pc = .ok (.getfield idx, 3))
    (kk : W p l e R s m args below meth c H locs cells slots Q (F0 m (pc + 3) ls ((v :: r).map (am_tr (am_ad E))))) : W p l e R s m args below meth c H locs cells slots Q (F0 m pc ls ((.ref n :: r).map (am_tr (am_ad E)))) := by
  show W p l e R s m args below meth c H locs cells slots Q (F0 m pc ls (.ref (am_ad E n) :: r.map (am_tr (am_ad E))))
  rw [am_ad_lo E (by omega)]
  obtain ⟨-, h1, h2⟩ := hO.2.2.1 n hn hk
  rcases hf with ⟨hv, hl⟩ | ⟨hv, hl⟩
  · subst hv
    exact vk_getf hx hb h1 hw.2.2.1 hown hl (fun _ h9 => h9) hd kk
  · subst hv
    refine vk_getf hx hb h2 hw.2.2.1 hown hl (fun _ h9 => h9) hd ?_
    have : am_tr (am_ad E) (.ref (n + 200)) = .ref (am_ro E (n + 200)) := by show Value.ref (am_ad E (n + 200)) = _; rw [am_ad_lo E (by omega)]
    rw [← this]
    exact kk
theorem am_gets (hx : p.tables.exec = Jvm.exec) (hb : c.code = cc) (hw : am_W E tys s σ H locs cells) (hO : am_O E Z s s.heap) {own C n d : String} {idx : Nat} {v : Value} {r : List Value} (hown : s.vm.findClass own = some m.cls) (hz : (C, n, d, v) ∈ am_zs Z) (hl : (Cond.fieldLink own idx C n d).before args s = true ∨ ∃ host, (Cond.fieldLinkNest own idx C n d host).before args s = true) (hd : decode cc pc = .ok (.getstatic idx, 3))
    (kk : W p l e R s m args below meth c H locs cells slots Q (F0 m (pc + 3) ls ((v :: r).map (am_tr (am_ad E))))) : W p l e R s m args below meth c H locs cells slots Q (F0 m pc ls (r.map (am_tr (am_ad E)))) := by
  rcases hl with hl | ⟨host, hl⟩
  · exact va_gets hx hb (hO.2.2.2.1 _ hz) hw.2.2.1 hown hl (fun _ h9 => h9) hd kk
  · exact va_getsN hx hb (hO.2.2.2.1 _ hz) hw.2.2.1 hown hl (fun _ h9 => h9) hd kk
theorem am_ldcs (hx : p.tables.exec = Jvm.exec) (hb : c.code = cc) (hO : am_O E Z s s.heap) {own tx : String} {idx n : Nat} {r : List Value} (hown : s.vm.findClass own = some m.cls) (hz : (own, idx, tx, n) ∈ am_zt Z) (hd : decode cc pc = .ok (.ldc idx, 2))
    (kk : W p l e R s m args below meth c H locs cells slots Q (F0 m (pc + 2) ls ((.ref n :: r).map (am_tr (am_ad E))))) : W p l e R s m args below meth c H locs cells slots Q (F0 m pc ls (r.map (am_tr (am_ad E)))) := by
  obtain ⟨h1, h2⟩ := hO.2.2.2.2.1 _ hz
  refine va_ldcS hx hb hown h2 hd ?_
  have : am_tr (am_ad E) (.ref n) = .ref (am_ro E n) := by show Value.ref (am_ad E n) = _; rw [am_ad_lo E h1]
  show W p l e R s m args below meth c H locs cells slots Q (F0 m (pc + 2) ls (.ref (am_ro E n) :: r.map (am_tr (am_ad E))))
  rw [← this]
  exact kk
theorem am_ldcsw (hx : p.tables.exec = Jvm.exec) (hb : c.code = cc) (hO : am_O E Z s s.heap) {own tx : String} {idx n : Nat} {r : List Value} (hown : s.vm.findClass own = some m.cls) (hz : (own, idx, tx, n) ∈ am_zt Z) (hd : decode cc pc = .ok (.ldc_w idx, 3))
    (kk : W p l e R s m args below meth c H locs cells slots Q (F0 m (pc + 3) ls ((.ref n :: r).map (am_tr (am_ad E))))) : W p l e R s m args below meth c H locs cells slots Q (F0 m pc ls (r.map (am_tr (am_ad E)))) := by
  obtain ⟨h1, h2⟩ := hO.2.2.2.2.1 _ hz
  have ht : am_tr (am_ad E) (.ref n) = .ref (am_ro E n) := by show Value.ref (am_ad E n) = _; rw [am_ad_lo E h1]
  intro T hT X
  obtain ⟨t, a1, b1⟩ := kk T hT X
  refine ⟨t, ?_, b1⟩
  obtain ⟨k, cf, i, a', hk, hcf, hcp, -, hr, hev'⟩ := Cond.stringRef_spec hown h2.1
  cases h2.2.symm.trans hev'
  obtain ⟨k', hk', he⟩ := X.warmed.alike.2.2 _ _ hk
  have hr' : k'.resolved[idx]? = some (some (.string (am_ro E n))) := by
    rcases X.warmed.entry hk hk' idx with h | ⟨h, -⟩
    · rw [h]; exact hr
    · rw [hr] at h; cases h
  have hd' : decode c.code pc = .ok (.ldc_w idx, 3) := by rw [hb]; exact hd
  have a2 : Steps p.tables e below (T.setTop (F0 m (pc + 3) ls (.ref (am_ro E n) :: r.map (am_tr (am_ad E))))) t := by rw [← ht]; exact a1
  jvm_step X.here [hx, hd', ldc_w.wp_string (e := e) (s := T) (f := F0 m pc ls (r.map (am_tr (am_ad E)))) X.here.top hk' (by rw [he]; exact hcf) hcp hr']
  exact a2
theorem am_aastS (hx : p.tables.exec = Jvm.exec) (hb : c.code = cc) (hw : am_W E tys s σ H locs cells) (hO : am_O E Z s s.heap) {n v ci len : Nat} (ha : am_Ar E tys (1000 + ci) (.object "java/lang/String")) {i : Int32} {r : List Value} (hkd : am_kd σ n = (2000 + ci, len)) (hin : vp_in i len) (hv : v < 200) (hk : am_rk Z v = 1) (hcs : (Cond.initialized "java/lang/String").before args s = true) (hd : decode cc pc = .ok (.aastore, 1))
    (kk : ∀ (H1 : Heap) (locs1 : List Loc), am_W E tys s (am_saR σ n i.toNatClampNeg (some v)) H1 locs1 cells → W p l e R s m args below meth c H1 locs1 cells slots Q (F0 m (pc + 1) ls (r.map (am_tr (am_ad E))))) : W p l e R s m args below meth c H locs cells slots Q (F0 m pc ls ((.ref v :: .int i :: .ref n :: r).map (am_tr (am_ad E)))) := by
  obtain ⟨h1, h2⟩ := hw.at (n := n) (by rw [hkd]; simp only; omega)
  obtain ⟨t0, ht⟩ := ha
  have he := am_pool_get E σ h1 h2
  rw [am_ent_q hkd (by omega), show 2000 + ci - 1000 = 1000 + ci by omega] at he
  have hany : va_Any "java/lang/String" s H (am_ad E v) := by
    obtain ⟨cell, g1, g2, g3, -⟩ := (hO.2.2.1 v hv hk).1.kept hw.2.2.1.2.1
    refine ⟨cell, by rw [am_ad_lo E (by omega)]; exact g1, g2, ?_, fun comp hc => ?_⟩
    · obtain ⟨cS, q1, kC, q2, -⟩ := Cond.initialized_iff.mp hcs
      rw [g3] at q1
      cases q1
      exact ⟨kC, q2⟩
    · rw [g3] at hc
      cases hc
      exact va_asg _ _
  refine va_astqM hx hb hw.1 hw.2.1.2.2 (am_pool_D E σ) hw.2.2.1 (n - 1000) t0 he ht hany hin hd (fun H1 locs1 q1 _ q3 => am_fin hw h1 h2 (am_saR_I hw.2.1.1 h2) rfl (fun j hj => am_ent_same rfl rfl rfl rfl rfl rfl (am_up_row hj)) ?_ kk H1 locs1 q1 q3)
  refine (am_ent_q (σ := am_saR σ n i.toNatClampNeg (some v)) (k := 2000 + ci) hkd (by omega)).trans ?_
  rw [show 2000 + ci - 1000 = 1000 + ci by omega]
  refine congrArg (fun f => (Sum.inl (am_aC E (1000 + ci), len, Sum.inr (Sum.inr (Sum.inr (Sum.inr f)))) : va_E)) (funext fun j => ?_)
  show Option.map (am_ad E) (am_up _ _ _ _ _ _) = va_up _ _ _ _
  rw [am_up_at]
  unfold va_up
  split <;> rfl
end AmN
