/-! fields and new objects -/
/-- the world within a method: the tables, the heap holds the state, nothing below the start was written, every cell that came is counted -/
def am_W (E : am_E) (tys : List (ClassId × FieldType)) (s : State) (σ : am_S) (H : Heap) (locs : List Loc) (cells : Nat) : Prop :=
  va_K (am_D E) (am_cl E) tys s ∧ am_R E σ H ∧ va_S (am_A E) s.heap H locs ∧ H.size = s.heap.size + cells ∧ am_h0 E ≤ s.heap.size
def am_tc (t : FieldType) : Nat := match t with
  | .int => 0
  | .long => 1
  | .object _ => 2
  | .array _ => 2
  | .boolean => 3
  | _ => 4
/-- what the tables say of a class -/
def am_Cls (E : am_E) (Ts : List Cond) (ci : Nat) (C : String) (T : u_T) (N : Nat) (ty : Nat → FieldType) : Prop :=
  ci < 999 ∧ (am_cl E)[ci]? = some (C, T, N) ∧ (∀ w ∈ u_ws C T N, w ∈ Ts) ∧ (∀ k, k < N → parseFieldDescriptor (T k).2.2.1 = some (ty k)) ∧ (∀ a, a < N → ∀ b, b < N → a ≠ b → (T a).2.1 ≠ (T b).2.1) ∧ (∀ k, k < N → am_ft E ci k = am_tc (ty k) ∧ am_tc (ty k) < 4)
/-- a field's entry in the pool of a class: by its own name, or as a nest mate's -/
def am_Lk (s : State) (args : Array Value) (own : String) (idx : Nat) (T : u_T) (k : Nat) : Prop :=
  (Cond.fieldLink own idx (T k).1 (T k).2.1 (T k).2.2.1).before args s = true ∨ ∃ host, (Cond.fieldLinkNest own idx (T k).1 (T k).2.1 (T k).2.2.1 host).before args s = true
def am_fput (ft : Nat → Nat → Nat) (σ : am_S) (ci k n : Nat) (v : Value) : Option am_S := match ft ci k with
  | 0 => (match v with
    | .int x => some (am_sfI σ (1000 * ci + k) n x)
    | _ => none)
  | 1 => (match v with
    | .long x => some (am_sfL σ (1000 * ci + k) n x)
    | _ => none)
  | 2 => (match v with
    | .null => some (am_sfR σ (1000 * ci + k) n none)
    | .ref a => some (am_sfR σ (1000 * ci + k) n (some a))
    | _ => none)
  | 3 => (match v with
    | .int x => if x = 0 ∨ x = 1 then some (am_sfI σ (1000 * ci + k) n x) else none
    | _ => none)
  | _ => none
theorem am_av_other (ft : Nat → Nat → Nat) {σ σ' : am_S} {c j n : Nat} (h1 : am_fI σ' (1000 * c + j) n = am_fI σ (1000 * c + j) n) (h2 : am_fL σ' (1000 * c + j) n = am_fL σ (1000 * c + j) n) (h3 : am_fR σ' (1000 * c + j) n = am_fR σ (1000 * c + j) n) : am_av ft σ' c j n = am_av ft σ c j n := by
  unfold am_av
  rw [h1, h2, h3]
/-- all that a write of a field changes -/
theorem am_fput_ok {ft : Nat → Nat → Nat} {σ σ' : am_S} {ci k n : Nat} {v : Value} (h : am_fput ft σ ci k n v = some σ') :
    am_kd σ' = am_kd σ ∧ am_nx σ' = am_nx σ ∧ am_sl σ' = am_sl σ ∧ am_aI σ' = am_aI σ ∧ am_aL σ' = am_aL σ ∧ am_aR σ' = am_aR σ ∧ (∀ g j, (g ≠ 1000 * ci + k ∨ j ≠ n) → am_fI σ' g j = am_fI σ g j ∧ am_fL σ' g j = am_fL σ g j ∧ am_fR σ' g j = am_fR σ g j) ∧ am_av ft σ' ci k n = v := by
  have hup : ∀ {α : Type} {f : Nat → Nat → α} {x : α} {g j : Nat}, (g ≠ 1000 * ci + k ∨ j ≠ n) → am_up f (1000 * ci + k) n x g j = f g j := fun {α f x g j} hq => by
    rcases hq with hq | hq
    · exact am_up_ne1 hq
    · exact am_up_ne2 hq
  unfold am_fput at h
  split at h
  · rename_i hf
    split at h
    · cases h
      exact ⟨rfl, rfl, rfl, rfl, rfl, rfl, fun g j hq => ⟨hup hq, rfl, rfl⟩, by unfold am_av; rw [hf]; exact congrArg Value.int (am_up_same _ _ _ _)⟩
    · cases h
  · rename_i hf
    split at h
    · cases h
      exact ⟨rfl, rfl, rfl, rfl, rfl, rfl, fun g j hq => ⟨rfl, hup hq, rfl⟩, by unfold am_av; rw [hf]; exact congrArg Value.long (am_up_same _ _ _ _)⟩
    · cases h
  · rename_i hf
    split at h
    · cases h
      exact ⟨rfl, rfl, rfl, rfl, rfl, rfl, fun g j hq => ⟨rfl, rfl, hup hq⟩, by unfold am_av; rw [hf]; exact congrArg am_ov (am_up_same _ _ _ _)⟩
    · cases h
      exact ⟨rfl, rfl, rfl, rfl, rfl, rfl, fun g j hq => ⟨rfl, rfl, hup hq⟩, by unfold am_av; rw [hf]; exact congrArg am_ov (am_up_same _ _ _ _)⟩
    · cases h
  · rename_i hf
    split at h
    · split at h
      · cases h
        exact ⟨rfl, rfl, rfl, rfl, rfl, rfl, fun g j hq => ⟨hup hq, rfl, rfl⟩, by unfold am_av; rw [hf]; exact congrArg Value.int (am_up_same _ _ _ _)⟩
      · cases h
    · cases h
  · cases h
theorem am_fput_I {ft : Nat → Nat → Nat} {σ σ' : am_S} {ci k n : Nat} {v : Value} (h : am_fput ft σ ci k n v = some σ') (hI : am_I σ) (hn : n < am_nx σ) : am_I σ' := by
  obtain ⟨e1, e2, -, e4, e5, e6, e7, -⟩ := am_fput_ok h
  refine ⟨by rw [e2]; exact hI.1, fun j hj => by rw [e2]; rw [e1] at hj; exact hI.2.1 j hj, fun j hj g => ?_⟩
  rw [e2] at hj
  obtain ⟨q1, q2, q3⟩ := e7 g j (Or.inr (by omega))
  rw [q1, q2, q3, e4, e5, e6]
  exact hI.2.2 j hj g
theorem am_fput_ent {E : am_E} {σ σ' : am_S} {ci k n : Nat} {v : Value} (h : am_fput (am_ft E) σ ci k n v = some σ') (j : Nat) (hj : j ≠ n) : am_ent E σ' j = am_ent E σ j := by
  obtain ⟨e1, e2, -, e4, e5, e6, e7, -⟩ := am_fput_ok h
  have hf : ∀ c, am_fs E σ' c j = am_fs E σ c j := fun c => List.map_congr_left fun q _ => congrArg (am_tr (am_ad E)) (by
    obtain ⟨q1, q2, q3⟩ := e7 (1000 * c + q) j (Or.inr hj)
    exact am_av_other _ q1 q2 q3)
  unfold am_ent
  rw [e1, e4, e5, e6, hf]
theorem am_fput_fs {E : am_E} {σ σ' : am_S} {ci k n : Nat} {v : Value} (h : am_fput (am_ft E) σ ci k n v = some σ') : am_fs E σ' ci n = (am_fs E σ ci n).set k (am_tr (am_ad E) v) := by
  obtain ⟨-, -, -, -, -, -, e7, e8⟩ := am_fput_ok h
  apply List.ext_getElem?
  intro i
  rw [List.getElem?_set, am_fs_len]
  rcases Nat.lt_or_ge i (am_nf (am_cl E) ci) with hi | hi
  · rw [am_fs_get E σ' hi]
    split
    · rename_i hq
      subst hq
      rw [if_pos hi, e8]
    · rename_i hq
      rw [am_fs_get E σ hi]
      obtain ⟨q1, q2, q3⟩ := e7 (1000 * ci + i) n (Or.inl (by omega))
      rw [am_av_other _ q1 q2 q3]
  · have e1 : (am_fs E σ' ci n)[i]? = none := List.getElem?_eq_none (by rw [am_fs_len]; exact hi)
    have e2 : (am_fs E σ ci n)[i]? = none := List.getElem?_eq_none (by rw [am_fs_len]; exact hi)
    rw [e1, e2]
    split
    · rename_i hq
      rw [if_neg (by omega)]
    · rfl
/-- what may be put fits -/
theorem am_fput_fit {ft : Nat → Nat → Nat} {ad : Nat → Nat} {σ σ' : am_S} {ci k n : Nat} {v : Value} {t : FieldType} (h : am_fput ft σ ci k n v = some σ') (ht : ft ci k = am_tc t) : narrow t (am_tr ad v) = am_tr ad v ∧ fits t (am_tr ad v) = true := by
  unfold am_fput at h
  rw [ht] at h
  cases t with
  | int =>
    simp only [am_tc] at h
    split at h
    · exact ⟨rfl, rfl⟩
    · cases h
  | long =>
    simp only [am_tc] at h
    split at h
    · exact ⟨rfl, rfl⟩
    · cases h
  | object q =>
    simp only [am_tc] at h
    split at h
    · exact ⟨rfl, rfl⟩
    · exact ⟨rfl, rfl⟩
    · cases h
  | array q =>
    simp only [am_tc] at h
    split at h
    · exact ⟨rfl, rfl⟩
    · exact ⟨rfl, rfl⟩
    · cases h
  | boolean =>
    simp only [am_tc] at h
    split at h
    · split at h
      · rename_i hx
        rcases hx with hx | hx <;> subst hx <;> exact ⟨rfl, rfl⟩
      · cases h
    · cases h
  | _ =>
    simp only [am_tc] at h
    cases h
section AmH
variable {p : Program} {l : Launch} {e : Env} {R : Room} {s : State} {m : MethodId} {args : Array Value} {below : List Frame} {meth : Method} {c : Code} {H : Heap} {locs : List Loc} {cells slots : Nat} {Q : State → Prop}
variable {cc : ByteArray} {pc : Nat} {ls : Array Slot} {E : am_E} {tys : List (ClassId × FieldType)} {σ : am_S} {Ts : List Cond}
theorem am_size {g : JFrame} (k : H.size ≤ s.heap.size + cells → W p l e R s m args below meth c H locs cells slots Q g) : W p l e R s m args below meth c H locs cells slots Q g := by
  intro T hT X
  exact k (by rw [← hT]; exact X.same.2.2.1) T hT X
theorem am_W.at {n : Nat} (hw : am_W E tys s σ H locs cells) (h : (am_kd σ n).1 ≠ 0) : 1000 ≤ n ∧ n < am_nx σ := hw.2.1.1.2.1 n h
theorem am_W.A (hw : am_W E tys s σ H locs cells) : ∀ q : Nat, s.heap.size ≤ q → am_A E q := fun q h => Nat.le_trans hw.2.2.2.2 h
set_option maxHeartbeats 1000000 in
theorem am_getf (hx : p.tables.exec = Jvm.exec) (hb : c.code = cc) (hts : ∀ w ∈ Ts, w.before args s = true) {own C : String} {T : u_T} {N ci k n idx : Nat} {ty : Nat → FieldType} (hown : s.vm.findClass own = some m.cls) (hC : am_Cls E Ts ci C T N ty) (hk : k < N) (hlink : am_Lk s args own idx T k) (hw : am_W E tys s σ H locs cells)
    (hkd : (am_kd σ n).1 = ci + 1) {r : List Value} (hd : decode cc pc = .ok (.getfield idx, 3)) (kk : W p l e R s m args below meth c H locs cells slots Q (F0 m (pc + 3) ls ((am_av (am_ft E) σ ci k n :: r).map (am_tr (am_ad E))))) : W p l e R s m args below meth c H locs cells slots Q (F0 m pc ls ((.ref n :: r).map (am_tr (am_ad E)))) := by
  obtain ⟨h1, h2⟩ := hw.at (n := n) (by omega)
  obtain ⟨c1, c2, c3, -⟩ := hC
  have hN : am_nf (am_cl E) ci = N := by unfold am_nf; rw [c2]
  have he := am_pool_get E σ h1 h2
  rw [am_ent_o hkd c1] at he
  rcases hlink with hl | ⟨host, hl⟩
  · exact va_get hx hb hts c3 hown hw.1 hw.2.1.2.2 (n - 1000) he c2 k hk hl (fun _ h9 => h9) (am_fs_get E σ (by rw [hN]; exact hk)) hd kk
  · exact va_getN hx hb hts c3 hown hw.1 hw.2.1.2.2 (n - 1000) he c2 k hk hl (fun _ h9 => h9) (am_fs_get E σ (by rw [hN]; exact hk)) hd kk
set_option maxHeartbeats 1000000 in
theorem am_putf (hx : p.tables.exec = Jvm.exec) (hb : c.code = cc) (hts : ∀ w ∈ Ts, w.before args s = true) {own C : String} {T : u_T} {N ci k n idx : Nat} {ty : Nat → FieldType} (hown : s.vm.findClass own = some m.cls) (hC : am_Cls E Ts ci C T N ty) (hk : k < N) (hlink : am_Lk s args own idx T k) (hw : am_W E tys s σ H locs cells)
    (hkd : (am_kd σ n).1 = ci + 1) {σ' : am_S} {v : Value} (hp : am_fput (am_ft E) σ ci k n v = some σ') (hfin : (T k).2.2.2 = false ∨ ((T k).2.2.2 = true ∧ meth.name = "<init>" ∧ (T k).1 = own ∧ (Cond.fieldLink own idx (T k).1 (T k).2.1 (T k).2.2.1).before args s = true)) {r : List Value} (hd : decode cc pc = .ok (.putfield idx, 3))
    (kk : ∀ (H1 : Heap) (locs1 : List Loc), am_W E tys s σ' H1 locs1 cells → W p l e R s m args below meth c H1 locs1 cells slots Q (F0 m (pc + 3) ls (r.map (am_tr (am_ad E))))) : W p l e R s m args below meth c H locs cells slots Q (F0 m pc ls ((v :: .ref n :: r).map (am_tr (am_ad E)))) := by
  obtain ⟨h1, h2⟩ := hw.at (n := n) (by omega)
  obtain ⟨c1, c2, c3, c4, c5, c6⟩ := hC
  have hN : am_nf (am_cl E) ci = N := by unfold am_nf; rw [c2]
  have he := am_pool_get E σ h1 h2
  rw [am_ent_o hkd c1] at he
  obtain ⟨f1, f2⟩ := am_fput_fit (ad := am_ad E) hp (c6 k hk).1
  obtain ⟨e1, e2, -⟩ := am_fput_ok hp
  have hgo : ∀ (H1 : Heap) (locs1 : List Loc), va_P (am_D E) (am_cl E) ((am_pool E σ).set (n - 1000) (am_ad E n, .inr (ci, (am_fs E σ ci n).set k (am_tr (am_ad E) v)))) H1 → va_D (am_A E) ((am_pool E σ).set (n - 1000) (am_ad E n, .inr (ci, (am_fs E σ ci n).set k (am_tr (am_ad E) v)))) → va_S (am_A E) s.heap H1 locs1 → H.size ≤ H1.size → W p l e R s m args below meth c H1 locs1 cells slots Q (F0 m (pc + 3) ls (r.map (am_tr (am_ad E)))) := by
    intro H1 locs1 q1 q2 q3 q4
    refine am_size fun q5 => ?_
    have hz : H1.size = H.size := by have := hw.2.2.2.1; omega
    refine kk H1 locs1 ⟨hw.1, hw.2.1.set (am_fput_I hp hw.2.1.1 h2) h1 h2 e2 (am_fput_ent hp) hz ?_, q3, by rw [hz]; exact hw.2.2.2.1, hw.2.2.2.2⟩
    rw [am_ent_o (by rw [e1]; exact hkd) c1, am_fput_fs hp]
    exact q1
  have hS2 : va_S (am_A E) s.heap H locs := hw.2.2.1
  have hsz : ∀ H1 : Heap, va_P (am_D E) (am_cl E) ((am_pool E σ).set (n - 1000) (am_ad E n, .inr (ci, (am_fs E σ ci n).set k (am_tr (am_ad E) v)))) H1 → H.size ≤ H1.size := by
    intro H1 q
    rcases Nat.eq_or_lt_of_le (show 1000 ≤ am_nx σ from hw.2.1.1.1) with hq | hq
    · omega
    · have hlast := am_pool_get E σ (n := am_nx σ - 1) (by omega) (by omega)
      have h0 := hw.2.1.2.1
      by_cases hn : n = am_nx σ - 1
      · have := (q (n - 1000) (am_ad E n, .inr (ci, (am_fs E σ ci n).set k (am_tr (am_ad E) v))) (by rw [List.getElem?_set, if_pos rfl, if_pos (by rw [am_pool_len]; omega)])).lt
        simp only [am_ad_hi E h1] at this
        omega
      · have := (q (am_nx σ - 1 - 1000) _ (by rw [List.getElem?_set, if_neg (by omega)]; exact hlast)).lt
        simp only [am_ad_hi E (show 1000 ≤ am_nx σ - 1 by omega)] at this
        omega
  rcases hfin with hf | ⟨hf, hin2, hdecl, hl⟩
  · rcases hlink with hl | ⟨host, hl⟩
    · exact va_put hx hb hts c3 ty c4 c5 hown hw.1 hw.2.1.2.2 (am_pool_D E σ) hS2 (n - 1000) he c2 k hk hl (fun _ h9 => h9) hf (c4 k hk) f1 f2 (by rw [am_fs_len, hN]; exact hk) hd (fun H1 locs1 q1 q2 q3 => hgo H1 locs1 q1 q2 q3 (hsz H1 q1))
    · exact va_putN hx hb hts c3 ty c4 c5 hown hw.1 hw.2.1.2.2 (am_pool_D E σ) hS2 (n - 1000) he c2 k hk hl (fun _ h9 => h9) hf (c4 k hk) f1 f2 (by rw [am_fs_len, hN]; exact hk) hd (fun H1 locs1 q1 q2 q3 => hgo H1 locs1 q1 q2 q3 (hsz H1 q1))
  · exact va_putF hx hb hts c3 ty c4 c5 hown hw.1 hw.2.1.2.2 (am_pool_D E σ) hS2 (n - 1000) he c2 k hk hl (fun _ h9 => h9) hf hin2 hdecl (c4 k hk) f1 f2 (by rw [am_fs_len, hN]; exact hk) hd (fun H1 locs1 q1 q2 q3 => hgo H1 locs1 q1 q2 q3 (hsz H1 q1))
end AmH
