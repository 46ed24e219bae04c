/-! arrays and new cells -/
def am_Ar (E : am_E) (tys : List (ClassId × FieldType)) (j : Nat) (ty : FieldType) : Prop := ∃ t0 : Nat, tys[t0]? = some (am_aC E j, ty)
theorem am_ent_i {E : am_E} {σ : am_S} {n k len : Nat} (h : am_kd σ n = (k, len)) (h1 : 1000 ≤ k) (h2 : k < 2000) (h3 : k ≠ 1001) : am_ent E σ n = .inl (am_aC E (k - 1000), len, .inl (am_aI σ n)) := by
  unfold am_ent
  rw [h, if_neg (by simp only; omega), if_neg (by simp only; omega), if_pos (by simp only; omega)]
theorem am_ent_l {E : am_E} {σ : am_S} {n len : Nat} (h : am_kd σ n = (1001, len)) : am_ent E σ n = .inl (am_aC E 1, len, .inr (.inl (am_aL σ n))) := by
  unfold am_ent
  rw [h, if_neg (by simp only; omega), if_pos rfl]
theorem am_ent_q {E : am_E} {σ : am_S} {n k len : Nat} (h : am_kd σ n = (k, len)) (h1 : 2000 ≤ k) : am_ent E σ n = .inl (am_aC E (k - 1000), len, .inr (.inr (.inr (.inr (fun i => (am_aR σ n i).map (am_ad E)))))) := by
  unfold am_ent
  rw [h, if_neg (by simp only; omega), if_neg (by simp only; omega), if_neg (by simp only; omega)]
theorem am_ent_same {E : am_E} {σ σ' : am_S} {j : Nat} (h0 : am_kd σ' j = am_kd σ j) (h1 : am_fI σ' = am_fI σ) (h2 : am_fL σ' = am_fL σ) (h3 : am_fR σ' = am_fR σ) (h4 : am_aI σ' j = am_aI σ j) (h5 : am_aL σ' j = am_aL σ j) (h6 : am_aR σ' j = am_aR σ j) : am_ent E σ' j = am_ent E σ j := by
  have hf : ∀ c, am_fs E σ' c j = am_fs E σ c j := fun c => List.map_congr_left fun q _ => congrArg (am_tr (am_ad E)) (am_av_other _ (by rw [h1]) (by rw [h2]) (by rw [h3]))
  unfold am_ent
  rw [h0, h4, h5, h6, hf]
theorem am_up_row {α : Type} {f : Nat → Nat → α} {a b : Nat} {x : α} {i : Nat} (h : i ≠ a) : am_up f a b x i = f i := funext fun j => am_up_ne1 h
theorem am_up_at {α : Type} (f : Nat → Nat → α) (a b : Nat) (x : α) (j : Nat) : am_up f a b x a j = if j = b then x else f a j := by simp [am_up]
section AmA
variable {p : Program} {l : Launch} {e : Env} {R : Room} {s : State} {m : MethodId} {args : Array Value} {below : List Frame} {meth : Method} {c : Code} {H : Heap} {locs : List Loc} {cells slots : Nat} {Q : State → Prop}
variable {cc : ByteArray} {pc : Nat} {ls : Array Slot} {E : am_E} {tys : List (ClassId × FieldType)} {σ : am_S} {Ts : List Cond}
/-- behind a store in a cell -/
theorem am_fin {g : JFrame} {σ' : am_S} {n : Nat} {e' : va_E} (hw : am_W E tys s σ H locs cells) (h1 : 1000 ≤ n) (h2 : n < am_nx σ) (hI : am_I σ') (e2 : am_nx σ' = am_nx σ) (ho : ∀ j, j ≠ n → am_ent E σ' j = am_ent E σ j) (he : am_ent E σ' n = e')
    (kk : ∀ (H1 : Heap) (locs1 : List Loc), am_W E tys s σ' H1 locs1 cells → W p l e R s m args below meth c H1 locs1 cells slots Q g) (H1 : Heap) (locs1 : List Loc) (q1 : va_P (am_D E) (am_cl E) ((am_pool E σ).set (n - 1000) (am_ad E n, e')) H1) (q3 : va_S (am_A E) s.heap H1 locs1) : W p l e R s m args below meth c H1 locs1 cells slots Q g := by
  refine am_size fun q5 => ?_
  have hz : H1.size = H.size := by
    have h0 := hw.2.1.2.1
    have h9 := hw.2.2.2.1
    have hlast := am_pool_get E σ (n := am_nx σ - 1) (by omega) (by omega)
    by_cases hn : n = am_nx σ - 1
    · have := (q1 (n - 1000) (am_ad E n, e') (by rw [List.getElem?_set, if_pos rfl, if_pos (by rw [am_pool_len]; omega)])).lt
      simp only [am_ad_hi E h1] at this
      omega
    · have := (q1 (am_nx σ - 1 - 1000) _ (by rw [List.getElem?_set, if_neg (by omega)]; exact hlast)).lt
      simp only [am_ad_hi E (show 1000 ≤ am_nx σ - 1 by omega)] at this
      omega
  exact kk H1 locs1 ⟨hw.1, hw.2.1.set hI h1 h2 e2 ho hz (by rw [he]; exact q1), q3, by rw [hz]; exact hw.2.2.2.1, hw.2.2.2.2⟩
theorem am_new_I {kd len sl : Nat} (hI : am_I σ) : am_I (am_new σ kd len sl) := by
  refine ⟨Nat.le_succ_of_le hI.1, fun n hn => ?_, fun n hn g => hI.2.2 n (Nat.le_of_succ_le hn) g⟩
  by_cases h : n = am_nx σ
  · exact ⟨by rw [h]; exact hI.1, by rw [h]; exact Nat.lt_succ_self _⟩
  · have : (am_kd σ n).1 ≠ 0 := by
      have h9 : am_kd (am_new σ kd len sl) n = am_kd σ n := by show va_up _ _ _ _ = _; simp [va_up, h]
      rw [h9] at hn
      exact hn
    exact ⟨(hI.2.1 n this).1, Nat.lt_succ_of_lt (hI.2.1 n this).2⟩
theorem am_new_kd (kd len sl : Nat) : am_kd (am_new σ kd len sl) (am_nx σ) = (kd, len) := by show va_up _ _ _ _ = _; simp [va_up]
theorem am_new_ent {kd len sl : Nat} (j : Nat) (h : j ≠ am_nx σ) : am_ent E (am_new σ kd len sl) j = am_ent E σ j := am_ent_same (by show va_up _ _ _ _ = _; simp [va_up, h]) rfl rfl rfl rfl rfl rfl
/-- behind a new cell -/
theorem am_born {pc' : Nat} {ls' : Array Slot} {r : List Value} {kd len sl slots' : Nat} {e' : va_E} (hw : am_W E tys s σ H locs cells) (he : am_ent E (am_new σ kd len sl) (am_nx σ) = e')
    (kk : ∀ (H1 : Heap), am_W E tys s (am_new σ kd len sl) H1 locs (cells + 1) → W p l e R s m args below meth c H1 locs (cells + 1) slots' Q (F0 m pc' ls' ((.ref (am_nx σ) :: r).map (am_tr (am_ad E))))) (q : Nat) (H1 : Heap) (q1 : va_P (am_D E) (am_cl E) (am_pool E σ ++ [(q, e')]) H1) (q2 : va_D (am_A E) (am_pool E σ ++ [(q, e')])) (q3 : va_S (am_A E) s.heap H1 locs) :
    W p l e R s m args below meth c H1 locs (cells + 1) slots' Q (F0 m pc' ls' (.ref q :: r.map (am_tr (am_ad E)))) := by
  refine am_size fun q5 => ?_
  have hI := hw.2.1.1
  have h0 := hw.2.1.2.1
  have h9 := hw.2.2.2.1
  have hx : (am_pool E σ ++ [(q, e')])[am_nx σ - 1000]? = some (q, e') := by
    rw [List.getElem?_append_right (by rw [am_pool_len]; exact Nat.le_refl _), am_pool_len, Nat.sub_self]
    rfl
  have hlt : q < H1.size := (q1 _ _ hx).lt
  have hge : am_h0 E ≤ q := q2.2 _ _ hx
  have hq : q = am_ad E (am_nx σ) := by
    rw [am_ad_hi E hI.1]
    rcases Nat.lt_or_ge q H.size with hc | hc
    · have hy : (am_pool E σ ++ [(q, e')])[q - am_h0 E]? = some (am_ad E (1000 + (q - am_h0 E)), am_ent E σ (1000 + (q - am_h0 E))) := by
        rw [List.getElem?_append_left (by rw [am_pool_len]; omega)]
        have := am_pool_get E σ (n := 1000 + (q - am_h0 E)) (by omega) (by omega)
        rw [show 1000 + (q - am_h0 E) - 1000 = q - am_h0 E by omega] at this
        exact this
      have := q2.1 _ _ _ _ hy hx (by rw [am_ad_hi E (by omega)]; simp only; omega)
      omega
    · omega
  have hz : H1.size = H.size + 1 := by
    rw [am_ad_hi E hI.1] at hq
    omega
  rw [hq]
  refine kk H1 ⟨hw.1, ⟨am_new_I hI, ?_, ?_⟩, q3, by omega, hw.2.2.2.2⟩
  · show H1.size + 1000 = am_h0 E + (am_nx σ + 1)
    omega
  · rw [am_pool_push E (σ' := am_new σ kd len sl) hI.1 rfl am_new_ent, he, ← hq]
    exact q1
theorem am_iald (hx : p.tables.exec = Jvm.exec) (hb : c.code = cc) (hw : am_W E tys s σ H locs cells) (ha : am_Ar E tys 0 .int) {n len : Nat} {i : Int32} {r : List Value} (hkd : am_kd σ n = (1000, len)) (hin : vp_in i len) (hd : decode cc pc = .ok (.iaload, 1))
    (kk : W p l e R s m args below meth c H locs cells slots Q (F0 m (pc + 1) ls ((.int (am_aI σ n i.toNatClampNeg) :: r).map (am_tr (am_ad E))))) : W p l e R s m args below meth c H locs cells slots Q (F0 m pc ls ((.int i :: .ref n :: r).map (am_tr (am_ad E)))) := by
  obtain ⟨h1, h2⟩ := hw.at (n := n) (by rw [hkd]; simp)
  obtain ⟨t0, ht⟩ := ha
  have he := am_pool_get E σ h1 h2
  rw [am_ent_i hkd (by omega) (by omega) (by omega)] at he
  exact va_iald hx hb hw.1 hw.2.1.2.2 (n - 1000) t0 he ht hin hd kk
theorem am_bald (hx : p.tables.exec = Jvm.exec) (hb : c.code = cc) (hw : am_W E tys s σ H locs cells) (ha : am_Ar E tys 2 .byte) (hz : am_Ar E tys 3 .boolean) {n k len : Nat} {i : Int32} {r : List Value} (hkd : am_kd σ n = (k, len)) (hk : k = 1002 ∨ k = 1003) (hin : vp_in i len) (hd : decode cc pc = .ok (.baload, 1))
    (kk : W p l e R s m args below meth c H locs cells slots Q (F0 m (pc + 1) ls ((.int (am_aI σ n i.toNatClampNeg) :: r).map (am_tr (am_ad E))))) : W p l e R s m args below meth c H locs cells slots Q (F0 m pc ls ((.int i :: .ref n :: r).map (am_tr (am_ad E)))) := by
  obtain ⟨h1, h2⟩ := hw.at (n := n) (by rw [hkd]; simp only; omega)
  have he := am_pool_get E σ h1 h2
  rw [am_ent_i hkd (by omega) (by omega) (by omega)] at he
  rcases hk with hk | hk <;> subst hk
  · obtain ⟨t0, ht⟩ := ha
    exact va_bald hx hb hw.1 hw.2.1.2.2 (n - 1000) t0 he ht hin hd kk
  · obtain ⟨t0, ht⟩ := hz
    exact va_zald hx hb hw.1 hw.2.1.2.2 (n - 1000) t0 he ht hin hd kk
theorem am_lald (hx : p.tables.exec = Jvm.exec) (hb : c.code = cc) (hw : am_W E tys s σ H locs cells) (ha : am_Ar E tys 1 .long) {n len : Nat} {i : Int32} {r : List Value} (hkd : am_kd σ n = (1001, len)) (hin : vp_in i len) (hd : decode cc pc = .ok (.laload, 1))
    (kk : W p l e R s m args below meth c H locs cells slots Q (F0 m (pc + 1) ls ((.long (am_aL σ n i.toNatClampNeg) :: r).map (am_tr (am_ad E))))) : W p l e R s m args below meth c H locs cells slots Q (F0 m pc ls ((.int i :: .ref n :: r).map (am_tr (am_ad E)))) := by
  obtain ⟨h1, h2⟩ := hw.at (n := n) (by rw [hkd]; simp)
  obtain ⟨t0, ht⟩ := ha
  have he := am_pool_get E σ h1 h2
  rw [am_ent_l hkd] at he
  exact va_lald hx hb hw.1 hw.2.1.2.2 (n - 1000) t0 he ht hin hd kk
theorem am_aald (hx : p.tables.exec = Jvm.exec) (hb : c.code = cc) (hw : am_W E tys s σ H locs cells) {n ci len : Nat} {C : String} (ha : am_Ar E tys (1000 + ci) (.object C)) {i : Int32} {r : List Value} (hkd : am_kd σ n = (2000 + ci, len)) (hin : vp_in i len) (hd : decode cc pc = .ok (.aaload, 1))
    (kk : W p l e R s m args below meth c H locs cells slots Q (F0 m (pc + 1) ls ((am_ov (am_aR σ n i.toNatClampNeg) :: r).map (am_tr (am_ad E))))) : W p l e R s m args below meth c H locs cells slots Q (F0 m pc ls ((.int i :: .ref n :: r).map (am_tr (am_ad E)))) := by
  obtain ⟨h1, h2⟩ := hw.at (n := n) (by rw [hkd]; simp only; omega)
  obtain ⟨t0, ht⟩ := ha
  have he := am_pool_get E σ h1 h2
  rw [am_ent_q hkd (by omega), show 2000 + ci - 1000 = 1000 + ci by omega] at he
  refine va_aldq hx hb hw.1 hw.2.1.2.2 (n - 1000) t0 he ht hin hd ?_
  rw [← am_tr_ov]
  exact kk
theorem am_alen (hx : p.tables.exec = Jvm.exec) (hb : c.code = cc) (hw : am_W E tys s σ H locs cells) {n k len : Nat} {ty : FieldType} (ha : am_Ar E tys (k - 1000) ty) {r : List Value} (hkd : am_kd σ n = (k, len)) (hk : 1000 ≤ k) (hd : decode cc pc = .ok (.arraylength, 1))
    (kk : W p l e R s m args below meth c H locs cells slots Q (F0 m (pc + 1) ls ((.int (Int32.ofNat len) :: r).map (am_tr (am_ad E))))) : W p l e R s m args below meth c H locs cells slots Q (F0 m pc ls ((.ref n :: r).map (am_tr (am_ad E)))) := by
  obtain ⟨h1, h2⟩ := hw.at (n := n) (by rw [hkd]; simp only; omega)
  obtain ⟨t0, ht⟩ := ha
  have he := am_pool_get E σ h1 h2
  by_cases h3 : k = 1001
  · subst h3
    rw [am_ent_l hkd] at he
    exact va_alen hx hb hw.1 hw.2.1.2.2 (n - 1000) t0 he ht rfl hd kk
  · by_cases h4 : k < 2000
    · rw [am_ent_i hkd hk h4 h3] at he
      exact va_alen hx hb hw.1 hw.2.1.2.2 (n - 1000) t0 he ht rfl hd kk
    · rw [am_ent_q hkd (by omega)] at he
      exact va_alen hx hb hw.1 hw.2.1.2.2 (n - 1000) t0 he ht rfl hd kk
theorem am_saI_I {n i : Nat} {x : Int32} (hI : am_I σ) (h : n < am_nx σ) : am_I (am_saI σ n i x) := ⟨hI.1, hI.2.1, fun j hj g => by
  have := hI.2.2 j hj g
  refine ⟨this.1, this.2.1, this.2.2.1, ?_, this.2.2.2.2⟩
  show am_up _ _ _ _ _ _ = _
  rw [am_up_ne1 (by have : am_nx σ ≤ j := hj; omega)]
  exact this.2.2.2.1⟩
theorem am_saL_I {n i : Nat} {x : Int64} (hI : am_I σ) (h : n < am_nx σ) : am_I (am_saL σ n i x) := ⟨hI.1, hI.2.1, fun j hj g => by
  have := hI.2.2 j hj g
  refine ⟨this.1, this.2.1, this.2.2.1, this.2.2.2.1, ?_, this.2.2.2.2.2⟩
  show am_up _ _ _ _ _ _ = _
  rw [am_up_ne1 (by have : am_nx σ ≤ j := hj; omega)]
  exact this.2.2.2.2.1⟩
theorem am_saR_I {n i : Nat} {x : Option Nat} (hI : am_I σ) (h : n < am_nx σ) : am_I (am_saR σ n i x) := ⟨hI.1, hI.2.1, fun j hj g => by
  have := hI.2.2 j hj g
  refine ⟨this.1, this.2.1, this.2.2.1, this.2.2.2.1, this.2.2.2.2.1, ?_⟩
  show am_up _ _ _ _ _ _ = _
  rw [am_up_ne1 (by have : am_nx σ ≤ j := hj; omega)]
  exact this.2.2.2.2.2⟩
theorem am_iast (hx : p.tables.exec = Jvm.exec) (hb : c.code = cc) (hw : am_W E tys s σ H locs cells) (ha : am_Ar E tys 0 .int) {n len : Nat} {i x : Int32} {r : List Value} (hkd : am_kd σ n = (1000, len)) (hin : vp_in i len) (hd : decode cc pc = .ok (.iastore, 1))
    (kk : ∀ (H1 : Heap) (locs1 : List Loc), am_W E tys s (am_saI σ n i.toNatClampNeg x) H1 locs1 cells → W p l e R s m args below meth c H1 locs1 cells slots Q (F0 m (pc + 1) ls (r.map (am_tr (am_ad E))))) : W p l e R s m args below meth c H locs cells slots Q (F0 m pc ls ((.int x :: .int i :: .ref n :: r).map (am_tr (am_ad E)))) := by
  obtain ⟨h1, h2⟩ := hw.at (n := n) (by rw [hkd]; simp)
  obtain ⟨t0, ht⟩ := ha
  have he := am_pool_get E σ h1 h2
  rw [am_ent_i hkd (by omega) (by omega) (by omega)] at he
  refine va_iast hx hb hw.1 hw.2.1.2.2 (am_pool_D E σ) hw.2.2.1 (n - 1000) t0 he ht hin hd (fun H1 locs1 q1 _ q3 => am_fin hw h1 h2 (am_saI_I hw.2.1.1 h2) rfl (fun j hj => am_ent_same rfl rfl rfl rfl (am_up_row hj) rfl rfl) ?_ kk H1 locs1 q1 q3)
  refine (am_ent_i (σ := am_saI σ n i.toNatClampNeg x) (k := 1000) hkd (by omega) (by omega) (by omega)).trans ?_
  exact congrArg (fun f => (Sum.inl (am_aC E (1000 - 1000), len, Sum.inl f) : va_E)) (funext fun j => am_up_at _ _ _ _ _)
theorem am_last (hx : p.tables.exec = Jvm.exec) (hb : c.code = cc) (hw : am_W E tys s σ H locs cells) (ha : am_Ar E tys 1 .long) {n len : Nat} {i : Int32} {x : Int64} {r : List Value} (hkd : am_kd σ n = (1001, len)) (hin : vp_in i len) (hd : decode cc pc = .ok (.lastore, 1))
    (kk : ∀ (H1 : Heap) (locs1 : List Loc), am_W E tys s (am_saL σ n i.toNatClampNeg x) H1 locs1 cells → W p l e R s m args below meth c H1 locs1 cells slots Q (F0 m (pc + 1) ls (r.map (am_tr (am_ad E))))) : W p l e R s m args below meth c H locs cells slots Q (F0 m pc ls ((.long x :: .int i :: .ref n :: r).map (am_tr (am_ad E)))) := by
  obtain ⟨h1, h2⟩ := hw.at (n := n) (by rw [hkd]; simp)
  obtain ⟨t0, ht⟩ := ha
  have he := am_pool_get E σ h1 h2
  rw [am_ent_l hkd] at he
  refine va_last hx hb hw.1 hw.2.1.2.2 (am_pool_D E σ) hw.2.2.1 (n - 1000) t0 he ht hin hd (fun H1 locs1 q1 _ q3 => am_fin hw h1 h2 (am_saL_I hw.2.1.1 h2) rfl (fun j hj => am_ent_same rfl rfl rfl rfl rfl (am_up_row hj) rfl) ?_ kk H1 locs1 q1 q3)
  refine (am_ent_l (σ := am_saL σ n i.toNatClampNeg x) hkd).trans ?_
  exact congrArg (fun f => (Sum.inl (am_aC E 1, len, Sum.inr (Sum.inl f)) : va_E)) (funext fun j => am_up_at _ _ _ _ _)
theorem am_bast (hx : p.tables.exec = Jvm.exec) (hb : c.code = cc) (hw : am_W E tys s σ H locs cells) (ha : am_Ar E tys 2 .byte) {n len : Nat} {i x : Int32} {r : List Value} (hkd : am_kd σ n = (1002, len)) (hin : vp_in i len) (hd : decode cc pc = .ok (.bastore, 1))
    (kk : ∀ (H1 : Heap) (locs1 : List Loc), am_W E tys s (am_saI σ n i.toNatClampNeg (vp_nar .byte x)) H1 locs1 cells → W p l e R s m args below meth c H1 locs1 cells slots Q (F0 m (pc + 1) ls (r.map (am_tr (am_ad E))))) : W p l e R s m args below meth c H locs cells slots Q (F0 m pc ls ((.int x :: .int i :: .ref n :: r).map (am_tr (am_ad E)))) := by
  obtain ⟨h1, h2⟩ := hw.at (n := n) (by rw [hkd]; simp)
  obtain ⟨t0, ht⟩ := ha
  have he := am_pool_get E σ h1 h2
  rw [am_ent_i hkd (by omega) (by omega) (by omega)] at he
  refine va_bast hx hb hw.1 hw.2.1.2.2 (am_pool_D E σ) hw.2.2.1 (n - 1000) t0 he ht hin hd (fun H1 locs1 q1 _ q3 => am_fin hw h1 h2 (am_saI_I hw.2.1.1 h2) rfl (fun j hj => am_ent_same rfl rfl rfl rfl (am_up_row hj) rfl rfl) ?_ kk H1 locs1 q1 q3)
  refine (am_ent_i (σ := am_saI σ n i.toNatClampNeg (vp_nar .byte x)) (k := 1002) hkd (by omega) (by omega) (by omega)).trans ?_
  exact congrArg (fun f => (Sum.inl (am_aC E (1002 - 1000), len, Sum.inl f) : va_E)) (funext fun j => am_up_at _ _ _ _ _)
theorem am_zast (hx : p.tables.exec = Jvm.exec) (hb : c.code = cc) (hw : am_W E tys s σ H locs cells) (ha : am_Ar E tys 3 .boolean) {n len : Nat} {i x : Int32} {r : List Value} (hkd : am_kd σ n = (1003, len)) (hin : vp_in i len) (hd : decode cc pc = .ok (.bastore, 1))
    (kk : ∀ (H1 : Heap) (locs1 : List Loc), am_W E tys s (am_saI σ n i.toNatClampNeg (vp_nar .boolean x)) H1 locs1 cells → W p l e R s m args below meth c H1 locs1 cells slots Q (F0 m (pc + 1) ls (r.map (am_tr (am_ad E))))) : W p l e R s m args below meth c H locs cells slots Q (F0 m pc ls ((.int x :: .int i :: .ref n :: r).map (am_tr (am_ad E)))) := by
  obtain ⟨h1, h2⟩ := hw.at (n := n) (by rw [hkd]; simp)
  obtain ⟨t0, ht⟩ := ha
  have he := am_pool_get E σ h1 h2
  rw [am_ent_i hkd (by omega) (by omega) (by omega)] at he
  refine va_zast hx hb hw.1 hw.2.1.2.2 (am_pool_D E σ) hw.2.2.1 (n - 1000) t0 he ht hin hd (fun H1 locs1 q1 _ q3 => am_fin hw h1 h2 (am_saI_I hw.2.1.1 h2) rfl (fun j hj => am_ent_same rfl rfl rfl rfl (am_up_row hj) rfl rfl) ?_ kk H1 locs1 q1 q3)
  refine (am_ent_i (σ := am_saI σ n i.toNatClampNeg (vp_nar .boolean x)) (k := 1003) hkd (by omega) (by omega) (by omega)).trans ?_
  exact congrArg (fun f => (Sum.inl (am_aC E (1003 - 1000), len, Sum.inl f) : va_E)) (funext fun j => am_up_at _ _ _ _ _)
theorem am_aast (hx : p.tables.exec = Jvm.exec) (hb : c.code = cc) (hw : am_W E tys s σ H locs cells) {n v ci len N : Nat} {C : String} {T : u_T} (hci : ci < 999) (hc : (am_cl E)[ci]? = some (C, T, N)) (ha : am_Ar E tys (1000 + ci) (.object C)) {i : Int32} {r : List Value} (hkd : am_kd σ n = (2000 + ci, len)) (hin : vp_in i len) (hv : (am_kd σ v).1 = ci + 1) (hd : decode cc pc = .ok (.aastore, 1))
    (kk : ∀ (H1 : Heap) (locs1 : List Loc), am_W E tys s (am_saR σ n i.toNatClampNeg (some v)) H1 locs1 cells → W p l e R s m args below meth c H1 locs1 cells slots Q (F0 m (pc + 1) ls (r.map (am_tr (am_ad E))))) : W p l e R s m args below meth c H locs cells slots Q (F0 m pc ls ((.ref v :: .int i :: .ref n :: r).map (am_tr (am_ad E)))) := by
  obtain ⟨h1, h2⟩ := hw.at (n := n) (by rw [hkd]; simp only; omega)
  obtain ⟨v1, v2⟩ := hw.at (n := v) (by omega)
  obtain ⟨t0, ht⟩ := ha
  have he := am_pool_get E σ h1 h2
  have hve := am_pool_get E σ v1 v2
  rw [am_ent_o hv hci] at hve
  rw [am_ent_q hkd (by omega), show 2000 + ci - 1000 = 1000 + ci by omega] at he
  refine va_astq hx hb hw.1 hw.2.1.2.2 (am_pool_D E σ) hw.2.2.1 (n - 1000) t0 (v - 1000) ci he (r := (C, T, N)) ht hve hc hin hd (fun H1 locs1 q1 _ q3 => am_fin hw h1 h2 (am_saR_I hw.2.1.1 h2) rfl (fun j hj => am_ent_same rfl rfl rfl rfl rfl rfl (am_up_row hj)) ?_ kk H1 locs1 q1 q3)
  refine (am_ent_q (σ := am_saR σ n i.toNatClampNeg (some v)) (k := 2000 + ci) hkd (by omega)).trans ?_
  rw [show 2000 + ci - 1000 = 1000 + ci by omega]
  refine congrArg (fun f => (Sum.inl (am_aC E (1000 + ci), len, Sum.inr (Sum.inr (Sum.inr (Sum.inr f)))) : va_E)) (funext fun j => ?_)
  show Option.map (am_ad E) (am_up _ _ _ _ _ _) = va_up _ _ _ _
  rw [am_up_at]
  unfold va_up
  split <;> rfl
theorem am_aastN (hx : p.tables.exec = Jvm.exec) (hb : c.code = cc) (hw : am_W E tys s σ H locs cells) {n ci len : Nat} {C : String} (ha : am_Ar E tys (1000 + ci) (.object C)) {i : Int32} {r : List Value} (hkd : am_kd σ n = (2000 + ci, len)) (hin : vp_in i len) (hd : decode cc pc = .ok (.aastore, 1))
    (kk : ∀ (H1 : Heap) (locs1 : List Loc), am_W E tys s (am_saR σ n i.toNatClampNeg none) H1 locs1 cells → W p l e R s m args below meth c H1 locs1 cells slots Q (F0 m (pc + 1) ls (r.map (am_tr (am_ad E))))) : W p l e R s m args below meth c H locs cells slots Q (F0 m pc ls ((.null :: .int i :: .ref n :: r).map (am_tr (am_ad E)))) := by
  obtain ⟨h1, h2⟩ := hw.at (n := n) (by rw [hkd]; simp only; omega)
  obtain ⟨t0, ht⟩ := ha
  have he := am_pool_get E σ h1 h2
  rw [am_ent_q hkd (by omega), show 2000 + ci - 1000 = 1000 + ci by omega] at he
  refine va_astqN hx hb hw.1 hw.2.1.2.2 (am_pool_D E σ) hw.2.2.1 (n - 1000) t0 he ht hin hd (fun H1 locs1 q1 _ q3 => am_fin hw h1 h2 (am_saR_I hw.2.1.1 h2) rfl (fun j hj => am_ent_same rfl rfl rfl rfl rfl rfl (am_up_row hj)) ?_ kk H1 locs1 q1 q3)
  refine (am_ent_q (σ := am_saR σ n i.toNatClampNeg none) (k := 2000 + ci) hkd (by omega)).trans ?_
  rw [show 2000 + ci - 1000 = 1000 + ci by omega]
  refine congrArg (fun f => (Sum.inl (am_aC E (1000 + ci), len, Sum.inr (Sum.inr (Sum.inr (Sum.inr f)))) : va_E)) (funext fun j => ?_)
  show Option.map (am_ad E) (am_up _ _ _ _ _ _) = va_up _ _ _ _
  rw [am_up_at]
  unfold va_up
  split <;> rfl
end AmA
