/-! the state of the abstract machine: kinds (kind, length), fields (number of the field, cell), elements (cell, place), the next cell, the slots so far -/
abbrev am_S : Type := (Nat → Nat × Nat) × (Nat → Nat → Int32) × (Nat → Nat → Int64) × (Nat → Nat → Option Nat) × (Nat → Nat → Int32) × (Nat → Nat → Int64) × (Nat → Nat → Option Nat) × Nat × Nat
abbrev am_kd (σ : am_S) : Nat → Nat × Nat := σ.1
abbrev am_fI (σ : am_S) : Nat → Nat → Int32 := σ.2.1
abbrev am_fL (σ : am_S) : Nat → Nat → Int64 := σ.2.2.1
abbrev am_fR (σ : am_S) : Nat → Nat → Option Nat := σ.2.2.2.1
abbrev am_aI (σ : am_S) : Nat → Nat → Int32 := σ.2.2.2.2.1
abbrev am_aL (σ : am_S) : Nat → Nat → Int64 := σ.2.2.2.2.2.1
abbrev am_aR (σ : am_S) : Nat → Nat → Option Nat := σ.2.2.2.2.2.2.1
abbrev am_nx (σ : am_S) : Nat := σ.2.2.2.2.2.2.2.1
abbrev am_sl (σ : am_S) : Nat := σ.2.2.2.2.2.2.2.2
def am_up {α : Type} (f : Nat → Nat → α) (a b : Nat) (x : α) : Nat → Nat → α := fun i j => if i = a then (if j = b then x else f i j) else f i j
abbrev am_sfI (σ : am_S) (g n : Nat) (x : Int32) : am_S := (σ.1, am_up σ.2.1 g n x, σ.2.2)
abbrev am_sfL (σ : am_S) (g n : Nat) (x : Int64) : am_S := (σ.1, σ.2.1, am_up σ.2.2.1 g n x, σ.2.2.2)
abbrev am_sfR (σ : am_S) (g n : Nat) (x : Option Nat) : am_S := (σ.1, σ.2.1, σ.2.2.1, am_up σ.2.2.2.1 g n x, σ.2.2.2.2)
abbrev am_saI (σ : am_S) (n i : Nat) (x : Int32) : am_S := (σ.1, σ.2.1, σ.2.2.1, σ.2.2.2.1, am_up σ.2.2.2.2.1 n i x, σ.2.2.2.2.2)
abbrev am_saL (σ : am_S) (n i : Nat) (x : Int64) : am_S := (σ.1, σ.2.1, σ.2.2.1, σ.2.2.2.1, σ.2.2.2.2.1, am_up σ.2.2.2.2.2.1 n i x, σ.2.2.2.2.2.2)
abbrev am_saR (σ : am_S) (n i : Nat) (x : Option Nat) : am_S := (σ.1, σ.2.1, σ.2.2.1, σ.2.2.2.1, σ.2.2.2.2.1, σ.2.2.2.2.2.1, am_up σ.2.2.2.2.2.2.1 n i x, σ.2.2.2.2.2.2.2)
/-- a new cell of a kind, a length, so many slots -/
abbrev am_new (σ : am_S) (kd len slots : Nat) : am_S := (va_up σ.1 (am_nx σ) (kd, len), σ.2.1, σ.2.2.1, σ.2.2.2.1, σ.2.2.2.2.1, σ.2.2.2.2.2.1, σ.2.2.2.2.2.2.1, am_nx σ + 1, am_sl σ + slots)
theorem am_up_same {α : Type} (f : Nat → Nat → α) (a b : Nat) (x : α) : am_up f a b x a b = x := by simp [am_up]
theorem am_up_ne1 {α : Type} {f : Nat → Nat → α} {a b i j : Nat} {x : α} (h : i ≠ a) : am_up f a b x i j = f i j := by simp [am_up, h]
theorem am_up_ne2 {α : Type} {f : Nat → Nat → α} {a b i j : Nat} {x : α} (h : j ≠ b) : am_up f a b x i j = f i j := by simp [am_up, h]
def am_ov (o : Option Nat) : Value := match o with
  | none => .null
  | some n => .ref n
theorem am_tr_ov (ad : Nat → Nat) (o : Option Nat) : am_tr ad (am_ov o) = va_rf (o.map ad) := by cases o <;> rfl
/-- a field's value: ft is 1 for longs, 2 for references, else whole numbers of an int -/
def am_av (ft : Nat → Nat → Nat) (σ : am_S) (ci k n : Nat) : Value := match ft ci k with
  | 1 => .long (am_fL σ (1000 * ci + k) n)
  | 2 => am_ov (am_fR σ (1000 * ci + k) n)
  | _ => .int (am_fI σ (1000 * ci + k) n)
/-- what the launch has: classes' numbers and slots, the classes, the types of fields, the array classes, the heap's size at the start, where the things lie that are only read -/
abbrev am_E : Type := va_G × List vw_C × (Nat → Nat → Nat) × (Nat → ClassId) × Nat × (Nat → Nat)
abbrev am_D (E : am_E) : va_G := E.1
abbrev am_cl (E : am_E) : List vw_C := E.2.1
abbrev am_ft (E : am_E) : Nat → Nat → Nat := E.2.2.1
abbrev am_aC (E : am_E) : Nat → ClassId := E.2.2.2.1
abbrev am_h0 (E : am_E) : Nat := E.2.2.2.2.1
abbrev am_ro (E : am_E) : Nat → Nat := E.2.2.2.2.2
def am_ad (E : am_E) (n : Nat) : Nat := if n < 1000 then am_ro E n else am_h0 E + (n - 1000)
theorem am_ad_hi (E : am_E) {n : Nat} (h : 1000 ≤ n) : am_ad E n = am_h0 E + (n - 1000) := by unfold am_ad; rw [if_neg (by omega)]
theorem am_ad_inj (E : am_E) : ∀ a b, 1000 ≤ a → 1000 ≤ b → am_ad E a = am_ad E b → a = b := by
  intro a b ha hb h
  rw [am_ad_hi E ha, am_ad_hi E hb] at h
  omega
def am_nf (cl : List vw_C) (ci : Nat) : Nat := match cl[ci]? with
  | some r => r.2.2
  | none => 0
def am_fs (E : am_E) (σ : am_S) (ci n : Nat) : List Value := (List.range (am_nf (am_cl E) ci)).map (fun k => am_tr (am_ad E) (am_av (am_ft E) σ ci k n))
def am_ent (E : am_E) (σ : am_S) (n : Nat) : va_E :=
  if (am_kd σ n).1 < 1000 then .inr ((am_kd σ n).1 - 1, am_fs E σ ((am_kd σ n).1 - 1) n)
  else if (am_kd σ n).1 = 1001 then .inl (am_aC E 1, (am_kd σ n).2, .inr (.inl (am_aL σ n)))
  else if (am_kd σ n).1 < 2000 then .inl (am_aC E ((am_kd σ n).1 - 1000), (am_kd σ n).2, .inl (am_aI σ n))
  else .inl (am_aC E ((am_kd σ n).1 - 1000), (am_kd σ n).2, .inr (.inr (.inr (.inr (fun i => (am_aR σ n i).map (am_ad E))))))
def am_pool (E : am_E) (σ : am_S) : va_W := (List.range (am_nx σ - 1000)).map (fun i => (am_h0 E + i, am_ent E σ (1000 + i)))
/-- what holds of the abstract state by itself -/
def am_I (σ : am_S) : Prop := 1000 ≤ am_nx σ ∧ (∀ n, (am_kd σ n).1 ≠ 0 → 1000 ≤ n ∧ n < am_nx σ) ∧ ∀ n, am_nx σ ≤ n → ∀ g, am_fI σ g n = 0 ∧ am_fL σ g n = 0 ∧ am_fR σ g n = none ∧ am_aI σ n g = 0 ∧ am_aL σ n g = 0 ∧ am_aR σ n g = none
/-- the heap holds the abstract state -/
def am_R (E : am_E) (σ : am_S) (H : Heap) : Prop := am_I σ ∧ H.size + 1000 = am_h0 E + am_nx σ ∧ va_P (am_D E) (am_cl E) (am_pool E σ) H
def am_A (E : am_E) : Nat → Prop := fun q => am_h0 E ≤ q
theorem am_pool_len (E : am_E) (σ : am_S) : (am_pool E σ).length = am_nx σ - 1000 := by simp [am_pool]
theorem am_pool_get (E : am_E) (σ : am_S) {n : Nat} (h1 : 1000 ≤ n) (h2 : n < am_nx σ) : (am_pool E σ)[n - 1000]? = some (am_ad E n, am_ent E σ n) := by
  unfold am_pool
  rw [List.getElem?_map, List.getElem?_range (by omega)]
  simp only [Option.map_some]
  rw [am_ad_hi E h1, show 1000 + (n - 1000) = n by omega]
theorem am_pool_D (E : am_E) (σ : am_S) : va_D (am_A E) (am_pool E σ) := by
  have key : ∀ (i : Nat) (q : Nat × va_E), (am_pool E σ)[i]? = some q → q.1 = am_h0 E + i := by
    intro i q h
    unfold am_pool at h
    rw [List.getElem?_map] at h
    rcases Nat.lt_or_ge i (am_nx σ - 1000) with hi | hi
    · rw [List.getElem?_range hi] at h
      cases h
      rfl
    · rw [List.getElem?_eq_none (by simpa using hi)] at h
      cases h
  refine ⟨fun i j p q hp hq he => ?_, fun k q hq => ?_⟩
  · rw [key i p hp, key j q hq] at he
    omega
  · show am_h0 E ≤ q.1
    rw [key k q hq]
    omega
theorem am_pool_set (E : am_E) {σ σ' : am_S} {n : Nat} (h1 : 1000 ≤ n) (h2 : n < am_nx σ) (hn : am_nx σ' = am_nx σ) (ho : ∀ j, j ≠ n → am_ent E σ' j = am_ent E σ j) : am_pool E σ' = (am_pool E σ).set (n - 1000) (am_ad E n, am_ent E σ' n) := by
  apply List.ext_getElem?
  intro i
  rw [List.getElem?_set]
  rcases Nat.lt_or_ge i (am_nx σ - 1000) with hi | hi
  · have e1 := am_pool_get E σ' (n := 1000 + i) (by omega) (by omega)
    have e2 := am_pool_get E σ (n := 1000 + i) (by omega) (by omega)
    rw [show 1000 + i - 1000 = i by omega] at e1 e2
    split
    · rename_i hq
      rw [if_pos (by rw [am_pool_len]; omega), e1, show 1000 + i = n by omega]
    · rename_i hq
      rw [e1, e2, ho _ (by omega)]
  · have e1 : (am_pool E σ')[i]? = none := List.getElem?_eq_none (by rw [am_pool_len, hn]; exact hi)
    have e2 : (am_pool E σ)[i]? = none := List.getElem?_eq_none (by rw [am_pool_len]; exact hi)
    rw [e1]
    split
    · rename_i hq
      rw [if_neg (by rw [am_pool_len]; omega)]
    · rw [e2]
theorem am_pool_push (E : am_E) {σ σ' : am_S} (h1 : 1000 ≤ am_nx σ) (hn : am_nx σ' = am_nx σ + 1) (ho : ∀ j, j ≠ am_nx σ → am_ent E σ' j = am_ent E σ j) : am_pool E σ' = am_pool E σ ++ [(am_ad E (am_nx σ), am_ent E σ' (am_nx σ))] := by
  apply List.ext_getElem?
  intro i
  rcases Nat.lt_trichotomy i (am_nx σ - 1000) with hi | hi | hi
  · have e1 := am_pool_get E σ' (n := 1000 + i) (by omega) (by omega)
    have e2 := am_pool_get E σ (n := 1000 + i) (by omega) (by omega)
    rw [show 1000 + i - 1000 = i by omega] at e1 e2
    rw [e1, List.getElem?_append_left (by rw [am_pool_len]; exact hi), e2, ho _ (by omega)]
  · have e1 := am_pool_get E σ' (n := 1000 + i) (by omega) (by omega)
    rw [show 1000 + i - 1000 = i by omega] at e1
    rw [e1, List.getElem?_append_right (by rw [am_pool_len]; omega), am_pool_len, show i - (am_nx σ - 1000) = 0 by omega, show 1000 + i = am_nx σ by omega]
    rfl
  · have e1 : (am_pool E σ')[i]? = none := List.getElem?_eq_none (by rw [am_pool_len, hn]; omega)
    have e2 : (am_pool E σ ++ [(am_ad E (am_nx σ), am_ent E σ' (am_nx σ))])[i]? = none := List.getElem?_eq_none (by rw [List.length_append, am_pool_len]; simp only [List.length_cons, List.length_nil]; omega)
    rw [e1, e2]
/-- the world goes on, of one cell another thing holds -/
theorem am_R.set {E : am_E} {σ σ' : am_S} {H H1 : Heap} {n : Nat} (h : am_R E σ H) (hI : am_I σ') (h1 : 1000 ≤ n) (h2 : n < am_nx σ) (hn : am_nx σ' = am_nx σ) (ho : ∀ j, j ≠ n → am_ent E σ' j = am_ent E σ j) (hz : H1.size = H.size)
    (hP : va_P (am_D E) (am_cl E) ((am_pool E σ).set (n - 1000) (am_ad E n, am_ent E σ' n)) H1) : am_R E σ' H1 :=
  ⟨hI, by rw [hz, hn]; exact h.2.1, by rw [am_pool_set E h1 h2 hn ho]; exact hP⟩
theorem am_fs_get (E : am_E) (σ : am_S) {ci k n : Nat} (hk : k < am_nf (am_cl E) ci) : (am_fs E σ ci n)[k]? = some (am_tr (am_ad E) (am_av (am_ft E) σ ci k n)) := by
  unfold am_fs
  rw [List.getElem?_map, List.getElem?_range hk]
  rfl
theorem am_fs_len (E : am_E) (σ : am_S) (ci n : Nat) : (am_fs E σ ci n).length = am_nf (am_cl E) ci := by simp [am_fs]
theorem am_ent_o {E : am_E} {σ : am_S} {n ci : Nat} (h : (am_kd σ n).1 = ci + 1) (hc : ci < 999) : am_ent E σ n = .inr (ci, am_fs E σ ci n) := by
  unfold am_ent
  rw [if_pos (by omega), h]
  rfl
