/-! THE INTERPRETER. Tables: instructions by method and place; links by method and place in the pool (kind, a, b); int and long constants; types of fields; slots of classes; of a method its locals and how many values it takes; which array classes there are; what is only read -/
abbrev am_T : Type := (Nat → Nat → Option (Instr × Nat)) × (Nat → Nat → Nat × Nat × Nat) × (Nat → Nat → Int32) × (Nat → Nat → Int64) × (Nat → Nat → Nat) × (Nat → Nat) × (Nat → Nat × Nat) × (Nat → Nat) × am_Z
abbrev am_ins (T : am_T) : Nat → Nat → Option (Instr × Nat) := T.1
abbrev am_lnk (T : am_T) : Nat → Nat → Nat × Nat × Nat := T.2.1
abbrev am_li (T : am_T) : Nat → Nat → Int32 := T.2.2.1
abbrev am_ll (T : am_T) : Nat → Nat → Int64 := T.2.2.2.1
abbrev am_tf (T : am_T) : Nat → Nat → Nat := T.2.2.2.2.1
abbrev am_tn (T : am_T) : Nat → Nat := T.2.2.2.2.2.1
abbrev am_mi (T : am_T) : Nat → Nat × Nat := T.2.2.2.2.2.2.1
abbrev am_ak (T : am_T) : Nat → Nat := T.2.2.2.2.2.2.2.1
abbrev am_tz (T : am_T) : am_Z := T.2.2.2.2.2.2.2.2
/-- what a static holds: a row, nothing, a number -/
def am_sv (T : am_T) (x idx : Nat) : Value := if (am_lnk T x idx).2.2 = 0 then .ref (am_lnk T x idx).2.1 else if (am_lnk T x idx).2.2 = 2 then .null else .int (am_li T x idx)
def am_aq (T : am_T) (k : Nat) : Nat := if k < 3000 then am_ak T (k - 1000) else 0
theorem am_aq_ok {T : am_T} {k v : Nat} (h : am_aq T k = v) (hv : v ≠ 0) : k < 3000 ∧ am_ak T (k - 1000) = v := by
  unfold am_aq at h
  split at h
  · rename_i hk; exact ⟨hk, h⟩
  · exact absurd h.symm hv
def am_at (t : ArrayType) : Nat := match t with
  | .int => 1000
  | .long => 1001
  | .byte => 1002
  | .boolean => 1003
  | _ => 0
/-- instructions that read or write the heap, or constants -/
def am_h (T : am_T) (x : Nat) (i : Instr) (len pc : Nat) (L : List (Option Value)) (st : List Value) (σ : am_S) : Option (Nat × List (Option Value) × List Value × am_S) := match i with
  | .getfield idx => (match st with
    | .ref n :: r =>
      if len = 3 ∧ ((am_lnk T x idx).1 = 1 ∨ (am_lnk T x idx).1 = 9) ∧ (am_kd σ n).1 = (am_lnk T x idx).2.1 + 1 then some (pc + 3, L, am_av (am_tf T) σ (am_lnk T x idx).2.1 (am_lnk T x idx).2.2 n :: r, σ)
      else if len = 3 ∧ (am_lnk T x idx).1 = 8 ∧ n < 200 ∧ am_rk (am_tz T) n = 1 then some (pc + 3, L, (if (am_lnk T x idx).2.1 = 0 then .int 0 else .ref (n + 200)) :: r, σ) else none
    | _ => none)
  | .putfield idx => (match st with
    | v :: .ref n :: r => if len = 3 ∧ (am_lnk T x idx).1 = 9 ∧ (am_kd σ n).1 = (am_lnk T x idx).2.1 + 1 then (match am_fput (am_tf T) σ (am_lnk T x idx).2.1 (am_lnk T x idx).2.2 n v with
        | some σ' => some (pc + 3, L, r, σ')
        | none => none) else none
    | _ => none)
  | .getstatic idx => if len = 3 ∧ (am_lnk T x idx).1 = 7 then some (pc + 3, L, am_sv T x idx :: st, σ) else none
  | .ldc idx => if len = 2 ∧ (am_lnk T x idx).1 = 4 then some (pc + 2, L, .int (am_li T x idx) :: st, σ) else if len = 2 ∧ (am_lnk T x idx).1 = 5 then some (pc + 2, L, .ref (am_lnk T x idx).2.1 :: st, σ) else none
  | .ldc_w idx => if len = 3 ∧ (am_lnk T x idx).1 = 4 then some (pc + 3, L, .int (am_li T x idx) :: st, σ) else if len = 3 ∧ (am_lnk T x idx).1 = 5 then some (pc + 3, L, .ref (am_lnk T x idx).2.1 :: st, σ) else none
  | .ldc2_w idx => if len = 3 ∧ (am_lnk T x idx).1 = 6 then some (pc + 3, L, .long (am_ll T x idx) :: st, σ) else none
  | .new idx => if len = 3 ∧ (am_lnk T x idx).1 = 2 then some (pc + 3, L, .ref (am_nx σ) :: st, am_new σ ((am_lnk T x idx).2.1 + 1) 0 (am_tn T (am_lnk T x idx).2.1)) else none
  | .newarray t => (match st with
    | .int n :: r => if len = 2 ∧ am_at t ≠ 0 ∧ ¬ n < 0 ∧ n.toNatClampNeg ≤ 1000000 then some (pc + 2, L, .ref (am_nx σ) :: r, am_new σ (am_at t) n.toNatClampNeg n.toNatClampNeg) else none
    | _ => none)
  | .anewarray idx => (match st with
    | .int n :: r => if len = 3 ∧ (am_lnk T x (100000 + idx)).1 = 3 ∧ ¬ n < 0 ∧ n.toNatClampNeg ≤ 1000000 then some (pc + 3, L, .ref (am_nx σ) :: r, am_new σ (2000 + (am_lnk T x (100000 + idx)).2.1) n.toNatClampNeg n.toNatClampNeg) else none
    | _ => none)
  | .arraylength => (match st with
    | .ref n :: r => if len = 1 ∧ 1000 ≤ (am_kd σ n).1 ∧ am_aq T (am_kd σ n).1 ≠ 0 then some (pc + 1, L, .int (Int32.ofNat (am_kd σ n).2) :: r, σ)
      else if len = 1 ∧ n < 1000 ∧ (am_rk (am_tz T) n = 1000 ∨ am_rk (am_tz T) n = 1002) then some (pc + 1, L, .int (Int32.ofNat (am_rl (am_tz T) n)) :: r, σ) else none
    | _ => none)
  | .iaload => (match st with
    | .int i :: .ref n :: r => if len = 1 ∧ (am_kd σ n).1 = 1000 ∧ 0 ≤ i.toInt ∧ i.toInt < (am_kd σ n).2 then some (pc + 1, L, .int (am_aI σ n i.toNatClampNeg) :: r, σ)
      else if len = 1 ∧ n < 1000 ∧ am_rk (am_tz T) n = 1000 ∧ 0 ≤ i.toInt ∧ i.toInt < am_rl (am_tz T) n then some (pc + 1, L, .int (am_rv (am_tz T) n i.toNatClampNeg) :: r, σ) else none
    | _ => none)
  | .baload => (match st with
    | .int i :: .ref n :: r => if len = 1 ∧ ((am_kd σ n).1 = 1002 ∨ (am_kd σ n).1 = 1003) ∧ 0 ≤ i.toInt ∧ i.toInt < (am_kd σ n).2 then some (pc + 1, L, .int (am_aI σ n i.toNatClampNeg) :: r, σ)
      else if len = 1 ∧ n < 1000 ∧ am_rk (am_tz T) n = 1002 ∧ 0 ≤ i.toInt ∧ i.toInt < am_rl (am_tz T) n then some (pc + 1, L, .int (am_rv (am_tz T) n i.toNatClampNeg) :: r, σ) else none
    | _ => none)
  | .laload => (match st with
    | .int i :: .ref n :: r => if len = 1 ∧ (am_kd σ n).1 = 1001 ∧ 0 ≤ i.toInt ∧ i.toInt < (am_kd σ n).2 then some (pc + 1, L, .long (am_aL σ n i.toNatClampNeg) :: r, σ) else none
    | _ => none)
  | .aaload => (match st with
    | .int i :: .ref n :: r => if len = 1 ∧ 2000 ≤ (am_kd σ n).1 ∧ am_aq T (am_kd σ n).1 ≠ 0 ∧ 0 ≤ i.toInt ∧ i.toInt < (am_kd σ n).2 then some (pc + 1, L, am_ov (am_aR σ n i.toNatClampNeg) :: r, σ) else none
    | _ => none)
  | .iastore => (match st with
    | .int y :: .int i :: .ref n :: r => if len = 1 ∧ (am_kd σ n).1 = 1000 ∧ 0 ≤ i.toInt ∧ i.toInt < (am_kd σ n).2 then some (pc + 1, L, r, am_saI σ n i.toNatClampNeg y) else none
    | _ => none)
  | .lastore => (match st with
    | .long y :: .int i :: .ref n :: r => if len = 1 ∧ (am_kd σ n).1 = 1001 ∧ 0 ≤ i.toInt ∧ i.toInt < (am_kd σ n).2 then some (pc + 1, L, r, am_saL σ n i.toNatClampNeg y) else none
    | _ => none)
  | .bastore => (match st with
    | .int y :: .int i :: .ref n :: r => if len = 1 ∧ (am_kd σ n).1 = 1002 ∧ 0 ≤ i.toInt ∧ i.toInt < (am_kd σ n).2 then some (pc + 1, L, r, am_saI σ n i.toNatClampNeg (vp_nar .byte y))
      else if len = 1 ∧ (am_kd σ n).1 = 1003 ∧ 0 ≤ i.toInt ∧ i.toInt < (am_kd σ n).2 then some (pc + 1, L, r, am_saI σ n i.toNatClampNeg (vp_nar .boolean y)) else none
    | _ => none)
  | .aastore => (match st with
    | .null :: .int i :: .ref n :: r => if len = 1 ∧ 2000 ≤ (am_kd σ n).1 ∧ am_aq T (am_kd σ n).1 ≠ 0 ∧ 0 ≤ i.toInt ∧ i.toInt < (am_kd σ n).2 then some (pc + 1, L, r, am_saR σ n i.toNatClampNeg none) else none
    | .ref v :: .int i :: .ref n :: r => if len = 1 ∧ 2000 ≤ (am_kd σ n).1 ∧ am_aq T (am_kd σ n).1 = 1 ∧ (am_kd σ v).1 = (am_kd σ n).1 - 2000 + 1 ∧ 0 ≤ i.toInt ∧ i.toInt < (am_kd σ n).2 then some (pc + 1, L, r, am_saR σ n i.toNatClampNeg (some v))
      else if len = 1 ∧ 2000 ≤ (am_kd σ n).1 ∧ am_aq T (am_kd σ n).1 = 2 ∧ v < 200 ∧ am_rk (am_tz T) v = 1 ∧ 0 ≤ i.toInt ∧ i.toInt < (am_kd σ n).2 then some (pc + 1, L, r, am_saR σ n i.toNatClampNeg (some v)) else none
    | _ => none)
  | i => (match am_p i len pc L st with
    | some (pc', L', st') => some (pc', L', st', σ)
    | none => none)
/-- a return: its answer -/
def am_ret (i : Instr) (len : Nat) (st : List Value) : Option (Option Value) := match i with
  | .return_ => (match st with
    | [] => if len = 1 then some none else none
    | _ => none)
  | .ireturn => (match st with
    | [.int v] => if len = 1 then some (some (.int v)) else none
    | _ => none)
  | .lreturn => (match st with
    | [.long v] => if len = 1 then some (some (.long v)) else none
    | _ => none)
  | .areturn => (match st with
    | [.ref v] => if len = 1 then some (some (.ref v)) else none
    | [.null] => if len = 1 then some (some .null) else none
    | _ => none)
  | _ => none
/-- a call: of which kind (10 of an object, 11 of a constructor, 12 static, 13 Object's constructor, 14 a row copied), the method, its values, what stays -/
def am_call (T : am_T) (x : Nat) (i : Instr) (len : Nat) (st : List Value) (σ : am_S) : Option (Nat × Nat × List Value × List Value) := match i with
  | .invokevirtual idx => (match (st.take (am_mi T (am_lnk T x idx).2.1).2).reverse with
    | .ref n :: as => if len = 3 ∧ (am_lnk T x idx).1 = 10 ∧ as.length + 1 = (am_mi T (am_lnk T x idx).2.1).2 ∧ (((am_lnk T x idx).2.2 ≠ 0 ∧ (am_kd σ n).1 = (am_lnk T x idx).2.2) ∨ ((am_lnk T x idx).2.2 = 0 ∧ n < 200 ∧ am_rk (am_tz T) n = 1)) then some (10, (am_lnk T x idx).2.1, .ref n :: as, st.drop (am_mi T (am_lnk T x idx).2.1).2) else none
    | _ => none)
  | .invokespecial idx => if len = 3 ∧ (am_lnk T x idx).1 = 13 then (match st with
      | .ref n :: r => some (13, 0, [.ref n], r)
      | _ => none)
    else (match (st.take (am_mi T (am_lnk T x idx).2.1).2).reverse with
    | .ref n :: as => if len = 3 ∧ (am_lnk T x idx).1 = 11 ∧ as.length + 1 = (am_mi T (am_lnk T x idx).2.1).2 then some (11, (am_lnk T x idx).2.1, .ref n :: as, st.drop (am_mi T (am_lnk T x idx).2.1).2) else none
    | _ => none)
  | .invokestatic idx => if len = 3 ∧ (am_lnk T x idx).1 = 14 then some (14, 0, [], st) else if len = 3 ∧ (am_lnk T x idx).1 = 12 ∧ (am_mi T (am_lnk T x idx).2.1).2 ≤ st.length then some (12, (am_lnk T x idx).2.1, (st.take (am_mi T (am_lnk T x idx).2.1).2).reverse, st.drop (am_mi T (am_lnk T x idx).2.1).2) else none
  | _ => none
abbrev am_scI (σ : am_S) (d : Nat) (f : Nat → Int32) : am_S := (σ.1, σ.2.1, σ.2.2.1, σ.2.2.2.1, va_up σ.2.2.2.2.1 d f, σ.2.2.2.2.2)
abbrev am_scL (σ : am_S) (d : Nat) (f : Nat → Int64) : am_S := (σ.1, σ.2.1, σ.2.2.1, σ.2.2.2.1, σ.2.2.2.2.1, va_up σ.2.2.2.2.2.1 d f, σ.2.2.2.2.2.2)
/-- a piece of a row into another: the values go, the second row has the piece -/
def am_cp (σ : am_S) (st : List Value) : Option (List Value × am_S) := match st with
  | .int n :: .int dp :: .ref d :: .int sp :: .ref a :: r =>
    if (am_kd σ a).1 = (am_kd σ d).1 ∧ ¬ n < 0 ∧ ¬ dp < 0 ∧ ¬ sp < 0 ∧ sp.toNatClampNeg + n.toNatClampNeg ≤ (am_kd σ a).2 ∧ dp.toNatClampNeg + n.toNatClampNeg ≤ (am_kd σ d).2 then
      (if (am_kd σ d).1 = 1001 then some (r, am_scL σ d (va_cpy (am_aL σ a) (am_aL σ d) sp.toNatClampNeg dp.toNatClampNeg n.toNatClampNeg))
      else if (am_kd σ d).1 = 1000 ∨ ((am_kd σ d).1 = 1002 ∧ (List.range n.toNatClampNeg).all (fun i => fits .byte (.int (am_aI σ a (sp.toNatClampNeg + i)))) = true) then some (r, am_scI σ d (va_cpy (am_aI σ a) (am_aI σ d) sp.toNatClampNeg dp.toNatClampNeg n.toNatClampNeg))
      else none)
    else none
  | _ => none
theorem am_cp_mono {σ σ' : am_S} {st r : List Value} (h : am_cp σ st = some (r, σ')) : am_nx σ' = am_nx σ ∧ am_sl σ' = am_sl σ := by
  unfold am_cp at h
  repeat' (split at h)
  all_goals first
    | (cases h; done)
    | (cases h; exact ⟨rfl, rfl⟩)
/-- the answer is as the method's type of answer has it: 0 none, 1 int, 2 long, 3 a reference, 4 boolean, 5 byte, 6 char -/
def am_rcok (k : Nat) (v : Option Value) : Bool := match v with
  | none => k == 0
  | some (.int w) => k == 1 || (k == 4 && (w == 0 || w == 1)) || (k == 5 && vp_nar .byte w == w) || (k == 6 && vp_nar .char w == w)
  | some (.long _) => k == 2
  | some .null => k == 3
  | some (.ref _) => k == 3
  | _ => false
def am_in : List Value → List (Option Value)
  | [] => []
  | v :: t => if v.category = 2 then some v :: none :: am_in t else some v :: am_in t
def am_lo (n : Nat) (as : List Value) : List (Option Value) := am_in as ++ List.replicate (n - (am_in as).length) none
def am_x (T : am_T) : Nat → Nat → Nat → Nat → Nat → List (Option Value) → List Value → am_S → Option (Option Value × am_S)
  | 0, _, _, _, _, _, _, _ => none
  | f + 1, fr, lo, x, pc, L, st, σ => match am_ins T x pc with
    | none => none
    | some (i, len) => match am_ret i len st with
      | some v => if am_rcok (am_ak T (100000 + x)) v = true then some (v, σ) else none
      | none => match am_call T x i len st σ with
        | some (kd, y, as, r) =>
          if kd = 13 then (if 1 ≤ fr ∧ 20 ≤ lo ∧ (r.map fun v => v.category).sum ≤ 8 then am_x T f fr lo x (pc + 3) L r σ else none)
          else if kd = 14 then (match am_cp σ r with
            | some (r', σ') => if 1 ≤ fr ∧ 30 ≤ lo ∧ (r'.map fun v => v.category).sum ≤ 8 then am_x T f fr lo x (pc + 3) L r' σ' else none
            | none => none)
          else if 1 ≤ fr ∧ (am_mi T y).1 + 19 ≤ lo ∧ (r.map fun v => v.category).sum ≤ 8 ∧ (am_in as).length ≤ (am_mi T y).1 then (match am_x T f (fr - 1) (lo - ((am_mi T y).1 + 19)) y 0 (am_lo (am_mi T y).1 as) [] σ with
            | some (v, σ') => am_x T f fr lo x (pc + 3) L (v.toList ++ r) σ'
            | none => none)
          else none
        | none => match am_h T x i len pc L st σ with
          | some (pc', L', st', σ') => am_x T f fr lo x pc' L' st' σ'
          | none => none
theorem am_h_mono {T : am_T} {x : Nat} {i : Instr} {len pc pc' : Nat} {L L' : List (Option Value)} {st st' : List Value} {σ σ' : am_S} (h : am_h T x i len pc L st σ = some (pc', L', st', σ')) : am_nx σ ≤ am_nx σ' ∧ am_sl σ ≤ am_sl σ' := by
  cases i with
  | putfield idx =>
    simp only [am_h] at h
    split at h
    · split at h
      · split at h
        · rename_i hp
          cases h
          obtain ⟨-, e2, e3, -⟩ := am_fput_ok hp
          exact ⟨by rw [e2]; exact Nat.le_refl _, by rw [e3]; exact Nat.le_refl _⟩
        · cases h
      · cases h
    · cases h
  | new idx =>
    simp only [am_h] at h
    split at h
    · cases h; exact ⟨Nat.le_succ _, Nat.le_add_right _ _⟩
    · cases h
  | newarray t =>
    simp only [am_h] at h
    split at h
    · split at h
      · cases h; exact ⟨Nat.le_succ _, Nat.le_add_right _ _⟩
      · cases h
    · cases h
  | anewarray idx =>
    simp only [am_h] at h
    split at h
    · split at h
      · cases h; exact ⟨Nat.le_succ _, Nat.le_add_right _ _⟩
      · cases h
    · cases h
  | getfield idx | getstatic idx | ldc idx | ldc_w idx | ldc2_w idx | arraylength | iaload | baload | laload | aaload | iastore | lastore | bastore | aastore =>
    simp only [am_h] at h
    repeat' (split at h)
    all_goals first
      | (cases h; done)
      | (cases h; exact ⟨Nat.le_refl _, Nat.le_refl _⟩)
  | _ =>
    simp only [am_h] at h
    split at h
    · cases h; exact ⟨Nat.le_refl _, Nat.le_refl _⟩
    · cases h
theorem am_x_mono {T : am_T} : ∀ (f fr lo x pc : Nat) (L : List (Option Value)) (st : List Value) (σ : am_S) (v : Option Value) (σ' : am_S), am_x T f fr lo x pc L st σ = some (v, σ') → am_nx σ ≤ am_nx σ' ∧ am_sl σ ≤ am_sl σ' := by
  intro f
  induction f with
  | zero => intro fr lo x pc L st σ v σ' h; simp [am_x] at h
  | succ f ih =>
    intro fr lo x pc L st σ v σ' h
    simp only [am_x] at h
    split at h
    · cases h
    · split at h
      · split at h
        · cases h; exact ⟨Nat.le_refl _, Nat.le_refl _⟩
        · cases h
      · split at h
        · split at h
          · split at h
            · exact ih _ _ _ _ _ _ _ _ _ h
            · cases h
          · split at h
            · split at h
              · rename_i hc
                split at h
                · have h1 := am_cp_mono hc
                  have h2 := ih _ _ _ _ _ _ _ _ _ h
                  exact ⟨by rw [← h1.1]; exact h2.1, by rw [← h1.2]; exact h2.2⟩
                · cases h
              · cases h
            split at h
            · split at h
              · rename_i hc
                have h1 := ih _ _ _ _ _ _ _ _ _ hc
                have h2 := ih _ _ _ _ _ _ _ _ _ h
                exact ⟨Nat.le_trans h1.1 h2.1, Nat.le_trans h1.2 h2.2⟩
              · cases h
            · cases h
        · split at h
          · rename_i hh
            have h1 := am_h_mono hh
            have h2 := ih _ _ _ _ _ _ _ _ _ h
            exact ⟨Nat.le_trans h1.1 h2.1, Nat.le_trans h1.2 h2.2⟩
          · cases h
