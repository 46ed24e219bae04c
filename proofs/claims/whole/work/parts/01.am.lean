/-! AN ABSTRACT MACHINE over typed maps; no word of it speaks of a class. References are numbers: below 1000 what is only read (texts, static rows, the script), from 1000 on the cells in the order of their making. -/
def am_tr (ad : Nat → Nat) (v : Value) : Value := match v with
  | .ref n => .ref (ad n)
  | v => v
theorem am_tr_cat (ad : Nat → Nat) (v : Value) : (am_tr ad v).category = v.category := by cases v <;> rfl
def am_prs (ad : Nat → Nat) : Nat → List (Option Value) → List (Nat × Value)
  | _, [] => []
  | i, none :: t => am_prs ad (i + 1) t
  | i, some v :: t => (i, am_tr ad v) :: am_prs ad (i + 1) t
theorem am_prs_mem {ad : Nat → Nat} {j : Nat} {w : Value} : ∀ (L : List (Option Value)) (k : Nat), (j, w) ∈ am_prs ad k L ↔ ∃ v, k ≤ j ∧ L[j - k]? = some (some v) ∧ w = am_tr ad v := by
  intro L
  induction L with
  | nil => intro k; simp [am_prs]
  | cons o t ih =>
    intro k
    have key : (j, w) ∈ am_prs ad (k + 1) t ↔ ∃ v, k + 1 ≤ j ∧ (o :: t)[j - k]? = some (some v) ∧ w = am_tr ad v := by
      rw [ih (k + 1)]
      constructor
      · rintro ⟨v, h1, h2, h3⟩
        refine ⟨v, h1, ?_, h3⟩
        rw [show j - k = (j - (k + 1)) + 1 by omega, List.getElem?_cons_succ]
        exact h2
      · rintro ⟨v, h1, h2, h3⟩
        refine ⟨v, h1, ?_, h3⟩
        rw [show j - k = (j - (k + 1)) + 1 by omega, List.getElem?_cons_succ] at h2
        exact h2
    cases o with
    | none =>
      show (j, w) ∈ am_prs ad (k + 1) t ↔ _
      rw [key]
      constructor
      · rintro ⟨v, h1, h2, h3⟩
        exact ⟨v, by omega, h2, h3⟩
      · rintro ⟨v, h1, h2, h3⟩
        rcases Nat.eq_or_lt_of_le h1 with e | e
        · subst e
          rw [Nat.sub_self, List.getElem?_cons_zero] at h2
          cases h2
        · exact ⟨v, e, h2, h3⟩
    | some u =>
      show (j, w) ∈ (k, am_tr ad u) :: am_prs ad (k + 1) t ↔ _
      rw [List.mem_cons, key]
      constructor
      · rintro (h | ⟨v, h1, h2, h3⟩)
        · cases h
          exact ⟨u, Nat.le_refl _, by rw [Nat.sub_self, List.getElem?_cons_zero], rfl⟩
        · exact ⟨v, by omega, h2, h3⟩
      · rintro ⟨v, h1, h2, h3⟩
        rcases Nat.eq_or_lt_of_le h1 with e | e
        · subst e
          rw [Nat.sub_self, List.getElem?_cons_zero] at h2
          cases h2
          exact Or.inl (by rw [h3])
        · exact Or.inr ⟨v, e, h2, h3⟩
/-- the locals: as many as there are, those that are known hold what the list says -/
def am_L (ad : Nat → Nat) (ls : Array Slot) (nL : Nat) (L : List (Option Value)) : Prop := L.length = nL ∧ lv_has ls nL (am_prs ad 0 L)
theorem am_L.get {ad : Nat → Nat} {ls : Array Slot} {nL : Nat} {L : List (Option Value)} (h : am_L ad ls nL L) {i : Nat} {v : Value} (hi : L[i]? = some (some v)) : ls[i]? = some (.val (am_tr ad v)) :=
  h.2.2.2 (i, am_tr ad v) ((am_prs_mem L 0).mpr ⟨v, Nat.zero_le _, hi, rfl⟩)
def am_c2 (o : Option Value) : Option Value := match o with
  | some (.long _) => none
  | some (.double _) => none
  | o => o
def am_st1 : List (Option Value) → Nat → Value → List (Option Value)
  | [], _, _ => []
  | _ :: t, 0, v => some v :: t
  | o :: t, 1, v => am_c2 o :: am_st1 t 0 v
  | o :: t, i + 2, v => o :: am_st1 t (i + 1) v
def am_st2 : List (Option Value) → Nat → Value → List (Option Value)
  | [], _, _ => []
  | [_], _, _ => []
  | _ :: _ :: t, 0, v => some v :: none :: t
  | o :: o2 :: t, 1, v => am_c2 o :: am_st2 (o2 :: t) 0 v
  | o :: o2 :: t, i + 2, v => o :: am_st2 (o2 :: t) (i + 1) v
theorem am_st1_len (v : Value) : ∀ (L : List (Option Value)) (i : Nat), (am_st1 L i v).length = L.length := by
  intro L
  induction L with
  | nil => intro i; rfl
  | cons o t ih =>
    intro i
    match i with
    | 0 => rfl
    | 1 => show (am_st1 t 0 v).length + 1 = _; rw [ih]; rfl
    | i + 2 => show (am_st1 t (i + 1) v).length + 1 = _; rw [ih]; rfl
theorem am_c2_some {o : Option Value} {w : Value} (h : am_c2 o = some w) : o = some w ∧ w.category = 1 := by
  cases o with
  | none => cases h
  | some u => cases u <;> first | (cases h; done) | (cases h; exact ⟨rfl, rfl⟩)
theorem am_st1_get {v w : Value} : ∀ (L : List (Option Value)) (i j : Nat), (am_st1 L i v)[j]? = some (some w) → (j = i ∧ w = v ∧ i < L.length) ∨ (j ≠ i ∧ L[j]? = some (some w) ∧ ¬ (j + 1 = i ∧ w.category = 2)) := by
  intro L
  induction L with
  | nil => intro i j h; simp [am_st1] at h
  | cons o t ih =>
    intro i j h
    match i, h with
    | 0, h =>
      match j, h with
      | 0, h => cases h; exact Or.inl ⟨rfl, rfl, by simp⟩
      | j + 1, h => exact Or.inr ⟨by omega, h, by omega⟩
    | 1, h =>
      match j, h with
      | 0, h =>
        have h1 : am_c2 o = some w := by simpa [am_st1] using h
        obtain ⟨h2, h3⟩ := am_c2_some h1
        exact Or.inr ⟨by omega, by rw [h2]; rfl, by omega⟩
      | j + 1, h =>
        rcases ih 0 j h with ⟨a, b, c⟩ | ⟨a, b, c⟩
        · exact Or.inl ⟨by omega, b, by simp only [List.length_cons]; omega⟩
        · exact Or.inr ⟨by omega, b, by omega⟩
    | i + 2, h =>
      match j, h with
      | 0, h => exact Or.inr ⟨by omega, h, by omega⟩
      | j + 1, h =>
        rcases ih (i + 1) j h with ⟨a, b, c⟩ | ⟨a, b, c⟩
        · exact Or.inl ⟨by omega, b, by simp only [List.length_cons]; omega⟩
        · exact Or.inr ⟨by omega, b, by omega⟩
theorem am_st2_len (v : Value) : ∀ (L : List (Option Value)) (i : Nat), i + 1 < L.length → (am_st2 L i v).length = L.length := by
  intro L
  induction L with
  | nil => intro i h; simp at h
  | cons o t ih =>
    intro i h
    match t, i, h, ih with
    | [], i, h, _ => simp at h
    | o2 :: t, 0, _, _ => rfl
    | o2 :: t, 1, h, ih => show (am_st2 (o2 :: t) 0 v).length + 1 = _; rw [ih 0 (by simp only [List.length_cons] at h ⊢; omega)]; rfl
    | o2 :: t, i + 2, h, ih => show (am_st2 (o2 :: t) (i + 1) v).length + 1 = _; rw [ih (i + 1) (by simp only [List.length_cons] at h ⊢; omega)]; rfl
theorem am_st2_get {v w : Value} : ∀ (L : List (Option Value)) (i j : Nat), i + 1 < L.length → (am_st2 L i v)[j]? = some (some w) → (j = i ∧ w = v) ∨ (j ≠ i ∧ j ≠ i + 1 ∧ L[j]? = some (some w) ∧ ¬ (j + 1 = i ∧ w.category = 2)) := by
  intro L
  induction L with
  | nil => intro i j hl h; simp at hl
  | cons o t ih =>
    intro i j hl h
    match t, i, hl, h, ih with
    | [], i, hl, _, _ => simp at hl
    | o2 :: t, 0, hl, h, _ =>
      match j, h with
      | 0, h => cases h; exact Or.inl ⟨rfl, rfl⟩
      | 1, h => cases h
      | j + 2, h => exact Or.inr ⟨by omega, by omega, h, by omega⟩
    | o2 :: t, 1, hl, h, ih =>
      match j, h with
      | 0, h =>
        have h1 : am_c2 o = some w := by simpa [am_st2] using h
        obtain ⟨h2, h3⟩ := am_c2_some h1
        exact Or.inr ⟨by omega, by omega, by rw [h2]; rfl, by omega⟩
      | j + 1, h =>
        rcases ih 0 j (by simp only [List.length_cons] at hl ⊢; omega) h with ⟨a, b⟩ | ⟨a, b, c, d⟩
        · exact Or.inl ⟨by omega, b⟩
        · exact Or.inr ⟨by omega, by omega, c, by omega⟩
    | o2 :: t, i + 2, hl, h, ih =>
      match j, h with
      | 0, h => exact Or.inr ⟨by omega, by omega, h, by omega⟩
      | j + 1, h =>
        rcases ih (i + 1) j (by simp only [List.length_cons] at hl ⊢; omega) h with ⟨a, b⟩ | ⟨a, b, c, d⟩
        · exact Or.inl ⟨by omega, b⟩
        · exact Or.inr ⟨by omega, by omega, c, by omega⟩
theorem am_L.st1 {ad : Nat → Nat} {ls' : Array Slot} {nL : Nat} {L : List (Option Value)} {i : Nat} {v : Value} (hn : L.length = nL)
    (h : lv_has ls' nL ((i, am_tr ad v) :: (am_prs ad 0 L).filter (fun q => !(q.1 == i) && !(q.1 + 1 == i && q.2.category == 2)))) : am_L ad ls' nL (am_st1 L i v) := by
  refine ⟨by rw [am_st1_len]; exact hn, h.1, h.2.1, ?_⟩
  rintro ⟨j, w⟩ hq
  obtain ⟨u, -, h2, h3⟩ := (am_prs_mem _ 0).mp hq
  refine h.2.2 (j, w) ?_
  rcases am_st1_get L i j h2 with ⟨a, b, -⟩ | ⟨a, b, d⟩
  · subst a; subst b; subst h3
    exact List.mem_cons_self
  · refine List.mem_cons_of_mem _ (List.mem_filter.mpr ⟨(am_prs_mem L 0).mpr ⟨u, Nat.zero_le _, b, h3⟩, ?_⟩)
    have e1 : (j == i) = false := by simp [a]
    by_cases e2 : j + 1 = i
    · have : ¬ u.category = 2 := fun h => d ⟨e2, h⟩
      subst h3
      simp [e1, am_tr_cat, this]
    · simp [e1, e2]
theorem am_L.st2 {ad : Nat → Nat} {ls' : Array Slot} {nL : Nat} {L : List (Option Value)} {i : Nat} {v : Value} (hn : L.length = nL) (hi : i + 1 < nL)
    (h : lv_has ls' nL ((i, am_tr ad v) :: (am_prs ad 0 L).filter (fun q => !(q.1 == i) && (!(q.1 == i + 1) && !(q.1 + 1 == i && q.2.category == 2))))) : am_L ad ls' nL (am_st2 L i v) := by
  refine ⟨by rw [am_st2_len v L i (by omega)]; exact hn, h.1, h.2.1, ?_⟩
  rintro ⟨j, w⟩ hq
  obtain ⟨u, -, h2, h3⟩ := (am_prs_mem _ 0).mp hq
  refine h.2.2 (j, w) ?_
  rcases am_st2_get L i j (by omega) h2 with ⟨a, b⟩ | ⟨a, b, d, f⟩
  · subst a; subst b; subst h3
    exact List.mem_cons_self
  · refine List.mem_cons_of_mem _ (List.mem_filter.mpr ⟨(am_prs_mem L 0).mpr ⟨u, Nat.zero_le _, d, h3⟩, ?_⟩)
    have e1 : (j == i) = false := by simp [a]
    have e3 : (j == i + 1) = false := by simp [b]
    by_cases e2 : j + 1 = i
    · have : ¬ u.category = 2 := fun h => f ⟨e2, h⟩
      subst h3
      simp [e1, e3, am_tr_cat, this]
    · simp [e1, e2, e3]
