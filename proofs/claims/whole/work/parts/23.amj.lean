/-! what every run keeps: kinds of cells, and that what is not made yet is empty -/
def am_ext (σ σ' : am_S) : Prop := (∀ n, (am_kd σ n).1 ≠ 0 → am_kd σ' n = am_kd σ n ∧ 1000 ≤ n ∧ n < am_nx σ) ∧ am_nx σ ≤ am_nx σ'
theorem am_ext.trans {σ σ1 σ2 : am_S} (h : am_ext σ σ1) (k : am_ext σ1 σ2) : am_ext σ σ2 :=
  ⟨fun n hn => ⟨by rw [(k.1 n (by rw [(h.1 n hn).1]; exact hn)).1, (h.1 n hn).1], (h.1 n hn).2⟩, Nat.le_trans h.2 k.2⟩
theorem am_ext_rf {σ : am_S} (hI : am_I σ) : am_ext σ σ := ⟨fun n hn => ⟨rfl, hI.2.1 n hn⟩, Nat.le_refl _⟩
theorem am_ext_kd {σ σ' : am_S} (hI : am_I σ) (hk : am_kd σ' = am_kd σ) (hn : am_nx σ' = am_nx σ) : am_ext σ σ' := ⟨fun n h => ⟨by rw [hk], hI.2.1 n h⟩, Nat.le_of_eq hn.symm⟩
theorem am_upz {α : Type} {f : Nat → Nat → α} {a b : Nat} {x : α} {i j : Nat} (h : j ≠ b) : am_up f a b x i j = f i j := am_up_ne2 h
theorem am_I_sfI {σ : am_S} {g n : Nat} {x : Int32} (hI : am_I σ) (hk : (am_kd σ n).1 ≠ 0) : am_I (am_sfI σ g n x) :=
  ⟨hI.1, hI.2.1, fun m hm g' => ⟨(am_up_ne2 (fun e => absurd (hI.2.1 n hk).2 (by subst e; exact Nat.not_lt.mpr hm))).trans (hI.2.2 m hm g').1, (hI.2.2 m hm g').2⟩⟩
theorem am_I_sfL {σ : am_S} {g n : Nat} {x : Int64} (hI : am_I σ) (hk : (am_kd σ n).1 ≠ 0) : am_I (am_sfL σ g n x) :=
  ⟨hI.1, hI.2.1, fun m hm g' => ⟨(hI.2.2 m hm g').1, (am_up_ne2 (fun e => absurd (hI.2.1 n hk).2 (by subst e; exact Nat.not_lt.mpr hm))).trans (hI.2.2 m hm g').2.1, (hI.2.2 m hm g').2.2⟩⟩
theorem am_I_sfR {σ : am_S} {g n : Nat} {x : Option Nat} (hI : am_I σ) (hk : (am_kd σ n).1 ≠ 0) : am_I (am_sfR σ g n x) :=
  ⟨hI.1, hI.2.1, fun m hm g' => ⟨(hI.2.2 m hm g').1, (hI.2.2 m hm g').2.1, (am_up_ne2 (fun e => absurd (hI.2.1 n hk).2 (by subst e; exact Nat.not_lt.mpr hm))).trans (hI.2.2 m hm g').2.2.1, (hI.2.2 m hm g').2.2.2⟩⟩
theorem am_I_saI {σ : am_S} {g n : Nat} {x : Int32} (hI : am_I σ) (hk : (am_kd σ n).1 ≠ 0) : am_I (am_saI σ n g x) :=
  ⟨hI.1, hI.2.1, fun m hm g' => ⟨(hI.2.2 m hm g').1, (hI.2.2 m hm g').2.1, (hI.2.2 m hm g').2.2.1, (am_up_ne1 (fun e => absurd (hI.2.1 n hk).2 (by subst e; exact Nat.not_lt.mpr hm))).trans (hI.2.2 m hm g').2.2.2.1, (hI.2.2 m hm g').2.2.2.2⟩⟩
theorem am_I_saL {σ : am_S} {g n : Nat} {x : Int64} (hI : am_I σ) (hk : (am_kd σ n).1 ≠ 0) : am_I (am_saL σ n g x) :=
  ⟨hI.1, hI.2.1, fun m hm g' => ⟨(hI.2.2 m hm g').1, (hI.2.2 m hm g').2.1, (hI.2.2 m hm g').2.2.1, (hI.2.2 m hm g').2.2.2.1, (am_up_ne1 (fun e => absurd (hI.2.1 n hk).2 (by subst e; exact Nat.not_lt.mpr hm))).trans (hI.2.2 m hm g').2.2.2.2.1, (hI.2.2 m hm g').2.2.2.2.2⟩⟩
theorem am_I_saR {σ : am_S} {g n : Nat} {x : Option Nat} (hI : am_I σ) (hk : (am_kd σ n).1 ≠ 0) : am_I (am_saR σ n g x) :=
  ⟨hI.1, hI.2.1, fun m hm g' => ⟨(hI.2.2 m hm g').1, (hI.2.2 m hm g').2.1, (hI.2.2 m hm g').2.2.1, (hI.2.2 m hm g').2.2.2.1, (hI.2.2 m hm g').2.2.2.2.1, (am_up_ne1 (fun e => absurd (hI.2.1 n hk).2 (by subst e; exact Nat.not_lt.mpr hm))).trans (hI.2.2 m hm g').2.2.2.2.2⟩⟩
theorem am_vup {α : Type} {f : Nat → α} {a i : Nat} {x : α} (h : i ≠ a) : va_up f a x i = f i := by simp [va_up, h]
theorem am_I_scI {σ : am_S} {n : Nat} {x : Nat → Int32} (hI : am_I σ) (hk : (am_kd σ n).1 ≠ 0) : am_I (am_scI σ n x) :=
  ⟨hI.1, hI.2.1, fun m hm g' => ⟨(hI.2.2 m hm g').1, (hI.2.2 m hm g').2.1, (hI.2.2 m hm g').2.2.1, by
    show va_up σ.2.2.2.2.1 n x m g' = 0
    rw [am_vup (fun e => absurd (hI.2.1 n hk).2 (by subst e; exact Nat.not_lt.mpr hm))]
    exact (hI.2.2 m hm g').2.2.2.1, (hI.2.2 m hm g').2.2.2.2⟩⟩
theorem am_I_scL {σ : am_S} {n : Nat} {x : Nat → Int64} (hI : am_I σ) (hk : (am_kd σ n).1 ≠ 0) : am_I (am_scL σ n x) :=
  ⟨hI.1, hI.2.1, fun m hm g' => ⟨(hI.2.2 m hm g').1, (hI.2.2 m hm g').2.1, (hI.2.2 m hm g').2.2.1, (hI.2.2 m hm g').2.2.2.1, by
    show va_up σ.2.2.2.2.2.1 n x m g' = 0
    rw [am_vup (fun e => absurd (hI.2.1 n hk).2 (by subst e; exact Nat.not_lt.mpr hm))]
    exact (hI.2.2 m hm g').2.2.2.2.1, (hI.2.2 m hm g').2.2.2.2.2⟩⟩
theorem am_I_new {σ : am_S} {kd len sl : Nat} (hI : am_I σ) : am_I (am_new σ kd len sl) ∧ am_ext σ (am_new σ kd len sl) := by
  have hv : ∀ n, n ≠ am_nx σ → va_up σ.1 (am_nx σ) (kd, len) n = σ.1 n := fun n h => am_vup h
  refine ⟨⟨Nat.le_succ_of_le hI.1, fun n hn => ?_, fun m hm g' => hI.2.2 m (Nat.le_of_succ_le hm) g'⟩, fun n hn => ⟨hv n (fun e => absurd (hI.2.1 n hn).2 (by rw [e]; exact Nat.lt_irrefl _)), hI.2.1 n hn⟩, Nat.le_succ _⟩
  by_cases h : n = am_nx σ
  · rw [h]; exact ⟨hI.1, Nat.lt_succ_self _⟩
  · have hn' : (am_kd σ n).1 ≠ 0 := by
      have h2 : (va_up σ.1 (am_nx σ) (kd, len) n).1 ≠ 0 := hn
      rw [hv n h] at h2
      exact h2
    exact ⟨(hI.2.1 n hn').1, Nat.lt_succ_of_lt (hI.2.1 n hn').2⟩
theorem am_h_I {T : am_T} {x : Nat} {i : Instr} {len pc pc' : Nat} {L L' : List (Option Value)} {st st' : List Value} {σ σ' : am_S} (hI : am_I σ) (h : am_h T x i len pc L st σ = some (pc', L', st', σ')) : am_I σ' ∧ am_ext σ σ' := by
  have rf : am_I σ ∧ am_ext σ σ := ⟨hI, am_ext_rf hI⟩
  cases i with
  | putfield idx =>
    simp only [am_h] at h
    split at h
    · split at h
      · rename_i hq
        have hk : ∀ {n : Nat}, (am_kd σ n).1 = (am_lnk T x idx).2.1 + 1 → (am_kd σ n).1 ≠ 0 := fun e => by rw [e]; exact Nat.succ_ne_zero _
        split at h
        · rename_i hp
          cases h
          unfold am_fput at hp
          repeat' (split at hp)
          all_goals first
            | (cases hp; done)
            | (cases hp; exact ⟨am_I_sfI hI (hk hq.2.2), am_ext_kd hI rfl rfl⟩)
            | (cases hp; exact ⟨am_I_sfL hI (hk hq.2.2), am_ext_kd hI rfl rfl⟩)
            | (cases hp; exact ⟨am_I_sfR hI (hk hq.2.2), am_ext_kd hI rfl rfl⟩)
        · cases h
      · cases h
    · cases h
  | new idx =>
    simp only [am_h] at h
    split at h
    · cases h; exact am_I_new hI
    · cases h
  | newarray t =>
    simp only [am_h] at h
    split at h
    · split at h
      · cases h; exact am_I_new hI
      · cases h
    · cases h
  | anewarray idx =>
    simp only [am_h] at h
    split at h
    · split at h
      · cases h; exact am_I_new hI
      · cases h
    · cases h
  | iastore | lastore | bastore | aastore =>
    simp only [am_h] at h
    repeat' (split at h)
    all_goals first
      | (cases h; done)
      | (rename_i hq; cases h; exact ⟨am_I_saI hI (by have := hq.2.1; omega), am_ext_kd hI rfl rfl⟩)
      | (rename_i hq; cases h; exact ⟨am_I_saL hI (by have := hq.2.1; omega), am_ext_kd hI rfl rfl⟩)
      | (rename_i hq; cases h; exact ⟨am_I_saR hI (by have := hq.2.1; omega), am_ext_kd hI rfl rfl⟩)
  | getfield idx | getstatic idx | ldc idx | ldc_w idx | ldc2_w idx | arraylength | iaload | baload | laload | aaload =>
    simp only [am_h] at h
    repeat' (split at h)
    all_goals first
      | (cases h; done)
      | (cases h; exact rf)
  | _ =>
    simp only [am_h] at h
    split at h
    · cases h; exact rf
    · cases h
theorem am_cp_I {σ σ' : am_S} {st r : List Value} (hI : am_I σ) (h : am_cp σ st = some (r, σ')) : am_I σ' ∧ am_ext σ σ' := by
  unfold am_cp at h
  repeat' (split at h)
  all_goals first
    | (cases h; done)
    | (rename_i hq; cases h; exact ⟨am_I_scL hI (by have := hq; omega), am_ext_kd hI rfl rfl⟩)
    | (rename_i hq; cases h; exact ⟨am_I_scI hI (by rcases hq with hq | hq <;> first | (have := hq; omega) | (have := hq.1; omega)), am_ext_kd hI rfl rfl⟩)
theorem am_x_I {T : am_T} : ∀ (f fr lo x pc : Nat) (L : List (Option Value)) (st : List Value) (σ : am_S) (v : Option Value) (σ' : am_S), am_I σ → am_x T f fr lo x pc L st σ = some (v, σ') → am_I σ' ∧ am_ext σ σ' := by
  intro f
  induction f with
  | zero => intro fr lo x pc L st σ v σ' _ h; simp [am_x] at h
  | succ f ih =>
    intro fr lo x pc L st σ v σ' hI h
    simp only [am_x] at h
    split at h
    · cases h
    · split at h
      · split at h
        · cases h; exact ⟨hI, am_ext_rf hI⟩
        · cases h
      · split at h
        · split at h
          · split at h
            · exact ih _ _ _ _ _ _ _ _ _ hI h
            · cases h
          · split at h
            · split at h
              · rename_i hc
                split at h
                · have h1 := am_cp_I hI hc
                  have h2 := ih _ _ _ _ _ _ _ _ _ h1.1 h
                  exact ⟨h2.1, h1.2.trans h2.2⟩
                · cases h
              · cases h
            split at h
            · split at h
              · rename_i hc
                have h1 := ih _ _ _ _ _ _ _ _ _ hI hc
                have h2 := ih _ _ _ _ _ _ _ _ _ h1.1 h
                exact ⟨h2.1, h1.2.trans h2.2⟩
              · cases h
            · cases h
        · split at h
          · rename_i hh
            have h1 := am_h_I hI hh
            have h2 := ih _ _ _ _ _ _ _ _ _ h1.1 h
            exact ⟨h2.1, h1.2.trans h2.2⟩
          · cases h
