/-! THE LAW: one call of each sort -/
section
variable {nl : Bool} {Ln : Nat} {xs : Nat → Int32} {σ : am_S} {n : Nat} {x3 : Int32} {F : Bool → am_S → Prop}
/-- where the script is read -/
def LwB (nl : Bool) (Ln : Nat) (xs : Nat → Int32) (x3 : Int32) : Prop := ∀ k : Nat, k ≤ 7 → 0 ≤ (x3 + Int32.ofNat k).toInt ∧ (x3 + Int32.ofNat k).toInt < am_rl (am_tz (TT nl Ln xs)) 999
theorem law_208 (hb : LwB nl Ln xs x3) (hn : n ≤ 600) (H : LpI σ n) (K : ∀ σ', LpI σ' (n + 1) → c_Law_law_18 nl Ln xs 1600 (some 1000) (some 1053) (x3 + 8) σ' F) : c_Law_law_208 nl Ln xs 1600 (some 1000) (some 1053) x3 σ F := by
  obtain ⟨o, o', w, v, X, b, sp, g, gl, nu, D, R, C, I, hnu, hlt⟩ := H
  have ho : o = 1063 ∨ o = 1126 := by rcases R.1 with q | q <;> omega
  refine low (fun hL => w_Law_law_208 (d := 1599) ⟨is_mk C.1.1.2, ?_⟩)
  rw [Option.getD_some]
  refine lowI (co_person (d := 1182) (I.g hn (by omega)) C (fun s ws X' gl' nu' hnu' C' hS _ => ?_))
  have R' := R.ref C'.rf
  refine ⟨is_mk R'.m.1, ?_⟩
  rw [Option.getD_some]
  exact rm_person (d := 1174) (I.w hn) R' (fun σ' R2 r2 _ => ⟨fun _ => K σ' (lp_next C' R2 (r2.fr ho (by intro k hk; exact List.mem_range.mp hk) (by decide)) (inv_dact I hn (by decide) (by decide) (by decide)) (by show nu' + (d_tap D).length ≤ _; omega) hlt), fun z => absurd rfl z⟩)
theorem law_221 (hb : LwB nl Ln xs x3) (hn : n ≤ 600) (H : LpI σ n) (K : ∀ σ', LpI σ' (n + 1) → c_Law_law_18 nl Ln xs 1600 (some 1000) (some 1053) (x3 + 8) σ' F) : c_Law_law_221 nl Ln xs 1600 (some 1000) (some 1053) x3 σ F := by
  obtain ⟨o, o', w, v, X, b, sp, g, gl, nu, D, R, C, I, hnu, hlt⟩ := H
  have ho : o = 1063 ∨ o = 1126 := by rcases R.1 with q | q <;> omega
  refine low (fun hL => w_Law_law_221 (d := 1599) ⟨hL 999 (by decide), (hb 1 (by decide)).1, (hb 1 (by decide)).2, hL 999 (by decide), (hb 2 (by decide)).1, (hb 2 (by decide)).2, is_mk C.1.1.2, ?_⟩)
  rw [Option.getD_some]
  refine lowI (co_rank (d := 1182) (I.g hn (by omega)) C (fun s ws X' gl' nu' hnu' C' hS _ => ?_))
  have R' := R.ref C'.rf
  refine ⟨hS 999 (by decide), (hb 1 (by decide)).1, (hb 1 (by decide)).2, hS 999 (by decide), (hb 2 (by decide)).1, (hb 2 (by decide)).2, is_mk R'.m.1, ?_⟩
  rw [Option.getD_some]
  exact rm_rank (d := 1174) (I.w hn) R' (fun σ' R2 r2 _ => ⟨fun _ => K σ' (lp_next C' R2 (r2.fr ho (by intro k hk; exact List.mem_range.mp hk) (by decide)) (inv_dact I hn (by decide) (by decide) (by decide)) (by show nu' + (d_tap D).length ≤ _; omega) hlt), fun z => absurd rfl z⟩)
theorem law_254 (hb : LwB nl Ln xs x3) (hn : n ≤ 600) (H : LpI σ n) (K : ∀ σ', LpI σ' (n + 1) → c_Law_law_18 nl Ln xs 1600 (some 1000) (some 1053) (x3 + 8) σ' F) : c_Law_law_254 nl Ln xs 1600 (some 1000) (some 1053) x3 σ F := by
  obtain ⟨o, o', w, v, X, b, sp, g, gl, nu, D, R, C, I, hnu, hlt⟩ := H
  have ho : o = 1063 ∨ o = 1126 := by rcases R.1 with q | q <;> omega
  refine low (fun hL => w_Law_law_254 (d := 1599) ⟨hL 999 (by decide), (hb 1 (by decide)).1, (hb 1 (by decide)).2, hL 999 (by decide), (hb 2 (by decide)).1, (hb 2 (by decide)).2, hL 999 (by decide), (hb 3 (by decide)).1, (hb 3 (by decide)).2, hL 999 (by decide), (hb 4 (by decide)).1, (hb 4 (by decide)).2, is_mk C.1.1.2, ?_⟩)
  rw [Option.getD_some]
  refine lowI (co_policy (d := 1182) (I.g hn (by omega)) C (fun s ws X' gl' nu' hnu' C' hS _ => ?_))
  have R' := R.ref C'.rf
  refine ⟨hS 999 (by decide), (hb 1 (by decide)).1, (hb 1 (by decide)).2, hS 999 (by decide), (hb 2 (by decide)).1, (hb 2 (by decide)).2, hS 999 (by decide), (hb 3 (by decide)).1, (hb 3 (by decide)).2, hS 999 (by decide), (hb 4 (by decide)).1, (hb 4 (by decide)).2, is_mk R'.m.1, ?_⟩
  rw [Option.getD_some]
  exact rm_policy (d := 1174) (I.w hn) R' (fun σ' R2 r2 _ => ⟨fun _ => K σ' (lp_next C' R2 (r2.fr ho (by intro k hk; exact List.mem_range.mp hk) (by decide)) (inv_dact I hn (by decide) (by decide) (by decide)) (by show nu' + (d_tap D).length ≤ _; omega) hlt), fun z => absurd rfl z⟩)
theorem law_307 (hb : LwB nl Ln xs x3) (hn : n ≤ 600) (H : LpI σ n) (K : ∀ σ', LpI σ' (n + 1) → c_Law_law_18 nl Ln xs 1600 (some 1000) (some 1053) (x3 + 8) σ' F) : c_Law_law_307 nl Ln xs 1600 (some 1000) (some 1053) x3 σ F := by
  obtain ⟨o, o', w, v, X, b, sp, g, gl, nu, D, R, C, I, hnu, hlt⟩ := H
  have ho : o = 1063 ∨ o = 1126 := by rcases R.1 with q | q <;> omega
  refine low (fun hL => w_Law_law_307 (d := 1599) ⟨hL 999 (by decide), (hb 1 (by decide)).1, (hb 1 (by decide)).2, hL 999 (by decide), (hb 2 (by decide)).1, (hb 2 (by decide)).2, hL 999 (by decide), (hb 3 (by decide)).1, (hb 3 (by decide)).2, is_mk C.1.1.2, ?_⟩)
  rw [Option.getD_some]
  refine lowI (co_bundle (d := 1182) (I.g hn (by omega)) C (fun s ws X' gl' nu' hnu' C' hS _ => ?_))
  have R' := R.ref C'.rf
  refine ⟨hS 999 (by decide), (hb 1 (by decide)).1, (hb 1 (by decide)).2, hS 999 (by decide), (hb 2 (by decide)).1, (hb 2 (by decide)).2, hS 999 (by decide), (hb 3 (by decide)).1, (hb 3 (by decide)).2, is_mk R'.m.1, ?_⟩
  rw [Option.getD_some]
  exact rm_bundle (d := 1174) (I.w hn) R' (fun σ' R2 r2 _ => ⟨fun _ => K σ' (lp_next C' R2 (r2.fr ho (by intro k hk; exact List.mem_range.mp hk) (by decide)) (inv_dact I hn (by decide) (by decide) (by decide)) (by show nu' + (d_tap D).length ≤ _; omega) hlt), fun z => absurd rfl z⟩)
theorem law_350 (hb : LwB nl Ln xs x3) (hn : n ≤ 600) (H : LpI σ n) (K : ∀ σ', LpI σ' (n + 1) → c_Law_law_18 nl Ln xs 1600 (some 1000) (some 1053) (x3 + 8) σ' F) : c_Law_law_350 nl Ln xs 1600 (some 1000) (some 1053) x3 σ F := by
  obtain ⟨o, o', w, v, X, b, sp, g, gl, nu, D, R, C, I, hnu, hlt⟩ := H
  have ho : o = 1063 ∨ o = 1126 := by rcases R.1 with q | q <;> omega
  refine low (fun hL => w_Law_law_350 (d := 1599) ⟨hL 999 (by decide), (hb 1 (by decide)).1, (hb 1 (by decide)).2, hL 999 (by decide), (hb 2 (by decide)).1, (hb 2 (by decide)).2, hL 999 (by decide), (hb 3 (by decide)).1, (hb 3 (by decide)).2, hL 999 (by decide), (hb 4 (by decide)).1, (hb 4 (by decide)).2, is_mk C.1.1.2, ?_⟩)
  rw [Option.getD_some]
  refine lowI (co_period (d := 1182) (I.g hn (by omega)) C (fun s ws X' gl' nu' hnu' C' hS _ => ?_))
  have R' := R.ref C'.rf
  refine ⟨hS 999 (by decide), (hb 1 (by decide)).1, (hb 1 (by decide)).2, hS 999 (by decide), (hb 2 (by decide)).1, (hb 2 (by decide)).2, hS 999 (by decide), (hb 3 (by decide)).1, (hb 3 (by decide)).2, hS 999 (by decide), (hb 4 (by decide)).1, (hb 4 (by decide)).2, is_mk R'.m.1, ?_⟩
  rw [Option.getD_some]
  exact rm_period (d := 1174) (I.w hn) R' (fun σ' R2 r2 _ => ⟨fun _ => K σ' (lp_next C' R2 (r2.fr ho (by intro k hk; exact List.mem_range.mp hk) (by decide)) (inv_dact I hn (by decide) (by decide) (by decide)) (by show nu' + (d_tap D).length ≤ _; omega) hlt), fun z => absurd rfl z⟩)
theorem law_423 (hb : LwB nl Ln xs x3) (hn : n ≤ 600) (H : LpI σ n) (K : ∀ σ', LpI σ' (n + 1) → c_Law_law_18 nl Ln xs 1600 (some 1000) (some 1053) (x3 + 8) σ' F) : c_Law_law_423 nl Ln xs 1600 (some 1000) (some 1053) x3 σ F := by
  obtain ⟨o, o', w, v, X, b, sp, g, gl, nu, D, R, C, I, hnu, hlt⟩ := H
  have ho : o = 1063 ∨ o = 1126 := by rcases R.1 with q | q <;> omega
  refine low (fun hL => w_Law_law_423 (d := 1599) ⟨hL 999 (by decide), (hb 1 (by decide)).1, (hb 1 (by decide)).2, hL 999 (by decide), (hb 2 (by decide)).1, (hb 2 (by decide)).2, hL 999 (by decide), (hb 3 (by decide)).1, (hb 3 (by decide)).2, is_mk C.1.1.2, ?_⟩)
  rw [Option.getD_some]
  refine lowI (co_type (d := 1595) I.2.2.2.1 C (fun s ws g' C' hS _ => ?_))
  have R' := R.ref C'.rf
  refine ⟨hS 999 (by decide), (hb 1 (by decide)).1, (hb 1 (by decide)).2, hS 999 (by decide), (hb 2 (by decide)).1, (hb 2 (by decide)).2, hS 999 (by decide), (hb 3 (by decide)).1, (hb 3 (by decide)).2, is_mk R'.m.1, ?_⟩
  rw [Option.getD_some]
  exact r_type (d := 1598) R' (fun σ' R2 r2 _ => ⟨fun _ => K σ' (lp_next C' R2 (r2.fr ho (by simp) (by decide)) (inv_type I) (Nat.le_trans (Nat.add_le_add_left tap_type nu) (by omega)) (by rw [let_type]; exact hlt)), fun z => absurd rfl z⟩)
theorem law_486 (hb : LwB nl Ln xs x3) (hn : n ≤ 600) (H : LpI σ n) (K : ∀ σ', LpI σ' (n + 1) → c_Law_law_18 nl Ln xs 1600 (some 1000) (some 1053) (x3 + 8) σ' F) : c_Law_law_486 nl Ln xs 1600 (some 1000) (some 1053) x3 σ F := by
  obtain ⟨o, o', w, v, X, b, sp, g, gl, nu, D, R, C, I, hnu, hlt⟩ := H
  have ho : o = 1063 ∨ o = 1126 := by rcases R.1 with q | q <;> omega
  refine low (fun hL => w_Law_law_486 (d := 1599) ⟨hL 999 (by decide), (hb 1 (by decide)).1, (hb 1 (by decide)).2, is_mk C.1.1.2, ?_⟩)
  rw [Option.getD_some]
  refine lowI (co_clauses (d := 1182) (I.g hn (by omega)) I.2.2.2.1 C (fun s ws X' gl' nu' hnu' C' hS _ => ?_))
  have R' := R.ref C'.rf
  refine ⟨hS 999 (by decide), (hb 1 (by decide)).1, (hb 1 (by decide)).2, is_mk R'.m.1, ?_⟩
  rw [Option.getD_some]
  exact rm_clauses (d := 1174) (I.w hn) R' (fun σ' R2 r2 _ => ⟨fun _ => K σ' (lp_next C' R2 (r2.fr ho (by intro k hk; exact List.mem_range.mp hk) (by decide)) (inv_clauses I hn) (by omega) hlt), fun z => absurd rfl z⟩)
theorem law_509 (hb : LwB nl Ln xs x3) (hn : n ≤ 600) (H : LpI σ n) (K : ∀ σ', LpI σ' (n + 1) → c_Law_law_18 nl Ln xs 1600 (some 1000) (some 1053) (x3 + 8) σ' F) : c_Law_law_509 nl Ln xs 1600 (some 1000) (some 1053) x3 σ F := by
  obtain ⟨o, o', w, v, X, b, sp, g, gl, nu, D, R, C, I, hnu, hlt⟩ := H
  have ho : o = 1063 ∨ o = 1126 := by rcases R.1 with q | q <;> omega
  refine low (fun hL => w_Law_law_509 (d := 1599) ⟨hL 999 (by decide), (hb 1 (by decide)).1, (hb 1 (by decide)).2, hL 999 (by decide), (hb 2 (by decide)).1, (hb 2 (by decide)).2, is_mk C.1.1.2, ?_⟩)
  rw [Option.getD_some]
  refine lowI (co_shareRule (d := 1182) (I.g hn (by omega)) C (fun s ws X' gl' nu' hnu' C' hS _ => ?_))
  have R' := R.ref C'.rf
  refine ⟨hS 999 (by decide), (hb 1 (by decide)).1, (hb 1 (by decide)).2, hS 999 (by decide), (hb 2 (by decide)).1, (hb 2 (by decide)).2, is_mk R'.m.1, ?_⟩
  rw [Option.getD_some]
  exact rm_shareRule (d := 1174) (I.w hn) R' (fun σ' R2 r2 _ => ⟨fun _ => K σ' (lp_next C' R2 (r2.fr ho (by intro k hk; exact List.mem_range.mp hk) (by decide)) (inv_dact I hn (by decide) (by decide) (by decide)) (by show nu' + (d_tap D).length ≤ _; omega) hlt), fun z => absurd rfl z⟩)
theorem law_542 (hb : LwB nl Ln xs x3) (hn : n ≤ 600) (H : LpI σ n) (K : ∀ σ', LpI σ' (n + 1) → c_Law_law_18 nl Ln xs 1600 (some 1000) (some 1053) (x3 + 8) σ' F) : c_Law_law_542 nl Ln xs 1600 (some 1000) (some 1053) x3 σ F := by
  obtain ⟨o, o', w, v, X, b, sp, g, gl, nu, D, R, C, I, hnu, hlt⟩ := H
  have ho : o = 1063 ∨ o = 1126 := by rcases R.1 with q | q <;> omega
  refine low (fun hL => w_Law_law_542 (d := 1599) ⟨hL 999 (by decide), (hb 1 (by decide)).1, (hb 1 (by decide)).2, hL 999 (by decide), (hb 2 (by decide)).1, (hb 2 (by decide)).2, is_mk C.1.1.2, ?_⟩)
  rw [Option.getD_some]
  refine lowI (co_loss (d := 1182) (I.g hn (by omega)) C (fun s ws X' gl' nu' hnu' C' hS _ => ?_))
  have R' := R.ref C'.rf
  refine ⟨hS 999 (by decide), (hb 1 (by decide)).1, (hb 1 (by decide)).2, hS 999 (by decide), (hb 2 (by decide)).1, (hb 2 (by decide)).2, is_mk R'.m.1, ?_⟩
  rw [Option.getD_some]
  exact rm_loss (d := 1174) (I.w hn) R' (fun σ' R2 r2 _ => ⟨fun _ => K σ' (lp_next C' R2 (r2.fr ho (by intro k hk; exact List.mem_range.mp hk) (by decide)) (inv_dact I hn (by decide) (by decide) (by decide)) (by show nu' + (d_tap D).length ≤ _; omega) hlt), fun z => absurd rfl z⟩)
theorem law_575 (hb : LwB nl Ln xs x3) (hn : n ≤ 600) (H : LpI σ n) (K : ∀ σ', LpI σ' (n + 1) → c_Law_law_18 nl Ln xs 1600 (some 1000) (some 1053) (x3 + 8) σ' F) : c_Law_law_575 nl Ln xs 1600 (some 1000) (some 1053) x3 σ F := by
  obtain ⟨o, o', w, v, X, b, sp, g, gl, nu, D, R, C, I, hnu, hlt⟩ := H
  have ho : o = 1063 ∨ o = 1126 := by rcases R.1 with q | q <;> omega
  refine low (fun hL => w_Law_law_575 (d := 1599) ⟨hL 999 (by decide), (hb 1 (by decide)).1, (hb 1 (by decide)).2, hL 999 (by decide), (hb 2 (by decide)).1, (hb 2 (by decide)).2, is_mk C.1.1.2, ?_⟩)
  rw [Option.getD_some]
  refine lowI (co_part (d := 1182) (I.g hn (by omega)) C (fun s ws X' gl' nu' hnu' C' hS _ => ?_))
  have R' := R.ref C'.rf
  refine ⟨hS 999 (by decide), (hb 1 (by decide)).1, (hb 1 (by decide)).2, hS 999 (by decide), (hb 2 (by decide)).1, (hb 2 (by decide)).2, is_mk R'.m.1, ?_⟩
  rw [Option.getD_some]
  exact rm_part (d := 1174) (I.w hn) R' (fun σ' R2 r2 _ => ⟨fun _ => K σ' (lp_next C' R2 (r2.fr ho (by intro k hk; exact List.mem_range.mp hk) (by decide)) (inv_dact I hn (by decide) (by decide) (by decide)) (by show nu' + (d_tap D).length ≤ _; omega) hlt), fun z => absurd rfl z⟩)
theorem law_608 (hb : LwB nl Ln xs x3) (hn : n ≤ 600) (H : LpI σ n) (K : ∀ σ', LpI σ' (n + 1) → c_Law_law_18 nl Ln xs 1600 (some 1000) (some 1053) (x3 + 8) σ' F) : c_Law_law_608 nl Ln xs 1600 (some 1000) (some 1053) x3 σ F := by
  obtain ⟨o, o', w, v, X, b, sp, g, gl, nu, D, R, C, I, hnu, hlt⟩ := H
  have ho : o = 1063 ∨ o = 1126 := by rcases R.1 with q | q <;> omega
  refine low (fun hL => w_Law_law_608 (d := 1599) ⟨hL 999 (by decide), (hb 1 (by decide)).1, (hb 1 (by decide)).2, hL 999 (by decide), (hb 2 (by decide)).1, (hb 2 (by decide)).2, hL 999 (by decide), (hb 3 (by decide)).1, (hb 3 (by decide)).2, hL 999 (by decide), (hb 4 (by decide)).1, (hb 4 (by decide)).2, hL 999 (by decide), (hb 5 (by decide)).1, (hb 5 (by decide)).2, hL 999 (by decide), (hb 6 (by decide)).1, (hb 6 (by decide)).2, is_mk C.1.1.2, ?_⟩)
  rw [Option.getD_some]
  refine lowI (co_item (d := 1182) (I.g hn (by omega)) C (fun s ws X' gl' nu' hnu' C' hS _ => ?_))
  have R' := R.ref C'.rf
  refine ⟨hS 999 (by decide), (hb 1 (by decide)).1, (hb 1 (by decide)).2, hS 999 (by decide), (hb 2 (by decide)).1, (hb 2 (by decide)).2, hS 999 (by decide), (hb 3 (by decide)).1, (hb 3 (by decide)).2, hS 999 (by decide), (hb 4 (by decide)).1, (hb 4 (by decide)).2, hS 999 (by decide), (hb 5 (by decide)).1, (hb 5 (by decide)).2, hS 999 (by decide), (hb 6 (by decide)).1, (hb 6 (by decide)).2, is_mk R'.m.1, ?_⟩
  rw [Option.getD_some]
  exact rm_item (d := 1174) (I.w hn) R' (fun σ' R2 r2 _ => ⟨fun _ => K σ' (lp_next C' R2 (r2.fr ho (by intro k hk; exact List.mem_range.mp hk) (by decide)) (inv_dact I hn (by decide) (by decide) (by decide)) (by show nu' + (d_tap D).length ≤ _; omega) hlt), fun z => absurd rfl z⟩)
theorem law_723 (hb : LwB nl Ln xs x3) (hn : n ≤ 600) (H : LpI σ n) (K : ∀ σ', LpI σ' (n + 1) → c_Law_law_18 nl Ln xs 1600 (some 1000) (some 1053) (x3 + 8) σ' F) : c_Law_law_723 nl Ln xs 1600 (some 1000) (some 1053) x3 σ F := by
  obtain ⟨o, o', w, v, X, b, sp, g, gl, nu, D, R, C, I, hnu, hlt⟩ := H
  have ho : o = 1063 ∨ o = 1126 := by rcases R.1 with q | q <;> omega
  refine low (fun hL => w_Law_law_723 (d := 1599) ⟨hL 999 (by decide), (hb 1 (by decide)).1, (hb 1 (by decide)).2, hL 999 (by decide), (hb 2 (by decide)).1, (hb 2 (by decide)).2, hL 999 (by decide), (hb 3 (by decide)).1, (hb 3 (by decide)).2, hL 999 (by decide), (hb 4 (by decide)).1, (hb 4 (by decide)).2, is_mk C.1.1.2, ?_⟩)
  rw [Option.getD_some]
  refine lowI (co_notify (d := 1182) (I.g hn (by omega)) C (fun s ws X' gl' nu' hnu' C' hS _ => ?_))
  have R' := R.ref C'.rf
  refine ⟨hS 999 (by decide), (hb 1 (by decide)).1, (hb 1 (by decide)).2, hS 999 (by decide), (hb 2 (by decide)).1, (hb 2 (by decide)).2, hS 999 (by decide), (hb 3 (by decide)).1, (hb 3 (by decide)).2, hS 999 (by decide), (hb 4 (by decide)).1, (hb 4 (by decide)).2, is_mk R'.m.1, ?_⟩
  rw [Option.getD_some]
  exact rm_notify (d := 1174) (I.w hn) R' (fun σ' R2 r2 _ => ⟨fun _ => K σ' (lp_next C' R2 (r2.fr ho (by intro k hk; exact List.mem_range.mp hk) (by decide)) (inv_dact I hn (by decide) (by decide) (by decide)) (by show nu' + (d_tap D).length ≤ _; omega) hlt), fun z => absurd rfl z⟩)
theorem law_776 (hb : LwB nl Ln xs x3) (hn : n ≤ 600) (H : LpI σ n) (K : ∀ σ', LpI σ' (n + 1) → c_Law_law_18 nl Ln xs 1600 (some 1000) (some 1053) (x3 + 8) σ' F) : c_Law_law_776 nl Ln xs 1600 (some 1000) (some 1053) x3 σ F := by
  obtain ⟨o, o', w, v, X, b, sp, g, gl, nu, D, R, C, I, hnu, hlt⟩ := H
  have ho : o = 1063 ∨ o = 1126 := by rcases R.1 with q | q <;> omega
  refine low (fun hL => w_Law_law_776 (d := 1599) ⟨hL 999 (by decide), (hb 1 (by decide)).1, (hb 1 (by decide)).2, hL 999 (by decide), (hb 2 (by decide)).1, (hb 2 (by decide)).2, hL 999 (by decide), (hb 3 (by decide)).1, (hb 3 (by decide)).2, hL 999 (by decide), (hb 4 (by decide)).1, (hb 4 (by decide)).2, hL 999 (by decide), (hb 5 (by decide)).1, (hb 5 (by decide)).2, is_mk C.1.1.2, ?_⟩)
  rw [Option.getD_some]
  refine lowI (co_reserve (d := 1182) (I.g hn (by omega)) C (fun s ws X' gl' nu' hnu' C' hS _ => ?_))
  have R' := R.ref C'.rf
  refine ⟨hS 999 (by decide), (hb 1 (by decide)).1, (hb 1 (by decide)).2, hS 999 (by decide), (hb 2 (by decide)).1, (hb 2 (by decide)).2, hS 999 (by decide), (hb 3 (by decide)).1, (hb 3 (by decide)).2, hS 999 (by decide), (hb 4 (by decide)).1, (hb 4 (by decide)).2, hS 999 (by decide), (hb 5 (by decide)).1, (hb 5 (by decide)).2, is_mk R'.m.1, ?_⟩
  rw [Option.getD_some]
  exact rm_reserve (d := 1174) (I.w hn) R' (fun σ' R2 r2 _ => ⟨fun _ => K σ' (lp_next C' R2 (r2.fr ho (by intro k hk; exact List.mem_range.mp hk) (by decide)) (inv_dact I hn (by decide) (by decide) (by decide)) (by show nu' + (d_tap D).length ≤ _; omega) hlt), fun z => absurd rfl z⟩)
theorem law_859 (hb : LwB nl Ln xs x3) (hn : n ≤ 600) (H : LpI σ n) (K : ∀ σ', LpI σ' (n + 1) → c_Law_law_18 nl Ln xs 1600 (some 1000) (some 1053) (x3 + 8) σ' F) : c_Law_law_859 nl Ln xs 1600 (some 1000) (some 1053) x3 σ F := by
  obtain ⟨o, o', w, v, X, b, sp, g, gl, nu, D, R, C, I, hnu, hlt⟩ := H
  have ho : o = 1063 ∨ o = 1126 := by rcases R.1 with q | q <;> omega
  refine low (fun hL => w_Law_law_859 (d := 1599) ⟨hL 999 (by decide), (hb 1 (by decide)).1, (hb 1 (by decide)).2, hL 999 (by decide), (hb 2 (by decide)).1, (hb 2 (by decide)).2, hL 999 (by decide), (hb 3 (by decide)).1, (hb 3 (by decide)).2, hL 999 (by decide), (hb 4 (by decide)).1, (hb 4 (by decide)).2, is_mk C.1.1.2, ?_⟩)
  rw [Option.getD_some]
  refine lowI (co_pay (d := 1182) (I.g hn (by omega)) C (fun s ws X' gl' nu' hnu' C' hS _ => ?_))
  have R' := R.ref C'.rf
  refine ⟨hS 999 (by decide), (hb 1 (by decide)).1, (hb 1 (by decide)).2, hS 999 (by decide), (hb 2 (by decide)).1, (hb 2 (by decide)).2, hS 999 (by decide), (hb 3 (by decide)).1, (hb 3 (by decide)).2, hS 999 (by decide), (hb 4 (by decide)).1, (hb 4 (by decide)).2, is_mk R'.m.1, ?_⟩
  rw [Option.getD_some]
  exact rm_pay (d := 1174) (I.w hn) R' (fun σ' R2 r2 _ => ⟨fun _ => K σ' (lp_next C' R2 (r2.fr ho (by intro k hk; exact List.mem_range.mp hk) (by decide)) (inv_dact I hn (by decide) (by decide) (by decide)) (by show nu' + (d_tap D).length ≤ _; omega) hlt), fun z => absurd rfl z⟩)
theorem law_932 (hb : LwB nl Ln xs x3) (hn : n ≤ 600) (H : LpI σ n) (K : ∀ σ', LpI σ' (n + 1) → c_Law_law_18 nl Ln xs 1600 (some 1000) (some 1053) (x3 + 8) σ' F) : c_Law_law_932 nl Ln xs 1600 (some 1000) (some 1053) x3 σ F := by
  obtain ⟨o, o', w, v, X, b, sp, g, gl, nu, D, R, C, I, hnu, hlt⟩ := H
  have ho : o = 1063 ∨ o = 1126 := by rcases R.1 with q | q <;> omega
  refine low (fun hL => w_Law_law_932 (d := 1599) ⟨hL 999 (by decide), (hb 1 (by decide)).1, (hb 1 (by decide)).2, hL 999 (by decide), (hb 2 (by decide)).1, (hb 2 (by decide)).2, is_mk C.1.1.2, ?_⟩)
  rw [Option.getD_some]
  refine lowI (co_close (d := 1182) (I.g hn (by omega)) C (fun s ws X' gl' nu' hnu' C' hS _ => ?_))
  have R' := R.ref C'.rf
  refine ⟨hS 999 (by decide), (hb 1 (by decide)).1, (hb 1 (by decide)).2, hS 999 (by decide), (hb 2 (by decide)).1, (hb 2 (by decide)).2, is_mk R'.m.1, ?_⟩
  rw [Option.getD_some]
  exact rm_close (d := 1174) (I.w hn) R' (fun σ' R2 r2 _ => ⟨fun _ => K σ' (lp_next C' R2 (r2.fr ho (by intro k hk; exact List.mem_range.mp hk) (by decide)) (inv_dact I hn (by decide) (by decide) (by decide)) (by show nu' + (d_tap D).length ≤ _; omega) hlt), fun z => absurd rfl z⟩)
theorem law_965 (hb : LwB nl Ln xs x3) (hn : n ≤ 600) (H : LpI σ n) (K : ∀ σ', LpI σ' (n + 1) → c_Law_law_18 nl Ln xs 1600 (some 1000) (some 1053) (x3 + 8) σ' F) : c_Law_law_965 nl Ln xs 1600 (some 1000) (some 1053) x3 σ F := by
  obtain ⟨o, o', w, v, X, b, sp, g, gl, nu, D, R, C, I, hnu, hlt⟩ := H
  have ho : o = 1063 ∨ o = 1126 := by rcases R.1 with q | q <;> omega
  refine low (fun hL => w_Law_law_965 (d := 1599) ⟨hL 999 (by decide), (hb 1 (by decide)).1, (hb 1 (by decide)).2, hL 999 (by decide), (hb 2 (by decide)).1, (hb 2 (by decide)).2, hL 999 (by decide), (hb 3 (by decide)).1, (hb 3 (by decide)).2, is_mk C.1.1.2, ?_⟩)
  rw [Option.getD_some]
  refine lowI (co_reopen (d := 1182) (I.g hn (by omega)) C (fun s ws X' gl' nu' hnu' C' hS _ => ?_))
  have R' := R.ref C'.rf
  refine ⟨hS 999 (by decide), (hb 1 (by decide)).1, (hb 1 (by decide)).2, hS 999 (by decide), (hb 2 (by decide)).1, (hb 2 (by decide)).2, hS 999 (by decide), (hb 3 (by decide)).1, (hb 3 (by decide)).2, is_mk R'.m.1, ?_⟩
  rw [Option.getD_some]
  exact rm_reopen (d := 1174) (I.w hn) R' (fun σ' R2 r2 _ => ⟨fun _ => K σ' (lp_next C' R2 (r2.fr ho (by intro k hk; exact List.mem_range.mp hk) (by decide)) (inv_dact I hn (by decide) (by decide) (by decide)) (by show nu' + (d_tap D).length ≤ _; omega) hlt), fun z => absurd rfl z⟩)
theorem law_1008 (hb : LwB nl Ln xs x3) (hn : n ≤ 600) (H : LpI σ n) (K : ∀ σ', LpI σ' (n + 1) → c_Law_law_18 nl Ln xs 1600 (some 1000) (some 1053) (x3 + 8) σ' F) : c_Law_law_1008 nl Ln xs 1600 (some 1000) (some 1053) x3 σ F := by
  obtain ⟨o, o', w, v, X, b, sp, g, gl, nu, D, R, C, I, hnu, hlt⟩ := H
  have ho : o = 1063 ∨ o = 1126 := by rcases R.1 with q | q <;> omega
  refine low (fun hL => w_Law_law_1008 (d := 1599) ⟨hL 999 (by decide), (hb 1 (by decide)).1, (hb 1 (by decide)).2, hL 999 (by decide), (hb 2 (by decide)).1, (hb 2 (by decide)).2, hL 999 (by decide), (hb 3 (by decide)).1, (hb 3 (by decide)).2, hL 999 (by decide), (hb 4 (by decide)).1, (hb 4 (by decide)).2, hL 999 (by decide), (hb 5 (by decide)).1, (hb 5 (by decide)).2, hL 999 (by decide), (hb 6 (by decide)).1, (hb 6 (by decide)).2, hL 999 (by decide), (hb 7 (by decide)).1, (hb 7 (by decide)).2, is_mk C.1.1.2, ?_⟩)
  rw [Option.getD_some]
  refine lowI (co_correct (d := 1182) (I.g hn (by omega)) C (fun s ws X' gl' nu' hnu' C' hS _ => ?_))
  have R' := R.ref C'.rf
  refine ⟨hS 999 (by decide), (hb 1 (by decide)).1, (hb 1 (by decide)).2, hS 999 (by decide), (hb 2 (by decide)).1, (hb 2 (by decide)).2, hS 999 (by decide), (hb 3 (by decide)).1, (hb 3 (by decide)).2, hS 999 (by decide), (hb 4 (by decide)).1, (hb 4 (by decide)).2, hS 999 (by decide), (hb 5 (by decide)).1, (hb 5 (by decide)).2, hS 999 (by decide), (hb 6 (by decide)).1, (hb 6 (by decide)).2, hS 999 (by decide), (hb 7 (by decide)).1, (hb 7 (by decide)).2, is_mk R'.m.1, ?_⟩
  rw [Option.getD_some]
  exact rm_correct (d := 1175) (I.w hn) R' (fun σ' R2 r2 _ => ⟨fun _ => K σ' (lp_next C' R2 (r2.fr ho (by intro k hk; exact List.mem_range.mp hk) (by decide)) (inv_dact I hn (by decide) (by decide) (by decide)) (by show nu' + (d_tap D).length ≤ _; omega) hlt), fun z => absurd rfl z⟩)
theorem law_1115 (hb : LwB nl Ln xs x3) (hn : n ≤ 600) (H : LpI σ n) (K : ∀ σ', LpI σ' (n + 1) → c_Law_law_18 nl Ln xs 1600 (some 1000) (some 1053) (x3 + 8) σ' F) : c_Law_law_1115 nl Ln xs 1600 (some 1000) (some 1053) x3 σ F := by
  obtain ⟨o, o', w, v, X, b, sp, g, gl, nu, D, R, C, I, hnu, hlt⟩ := H
  have ho : o = 1063 ∨ o = 1126 := by rcases R.1 with q | q <;> omega
  refine low (fun hL => w_Law_law_1115 (d := 1599) ⟨hL 999 (by decide), (hb 1 (by decide)).1, (hb 1 (by decide)).2, hL 999 (by decide), (hb 2 (by decide)).1, (hb 2 (by decide)).2, hL 999 (by decide), (hb 3 (by decide)).1, (hb 3 (by decide)).2, hL 999 (by decide), (hb 4 (by decide)).1, (hb 4 (by decide)).2, hL 999 (by decide), (hb 5 (by decide)).1, (hb 5 (by decide)).2, is_mk C.1.1.2, ?_⟩)
  rw [Option.getD_some]
  refine lowI (co_share (d := 1182) (I.g hn (by omega)) C (fun s ws X' gl' nu' hnu' C' hS _ => ?_))
  have R' := R.ref C'.rf
  refine ⟨hS 999 (by decide), (hb 1 (by decide)).1, (hb 1 (by decide)).2, hS 999 (by decide), (hb 2 (by decide)).1, (hb 2 (by decide)).2, hS 999 (by decide), (hb 3 (by decide)).1, (hb 3 (by decide)).2, hS 999 (by decide), (hb 4 (by decide)).1, (hb 4 (by decide)).2, hS 999 (by decide), (hb 5 (by decide)).1, (hb 5 (by decide)).2, is_mk R'.m.1, ?_⟩
  rw [Option.getD_some]
  exact rm_share (d := 1174) (I.w hn) R' (fun σ' R2 r2 _ => ⟨fun _ => K σ' (lp_next C' R2 (r2.fr ho (by intro k hk; exact List.mem_range.mp hk) (by decide)) (inv_dact I hn (by decide) (by decide) (by decide)) (by show nu' + (d_tap D).length ≤ _; omega) hlt), fun z => absurd rfl z⟩)
theorem law_1198 (hb : LwB nl Ln xs x3) (hn : n ≤ 600) (H : LpI σ n) (K : ∀ σ', LpI σ' (n + 1) → c_Law_law_18 nl Ln xs 1600 (some 1000) (some 1053) (x3 + 8) σ' F) : c_Law_law_1198 nl Ln xs 1600 (some 1000) (some 1053) x3 σ F := by
  obtain ⟨o, o', w, v, X, b, sp, g, gl, nu, D, R, C, I, hnu, hlt⟩ := H
  have ho : o = 1063 ∨ o = 1126 := by rcases R.1 with q | q <;> omega
  refine low (fun hL => w_Law_law_1198 (d := 1599) ⟨hL 999 (by decide), (hb 1 (by decide)).1, (hb 1 (by decide)).2, hL 999 (by decide), (hb 2 (by decide)).1, (hb 2 (by decide)).2, hL 999 (by decide), (hb 3 (by decide)).1, (hb 3 (by decide)).2, hL 999 (by decide), (hb 4 (by decide)).1, (hb 4 (by decide)).2, is_mk C.1.1.2, ?_⟩)
  rw [Option.getD_some]
  refine lowI (co_salvage (d := 1182) (I.g hn (by omega)) C (fun s ws X' gl' nu' hnu' C' hS _ => ?_))
  have R' := R.ref C'.rf
  refine ⟨hS 999 (by decide), (hb 1 (by decide)).1, (hb 1 (by decide)).2, hS 999 (by decide), (hb 2 (by decide)).1, (hb 2 (by decide)).2, hS 999 (by decide), (hb 3 (by decide)).1, (hb 3 (by decide)).2, hS 999 (by decide), (hb 4 (by decide)).1, (hb 4 (by decide)).2, is_mk R'.m.1, ?_⟩
  rw [Option.getD_some]
  exact rm_salvage (d := 1174) (I.w hn) R' (fun σ' R2 r2 _ => ⟨fun _ => K σ' (lp_next C' R2 (r2.fr ho (by intro k hk; exact List.mem_range.mp hk) (by decide)) (inv_dact I hn (by decide) (by decide) (by decide)) (by show nu' + (d_tap D).length ≤ _; omega) hlt), fun z => absurd rfl z⟩)
theorem law_1271 (hb : LwB nl Ln xs x3) (hn : n ≤ 600) (H : LpI σ n) (K : ∀ σ', LpI σ' (n + 1) → c_Law_law_18 nl Ln xs 1600 (some 1000) (some 1053) (x3 + 8) σ' F) : c_Law_law_1271 nl Ln xs 1600 (some 1000) (some 1053) x3 σ F := by
  obtain ⟨o, o', w, v, X, b, sp, g, gl, nu, D, R, C, I, hnu, hlt⟩ := H
  have ho : o = 1063 ∨ o = 1126 := by rcases R.1 with q | q <;> omega
  refine low (fun hL => w_Law_law_1271 (d := 1599) ⟨hL 999 (by decide), (hb 1 (by decide)).1, (hb 1 (by decide)).2, hL 999 (by decide), (hb 2 (by decide)).1, (hb 2 (by decide)).2, hL 999 (by decide), (hb 3 (by decide)).1, (hb 3 (by decide)).2, hL 999 (by decide), (hb 4 (by decide)).1, (hb 4 (by decide)).2, is_mk C.1.1.2, ?_⟩)
  rw [Option.getD_some]
  refine lowI (co_recourse (d := 1182) (I.g hn (by omega)) C (fun s ws X' gl' nu' hnu' C' hS _ => ?_))
  have R' := R.ref C'.rf
  refine ⟨hS 999 (by decide), (hb 1 (by decide)).1, (hb 1 (by decide)).2, hS 999 (by decide), (hb 2 (by decide)).1, (hb 2 (by decide)).2, hS 999 (by decide), (hb 3 (by decide)).1, (hb 3 (by decide)).2, hS 999 (by decide), (hb 4 (by decide)).1, (hb 4 (by decide)).2, is_mk R'.m.1, ?_⟩
  rw [Option.getD_some]
  exact rm_recourse (d := 1174) (I.w hn) R' (fun σ' R2 r2 _ => ⟨fun _ => K σ' (lp_next C' R2 (r2.fr ho (by intro k hk; exact List.mem_range.mp hk) (by decide)) (inv_dact I hn (by decide) (by decide) (by decide)) (by show nu' + (d_tap D).length ≤ _; omega) hlt), fun z => absurd rfl z⟩)
theorem law_1344 (hb : LwB nl Ln xs x3) (hn : n ≤ 600) (H : LpI σ n) (K : ∀ σ', LpI σ' (n + 1) → c_Law_law_18 nl Ln xs 1600 (some 1000) (some 1053) (x3 + 8) σ' F) : c_Law_law_1344 nl Ln xs 1600 (some 1000) (some 1053) x3 σ F := by
  obtain ⟨o, o', w, v, X, b, sp, g, gl, nu, D, R, C, I, hnu, hlt⟩ := H
  have ho : o = 1063 ∨ o = 1126 := by rcases R.1 with q | q <;> omega
  refine low (fun hL => w_Law_law_1344 (d := 1599) ⟨is_mk C.1.1.2, ?_⟩)
  rw [Option.getD_some]
  refine lowI (co_batch (d := 1182) (I.g hn (by omega)) C (fun s ws X' gl' nu' hnu' C' hS _ => ?_))
  have R' := R.ref C'.rf
  refine ⟨is_mk R'.m.1, ?_⟩
  rw [Option.getD_some]
  exact rm_batch (d := 1174) (I.w hn) R' (fun σ' R2 r2 _ => ⟨fun _ => K σ' (lp_next C' R2 (r2.fr ho (by intro k hk; exact List.mem_range.mp hk) (by decide)) (inv_dact I hn (by decide) (by decide) (by decide)) (by show nu' + (d_tap D).length ≤ _; omega) hlt), fun z => absurd rfl z⟩)
theorem law_1357 (hb : LwB nl Ln xs x3) (hn : n ≤ 600) (H : LpI σ n) (K : ∀ σ', LpI σ' (n + 1) → c_Law_law_18 nl Ln xs 1600 (some 1000) (some 1053) (x3 + 8) σ' F) : c_Law_law_1357 nl Ln xs 1600 (some 1000) (some 1053) x3 σ F := by
  obtain ⟨o, o', w, v, X, b, sp, g, gl, nu, D, R, C, I, hnu, hlt⟩ := H
  have ho : o = 1063 ∨ o = 1126 := by rcases R.1 with q | q <;> omega
  refine low (fun hL => w_Law_law_1357 (d := 1599) ⟨is_mk C.1.1.2, ?_⟩)
  rw [Option.getD_some]
  refine lowI (co_end (d := 1182) (I.g hn (by omega)) C (fun s ws X' gl' nu' hnu' C' hS _ => ?_))
  have R' := R.ref C'.rf
  refine ⟨is_mk R'.m.1, ?_⟩
  rw [Option.getD_some]
  exact rm_end (d := 1174) (I.w hn) R' (fun σ' R2 r2 _ => ⟨fun _ => K σ' (lp_next C' R2 (r2.fr ho (by intro k hk; exact List.mem_range.mp hk) (by decide)) (inv_dact I hn (by decide) (by decide) (by decide)) (by show nu' + (d_tap D).length ≤ _; omega) hlt), fun z => absurd rfl z⟩)
theorem law_1370 (hb : LwB nl Ln xs x3) (hn : n ≤ 600) (H : LpI σ n) (K : ∀ σ', LpI σ' (n + 1) → c_Law_law_18 nl Ln xs 1600 (some 1000) (some 1053) (x3 + 8) σ' F) : c_Law_law_1370 nl Ln xs 1600 (some 1000) (some 1053) x3 σ F := by
  obtain ⟨o, o', w, v, X, b, sp, g, gl, nu, D, R, C, I, hnu, hlt⟩ := H
  have ho : o = 1063 ∨ o = 1126 := by rcases R.1 with q | q <;> omega
  refine low (fun hL => w_Law_law_1370 (d := 1599) ⟨is_mk C.1.1.2, ?_⟩)
  rw [Option.getD_some]
  refine lowI (co_undo (d := 1182) (I.g hn (by omega)) C (fun s ws X' gl' nu' hnu' C' hS _ => ?_))
  have R' := R.ref C'.rf
  refine ⟨is_mk R'.m.1, ?_⟩
  rw [Option.getD_some]
  exact rm_undo (d := 1174) (I.w hn) R' (fun σ' R2 r2 _ => ⟨fun _ => K σ' (lp_next C' R2 (r2.fr ho (by intro k hk; exact List.mem_range.mp hk) (by decide)) (inv_dact I hn (by decide) (by decide) (by decide)) (by show nu' + (d_tap D).length ≤ _; omega) hlt), fun z => absurd rfl z⟩)
theorem law_1383 (hb : LwB nl Ln xs x3) (hn : n ≤ 600) (H : LpI σ n) (K : ∀ σ', LpI σ' (n + 1) → c_Law_law_18 nl Ln xs 1600 (some 1000) (some 1053) (x3 + 8) σ' F) : c_Law_law_1383 nl Ln xs 1600 (some 1000) (some 1053) x3 σ F := by
  obtain ⟨o, o', w, v, X, b, sp, g, gl, nu, D, R, C, I, hnu, hlt⟩ := H
  have ho : o = 1063 ∨ o = 1126 := by rcases R.1 with q | q <;> omega
  refine low (fun hL => w_Law_law_1383 (d := 1599) ⟨hL 999 (by decide), (hb 1 (by decide)).1, (hb 1 (by decide)).2, hL 999 (by decide), (hb 2 (by decide)).1, (hb 2 (by decide)).2, hL 999 (by decide), (hb 3 (by decide)).1, (hb 3 (by decide)).2, is_mk C.1.1.2, ?_⟩)
  rw [Option.getD_some]
  refine lowL (co_owed (d := 1184) I.1.1.1 I.1.ck.2.2.1 C (fun s v' C' hS _ => ?_))
  have R' := R.ref C'.rf
  refine ⟨hS 999 (by decide), (hb 1 (by decide)).1, (hb 1 (by decide)).2, hS 999 (by decide), (hb 2 (by decide)).1, (hb 2 (by decide)).2, hS 999 (by decide), (hb 3 (by decide)).1, (hb 3 (by decide)).2, is_mk R'.m.1, ?_⟩
  rw [Option.getD_some]
  exact r_owed (d := 1180) (I.w hn) R' (fun σ' R2 r2 _ => ⟨fun _ => K σ' (lp_next C' R2 (r2.fr ho (by decide) (by decide)) (inv_owed I) (by rw [let_owed.2]; omega) (by rw [let_owed.1]; exact hlt)), fun z => absurd rfl z⟩)
theorem law_1427 (hb : LwB nl Ln xs x3) (hn : n ≤ 600) (H : LpI σ n) (K : ∀ σ', LpI σ' (n + 1) → c_Law_law_18 nl Ln xs 1600 (some 1000) (some 1053) (x3 + 8) σ' F) : c_Law_law_1427 nl Ln xs 1600 (some 1000) (some 1053) x3 σ F := by
  obtain ⟨o, o', w, v, X, b, sp, g, gl, nu, D, R, C, I, hnu, hlt⟩ := H
  have ho : o = 1063 ∨ o = 1126 := by rcases R.1 with q | q <;> omega
  refine low (fun hL => w_Law_law_1427 (d := 1599) ⟨is_mk C.1.1.2, ?_⟩)
  rw [Option.getD_some]
  refine lowI (co_finding (d := 1598) C (fun hS _ => ⟨is_mk R.m.1, ?_⟩))
  rw [Option.getD_some]
  exact r_finding (d := 1598) R (fun _ => ⟨fun _ => K σ (lp_next C R Rfr.rf (I.up (Nat.le_succ n)) (by omega) hlt), fun z => absurd rfl z⟩)
theorem law_1440 (hb : LwB nl Ln xs x3) (hn : n ≤ 600) (H : LpI σ n) (K : ∀ σ', LpI σ' (n + 1) → c_Law_law_18 nl Ln xs 1600 (some 1000) (some 1053) (x3 + 8) σ' F) : c_Law_law_1440 nl Ln xs 1600 (some 1000) (some 1053) x3 σ F := by
  obtain ⟨o, o', w, v, X, b, sp, g, gl, nu, D, R, C, I, hnu, hlt⟩ := H
  have ho : o = 1063 ∨ o = 1126 := by rcases R.1 with q | q <;> omega
  refine low (fun hL => w_Law_law_1440 (d := 1599) ⟨hL 999 (by decide), (hb 1 (by decide)).1, (hb 1 (by decide)).2, hL 999 (by decide), (hb 2 (by decide)).1, (hb 2 (by decide)).2, is_mk C.1.1.2, ?_⟩)
  rw [Option.getD_some]
  refine lowI (co_row (d := 1598) C (fun hS _ => ⟨hS 999 (by decide), (hb 1 (by decide)).1, (hb 1 (by decide)).2, hS 999 (by decide), (hb 2 (by decide)).1, (hb 2 (by decide)).2, is_mk R.m.1, ?_⟩))
  rw [Option.getD_some]
  exact r_rmRow (d := 1597) (I.w hn) R (fun _ => ⟨fun _ => K σ (lp_next C R Rfr.rf (I.up (Nat.le_succ n)) (by omega) hlt), fun z => absurd rfl z⟩)
theorem law_1473 (hb : LwB nl Ln xs x3) (hn : n ≤ 600) (H : LpI σ n) (K : ∀ σ', LpI σ' (n + 1) → c_Law_law_18 nl Ln xs 1600 (some 1000) (some 1053) (x3 + 8) σ' F) : c_Law_law_1473 nl Ln xs 1600 (some 1000) (some 1053) x3 σ F := by
  obtain ⟨o, o', w, v, X, b, sp, g, gl, nu, D, R, C, I, hnu, hlt⟩ := H
  have ho : o = 1063 ∨ o = 1126 := by rcases R.1 with q | q <;> omega
  refine low (fun hL => w_Law_law_1473 (d := 1599) ⟨hL 999 (by decide), (hb 1 (by decide)).1, (hb 1 (by decide)).2, is_mk C.1.1.2, ?_⟩)
  rw [Option.getD_some]
  refine lowL (co_cents (d := 1598) C (fun hS _ => ⟨hS 999 (by decide), (hb 1 (by decide)).1, (hb 1 (by decide)).2, is_mk R.m.1, ?_⟩))
  rw [Option.getD_some]
  exact r_rmCents (d := 1597) (I.w hn) R (fun _ => ⟨fun _ => K σ (lp_next C R Rfr.rf (I.up (Nat.le_succ n)) (by omega) hlt), fun z => absurd rfl z⟩)
theorem law_1497 (hb : LwB nl Ln xs x3) (hn : n ≤ 600) (H : LpI σ n) (K : ∀ σ', LpI σ' (n + 1) → c_Law_law_18 nl Ln xs 1600 (some 1000) (some 1053) (x3 + 8) σ' F) : c_Law_law_1497 nl Ln xs 1600 (some 1000) (some 1053) x3 σ F := by
  obtain ⟨o, o', w, v, X, b, sp, g, gl, nu, D, R, C, I, hnu, hlt⟩ := H
  have ho : o = 1063 ∨ o = 1126 := by rcases R.1 with q | q <;> omega
  refine low (fun hL => w_Law_law_1497 (d := 1599) ⟨hL 999 (by decide), (hb 1 (by decide)).1, (hb 1 (by decide)).2, is_mk C.1.1.2, ?_⟩)
  rw [Option.getD_some]
  refine lowI (co_trace (d := 1598) C (fun hS _ => ⟨hS 999 (by decide), (hb 1 (by decide)).1, (hb 1 (by decide)).2, is_mk R.m.1, ?_⟩))
  rw [Option.getD_some]
  exact r_trace (d := 1597) R (fun _ => ⟨fun _ => K σ (lp_next C R Rfr.rf (I.up (Nat.le_succ n)) (by omega) hlt), fun z => absurd rfl z⟩)
theorem law_1520 (hb : LwB nl Ln xs x3) (hn : n ≤ 600) (H : LpI σ n) (K : ∀ σ', LpI σ' (n + 1) → c_Law_law_18 nl Ln xs 1600 (some 1000) (some 1053) (x3 + 8) σ' F) : c_Law_law_1520 nl Ln xs 1600 (some 1000) (some 1053) x3 σ F := by
  obtain ⟨o, o', w, v, X, b, sp, g, gl, nu, D, R, C, I, hnu, hlt⟩ := H
  have ho : o = 1063 ∨ o = 1126 := by rcases R.1 with q | q <;> omega
  refine low (fun hL => w_Law_law_1520 (d := 1599) ⟨is_mk C.1.1.2, ?_⟩)
  rw [Option.getD_some]
  refine lowI (co_say (d := 1593) I.rw C (fun s ws g' C' hS _ => ?_))
  have R' := R.ref C'.rf
  refine ⟨is_mk R'.m.1, ?_⟩
  rw [Option.getD_some]
  exact r_say (d := 1593) (I.w hn) R' (fun σ' R2 r2 _ => ⟨fun _ => K σ' (lp_next C' R2 (r2.fr ho (by simp) (by decide)) (I.up (Nat.le_succ n)) (by show nu + (d_tap D).length ≤ _; omega) (let_say I)), fun z => absurd rfl z⟩)
theorem law_1533 (hb : LwB nl Ln xs x3) (hn : n ≤ 600) (H : LpI σ n) (K : ∀ σ', LpI σ' (n + 1) → c_Law_law_18 nl Ln xs 1600 (some 1000) (some 1053) (x3 + 8) σ' F) : c_Law_law_1533 nl Ln xs 1600 (some 1000) (some 1053) x3 σ F := by
  obtain ⟨o, o', w, v, X, b, sp, g, gl, nu, D, R, C, I, hnu, hlt⟩ := H
  have ho : o = 1063 ∨ o = 1126 := by rcases R.1 with q | q <;> omega
  refine low (fun hL => w_Law_law_1533 (d := 1599) ⟨hL 999 (by decide), (hb 1 (by decide)).1, (hb 1 (by decide)).2, hL 999 (by decide), (hb 2 (by decide)).1, (hb 2 (by decide)).2, is_mk C.1.1.2, ?_⟩)
  rw [Option.getD_some]
  refine lowI (co_tell (d := 1187) I.1 C (fun s ws g' C' hS _ => ?_))
  have R' := R.ref C'.rf
  refine ⟨hS 999 (by decide), (hb 1 (by decide)).1, (hb 1 (by decide)).2, hS 999 (by decide), (hb 2 (by decide)).1, (hb 2 (by decide)).2, is_mk R'.m.1, ?_⟩
  rw [Option.getD_some]
  exact r_tell (d := 1189) (I.w hn) R' (fun σ' R2 r2 _ => ⟨fun _ => K σ' (lp_next C' R2 (r2.fr ho (by simp) (by decide)) ((inv_tell I).up (Nat.le_succ n)) (by rw [tap_let.2]; omega) (let_tell I hlt)), fun z => absurd rfl z⟩)
theorem law_1566 (hb : LwB nl Ln xs x3) (hn : n ≤ 600) (H : LpI σ n) (K : ∀ σ', LpI σ' (n + 1) → c_Law_law_18 nl Ln xs 1600 (some 1000) (some 1053) (x3 + 8) σ' F) : c_Law_law_1566 nl Ln xs 1600 (some 1000) (some 1053) x3 σ F := by
  obtain ⟨o, o', w, v, X, b, sp, g, gl, nu, D, R, C, I, hnu, hlt⟩ := H
  have ho : o = 1063 ∨ o = 1126 := by rcases R.1 with q | q <;> omega
  refine low (fun hL => w_Law_law_1566 (d := 1599) ⟨hL 999 (by decide), (hb 1 (by decide)).1, (hb 1 (by decide)).2, is_mk C.1.1.2, ?_⟩)
  rw [Option.getD_some]
  refine lowI (co_letter (d := 1597) C (fun hS _ => ⟨hS 999 (by decide), (hb 1 (by decide)).1, (hb 1 (by decide)).2, is_mk R.m.1, ?_⟩))
  rw [Option.getD_some]
  exact r_letter (d := 1597) (by omega) R (fun _ => ⟨fun _ => K σ (lp_next C R Rfr.rf (I.up (Nat.le_succ n)) (by omega) hlt), fun z => absurd rfl z⟩)
theorem law_1589 (hb : LwB nl Ln xs x3) (hn : n ≤ 600) (H : LpI σ n) (K : ∀ σ', LpI σ' (n + 1) → c_Law_law_18 nl Ln xs 1600 (some 1000) (some 1053) (x3 + 8) σ' F) : c_Law_law_1589 nl Ln xs 1600 (some 1000) (some 1053) x3 σ F := by
  obtain ⟨o, o', w, v, X, b, sp, g, gl, nu, D, R, C, I, hnu, hlt⟩ := H
  have ho : o = 1063 ∨ o = 1126 := by rcases R.1 with q | q <;> omega
  refine low (fun hL => w_Law_law_1589 (d := 1599) ⟨hL 999 (by decide), (hb 1 (by decide)).1, (hb 1 (by decide)).2, hL 999 (by decide), (hb 2 (by decide)).1, (hb 2 (by decide)).2, hL 999 (by decide), (hb 3 (by decide)).1, (hb 3 (by decide)).2, is_mk C.1.1.2, ?_⟩)
  rw [Option.getD_some]
  refine lowL (co_used (d := 1594) I.1.1.1 C (fun hS _ => ⟨hS 999 (by decide), (hb 1 (by decide)).1, (hb 1 (by decide)).2, hS 999 (by decide), (hb 2 (by decide)).1, (hb 2 (by decide)).2, hS 999 (by decide), (hb 3 (by decide)).1, (hb 3 (by decide)).2, is_mk R.m.1, ?_⟩))
  rw [Option.getD_some]
  exact r_rmUsed (d := 1594) (I.w hn) R (fun _ => ⟨fun _ => K σ (lp_next C R Rfr.rf (I.up (Nat.le_succ n)) (by omega) hlt), fun z => absurd rfl z⟩)
theorem law_1633 (hb : LwB nl Ln xs x3) (hn : n ≤ 600) (H : LpI σ n) (K : ∀ σ', LpI σ' (n + 1) → c_Law_law_18 nl Ln xs 1600 (some 1000) (some 1053) (x3 + 8) σ' F) : c_Law_law_1633 nl Ln xs 1600 (some 1000) (some 1053) x3 σ F := by
  obtain ⟨o, o', w, v, X, b, sp, g, gl, nu, D, R, C, I, hnu, hlt⟩ := H
  have ho : o = 1063 ∨ o = 1126 := by rcases R.1 with q | q <;> omega
  refine low (fun hL => w_Law_law_1633 (d := 1599) ⟨hL 999 (by decide), (hb 1 (by decide)).1, (hb 1 (by decide)).2, hL 999 (by decide), (hb 2 (by decide)).1, (hb 2 (by decide)).2, hL 999 (by decide), (hb 3 (by decide)).1, (hb 3 (by decide)).2, is_mk C.1.1.2, ?_⟩)
  rw [Option.getD_some]
  refine lowL (co_left (d := 1594) I.1.1.1 I.1.ck.2.2.1 (fun p year => used_no I.1.1.1 _ p year) C (fun hS _ => ⟨hS 999 (by decide), (hb 1 (by decide)).1, (hb 1 (by decide)).2, hS 999 (by decide), (hb 2 (by decide)).1, (hb 2 (by decide)).2, hS 999 (by decide), (hb 3 (by decide)).1, (hb 3 (by decide)).2, is_mk R.m.1, ?_⟩))
  rw [Option.getD_some]
  exact r_left (d := 1593) (I.w hn) R (fun _ => ⟨fun _ => K σ (lp_next C R Rfr.rf (I.up (Nat.le_succ n)) (by omega) hlt), fun z => absurd rfl z⟩)
theorem law_1677 (hb : LwB nl Ln xs x3) (hn : n ≤ 600) (H : LpI σ n) (K : ∀ σ', LpI σ' (n + 1) → c_Law_law_18 nl Ln xs 1600 (some 1000) (some 1053) (x3 + 8) σ' F) : c_Law_law_1677 nl Ln xs 1600 (some 1000) (some 1053) x3 σ F := by
  obtain ⟨o, o', w, v, X, b, sp, g, gl, nu, D, R, C, I, hnu, hlt⟩ := H
  have ho : o = 1063 ∨ o = 1126 := by rcases R.1 with q | q <;> omega
  refine low (fun hL => w_Law_law_1677 (d := 1599) ⟨hL 999 (by decide), (hb 1 (by decide)).1, (hb 1 (by decide)).2, hL 999 (by decide), (hb 2 (by decide)).1, (hb 2 (by decide)).2, hL 999 (by decide), (hb 3 (by decide)).1, (hb 3 (by decide)).2, is_mk C.1.1.2, ?_⟩)
  rw [Option.getD_some]
  refine lowL (co_reserved (d := 1594) I.1.1.1 C (fun hS _ => ⟨hS 999 (by decide), (hb 1 (by decide)).1, (hb 1 (by decide)).2, hS 999 (by decide), (hb 2 (by decide)).1, (hb 2 (by decide)).2, hS 999 (by decide), (hb 3 (by decide)).1, (hb 3 (by decide)).2, is_mk R.m.1, ?_⟩))
  rw [Option.getD_some]
  exact r_reserved (d := 1596) (I.w hn) R (fun _ => ⟨fun _ => K σ (lp_next C R Rfr.rf (I.up (Nat.le_succ n)) (by omega) hlt), fun z => absurd rfl z⟩)
theorem law_1721 (hb : LwB nl Ln xs x3) (hn : n ≤ 600) (H : LpI σ n) (K : ∀ σ', LpI σ' (n + 1) → c_Law_law_18 nl Ln xs 1600 (some 1000) (some 1053) (x3 + 8) σ' F) : c_Law_law_1721 nl Ln xs 1600 (some 1000) (some 1053) x3 σ F := by
  obtain ⟨o, o', w, v, X, b, sp, g, gl, nu, D, R, C, I, hnu, hlt⟩ := H
  have ho : o = 1063 ∨ o = 1126 := by rcases R.1 with q | q <;> omega
  refine low (fun hL => w_Law_law_1721 (d := 1599) ⟨hL 999 (by decide), (hb 1 (by decide)).1, (hb 1 (by decide)).2, hL 999 (by decide), (hb 2 (by decide)).1, (hb 2 (by decide)).2, hL 999 (by decide), (hb 3 (by decide)).1, (hb 3 (by decide)).2, hL 999 (by decide), (hb 4 (by decide)).1, (hb 4 (by decide)).2, is_mk C.1.1.2, ?_⟩)
  rw [Option.getD_some]
  refine lowL (co_run (d := 1596) I.1.1.1 C (fun hS _ => ⟨hS 999 (by decide), (hb 1 (by decide)).1, (hb 1 (by decide)).2, hS 999 (by decide), (hb 2 (by decide)).1, (hb 2 (by decide)).2, hS 999 (by decide), (hb 3 (by decide)).1, (hb 3 (by decide)).2, hS 999 (by decide), (hb 4 (by decide)).1, (hb 4 (by decide)).2, is_mk R.m.1, ?_⟩))
  rw [Option.getD_some]
  exact r_run (d := 1596) (I.w hn) R (fun _ => ⟨fun _ => K σ (lp_next C R Rfr.rf (I.up (Nat.le_succ n)) (by omega) hlt), fun z => absurd rfl z⟩)
theorem law_1775 (hb : LwB nl Ln xs x3) (hn : n ≤ 600) (H : LpI σ n) (K : ∀ σ', LpI σ' (n + 1) → c_Law_law_18 nl Ln xs 1600 (some 1000) (some 1053) (x3 + 8) σ' F) : c_Law_law_1775 nl Ln xs 1600 (some 1000) (some 1053) x3 σ F := by
  obtain ⟨o, o', w, v, X, b, sp, g, gl, nu, D, R, C, I, hnu, hlt⟩ := H
  have ho : o = 1063 ∨ o = 1126 := by rcases R.1 with q | q <;> omega
  refine low (fun hL => w_Law_law_1775 (d := 1599) ⟨hL 999 (by decide), (hb 1 (by decide)).1, (hb 1 (by decide)).2, hL 999 (by decide), (hb 2 (by decide)).1, (hb 2 (by decide)).2, hL 999 (by decide), (hb 3 (by decide)).1, (hb 3 (by decide)).2, hL 999 (by decide), (hb 4 (by decide)).1, (hb 4 (by decide)).2, hL 999 (by decide), (hb 5 (by decide)).1, (hb 5 (by decide)).2, is_mk C.1.1.2, ?_⟩)
  rw [Option.getD_some]
  refine lowL (co_factor (d := 1596) I.1.1.1 C (fun hS _ => ⟨hS 999 (by decide), (hb 1 (by decide)).1, (hb 1 (by decide)).2, hS 999 (by decide), (hb 2 (by decide)).1, (hb 2 (by decide)).2, hS 999 (by decide), (hb 3 (by decide)).1, (hb 3 (by decide)).2, hS 999 (by decide), (hb 4 (by decide)).1, (hb 4 (by decide)).2, hS 999 (by decide), (hb 5 (by decide)).1, (hb 5 (by decide)).2, is_mk R.m.1, ?_⟩))
  rw [Option.getD_some]
  exact r_factor (d := 1596) (I.w hn) R (fun _ => ⟨fun _ => K σ (lp_next C R Rfr.rf (I.up (Nat.le_succ n)) (by omega) hlt), fun z => absurd rfl z⟩)
theorem law_1839 (hb : LwB nl Ln xs x3) (hn : n ≤ 600) (H : LpI σ n) (K : ∀ σ', LpI σ' (n + 1) → c_Law_law_18 nl Ln xs 1600 (some 1000) (some 1053) (x3 + 8) σ' F) : c_Law_law_1839 nl Ln xs 1600 (some 1000) (some 1053) x3 σ F := by
  obtain ⟨o, o', w, v, X, b, sp, g, gl, nu, D, R, C, I, hnu, hlt⟩ := H
  have ho : o = 1063 ∨ o = 1126 := by rcases R.1 with q | q <;> omega
  refine low (fun hL => w_Law_law_1839 (d := 1599) ⟨is_mk C.1.1.2, ?_⟩)
  rw [Option.getD_some]
  refine lowI (co_write (d := 1595) (by have := I.log hn; omega) C (fun s ws g' C' hS _ => ?_))
  have R' := R.ref C'.rf
  refine ⟨is_mk R'.m.1, ?_⟩
  rw [Option.getD_some]
  exact r_write (d := 1597) (I.w hn) R' (fun σ' R2 r2 _ => ⟨fun _ => K σ' (lp_next C' R2 (r2.fr ho (by simp) (by decide)) ((inv_write I).up (Nat.le_succ n)) (by rw [tap_let.1]; omega) (let_write I hn hlt)), fun z => absurd rfl z⟩)
theorem law_1852 (hb : LwB nl Ln xs x3) (hn : n ≤ 600) (H : LpI σ n) (K : ∀ σ', LpI σ' (n + 1) → c_Law_law_18 nl Ln xs 1600 (some 1000) (some 1053) (x3 + 8) σ' F) : c_Law_law_1852 nl Ln xs 1600 (some 1000) (some 1053) x3 σ F := by
  obtain ⟨o, o', w, v, X, b, sp, g, gl, nu, D, R, C, I, hnu, hlt⟩ := H
  have ho : o = 1063 ∨ o = 1126 := by rcases R.1 with q | q <;> omega
  refine low (fun hL => w_Law_law_1852 (d := 1599) ⟨is_mk C.1.1.2, ?_⟩)
  rw [Option.getD_some]
  refine lowI (co_takeIn (d := 1182) I hn (by omega) C (fun s ws X' b' sp' g' gl' nu' hnu' C' hS _ => ?_))
  have R' := R.ref C'.rf
  refine ⟨is_mk R'.m.1, ?_⟩
  rw [Option.getD_some]
  exact rm_takeIn (d := 1174) (I.w hn) (I.wfA hn) R' (fun σ' o1 o1' R2 r2 _ => ⟨fun _ => K σ' (lp_next C' R2 r2 (inv_takeIn I hn) (by omega) (by rw [let_takeIn]; exact hlt)), fun z => absurd rfl z⟩)
theorem law_1865 (hb : LwB nl Ln xs x3) (hn : n ≤ 600) (H : LpI σ n) (K : ∀ σ', LpI σ' (n + 1) → c_Law_law_18 nl Ln xs 1600 (some 1000) (some 1053) (x3 + 8) σ' F) : c_Law_law_1865 nl Ln xs 1600 (some 1000) (some 1053) x3 σ F := by
  obtain ⟨o, o', w, v, X, b, sp, g, gl, nu, D, R, C, I, hnu, hlt⟩ := H
  have ho : o = 1063 ∨ o = 1126 := by rcases R.1 with q | q <;> omega
  refine low (fun hL => w_Law_law_1865 (d := 1599) ⟨hL 999 (by decide), (hb 1 (by decide)).1, (hb 1 (by decide)).2, hL 999 (by decide), (hb 2 (by decide)).1, (hb 2 (by decide)).2, is_mk C.1.1.2, ?_⟩)
  rw [Option.getD_some]
  refine lowI (co_of (d := 1595) I.1.1.1 C (fun hS _ => ⟨hS 999 (by decide), (hb 1 (by decide)).1, (hb 1 (by decide)).2, hS 999 (by decide), (hb 2 (by decide)).1, (hb 2 (by decide)).2, is_mk R.m.1, ?_⟩))
  rw [Option.getD_some]
  exact r_of (d := 1596) (I.w hn) R (fun _ => ⟨fun _ => K σ (lp_next C R Rfr.rf (I.up (Nat.le_succ n)) (by omega) hlt), fun z => absurd rfl z⟩)
theorem law_1898 (hb : LwB nl Ln xs x3) (hn : n ≤ 600) (H : LpI σ n) (K : ∀ σ', LpI σ' (n + 1) → c_Law_law_18 nl Ln xs 1600 (some 1000) (some 1053) (x3 + 8) σ' F) : c_Law_law_1898 nl Ln xs 1600 (some 1000) (some 1053) x3 σ F := by
  obtain ⟨o, o', w, v, X, b, sp, g, gl, nu, D, R, C, I, hnu, hlt⟩ := H
  have ho : o = 1063 ∨ o = 1126 := by rcases R.1 with q | q <;> omega
  refine low (fun hL => w_Law_law_1898 (d := 1599) ⟨hL 999 (by decide), (hb 1 (by decide)).1, (hb 1 (by decide)).2, is_mk C.1.1.2, ?_⟩)
  rw [Option.getD_some]
  refine lowI (co_count (d := 1598) C (fun hS _ => ⟨hS 999 (by decide), (hb 1 (by decide)).1, (hb 1 (by decide)).2, is_mk R.m.1, ?_⟩))
  rw [Option.getD_some]
  exact r_count (d := 1598) R (fun _ => ⟨fun _ => K σ (lp_next C R Rfr.rf (I.up (Nat.le_succ n)) (by omega) hlt), fun z => absurd rfl z⟩)
end
