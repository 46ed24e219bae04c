/-! THE LAW: all calls, and the goal -/
theorem law_rl {nl : Bool} {Ln : Nat} {xs : Nat → Int32} : am_rl (am_tz (TT nl Ln xs)) 999 = Ln := rfl
theorem law_loop {nl : Bool} {Ln : Nat} {xs : Nat → Int32} (hLn : Ln ≤ 4096) : ∀ (m n : Nat) (σ : am_S), Ln < 8 * n + 8 + 8 * m → 8 * n ≤ Ln → LpI σ n → c_Law_law_18 nl Ln xs 1600 (some 1000) (some 1053) (Int32.ofNat (8 * n)) σ (fun b σ => b = true ∧ am_nx σ ≤ 61000 ∧ am_sl σ ≤ 8922250) := by
  intro m
  induction m with
  | zero =>
    intro n σ hm hle H
    obtain ⟨o, o', w, v, X, b, sp, g, gl, nu, D, R, C, I, hnu, hlt⟩ := H
    have t8 : (8 : Int32).toInt = 8 := by decide
    refine low (fun hL => w_Law_law_18 (d := 1599) ⟨hL 999 (by decide), fun _ => ⟨rfl, C.room⟩, fun z => absurd ?_ z⟩)
    rw [i32lt, i32sub (by rw [n32 (by omega), t8]; omega) (by rw [n32 (by omega), t8]; omega), n32 (by omega), n32 (by omega), t8]
    omega
  | succ m ih =>
    intro n σ hm hle H
    have t8 : (8 : Int32).toInt = 8 := by decide
    have room : am_nx σ ≤ 61000 ∧ am_sl σ ≤ 8922250 := by
      obtain ⟨o, o', w, v, X, b, sp, g, gl, nu, D, R, C, I, hnu, hlt⟩ := H
      exact C.room
    have ecmp : (Int32.ofNat Ln - 8 < Int32.ofNat (8 * n)) ↔ Ln < 8 * n + 8 := by
      rw [i32lt, i32sub (by rw [n32 (by omega), t8]; omega) (by rw [n32 (by omega), t8]; omega), n32 (by omega), n32 (by omega), t8]
      omega
    have e8 : Int32.ofNat (8 * n) + 8 = Int32.ofNat (8 * (n + 1)) := by
      rw [show (8 : Int32) = Int32.ofNat 8 from rfl, n32a, show 8 * n + 8 = 8 * (n + 1) by omega]
    by_cases hend : Ln < 8 * n + 8
    · exact low (fun hL => w_Law_law_18 (d := 1599) ⟨hL 999 (by decide), fun _ => ⟨rfl, room⟩, fun z => absurd (ecmp.mpr hend) z⟩)
    · have hb : LwB nl Ln xs (Int32.ofNat (8 * n)) := fun k hk => by
        rw [n32a, n32 (by omega), law_rl]
        omega
      have K : ∀ σ', LpI σ' (n + 1) → c_Law_law_18 nl Ln xs 1600 (some 1000) (some 1053) (Int32.ofNat (8 * n) + 8) σ' (fun b σ => b = true ∧ am_nx σ ≤ 61000 ∧ am_sl σ ≤ 8922250) := fun σ' H' => by
        rw [e8]
        exact ih (n + 1) σ' (by omega) (by omega) H'
      have hn : n ≤ 600 := by omega
      have H2 : LpI σ (n + 1) := by
        obtain ⟨o, o', w, v, X, b, sp, g, gl, nu, D, R, C, I, hnu, hlt⟩ := H
        exact ⟨o, o', w, v, X, b, sp, g, gl, nu, D, R, C, I.up (Nat.le_succ n), by omega, hlt⟩
      refine low (fun hL => w_Law_law_18 (d := 1599) ⟨hL 999 (by decide), fun z => absurd (ecmp.mp z) hend, fun _ => ⟨hL 999 (by decide), ?_, ?_, fun _ => law_208 hb hn H K, fun _ => law_221 hb hn H K, fun _ => law_254 hb hn H K, fun _ => law_307 hb hn H K, fun _ => law_350 hb hn H K, fun _ => law_423 hb hn H K, fun _ => law_486 hb hn H K, fun _ => law_509 hb hn H K, fun _ => law_542 hb hn H K, fun _ => law_575 hb hn H K, fun _ => law_608 hb hn H K, fun _ => law_723 hb hn H K, fun _ => law_776 hb hn H K, fun _ => law_859 hb hn H K, fun _ => law_932 hb hn H K, fun _ => law_965 hb hn H K, fun _ => law_1008 hb hn H K, fun _ => law_1115 hb hn H K, fun _ => law_1198 hb hn H K, fun _ => law_1271 hb hn H K, fun _ => law_1344 hb hn H K, fun _ => law_1357 hb hn H K, fun _ => law_1370 hb hn H K, fun _ => law_1383 hb hn H K, fun _ => law_1427 hb hn H K, fun _ => law_1440 hb hn H K, fun _ => law_1473 hb hn H K, fun _ => law_1497 hb hn H K, fun _ => law_1520 hb hn H K, fun _ => law_1533 hb hn H K, fun _ => law_1566 hb hn H K, fun _ => law_1589 hb hn H K, fun _ => law_1633 hb hn H K, fun _ => law_1677 hb hn H K, fun _ => law_1721 hb hn H K, fun _ => law_1775 hb hn H K, fun _ => law_1839 hb hn H K, fun _ => law_1852 hb hn H K, fun _ => law_1865 hb hn H K, fun _ => law_1898 hb hn H K, fun _ => K σ H2⟩⟩)
      · rw [n32 (by omega)]
        omega
      · rw [n32 (by omega), law_rl]
        omega
/-- the goal of whole -/
theorem wg_all : wg 4096 := i_goalC (fun nl Ln xs σ hLn _ _ R C => law_loop hLn 600 0 σ (by omega) (by omega) ⟨1063, 1126, ow0, 1022, ([], [], [], [], []), 1039, none, (0, 0, 0, 0), 0, 0, d_new, R, C, inv_0, by decide, by decide⟩)
