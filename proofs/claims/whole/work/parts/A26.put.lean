/-! LETTERS of the reference: words, numbers, tokens -/
theorem txt_and : dd_tx.all (fun l => l.all (fun c => decide (c &&& 255 = c))) = true := by decide +kernel
theorem txt_b {n j : Nat} {c : Int32} (hn : n < 38) (h : (txt n)[j]? = some c) : c &&& 255 = c := by
  have hl : txt n ∈ dd_tx := by
    unfold txt
    rw [List.getD_eq_getElem?_getD, List.getElem?_eq_getElem (by rw [txt_len]; exact hn)]
    exact List.getElem_mem _
  have h1 := List.all_eq_true.mp txt_and _ hl
  exact of_decide_eq_true (List.all_eq_true.mp h1 c (List.mem_of_getElem? h))
theorem dig_and : ∀ r, r < 10 → (Int32.ofNat (48 + r)) &&& 255 = Int32.ofNat (48 + r) := by decide
theorem i64neg {x : Int64} (h : -9223372036854775808 < x.toInt) : (-x).toInt = -x.toInt := by
  have hr := r64 x
  have z : (0 : Int64).toInt = 0 := by decide
  have e : -x = 0 - x := by grind
  rw [e, i64sub (by rw [z]; omega) (by rw [z]; omega), z]
  omega
/-- digits, from the e-th down -/
def dgL (n : Nat) : Nat → List Int32
  | 0 => []
  | e + 1 => Int32.ofNat (48 + n / 10 ^ e % 10) :: dgL n e
theorem dgL_snoc (n : Nat) : ∀ e, dgL n (e + 1) = dgL (n / 10) e ++ [Int32.ofNat (48 + n % 10)]
  | 0 => by simp [dgL]
  | e + 1 => by
    show Int32.ofNat (48 + n / 10 ^ (e + 1) % 10) :: dgL n (e + 1) = (Int32.ofNat (48 + n / 10 / 10 ^ e % 10) :: dgL (n / 10) e) ++ _
    rw [dgL_snoc n e, Nat.div_div_eq_div_mul, Nat.pow_succ, Nat.mul_comm 10]
    rfl
theorem dgL_len (n : Nat) : ∀ e, (dgL n e).length = e
  | 0 => rfl
  | e + 1 => by show (dgL n e).length + 1 = e + 1; rw [dgL_len n e]
theorem dgs_eq : ∀ (E f n : Nat), E < f → n < 10 ^ (E + 1) → (E = 0 ∨ 10 ^ E ≤ n) → d_dgs f n = dgL n (E + 1)
  | 0, f, n, hf, h1, _ => by
    obtain ⟨g, rfl⟩ : ∃ g, f = g + 1 := ⟨f - 1, by omega⟩
    have h1 : n < 10 := by simpa using h1
    unfold d_dgs
    rw [if_pos h1]
    simp [dgL, Nat.mod_eq_of_lt h1]
  | E + 1, f, n, hf, h1, h2 => by
    obtain ⟨g, rfl⟩ : ∃ g, f = g + 1 := ⟨f - 1, by omega⟩
    have h2 : 10 ^ (E + 1) ≤ n := by rcases h2 with h | h; omega; exact h
    have h3 : 10 ^ E ≥ 1 := Nat.le_trans Nat.one_le_two_pow (Nat.pow_le_pow_left (by decide) E)
    have e1 : 10 ^ (E + 1) = 10 ^ E * 10 := Nat.pow_succ ..
    have e2 : 10 ^ (E + 1 + 1) = 10 ^ (E + 1) * 10 := Nat.pow_succ ..
    unfold d_dgs
    rw [if_neg (by omega), dgL_snoc, dgs_eq E g (n / 10) (by omega) (by omega) (Or.inr (by omega))]
section
variable {nl : Bool} {Ln : Nat} {xs : Nat → Int32} {d : Nat} {σ : am_S} {o : Nat} {L : List Int32}
theorem r_put {n : Nat} {F : am_S → Prop} (hn : n < 38) (hM : ModK σ) (h : LetR σ L) (hl : L.length + (txt n).length ≤ 500000) (K : ∀ σ', LetR σ' (L ++ txt n) → Rc o leF [] [1055] σ σ' → F σ') : k_Rm_put nl Ln xs (d + 5) 1053 (some n) σ F := by
  have h1000 := txt_lt hn
  have loop : ∀ (j k : Nat) (σ1 : am_S), k + j = (txt n).length → LetR σ1 (L ++ (txt n).take k) → Rc o leF [] [1055] σ σ1 → c_Rm_put_2 nl Ln xs (d + 5) 1053 (some n) (Int32.ofNat k) σ1 F := by
    intro j
    induction j with
    | zero =>
      intro k σ1 hk L1 r1
      refine w_Rm_put_2 ⟨⟨n, rfl⟩, ⟨by show n < 200; omega, rk_txt hn⟩, r_strlen hn (fun _ => ⟨fun q => ?_, fun _ => ?_⟩)⟩
      · have q : Int32.ofNat k < Int32.ofNat (txt n).length := q
        rw [n32lt (by omega) (by omega)] at q
        omega
      · rw [List.take_of_length_le (by omega)] at L1
        exact K σ1 L1 r1
    | succ j ih =>
      intro k σ1 hk L1 r1
      obtain ⟨c, hc⟩ := get_ex (show k < (txt n).length by omega)
      refine w_Rm_put_2 ⟨⟨n, rfl⟩, ⟨by show n < 200; omega, rk_txt hn⟩, r_strlen hn (fun _ => ⟨fun _ => ⟨⟨n, rfl⟩, ⟨by show n < 200; omega, rk_txt hn⟩, ?_⟩, fun q => absurd (show Int32.ofNat k < Int32.ofNat (txt n).length by rw [n32lt (by omega) (by omega)]; omega) q⟩)⟩
      refine (r_charAt (d := d) hn hc (fun _ => ⟨is_mk (hM.rc r1).1, r_put2 (o := o) (hM.rc r1) L1 (by rw [List.length_append, List.length_take]; omega) (fun σ2 L2 r2 _ => ?_)⟩))
      rw [n32s]
      refine ih (k + 1) σ2 (by omega) ?_ (r1.trans r2)
      rw [txt_b hn hc] at L2
      rw [List.take_add_one, hc, ← List.append_assoc]
      exact L2
  refine w_Rm_put (loop (txt n).length 0 σ (by omega) ?_ Rc.rf)
  rw [List.take_zero, List.append_nil]
  exact h
theorem r_putNumber {v : Int64} {F : am_S → Prop} (hv : -9223372036854775808 < v.toInt) (hM : ModK σ) (h : LetR σ L) (hl : L.length + 20 ≤ 500000) (K : ∀ σ', LetR σ' (L ++ d_num v) → Rc o leF [] [1055] σ σ' → (d_num v).length ≤ 20 → F σ') : k_Rm_putNumber nl Ln xs (d + 2) 1053 v σ F := by
  have hr := r64 v
  have z : (0 : Int64).toInt = 0 := by decide
  obtain ⟨N, hN⟩ : ∃ N, N = v.toInt.natAbs := ⟨_, rfl⟩
  have hN2 : N < 9223372036854775808 := by omega
  have pl : ∀ e, e ≤ 18 → (10 : Nat) ^ e ≤ 10 ^ 18 := fun e he => Nat.pow_le_pow_right (by decide) he
  have p18 : (10 : Nat) ^ 18 = 1000000000000000000 := by decide
  have p1 : ∀ e : Nat, (10 : Nat) ^ e ≥ 1 := fun e => Nat.le_trans Nat.one_le_two_pow (Nat.pow_le_pow_left (by decide) e)
  have un : ∀ e, e ≤ 18 → (Int64.ofNat (10 ^ e)).toInt = ((10 ^ e : Nat) : Int) := fun e he => n64 (by have := pl e he; omega)
  have vN : (Int64.ofNat N).toInt = N := n64 hN2
  -- the digits are put
  have put : ∀ (e : Nat) (σ1 : am_S) (L1 : List Int32), e ≤ 18 → L1.length + (e + 1) ≤ 500000 → LetR σ1 L1 → Rc o leF [] [1055] σ σ1 → (∀ σ', LetR σ' (L1 ++ dgL N (e + 1)) → Rc o leF [] [1055] σ σ' → F σ') → c_Rm_putNumber_50 nl Ln xs (d + 2) 1053 v (Int64.ofNat N) (Int64.ofNat (10 ^ e)) σ1 F := by
    intro e
    have dv : ∀ e, e ≤ 18 → (Int64.ofNat N / Int64.ofNat (10 ^ e)).toInt = ((N / 10 ^ e : Nat) : Int) := fun e he => by
      have := p1 e
      rw [i64div (by rw [vN]; omega) (by rw [un e he]; omega), vN, un e he]
      exact (Int.natCast_ediv _ _).symm
    have dg : ∀ e, e ≤ 18 → (48 + ((Int64.ofNat N / Int64.ofNat (10 ^ e)) - (Int64.ofNat N / Int64.ofNat (10 ^ e)) / 10 * 10)).toInt32 = Int32.ofNat (48 + N / 10 ^ e % 10) := fun e he => by
      have hq := dv e he
      generalize Int64.ofNat N / Int64.ofNat (10 ^ e) = q at hq
      have t10 : (10 : Int64).toInt = 10 := by decide
      have t48 : (48 : Int64).toInt = 48 := by decide
      have hb : N / 10 ^ e ≤ N := Nat.div_le_self ..
      generalize N / 10 ^ e = Q at hq hb ⊢
      have d10 : (q / 10).toInt = ((Q / 10 : Nat) : Int) := by rw [i64div (by omega) (by rw [t10]; omega), hq, t10]; omega
      have m10 : (q / 10 * 10).toInt = ((Q / 10 * 10 : Nat) : Int) := by rw [i64mul (by rw [d10, t10]; omega) (by rw [d10, t10]; omega), d10, t10]; omega
      have s10 : (q - q / 10 * 10).toInt = ((Q % 10 : Nat) : Int) := by rw [i64sub (by omega) (by omega), hq, m10]; omega
      have a10 : (48 + (q - q / 10 * 10)).toInt = ((48 + Q % 10 : Nat) : Int) := by rw [i64add (by omega) (by omega), s10, t48]; omega
      rw [i32e, t32 (by omega) (by omega), a10, n32 (by omega)]
    induction e with
    | zero =>
      intro σ1 L1 he hl1 h1 r1 K1
      refine w_Rm_putNumber_50 ⟨fun _ => ⟨by decide, is_mk (hM.rc r1).1, ?_⟩, fun q => absurd (by decide) q⟩
      rw [dg 0 he]
      refine r_put2 (o := o) (hM.rc r1) h1 (by omega) (fun σ2 L2 r2 _ => ?_)
      rintro v6 rfl
      refine w_Rm_putNumber_50 ⟨fun q => absurd q (by decide), fun _ => K1 σ2 ?_ (r1.trans r2)⟩
      rw [dig_and _ (Nat.mod_lt _ (by decide))] at L2
      exact L2
    | succ e ih =>
      intro σ1 L1 he hl1 h1 r1 K1
      have hu := un (e + 1) he
      have hp := p1 (e + 1)
      have ne : Int64.ofNat (10 ^ (e + 1)) ≠ 0 := fun q => by rw [q, z] at hu; omega
      refine w_Rm_putNumber_50 ⟨fun _ => ⟨ne, is_mk (hM.rc r1).1, ?_⟩, fun q => absurd (by rw [i64lt, z, hu]; omega) q⟩
      rw [dg (e + 1) he]
      refine r_put2 (o := o) (hM.rc r1) h1 (by omega) (fun σ2 L2 r2 _ => ?_)
      rintro v6 rfl
      have ed : Int64.ofNat (10 ^ (e + 1)) / 10 = Int64.ofNat (10 ^ e) := by
        have t10 : (10 : Int64).toInt = 10 := by decide
        rw [i64e, i64div (by rw [hu]; omega) (by rw [t10]; omega), hu, un e (by omega), t10, Nat.pow_succ]
        omega
      rw [ed]
      rw [dig_and _ (Nat.mod_lt _ (by decide))] at L2
      refine ih σ2 _ (by omega) (by rw [List.length_append, List.length_singleton]; omega) L2 (r1.trans r2) (fun σ' L' r' => K1 σ' ?_ r')
      rw [List.append_assoc] at L'
      exact L'
  -- the highest digit is found
  have find : ∀ (j e : Nat) (σ1 : am_S) (L1 : List Int32), e + j = 18 → (e = 0 ∨ 10 ^ e ≤ N) → L1.length + 19 ≤ 500000 → LetR σ1 L1 → Rc o leF [] [1055] σ σ1 → (∀ σ', LetR σ' (L1 ++ d_dgs 20 N) → Rc o leF [] [1055] σ σ' → (d_dgs 20 N).length ≤ 19 → F σ') → c_Rm_putNumber_28 nl Ln xs (d + 2) 1053 v (Int64.ofNat N) (Int64.ofNat (10 ^ e)) σ1 F := by
    intro j
    have nine : (9 : Int64).toInt = 9 := by decide
    have dv : ∀ e, e ≤ 18 → (Int64.ofNat N / Int64.ofNat (10 ^ e)).toInt = ((N / 10 ^ e : Nat) : Int) := fun e he => by
      have := p1 e
      rw [i64div (by rw [vN]; omega) (by rw [un e he]; omega), vN, un e he]
      exact (Int.natCast_ediv _ _).symm
    have last : ∀ (e : Nat) (σ1 : am_S) (L1 : List Int32), e ≤ 18 → (e = 0 ∨ 10 ^ e ≤ N) → N / 10 ^ e ≤ 9 → L1.length + 19 ≤ 500000 → LetR σ1 L1 → Rc o leF [] [1055] σ σ1 → (∀ σ', LetR σ' (L1 ++ d_dgs 20 N) → Rc o leF [] [1055] σ σ' → (d_dgs 20 N).length ≤ 19 → F σ') → c_Rm_putNumber_50 nl Ln xs (d + 2) 1053 v (Int64.ofNat N) (Int64.ofNat (10 ^ e)) σ1 F := by
      intro e σ1 L1 he h0 h9 hl1 h1 r1 K1
      have hlt : N < 10 ^ (e + 1) := by
        rw [Nat.pow_succ]
        have := p1 e
        have h10 := (Nat.div_lt_iff_lt_mul (k := 10 ^ e) (by omega)).mp (show N / 10 ^ e < 10 by omega)
        rw [Nat.mul_comm]
        exact h10
      have eq := dgs_eq e 20 N (by omega) hlt h0
      rw [eq] at K1
      exact put e σ1 L1 he (by omega) h1 r1 (fun σ' L' r' => K1 σ' L' r' (by rw [dgL_len]; omega))
    induction j with
    | zero =>
      intro e σ1 L1 he h0 hl1 h1 r1 K1
      have hu := un e (by omega)
      have hp := p1 e
      have ne : Int64.ofNat (10 ^ e) ≠ 0 := fun q => by rw [q, z] at hu; omega
      have h9 : N / 10 ^ e ≤ 9 := by
        rw [show e = 18 by omega, p18]
        omega
      refine w_Rm_putNumber_28 ⟨ne, fun q => ?_, fun _ => last e σ1 L1 (by omega) h0 h9 hl1 h1 r1 K1⟩
      rw [i64lt, dv e (by omega), nine] at q
      omega
    | succ j ih =>
      intro e σ1 L1 he h0 hl1 h1 r1 K1
      have hu := un e (by omega)
      have hp := p1 e
      have ne : Int64.ofNat (10 ^ e) ≠ 0 := fun q => by rw [q, z] at hu; omega
      refine w_Rm_putNumber_28 ⟨ne, fun q => ?_, fun q => ?_⟩
      · rw [i64lt, dv e (by omega), nine] at q
        rintro v3 rfl
        have t10 : (10 : Int64).toInt = 10 := by decide
        have pe := pl (e + 1) (by omega)
        have ep : (10 : Nat) ^ (e + 1) = 10 ^ e * 10 := Nat.pow_succ ..
        have em : Int64.ofNat (10 ^ e) * 10 = Int64.ofNat (10 ^ (e + 1)) := by
          rw [i64e, i64mul (by rw [hu, t10]; omega) (by rw [hu, t10]; omega), hu, t10, un (e + 1) (by omega), ep]
          omega
        rw [em]
        refine ih (e + 1) σ1 L1 (by omega) (Or.inr ?_) hl1 h1 r1 K1
        rw [ep, Nat.mul_comm]
        exact (Nat.le_div_iff_mul_le (by omega)).mp (show 10 ≤ N / 10 ^ e by omega)
      · rw [i64lt, dv e (by omega), nine] at q
        exact last e σ1 L1 (by omega) h0 (by omega) hl1 h1 r1 K1
  have vpos : ¬ v < 0 → v = Int64.ofNat N := fun q => by rw [i64lt, z] at q; rw [i64e, vN]; omega
  have vneg : v < 0 → -v = Int64.ofNat N := fun q => by rw [i64lt, z] at q; rw [i64e, vN, i64neg hv]; omega
  refine w_Rm_putNumber ⟨fun q => ⟨is_mk hM.1, ?_⟩, fun q => ?_⟩
  · refine r_put2 (o := o) hM h (by omega) (fun σ2 L2 r2 _ => ?_)
    rintro w7 rfl
    rw [if_pos q, vneg q]
    have ed : d_num v = [45] ++ d_dgs 20 N := by unfold d_num; rw [if_pos (by rw [i64lt, z] at q; exact q), hN]
    rw [ed] at K
    refine find 18 0 σ2 _ (by omega) (Or.inl rfl) (by rw [List.length_append, List.length_singleton]; omega) L2 r2 (fun σ' L' r' hd => K σ' ?_ r' (by rw [List.length_append]; simp; omega))
    rw [List.append_assoc] at L'
    exact L'
  · rintro w11 rfl
    rw [if_neg q]
    have ed : d_num v = d_dgs 20 N := by unfold d_num; rw [if_neg (by rw [i64lt, z] at q; exact q), hN]; rfl
    rw [ed] at K
    have g := find 18 0 σ L (by omega) (Or.inl rfl) (by omega) h Rc.rf (fun σ' L' r' hd => K σ' L' r' (by omega))
    rw [← vpos q] at g
    exact g
end
