/-! THE CLASS: numbers in decimals -/
def dig (N : Nat) : Nat → List Int32
  | 0 => [Int32.ofNat (48 + N % 10)]
  | k + 1 => Int32.ofNat (48 + N / 10 ^ (k + 1) % 10) :: dig N k
theorem dig_s (N : Nat) : ∀ k, dig N (k + 1) = dig (N / 10) k ++ [Int32.ofNat (48 + N % 10)]
  | 0 => by
    show [Int32.ofNat (48 + N / 10 ^ 1 % 10), Int32.ofNat (48 + N % 10)] = _
    rw [Nat.pow_one]
    rfl
  | k + 1 => by
    have e : N / 10 ^ (k + 1 + 1) = N / 10 / 10 ^ (k + 1) := by
      rw [Nat.div_div_eq_div_mul, Nat.pow_succ, Nat.mul_comm]
    show Int32.ofNat (48 + N / 10 ^ (k + 1 + 1) % 10) :: dig N (k + 1) = (Int32.ofNat (48 + N / 10 / 10 ^ (k + 1) % 10) :: dig (N / 10) k) ++ [_]
    rw [e, dig_s N k]
    rfl
theorem dig_eq : ∀ (k f N : Nat), k < f → N < 10 ^ (k + 1) → (k = 0 ∨ 10 ^ k ≤ N) → dig N k = d_dgs f N
  | 0, f + 1, N, _, h1, _ => by
    have h1 : N < 10 := by simpa using h1
    rw [d_dgs, if_pos h1]
    show [Int32.ofNat (48 + N % 10)] = _
    rw [Nat.mod_eq_of_lt h1]
  | k + 1, f + 1, N, hf, h1, h2 => by
    have h3 : 10 ^ (k + 1) ≤ N := by omega
    have p1 : 10 ≤ 10 ^ (k + 1) := by
      rw [Nat.pow_succ]
      have := Nat.one_le_pow k 10 (by decide)
      omega
    rw [d_dgs, if_neg (by omega), dig_s]
    have e1 : N / 10 < 10 ^ (k + 1) := by
      rw [Nat.pow_succ] at h1
      omega
    have e2 : k = 0 ∨ 10 ^ k ≤ N / 10 := by
      right
      rw [Nat.pow_succ] at h3
      omega
    rw [dig_eq k f (N / 10) (by omega) e1 e2]
section
variable {nl : Bool} {Ln : Nat} {xs : Nat → Int32} {d : Nat} {σ : am_S} {w : ow_T}
theorem pow10 {k : Nat} (h : k ≤ 18) : 0 < 10 ^ k ∧ 10 ^ k ≤ 1000000000000000000 := by
  refine ⟨Nat.pos_of_ne_zero (by simp), ?_⟩
  exact Nat.le_trans (Nat.pow_le_pow_right (by decide) h) (by decide)
theorem by_dec58 {k : Nat × Nat} {n : Nat} {x1 x3 : Int64} {N : Nat} {T : List Int32} {g0 : Nat} {F : am_S → Prop} (h3 : x3.toInt = N) (hk : k ≠ (0, 0)) (hT : T.length < 200000) (K : ∀ σ' w' g', ByR σ' w' k n g' T → ByC σ w σ' w' k g0 g' → F σ') : ∀ (i x7 : Nat) (x5 : Int64) (s : am_S) (ws : ow_T) (g : Nat) (L : List Int32), x5.toInt = (10 ^ i : Nat) → i ≤ 18 → x7 + i ≤ 18 → L ++ dig N i = T → ByR s ws k n g L → ByC σ w s ws k g0 g → c_By_putDecimal_58 nl Ln xs (d + 4) n x1 x3 x5 (Int32.ofNat x7) s F := by
  have z : (0 : Int64).toInt = 0 := by decide
  have t10 : (10 : Int64).toInt = 10 := by decide
  have t48 : (48 : Int64).toInt = 48 := by decide
  have r3 := r64 x3
  have one : ∀ (i x7 : Nat) (x5 : Int64) (s : am_S) (ws : ow_T) (g : Nat) (L : List Int32), x5.toInt = (10 ^ i : Nat) → i ≤ 18 → x7 < 19 → L.length < 200000 → ByR s ws k n g L → ByC σ w s ws k g0 g → (∀ s' w' g', ByR s' w' k n g' (L ++ [Int32.ofNat (48 + N / 10 ^ i % 10)]) → ByC σ w s' w' k g0 g' → c_By_putDecimal_58 nl Ln xs (d + 4) n x1 x3 (x5 / 10) (Int32.ofNat (x7 + 1)) s' F) → c_By_putDecimal_58 nl Ln xs (d + 4) n x1 x3 x5 (Int32.ofNat x7) s F := by
    intro i x7 x5 s ws g L h5 hi h7 hL B C K2
    have p := pow10 hi
    have lt : Int32.ofNat x7 < 19 := (n32lt (b := 19) (by omega) (by omega)).mpr h7
    have p5 : (0 : Int64) < x5 := by rw [i64lt, z, h5]; omega
    have ne : x5 ≠ 0 := fun q => by rw [q, z] at h5; omega
    refine w_By_putDecimal_58 ⟨fun _ => ⟨fun _ => ⟨ne, is_mk B.2.1, by_put (d := d) B C.1.1 hk (by omega) (fun s6 w6 g6 B6 c6 _ => ?_)⟩, fun q => absurd p5 q⟩, fun q => absurd lt q⟩
    rintro v7 rfl
    rw [n32s]
    have q1 : (x3 / x5).toInt = N / (10 ^ i : Nat) := by rw [i64div (by omega) (by omega), h3, h5]
    have q1' : (x3 / x5).toInt = ((N / 10 ^ i : Nat) : Int) := by rw [q1]; exact (Int.natCast_ediv N (10 ^ i)).symm
    have q2 := mod64 (a := x3 / x5) (b := 10) (by rw [q1']; exact Int.natCast_nonneg _) (by decide)
    rw [t10, q1'] at q2
    have hd : ((48 : Int64) + (x3 / x5 - x3 / x5 / 10 * 10)).toInt = ((48 + N / 10 ^ i % 10 : Nat) : Int) := by
      rw [i64add (by omega) (by omega), q2, t48]
      omega
    have e : (((48 : Int64) + (x3 / x5 - x3 / x5 / 10 * 10)).toInt32) &&& 255 = Int32.ofNat (48 + N / 10 ^ i % 10) := by
      have e1 : ((48 : Int64) + (x3 / x5 - x3 / x5 / 10 * 10)).toInt32 = Int32.ofNat (48 + N / 10 ^ i % 10) := by
        rw [i32e, t32 (by omega) (by omega), hd, n32 (by omega)]
      rw [e1]
      exact bsm (by omega)
    rw [e] at B6
    exact K2 s6 w6 g6 B6 (C.trans c6)
  intro i
  induction i with
  | zero =>
    intro x7 x5 s ws g L h5 hi h7 hL B C
    have hl : L.length < 200000 := by rw [← hL, List.length_append] at hT; omega
    refine one 0 x7 x5 s ws g L h5 hi (by omega) hl B C (fun s' w' g' B' C' => ?_)
    have h50 : x5 / 10 = 0 := by
      rw [i64e, i64div (by rw [h5]; decide) (by decide), h5, t10, z]
      decide
    have eT : L ++ [Int32.ofNat (48 + N / 10 ^ 0 % 10)] = T := by
      rw [← hL, Nat.pow_zero, Nat.div_one]
      rfl
    rw [eT] at B'
    rw [h50]
    refine w_By_putDecimal_58 ⟨fun _ => ⟨fun q => absurd q (by decide), fun _ => K s' w' g' B' C'⟩, fun _ => K s' w' g' B' C'⟩
  | succ i ih =>
    intro x7 x5 s ws g L h5 hi h7 hL B C
    have hl : L.length < 200000 := by rw [← hL, List.length_append] at hT; omega
    refine one (i + 1) x7 x5 s ws g L h5 hi (by omega) hl B C (fun s' w' g' B' C' => ?_)
    refine ih (x7 + 1) (x5 / 10) s' w' g' _ ?_ (by omega) (by omega) ?_ B' C'
    · have p := pow10 (k := i + 1) hi
      rw [i64div (by omega) (by decide), h5, t10, Nat.pow_succ]
      omega
    · rw [← hL]
      show (L ++ [_]) ++ dig N i = L ++ (_ :: dig N i)
      rw [List.append_assoc]
      rfl
theorem by_dec {k : Nat × Nat} {n g0 : Nat} {L : List Int32} {x : Int64} {F : am_S → Prop} (hv : -9223372036854775808 < x.toInt) (hk : k ≠ (0, 0)) (hl : L.length < 190000) (B : ByR σ w k n g0 L) (ho : OwI σ w) (K : ∀ σ' w' g', ByR σ' w' k n g' (L ++ d_num x) → ByC σ w σ' w' k g0 g' → F σ') : k_By_putDecimal nl Ln xs (d + 4) n x σ F := by
  have z : (0 : Int64).toInt = 0 := by decide
  have t10 : (10 : Int64).toInt = 10 := by decide
  have rx := r64 x
  obtain ⟨N, hN⟩ : ∃ N, N = x.toInt.natAbs := ⟨_, rfl⟩
  have hN63 : N < 9223372036854775808 := by omega
  have hdl : ∀ f m, (d_dgs f m).length ≤ f := by
    intro f
    induction f with
    | zero => intro m; simp [d_dgs]
    | succ f ih =>
      intro m
      rw [d_dgs]
      split
      · simp
      · rw [List.length_append, List.length_singleton]
        have := ih (m / 10)
        omega
  have l12 : ∀ (s : am_S) (ws : ow_T) (g : Nat) (L1 : List Int32), L1.length ≤ L.length + 1 → L1 ++ d_dgs 20 N = L ++ d_num x → ByR s ws k n g L1 → ByC σ w s ws k g0 g → c_By_putDecimal_12 nl Ln xs (d + 4) n x s F := by
    intro s ws g L1 hl1 hLe B1 C1
    refine w_By_putDecimal_12 (w_Math_abs ?_)
    intro a2 ea _
    have h3 : a2.toInt = N := by
      rw [ea]
      by_cases hneg : x < 0
      · rw [if_pos hneg, i64neg (by omega)]
        rw [i64lt, z] at hneg
        omega
      · rw [if_neg hneg]
        rw [i64lt, z] at hneg
        omega
    have hT : (L ++ d_num x).length < 200000 := by
      rw [← hLe, List.length_append]
      have := hdl 20 N
      omega
    have loop : ∀ (j i : Nat) (x5 : Int64), i + j = 18 → x5.toInt = (10 ^ i : Nat) → (i = 0 ∨ 10 ^ i ≤ N) → c_By_putDecimal_23 nl Ln xs (d + 4) n x a2 x5 (Int32.ofNat i) s F := by
      intro j
      induction j with
      | zero =>
        intro i x5 hi h5 hlow
        have hi : i = 18 := by omega
        subst hi
        have end58 := by_dec58 (nl := nl) (Ln := Ln) (xs := xs) (d := d) (x1 := x) (N := N) (T := L ++ d_num x) h3 hk hT K 18 0 x5 s ws g L1 h5 (by omega) (by omega) (by rw [dig_eq 18 20 N (by omega) (by omega) hlow]; exact hLe) B1 C1
        refine w_By_putDecimal_23 ⟨fun q => absurd q (by decide), fun _ => end58⟩
      | succ j ih =>
        intro i x5 hi h5 hlow
        have p := pow10 (k := i) (by omega)
        have ne : x5 ≠ 0 := fun q => by rw [q, z] at h5; omega
        have lt : Int32.ofNat i < 18 := (n32lt (b := 18) (by omega) (by omega)).mpr (by omega)
        have q1 : (a2 / x5).toInt = ((N / 10 ^ i : Nat) : Int) := by
          rw [i64div (by omega) (by omega), h3, h5]
          exact (Int.natCast_ediv N (10 ^ i)).symm
        refine w_By_putDecimal_23 ⟨fun _ => ⟨ne, fun hlt => ?_, fun hge => ?_⟩, fun q => absurd lt q⟩
        · rw [i64lt, q1, t10] at hlt
          have hup : N < 10 ^ (i + 1) := by
            rw [Nat.pow_succ]
            have h9 : N / 10 ^ i < 10 := by omega
            rw [Nat.div_lt_iff_lt_mul p.1] at h9
            rw [Nat.mul_comm]
            exact h9
          exact by_dec58 (nl := nl) (Ln := Ln) (xs := xs) (d := d) (x1 := x) (N := N) (T := L ++ d_num x) h3 hk hT K i 0 x5 s ws g L1 h5 (by omega) (by omega) (by rw [dig_eq i 20 N (by omega) hup hlow]; exact hLe) B1 C1
        · rw [i64lt, q1, t10] at hge
          rintro v4 rfl
          rw [n32s]
          refine ih (i + 1) _ (by omega) ?_ (Or.inr ?_)
          · have p2 := pow10 (k := i + 1) (by omega)
            rw [Nat.pow_succ] at p2
            rw [i64mul (by rw [h5, t10]; omega) (by rw [h5, t10]; omega), h5, t10, Nat.pow_succ]
            omega
          · rw [Nat.pow_succ]
            have h9 : 10 ≤ N / 10 ^ i := by omega
            rw [Nat.le_div_iff_mul_le p.1] at h9
            rw [Nat.mul_comm]
            exact h9
    exact loop 18 0 1 (by omega) (by decide) (Or.inl rfl)
  refine w_By_putDecimal ⟨fun hneg => ⟨is_mk B.2.1, by_put (d := d) B ho hk (by omega) (fun s3 w3 g3 B3 c3 _ => ?_)⟩, fun hneg => ?_⟩
  · rw [i64lt, z] at hneg
    have e45 : (45 : Int32) &&& 255 = 45 := by decide
    rw [e45] at B3
    refine l12 s3 w3 g3 _ (by rw [List.length_append, List.length_singleton]; omega) ?_ B3 c3
    unfold d_num
    rw [if_pos hneg, ← hN, List.append_assoc]
  · rw [i64lt, z] at hneg
    refine l12 σ w g0 L (by omega) ?_ B (ByC.rf ho)
    unfold d_num
    rw [if_neg hneg, ← hN]
    rfl
end
