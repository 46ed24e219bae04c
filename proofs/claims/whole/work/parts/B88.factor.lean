/-! THE CLASS: factors -/
section
variable {nl : Bool} {Ln : Nat} {xs : Nat → Int32} {d : Nat} {σ : am_S} {w : ow_T} {τ : am_S} {v b gl nu : Nat} {X : Stx} {sp : Option Nat} {g : Grw} {D : mTop}
theorem co_factor {bY j y part at' : Int32} {F : Int64 → am_S → Prop} (wo : WfO (d_off D)) (R : DskC τ σ w v X b sp g gl nu D) (K : F (d_factor D bY j y part at') σ) : k_Co_factor nl Ln xs (d + 3) 1000 bY j y part at' σ F := by
  have R0 := R
  obtain ⟨C, -, -, -, -, -, -, A, -⟩ := R
  unfold d_factor at K
  have z0 : (0 : Int32).toInt = 0 := by decide
  have z1 : (1 : Int32).toInt = 1 := by decide
  have z : (0 : Int64).toInt = 0 := by decide
  have bad : ¬ ((0 ≤ bY.toInt ∧ bY.toInt ≤ 1) ∧ (0 ≤ j.toInt ∧ j.toInt ≤ 29) ∧ (0 ≤ y.toInt ∧ y.toInt ≤ 29) ∧ (0 ≤ part.toInt ∧ part.toInt ≤ 1) ∧ (0 ≤ at'.toInt ∧ at'.toInt ≤ (o_now (d_off D)).toInt)) → F (-9223372036854775808) σ := fun h => by
    rw [if_neg h] at K
    exact K
  refine w_Co_factor ?_
  rw [i32lt, i32lt, z0, z1]
  refine ⟨fun h => bad (fun z => by omega), fun h0 => ⟨fun h => bad (fun z => by omega), fun h2 => w_Co_isYear (fun _ => ⟨fun hy => w_Co_isYear (fun _ => ⟨fun hy2 => ?_, fun hy2 => bad (fun z => hy2 (decide_eq_true (year_ok.mpr z.2.2.1)))⟩), fun hy => bad (fun z => hy (decide_eq_true (year_ok.mpr z.2.1)))⟩)⟩⟩
  have c3 := year_ok.mp (of_decide_eq_true hy)
  have c5 := year_ok.mp (of_decide_eq_true hy2)
  rw [i32lt, i32lt, z0, z1]
  refine ⟨fun h => bad (fun z => by omega), fun h3 => ⟨fun h => bad (fun z => by omega), fun h4 => ⟨is_mk C.1.2, co_isMoment (d := d + 1) R0 (fun bo hbo _ => ⟨fun hb => ?_, fun hb => bad (fun z => hb (hbo.mpr z.2.2.2.2))⟩)⟩⟩⟩
  rw [if_pos ⟨⟨by omega, by omega⟩, c3, c5, ⟨by omega, by omega⟩, hbo.mp hb⟩] at K
  have hcm : ((y - j) - 1).toInt = y.toInt - j.toInt - 1 := by
    rw [i32sub (by rw [i32sub (by omega) (by omega), z1]; omega) (by rw [i32sub (by omega) (by omega), z1]; omega), i32sub (by omega) (by omega), z1]
  have hj1 : (j + 1).toInt = j.toInt + 1 := by rw [i32add (by omega) (by omega), z1]
  obtain ⟨jn, hjn⟩ : ∃ jn, jn = j.toInt.toNat := ⟨_, rfl⟩
  obtain ⟨n, hn⟩ : ∃ n, n = y.toInt.toNat - j.toInt.toNat := ⟨_, rfl⟩
  rw [← hn, ← hjn] at K
  have hnl : ∀ r : Int, 0 ≤ r → (r ≤ ((y - j) - 1).toInt ↔ r < n) := fun r hr => by rw [hcm]; omega
  have eb : pdW (o_los (d_off D)) bY (0 : Int32).toInt ((y - j) - 1).toInt j.toInt at' (o_cas (d_off D)) = d_below (d_off D) bY jn n at' := by
    rw [z0, show j.toInt = (jn : Int) by omega]
    exact sum_eq (P := o_pol (d_off D)) (los_day wo) (by omega) (by omega) hnl (o_cas (d_off D)) wo.1.2.2.2.2
  have ea : pdW (o_los (d_off D)) bY (0 : Int32).toInt ((y - j) - 1).toInt (j + 1).toInt at' (o_cas (d_off D)) = d_below (d_off D) bY jn n at' + d_next (d_off D) bY jn n at' := by
    rw [z0, show (j + 1).toInt = ((jn + 1 : Nat) : Int) by omega, sum_eq (P := o_pol (d_off D)) (los_day wo) (by omega) (by omega) hnl (o_cas (d_off D)) wo.1.2.2.2.2]
    exact dsum_add (fun i => d_sum (fun k => d_runL (o_los (d_off D)) bY i k at' (o_cas (d_off D))) (jn + 1)) (fun i => d_runL (o_los (d_off D)) bY i (jn + 1) at' (o_cas (d_off D))) n
  have rr : ∀ i k, 0 ≤ (d_runL (o_los (d_off D)) bY i k at' (o_cas (d_off D))).toInt ∧ (d_runL (o_los (d_off D)) bY i k at' (o_cas (d_off D))).toInt ≤ 4000000000000000 := fun i k => by
    have h1 := runL_rng (P := o_pol (d_off D)) (T := o_tel (d_off D)) bY at' i k (o_cas (d_off D)) wo.1.2.2.2.2 wo.1.c100
    have h2 := wo.1.c100
    omega
  have rb1 : ∀ i, 0 ≤ (d_sum (fun k => d_runL (o_los (d_off D)) bY i k at' (o_cas (d_off D))) (jn + 1)).toInt ∧ (d_sum (fun k => d_runL (o_los (d_off D)) bY i k at' (o_cas (d_off D))) (jn + 1)).toInt ≤ 120000000000000000 := fun i => by
    have h1 := dsum_rng (f := fun k => d_runL (o_los (d_off D)) bY i k at' (o_cas (d_off D))) (B := 4000000000000000) (fun k => rr i k) (jn + 1) (by omega)
    omega
  have rb : 0 ≤ (d_below (d_off D) bY jn n at').toInt ∧ (d_below (d_off D) bY jn n at').toInt ≤ 3600000000000000000 := by
    have h1 := dsum_rng (f := fun i => d_sum (fun k => d_runL (o_los (d_off D)) bY i k at' (o_cas (d_off D))) (jn + 1)) (B := 120000000000000000) (fun i => rb1 i) n (by omega)
    unfold d_below
    omega
  have rn : 0 ≤ (d_next (d_off D) bY jn n at').toInt ∧ (d_next (d_off D) bY jn n at').toInt ≤ 120000000000000000 := by
    have h1 := dsum_rng (f := fun i => d_runL (o_los (d_off D)) bY i (jn + 1) at' (o_cas (d_off D))) (B := 4000000000000000) (fun i => rr i (jn + 1)) n (by omega)
    unfold d_next
    omega
  rw [C.2.2.2.1, Option.getD_some]
  refine ⟨is_mk A.2.1.1.1.2.1, bk_paidWithin (d := d) A.2.1.1 wo.1 (by omega) (fun _ => ?_)⟩
  rw [C.2.2.2.1, Option.getD_some]
  refine ⟨is_mk A.2.1.1.1.2.1, bk_paidWithin (d := d) A.2.1.1 wo.1 (by omega) (fun _ => ?_)⟩
  rw [ea, eb]
  generalize d_below (d_off D) bY jn n at' = bb at K rb
  generalize d_next (d_off D) bY jn n at' = aa at K rn
  refine ⟨fun h0 => ?_, fun h0 => ?_⟩
  · simp only [h0, if_true] at K
    exact K
  · simp only [if_neg h0] at K
    have hs : (bb + aa).toInt = bb.toInt + aa.toInt := i64add (by omega) (by omega)
    have hbp : 0 < bb.toInt := by
      rcases Int.lt_or_eq_of_le rb.1 with q | q
      · exact q
      · exact absurd (by rw [i64e, z]; exact q.symm) h0
    have hgp : 0 < Nat.gcd (bb + aa).toInt.toNat bb.toInt.toNat := Nat.gcd_pos_of_pos_right _ (by omega)
    have hgl : Nat.gcd (bb + aa).toInt.toNat bb.toInt.toNat ≤ bb.toInt.toNat := Nat.gcd_le_right _ (by omega)
    refine w_Co_greatestDivisor (co_gcd (d := d + 1) (G := Nat.gcd (bb + aa).toInt.toNat bb.toInt.toNat) hgp (by omega) (fun _ => ?_) 63 (bb + aa) bb 0 none none (by omega) (by omega) (by omega) (by omega) rfl)
    rintro w26 rfl
    have hne : Int64.ofNat (Nat.gcd (bb + aa).toInt.toNat bb.toInt.toNat) ≠ 0 := fun q => by
      have := congrArg Int64.toInt q
      rw [n64 (by omega), z] at this
      omega
    refine ⟨hne, ?_⟩
    by_cases hp : part = 0
    · rw [if_pos hp]
      rw [if_pos (show part.toInt = 0 by rw [hp]; decide)] at K
      exact K
    · rw [if_neg hp]
      rw [if_neg (fun q => hp (by rw [i32e, q]; decide))] at K
      exact K
end
