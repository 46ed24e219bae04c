/-! THE DESK of the reference: factors -/
theorem dsum_rng {f : Nat → Int64} {B : Int} (h : ∀ i, 0 ≤ (f i).toInt ∧ (f i).toInt ≤ B) : ∀ n : Nat, n * B < 9223372036854775808 → 0 ≤ (d_sum f n).toInt ∧ (d_sum f n).toInt ≤ n * B
  | 0, _ => by
    show 0 ≤ (0 : Int64).toInt ∧ (0 : Int64).toInt ≤ _
    have : (0 : Int64).toInt = 0 := by decide
    rw [this]; simp
  | n + 1, hb => by
    have hB := Int.le_trans (h 0).1 (h 0).2
    have e : ((n + 1 : Nat) : Int) * B = n * B + B := by rw [Int.natCast_succ, Int.add_mul, Int.one_mul]
    have i1 := dsum_rng h n (by omega)
    have hn := h n
    rw [d_sum, i64add (by omega) (by omega)]
    omega
theorem mod64 {a b : Int64} (ha : 0 ≤ a.toInt) (hb : 0 < b.toInt) : (a - a / b * b).toInt = a.toInt % b.toInt := by
  have r := r64 a
  have d := i64div ha hb
  have e := Int.emod_add_mul_ediv a.toInt b.toInt
  have m0 := Int.emod_nonneg a.toInt (by omega : b.toInt ≠ 0)
  have q0 : 0 ≤ b.toInt * (a.toInt / b.toInt) := Int.mul_nonneg (by omega) (Int.ediv_nonneg ha (by omega))
  have c : a.toInt / b.toInt * b.toInt = b.toInt * (a.toInt / b.toInt) := Int.mul_comm _ _
  have mu : (a / b * b).toInt = a.toInt / b.toInt * b.toInt := by rw [i64mul (by rw [d]; omega) (by rw [d]; omega), d]
  rw [i64sub (by omega) (by omega), mu]
  omega
section
variable {nl : Bool} {Ln : Nat} {xs : Nat → Int32} {d : Nat} {σ : am_S} {o o' : Nat} {D : mTop}
theorem runL_rng {P : List mPol} {T : List mTell} {Ls : List mLoss} (bY at' : Int32) (i j : Nat) : ∀ (l : List mCase), (∀ c ∈ l, WfCas P Ls c) → l.length ≤ 100 → 0 ≤ (d_runL Ls bY i j at' l).toInt ∧ (d_runL Ls bY i j at' l).toInt ≤ l.length * 40000000000000
  | [], _, _ => by
    have : (d_runL Ls bY i j at' []).toInt = 0 := by simp [d_runL]
    rw [this]; simp
  | c :: l, h, hl => by
    rw [List.length_cons] at hl ⊢
    have ih := runL_rng (P := P) (T := T) bY at' i j l (fun x hx => h x (List.mem_cons_of_mem _ hx)) (by omega)
    obtain ⟨h40, hf, -⟩ := (h c List.mem_cons_self).2.2.2.2.1
    have one : 0 ≤ (if (if bY = 0 then m_year (m_ld Ls c) else m_year c.2.2.2.1) = Int32.ofNat i then m_sumf (fun f => decide (f.1 = 13) && (decide (¬ at' < f.2.2.1) && decide (m_year f.2.1 = Int32.ofNat (i + j)))) m_fc c.2.2.2.2.2 else 0).toInt ∧ (if (if bY = 0 then m_year (m_ld Ls c) else m_year c.2.2.2.1) = Int32.ofNat i then m_sumf (fun f => decide (f.1 = 13) && (decide (¬ at' < f.2.2.1) && decide (m_year f.2.1 = Int32.ofNat (i + j)))) m_fc c.2.2.2.2.2 else 0).toInt ≤ 40000000000000 := by
      generalize (if bY = 0 then m_year (m_ld Ls c) else m_year c.2.2.2.1) = row
      split
      · have := sumf_rng (q := fun f => decide (f.1 = 13) && (decide (¬ at' < f.2.2.1) && decide (m_year f.2.1 = Int32.ofNat (i + j)))) (v := m_fc) c.2.2.2.2.2 (fun f hff => ⟨(hf f hff).2.2.2.2.1, (hf f hff).2.2.2.2.2.1⟩) h40
        omega
      · have : (0 : Int64).toInt = 0 := by decide
        rw [this]; omega
    rw [d_runL, i64add (by omega) (by omega)]
    have e : ((l.length + 1 : Nat) : Int) * 40000000000000 = l.length * 40000000000000 + 40000000000000 := by omega
    omega
theorem r_gcd {x1 x2 x3 x4 x5 : Int32} {x6 x8 x10 : Int64} {G : Nat} {F : Int64 → am_S → Prop} (hG : 0 < G) (hG2 : G < 9223372036854775808) (K : F (if x4 = 0 then x10 / Int64.ofNat G else x6 / Int64.ofNat G) σ) : ∀ (n : Nat) (a b : Int64) (x16 x17 : Option Value), b.toInt.toNat ≤ n → 0 ≤ a.toInt → 0 ≤ b.toInt → Nat.gcd a.toInt.toNat b.toInt.toNat = G → c_Rm_factor_157 nl Ln xs (d + 1) 1053 x1 x2 x3 x4 x5 x6 x8 x10 a b x16 x17 σ F := by
  have z : (0 : Int64).toInt = 0 := by decide
  intro n
  induction n with
  | zero =>
    intro a b x16 x17 hb ha hb0 hg
    have b0 : b.toInt.toNat = 0 := by omega
    rw [b0, Nat.gcd_zero_right] at hg
    have ea : a = Int64.ofNat G := by rw [i64e, n64 hG2]; omega
    have ne : a ≠ 0 := fun q => by rw [q, z] at hg; simp at hg; omega
    refine w_Rm_factor_157 ⟨fun q => ?_, fun _ => ⟨fun _ => ne, fun _ => ne, ?_⟩⟩
    · rw [i64lt, z] at q
      omega
    · rintro w9 rfl
      rw [ea]
      exact K
  | succ n ih =>
    intro a b x16 x17 hb ha hb0 hg
    by_cases b0 : b.toInt = 0
    · exact (ih a b x16 x17 (by omega) ha hb0 hg)
    · refine w_Rm_factor_157 ⟨fun _ => ⟨fun q => b0 (by rw [q, z]), ?_⟩, fun q => absurd (by rw [i64lt, z]; omega) q⟩
      rintro v3 rfl
      have hm := mod64 ha (show 0 < b.toInt by omega)
      have m0 := Int.emod_nonneg a.toInt b0
      have m1 := Int.emod_lt_of_pos a.toInt (show 0 < b.toInt by omega)
      refine ih b _ _ _ (by rw [hm]; omega) hb0 (by rw [hm]; exact m0) ?_
      rw [hm, ← hg, Nat.gcd_comm a.toInt.toNat, Nat.gcd_rec b.toInt.toNat a.toInt.toNat, Nat.gcd_comm]
      congr 1
      rw [← Int.toNat_emod ha (by omega)]
theorem r_factor {bY j y part at' : Int32} {F : Int64 → am_S → Prop} (w : DskW D) (R : DskR σ o o' D) (K : F (d_factor D bY j y part at') σ) : k_Rm_factor nl Ln xs (d + 3) 1053 bY j y part at' σ F := by
  have wo := w.1.1
  unfold d_factor at K
  have z : (0 : Int64).toInt = 0 := by decide
  have z1 : (1 : Int64).toInt = 1 := by decide
  have z29 : (29 : Int64).toInt = 29 := by decide
  have bad : ¬ ((0 ≤ bY.toInt ∧ bY.toInt ≤ 1) ∧ (0 ≤ j.toInt ∧ j.toInt ≤ 29) ∧ (0 ≤ y.toInt ∧ y.toInt ≤ 29) ∧ (0 ≤ part.toInt ∧ part.toInt ≤ 1) ∧ (0 ≤ at'.toInt ∧ at'.toInt ≤ (o_now (d_off D)).toInt)) → F (-9223372036854775808) σ := fun h => by
    rw [if_neg h] at K
    exact K
  refine w_Rm_factor (r_in (fun c1 c2 => ?_) (fun c => bad (fun q => c (by rw [t64, z, z1]; exact q.1))))
  rw [t64, z] at c1
  rw [t64, z1] at c2
  refine (r_in (fun c3 c4 => ?_) (fun c => bad (fun q => c (by rw [t64, z, z29]; exact q.2.1))))
  rw [t64, z] at c3
  rw [t64, z29] at c4
  refine (r_in (fun c5 c6 => ?_) (fun c => bad (fun q => c (by rw [t64, z, z29]; exact q.2.2.1))))
  rw [t64, z] at c5
  rw [t64, z29] at c6
  refine (r_in (fun c8 c9 => ⟨is_mk R.m.1, ?_⟩) (fun c => bad (fun q => c (by rw [t64, z, z1]; exact q.2.2.2.1))))
  rw [t64, z] at c8
  rw [t64, z1] at c9
  refine r_isMoment (d := d) R (fun _ => ⟨fun c7 => ?_, fun c => bad (fun q => c (decide_eq_true q.2.2.2.2))⟩)
  have c7 := of_decide_eq_true c7
  rw [if_pos ⟨⟨c1, c2⟩, ⟨c3, c4⟩, ⟨c5, c6⟩, ⟨c8, c9⟩, c7⟩] at K
  have hjN : j.toInt.toNat ≤ 29 := by omega
  have hn29 : y.toInt.toNat - j.toInt.toNat ≤ 29 := by omega
  have ej := n32of c3
  have hcm : ((y - j) - 1).toInt = y.toInt - j.toInt - 1 := by
    have o1 : (1 : Int32).toInt = 1 := by decide
    rw [i32sub (by rw [i32sub (by omega) (by omega), o1]; omega) (by rw [i32sub (by omega) (by omega), o1]; omega), i32sub (by omega) (by omega), o1]
  have hnn : ((y.toInt.toNat - j.toInt.toNat : Nat) : Int) = max 0 (y.toInt - j.toInt) := by omega
  obtain ⟨jn, hjn⟩ : ∃ jn, jn = j.toInt.toNat := ⟨_, rfl⟩
  obtain ⟨n, hn⟩ : ∃ n, n = y.toInt.toNat - j.toInt.toNat := ⟨_, rfl⟩
  rw [← hn, ← hjn] at K
  rw [← hn] at hnn hn29
  rw [← hjn] at hjN ej
  have rr : ∀ i k, 0 ≤ (d_runL (o_los (d_off D)) bY i k at' (o_cas (d_off D))).toInt ∧ (d_runL (o_los (d_off D)) bY i k at' (o_cas (d_off D))).toInt ≤ 4000000000000000 := fun i k => by
    have h1 := runL_rng (P := o_pol (d_off D)) (T := o_tel (d_off D)) bY at' i k (o_cas (d_off D)) wo.1.2.2.2.2 wo.1.c100
    have h2 := wo.1.c100
    omega
  have rb1 : ∀ i, 0 ≤ (d_sum (fun k => d_runL (o_los (d_off D)) bY i k at' (o_cas (d_off D))) (jn + 1)).toInt ∧ (d_sum (fun k => d_runL (o_los (d_off D)) bY i k at' (o_cas (d_off D))) (jn + 1)).toInt ≤ 120000000000000000 := fun i => by
    have h1 := dsum_rng (f := fun k => d_runL (o_los (d_off D)) bY i k at' (o_cas (d_off D))) (B := 4000000000000000) (fun k => rr i k) (jn + 1) (by omega)
    omega
  have rb : 0 ≤ (d_below (d_off D) bY jn n at').toInt ∧ (d_below (d_off D) bY jn n at').toInt ≤ 3600000000000000000 := by
    have h1 := dsum_rng (f := fun i => d_sum (fun k => d_runL (o_los (d_off D)) bY i k at' (o_cas (d_off D))) (jn + 1)) (B := 120000000000000000) (fun i => rb1 i) n (by omega)
    unfold d_below
    omega
  have rn : 0 ≤ (d_next (d_off D) bY jn n at').toInt ∧ (d_next (d_off D) bY jn n at').toInt ≤ 120000000000000000 := by
    have h1 := dsum_rng (f := fun i => d_runL (o_los (d_off D)) bY i (jn + 1) at' (o_cas (d_off D))) (B := 4000000000000000) (fun i => rr i (jn + 1)) n (by omega)
    unfold d_next
    omega
  -- the end: the greatest divisor
  have fin : ∀ (x10 : Int32) (x11 : Option Value), x10.toInt = n → c_Rm_factor_67 nl Ln xs (d + 3) 1053 bY j y part at' (d_below (d_off D) bY jn n at') (d_next (d_off D) bY jn n at') x10 x11 σ F := by
    intro x10 x11 hx
    refine w_Rm_factor_67 ⟨fun _ => ⟨fun h0 => ?_, fun h0 => ?_⟩, fun q => absurd (by rw [i32lt, hcm, hx]; omega) q⟩
    · simp only [h0, if_true] at K
      exact K
    · rintro v3 rfl
      simp only [if_neg h0] at K
      have hs : (d_below (d_off D) bY jn n at' + d_next (d_off D) bY jn n at').toInt = (d_below (d_off D) bY jn n at').toInt + (d_next (d_off D) bY jn n at').toInt := i64add (by omega) (by omega)
      have hbp : 0 < (d_below (d_off D) bY jn n at').toInt := by
        rcases Int.lt_or_eq_of_le rb.1 with q | q
        · exact q
        · exact absurd (by rw [i64e, z]; exact q.symm) h0
      have hgp : 0 < Nat.gcd (d_below (d_off D) bY jn n at' + d_next (d_off D) bY jn n at').toInt.toNat (d_below (d_off D) bY jn n at').toInt.toNat := Nat.gcd_pos_of_pos_right _ (by omega)
      have hgl : Nat.gcd (d_below (d_off D) bY jn n at' + d_next (d_off D) bY jn n at').toInt.toNat (d_below (d_off D) bY jn n at').toInt.toNat ≤ (d_below (d_off D) bY jn n at').toInt.toNat := Nat.gcd_le_right _ (by omega)
      refine r_gcd hgp (by omega) ?_ _ _ _ none none (Nat.le_refl _) (by omega) (by omega) rfl
      by_cases hp : part = 0
      · rw [if_pos hp]
        rw [if_pos (show part.toInt = 0 by rw [hp]; decide)] at K
        exact K
      · rw [if_neg hp]
        rw [if_neg (fun q => hp (by rw [i32e, q]; decide))] at K
        exact K
  have outer : ∀ (m i : Nat) (x11 : Option Value), i + m = n → c_Rm_factor_67 nl Ln xs (d + 3) 1053 bY j y part at' (d_below (d_off D) bY jn i at') (d_next (d_off D) bY jn i at') (Int32.ofNat i) x11 σ F := by
    intro m
    induction m with
    | zero =>
      intro i x11 hi
      have hin : i = n := by omega
      subst hin
      exact fin _ x11 (n32 (by omega))
    | succ m ihm =>
      intro i x11 hi
      have ti : (Int32.ofNat i).toInt = i := n32 (by omega)
      refine w_Rm_factor_67 ⟨fun q => ?_, fun _ => ?_⟩
      · rw [i32lt, hcm, ti] at q
        omega
      have inner : ∀ (q k : Nat), k + q = jn + 1 → c_Rm_factor_80 nl Ln xs (d + 3) 1053 bY j y part at' (d_below (d_off D) bY jn i at' + d_sum (fun k => d_runL (o_los (d_off D)) bY i k at' (o_cas (d_off D))) k) (d_next (d_off D) bY jn i at') (Int32.ofNat i) (Int32.ofNat k) σ F := by
        intro q
        induction q with
        | zero =>
          intro k hk
          have hk1 : k = jn + 1 := by omega
          refine w_Rm_factor_80 ⟨fun _ => ⟨is_mk R.m.1, ?_⟩, fun h => absurd (by rw [ej, n32lt (by omega) (by omega)]; omega) h⟩
          rw [hk1]
          have ej1 : j + 1 = Int32.ofNat (jn + 1) := by rw [ej, n32s]
          rw [ej1]
          refine (r_runs (d := d) wo R (by omega) (by omega) (fun _ => ?_))
          rintro v5 rfl
          rw [n32s]
          exact ihm (i + 1) _ (by omega)
        | succ q ihq =>
          intro k hk
          refine w_Rm_factor_80 ⟨fun h => ?_, fun _ => ⟨is_mk R.m.1, ?_⟩⟩
          · rw [ej, n32lt (by omega) (by omega)] at h
            omega
          · refine (r_runs (d := d) wo R (by omega) (by omega) (fun _ => ?_))
            rintro v10 rfl
            rw [n32s, Int64.add_assoc]
            exact ihq (k + 1) (by omega)
      have h := inner (jn + 1) 0 (by omega)
      rw [show d_sum (fun k => d_runL (o_los (d_off D)) bY i k at' (o_cas (d_off D))) 0 = 0 from rfl, Int64.add_zero] at h
      exact h
  exact outer n 0 none (by omega)
end
