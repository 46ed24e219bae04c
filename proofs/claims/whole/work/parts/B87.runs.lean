/-! THE CLASS: runs of payments, factors -/
theorem dsum_add (f h : Nat → Int64) : ∀ n, d_sum (fun i => f i + h i) n = d_sum f n + d_sum h n
  | 0 => by show (0 : Int64) = 0 + 0; decide
  | n + 1 => by
    rw [d_sum, d_sum, d_sum, dsum_add f h n]
    grind
theorem dsum_congr {f h : Nat → Int64} : ∀ {n : Nat}, (∀ i, i < n → f i = h i) → d_sum f n = d_sum h n
  | 0, _ => rfl
  | n + 1, e => by rw [d_sum, d_sum, dsum_congr (fun i hi => e i (by omega)), e n (by omega)]
theorem dsum_zero : ∀ n, d_sum (fun _ => 0) n = 0
  | 0 => rfl
  | n + 1 => by rw [d_sum, dsum_zero n]; decide
theorem dsum_one {r : Nat} {x : Int64} : ∀ n, d_sum (fun i => if i = r then x else 0) n = if r < n then x else 0
  | 0 => by rw [if_neg (by omega)]; rfl
  | n + 1 => by
    rw [d_sum, dsum_one n]
    by_cases h : n = r
    · rw [if_pos h, if_neg (by omega), if_pos (by omega), Int64.zero_add]
    · rw [if_neg h, Int64.add_zero]
      by_cases h2 : r < n
      · rw [if_pos h2, if_pos (by omega)]
      · rw [if_neg h2, if_neg (by omega)]
section
variable {P : List mPol} {Ls : List mLoss} {bY at' : Int32}
def rowY (Ls : List mLoss) (bY : Int32) (c : mCase) : Int32 := if bY = 0 then m_year (m_ld Ls c) else m_year c.2.2.2.1
theorem row_ok {c : mCase} (hl : ∀ l ∈ Ls, 0 ≤ l.2.1.toInt) (h : WfCas P Ls c) : 0 ≤ (rowY Ls bY c).toInt ∧ (rowY Ls bY c).toInt < 40 ∧ ∀ f ∈ c.2.2.2.2.2, 0 ≤ f.2.1.toInt ∧ (rowY Ls bY c).toInt ≤ f.2.1.toInt / 365 := by
  obtain ⟨h1, h2, h3, h4, h5, h6, h7⟩ := h
  have h0 : 0 ≤ (m_ld Ls c).toInt := hl _ (List.mem_of_getElem? (getD_some mLoss0 h2))
  unfold rowY
  split
  · rw [year_to h0]
    refine ⟨by omega, by omega, fun f hf => ?_⟩
    have := h6 f hf
    omega
  · rw [year_to (by omega)]
    refine ⟨by omega, by omega, fun f hf => ?_⟩
    have := h6 f hf
    omega
theorem runL_cons {c : mCase} {C : List mCase} {i j : Nat} : d_runL Ls bY i j at' (c :: C) = (if rowY Ls bY c = Int32.ofNat i then pdY c.2.2.2.2.2 at' (i + j) else 0) + d_runL Ls bY i j at' C := rfl
theorem pdW_cons {c : mCase} {C : List mCase} {f l j : Int} : pdW Ls bY f l j at' (c :: C) = (if f ≤ (rowY Ls bY c).toInt ∧ (rowY Ls bY c).toInt ≤ l ∧ 0 ≤ j then pdU c.2.2.2.2.2 at' ((rowY Ls bY c).toInt + j).toNat else 0) + pdW Ls bY f l j at' C := rfl
theorem run_eq (hl : ∀ l ∈ Ls, 0 ≤ l.2.1.toInt) {i j : Nat} (hi : i < 40) (hj : j < 40) : ∀ C : List mCase, (∀ c ∈ C, WfCas P Ls c) → pdW Ls bY i i j at' C - pdW Ls bY i i ((j : Int) - 1) at' C = d_runL Ls bY i j at' C
  | [], _ => by show (0 : Int64) - 0 = 0; decide
  | c :: C, h => by
    have ih := run_eq hl hi hj C (fun x hx => h x (List.mem_cons_of_mem _ hx))
    obtain ⟨r0, r1, r2⟩ := row_ok (bY := bY) hl (h c List.mem_cons_self)
    rw [pdW_cons, pdW_cons, runL_cons, ← ih]
    have key : (if (i : Int) ≤ (rowY Ls bY c).toInt ∧ (rowY Ls bY c).toInt ≤ i ∧ (0 : Int) ≤ j then pdU c.2.2.2.2.2 at' ((rowY Ls bY c).toInt + j).toNat else 0) - (if (i : Int) ≤ (rowY Ls bY c).toInt ∧ (rowY Ls bY c).toInt ≤ i ∧ 0 ≤ (j : Int) - 1 then pdU c.2.2.2.2.2 at' ((rowY Ls bY c).toInt + ((j : Int) - 1)).toNat else 0) = (if rowY Ls bY c = Int32.ofNat i then pdY c.2.2.2.2.2 at' (i + j) else 0) := by
      by_cases hr : (rowY Ls bY c).toInt = i
      · have er : rowY Ls bY c = Int32.ofNat i := by rw [i32e, n32 (by omega)]; exact hr
        rw [if_pos er, if_pos ⟨by omega, by omega, by omega⟩, hr, show ((i : Int) + j).toNat = i + j by omega]
        have r2' : ∀ f ∈ c.2.2.2.2.2, 0 ≤ f.2.1.toInt ∧ (i : Int) ≤ f.2.1.toInt / 365 := fun f hf => by have := r2 f hf; omega
        cases j with
        | zero =>
          rw [if_neg (by omega), Nat.add_zero, pdU_0 (by omega) r2']
          grind
        | succ j =>
          rw [if_pos ⟨by omega, by omega, by omega⟩, show ((i : Int) + (((j + 1 : Nat) : Int) - 1)).toNat = i + j by omega, show i + (j + 1) = i + j + 1 by omega, pdU_s (by omega) (fun f hf => (r2' f hf).1)]
          grind
      · have er : ¬ rowY Ls bY c = Int32.ofNat i := fun z => hr (by rw [z, n32 (by omega)])
        rw [if_neg er, if_neg (by omega), if_neg (by omega)]
        decide
    rw [← key]
    grind
theorem sum_eq (hl : ∀ l ∈ Ls, 0 ≤ l.2.1.toInt) {n j : Nat} {l : Int} (hn : n < 40) (hj : j < 40) (hnl : ∀ r : Int, 0 ≤ r → (r ≤ l ↔ r < n)) : ∀ C : List mCase, (∀ c ∈ C, WfCas P Ls c) → pdW Ls bY 0 l j at' C = d_sum (fun i => d_sum (fun k => d_runL Ls bY i k at' C) (j + 1)) n
  | [], _ => by
    show (0 : Int64) = d_sum (fun i => d_sum (fun k => 0) (j + 1)) n
    rw [dsum_congr (h := fun _ => 0) (fun i _ => dsum_zero _), dsum_zero]
  | c :: C, h => by
    have ih := sum_eq hl hn hj hnl C (fun x hx => h x (List.mem_cons_of_mem _ hx))
    obtain ⟨r0, r1, r2⟩ := row_ok (bY := bY) hl (h c List.mem_cons_self)
    obtain ⟨r, hr⟩ : ∃ r, r = (rowY Ls bY c).toInt.toNat := ⟨_, rfl⟩
    have er : rowY Ls bY c = Int32.ofNat r := by rw [i32e, n32 (by omega)]; omega
    have r2' : ∀ f ∈ c.2.2.2.2.2, 0 ≤ f.2.1.toInt ∧ (r : Int) ≤ f.2.1.toInt / 365 := fun f hf => by have := r2 f hf; omega
    have e1 : d_sum (fun i => d_sum (fun k => d_runL Ls bY i k at' (c :: C)) (j + 1)) n = d_sum (fun i => if i = r then d_sum (fun k => pdY c.2.2.2.2.2 at' (r + k)) (j + 1) else 0) n + d_sum (fun i => d_sum (fun k => d_runL Ls bY i k at' C) (j + 1)) n := by
      rw [← dsum_add]
      refine dsum_congr (fun i hi => ?_)
      rw [dsum_congr (h := fun k => (if rowY Ls bY c = Int32.ofNat i then pdY c.2.2.2.2.2 at' (i + k) else 0) + d_runL Ls bY i k at' C) (fun k _ => runL_cons), dsum_add]
      by_cases h : i = r
      · subst h
        rw [if_pos rfl, dsum_congr (h := fun k => pdY c.2.2.2.2.2 at' (i + k)) (fun k _ => if_pos er)]
      · have hne : ¬ rowY Ls bY c = Int32.ofNat i := fun z => h (by
          rw [er, i32e, n32 (by omega), n32 (by omega)] at z
          omega)
        rw [if_neg h, dsum_congr (h := fun _ => 0) (fun k _ => if_neg hne), dsum_zero]
    rw [e1, pdW_cons, ih, dsum_one]
    congr 1
    by_cases hrn : r < n
    · rw [if_pos hrn, if_pos ⟨by omega, (hnl _ r0).mpr (by omega), by omega⟩, show ((rowY Ls bY c).toInt + j).toNat = r + j by omega, pdU_sum r2' (by omega) j (by omega)]
    · rw [if_neg hrn, if_neg (fun z => by have := (hnl _ r0).mp z.2.1; omega)]
end
section
variable {nl : Bool} {Ln : Nat} {xs : Nat → Int32} {d : Nat} {σ : am_S} {w : ow_T} {τ : am_S} {v b gl nu : Nat} {X : Stx} {sp : Option Nat} {g : Grw} {D : mTop}
theorem los_day {M : mOff} (hw : WfO M) : ∀ l ∈ o_los M, 0 ≤ l.2.1.toInt := fun l hl => (hw.1.ls l hl).2.2.1
theorem co_run {bY i j at' : Int32} {F : Int64 → am_S → Prop} (hw : WfO (d_off D)) (R : DskC τ σ w v X b sp g gl nu D) (K : F (d_run D bY i j at') σ) : k_Co_run nl Ln xs (d + 3) 1000 bY i j at' σ F := by
  have R0 := R
  obtain ⟨C, -, -, -, -, -, -, A, -⟩ := R
  unfold d_run at K
  have z0 : (0 : Int32).toInt = 0 := by decide
  have z1 : (1 : Int32).toInt = 1 := by decide
  have bad : ¬ ((0 ≤ bY.toInt ∧ bY.toInt ≤ 1) ∧ (0 ≤ i.toInt ∧ i.toInt ≤ 29) ∧ (0 ≤ j.toInt ∧ j.toInt ≤ 29) ∧ (0 ≤ at'.toInt ∧ at'.toInt ≤ (o_now (d_off D)).toInt)) → F (-9223372036854775808) σ := fun h => by
    rw [if_neg h] at K
    exact K
  refine w_Co_run ?_
  rw [i32lt, i32lt, z0, z1]
  refine ⟨fun h => bad (fun z => by omega), fun h0 => ⟨fun h => bad (fun z => by omega), fun h2 => w_Co_isYear (fun _ => ⟨fun hy => w_Co_isYear (fun _ => ⟨fun hy2 => ⟨is_mk C.1.2, ?_⟩, fun hy2 => bad (fun z => hy2 (decide_eq_true (year_ok.mpr z.2.2.1)))⟩), fun hy => bad (fun z => hy (decide_eq_true (year_ok.mpr z.2.1)))⟩)⟩⟩
  have hy := year_ok.mp (of_decide_eq_true hy)
  have hy2 := year_ok.mp (of_decide_eq_true hy2)
  refine co_isMoment (d := d + 1) R0 (fun bo hbo _ => ⟨fun hb => ?_, fun hb => bad (fun z => hb (hbo.mpr z.2.2.2))⟩)
  rw [if_pos ⟨⟨by omega, by omega⟩, hy, hy2, hbo.mp hb⟩] at K
  rw [C.2.2.2.1, Option.getD_some]
  have ej : (j - 1).toInt = j.toInt - 1 := by rw [i32sub (by omega) (by omega), z1]
  refine ⟨is_mk A.2.1.1.1.2.1, bk_paidWithin (d := d) A.2.1.1 hw.1 (by omega) (fun _ => ?_)⟩
  rw [C.2.2.2.1, Option.getD_some]
  refine ⟨is_mk A.2.1.1.1.2.1, bk_paidWithin (d := d) A.2.1.1 hw.1 (by omega) (fun _ => ?_)⟩
  have e := run_eq (P := o_pol (d_off D)) (bY := bY) (at' := at') (los_day hw) (i := i.toInt.toNat) (j := j.toInt.toNat) (by omega) (by omega) (o_cas (d_off D)) hw.1.2.2.2.2
  rw [show ((i.toInt.toNat : Nat) : Int) = i.toInt by omega, show ((j.toInt.toNat : Nat) : Int) = j.toInt by omega] at e
  rw [ej, e]
  exact K
theorem co_gcd {a0 b0 : Int64} {G : Nat} {F : Int64 → am_S → Prop} (hG : 0 < G) (hG2 : G < 9223372036854775808) (K : F (Int64.ofNat G) σ) : ∀ (m : Nat) (a b : Int64) (x8 : Nat) (x9 x10 : Option Value), b.toInt.toNat < 2 ^ m → x8 + 2 * m ≤ 199 → 0 ≤ a.toInt → 0 ≤ b.toInt → Nat.gcd a.toInt.toNat b.toInt.toNat = G → c_Co_greatestDivisor_9 nl Ln xs (d + 1) a0 b0 a b (Int32.ofNat x8) x9 x10 σ F := by
  have z : (0 : Int64).toInt = 0 := by decide
  have fin : ∀ (a b : Int64) (x8 : Nat) (x9 x10 : Option Value), b = 0 → x8 < 200 → 0 ≤ a.toInt → Nat.gcd a.toInt.toNat b.toInt.toNat = G → c_Co_greatestDivisor_9 nl Ln xs (d + 1) a0 b0 a b (Int32.ofNat x8) x9 x10 σ F := by
    intro a b x8 x9 x10 hb hx ha hg
    rw [hb, z] at hg
    have hg : Nat.gcd a.toInt.toNat 0 = G := hg
    rw [Nat.gcd_zero_right] at hg
    have ea : a = Int64.ofNat G := by rw [i64e, n64 hG2]; omega
    have ne : ¬ a = 0 := fun q => by rw [q, z] at hg; simp at hg; omega
    have lt : Int32.ofNat x8 < 200 := (n32lt (b := 200) (by omega) (by omega)).mpr hx
    refine w_Co_greatestDivisor_9 ⟨fun _ => ⟨fun _ => ?_, fun q => absurd hb q⟩, fun q => absurd lt q⟩
    rintro w5 rfl
    rw [if_neg ne, ea]
    exact K
  have step : ∀ (a b : Int64) (x8 : Nat) (x9 x10 : Option Value), ¬ b = 0 → x8 < 200 → 0 ≤ a.toInt → 0 ≤ b.toInt → (∀ x9 x10, c_Co_greatestDivisor_9 nl Ln xs (d + 1) a0 b0 b (a - a / b * b) (Int32.ofNat (x8 + 1)) x9 x10 σ F) → c_Co_greatestDivisor_9 nl Ln xs (d + 1) a0 b0 a b (Int32.ofNat x8) x9 x10 σ F := by
    intro a b x8 x9 x10 hb hx ha hb0 K2
    have lt : Int32.ofNat x8 < 200 := (n32lt (b := 200) (by omega) (by omega)).mpr hx
    refine w_Co_greatestDivisor_9 ⟨fun _ => ⟨fun q => absurd q hb, fun _ => ⟨hb, ?_⟩⟩, fun q => absurd lt q⟩
    rintro v8 rfl
    rw [n32s]
    exact K2 _ _
  have pos : ∀ b : Int64, ¬ b = 0 → 0 ≤ b.toInt → 0 < b.toInt := fun b h0 h1 => by
    rcases Int.lt_or_eq_of_le h1 with q | q
    · exact q
    · exact absurd (by rw [i64e, z]; exact q.symm) h0
  have gstep : ∀ a b : Int64, 0 ≤ a.toInt → 0 < b.toInt → 0 ≤ (a - a / b * b).toInt ∧ (a - a / b * b).toInt < b.toInt ∧ (a - a / b * b).toInt = a.toInt % b.toInt ∧ Nat.gcd b.toInt.toNat (a - a / b * b).toInt.toNat = Nat.gcd a.toInt.toNat b.toInt.toNat := fun a b ha hb => by
    have hm := mod64 ha hb
    have m0 := Int.emod_nonneg a.toInt (show b.toInt ≠ 0 by omega)
    have m1 := Int.emod_lt_of_pos a.toInt hb
    refine ⟨by omega, by omega, hm, ?_⟩
    rw [hm, Nat.gcd_comm a.toInt.toNat, Nat.gcd_rec b.toInt.toNat a.toInt.toNat, Nat.gcd_comm]
    congr 1
    rw [← Int.toNat_emod ha (by omega)]
  intro m
  induction m with
  | zero =>
    intro a b x8 x9 x10 hb hx ha hb0 hg
    have hb : b.toInt.toNat < 1 := hb
    exact fin a b x8 x9 x10 (by rw [i64e, z]; omega) (by omega) ha hg
  | succ m ih =>
    intro a b x8 x9 x10 hb hx ha hb0 hg
    by_cases b0' : b = 0
    · exact fin a b x8 x9 x10 b0' (by omega) ha hg
    · have bp := pos b b0' hb0
      refine step a b x8 x9 x10 b0' (by omega) ha hb0 (fun y9 y10 => ?_)
      obtain ⟨g1, g2, g3, g4⟩ := gstep a b ha bp
      generalize a - a / b * b = r at g1 g2 g3 g4
      by_cases r0 : r = 0
      · exact fin b r (x8 + 1) y9 y10 r0 (by omega) hb0 (g4.trans hg)
      · have rp := pos r r0 g1
        refine step b r (x8 + 1) y9 y10 r0 (by omega) hb0 g1 (fun u9 u10 => ?_)
        obtain ⟨k1, k2, k3, k4⟩ := gstep b r hb0 rp
        generalize b - b / r * r = q at k1 k2 k3 k4
        refine ih r q (x8 + 1 + 1) u9 u10 ?_ (by omega) g1 k1 (k4.trans (g4.trans hg))
        have hq : 2 * q.toInt < b.toInt := by
          rw [k3]
          have e := Int.emod_add_mul_ediv b.toInt r.toInt
          have d1 : 1 ≤ b.toInt / r.toInt := Int.le_ediv_of_mul_le rp (by omega)
          have d2 : r.toInt ≤ r.toInt * (b.toInt / r.toInt) := by
            have := Int.mul_le_mul_of_nonneg_left d1 (Int.le_of_lt rp)
            omega
          rw [← k3]
          rw [← k3] at e
          omega
        rw [Nat.pow_succ] at hb
        omega
end
