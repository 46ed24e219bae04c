/-! THE CLASS: all cases of a cover and a year, in their order -/
theorem op_9 : ∀ n, n < 12 → ((c_op (Int32.ofNat n) = 9 ↔ ¬ Int32.ofNat n < 10) ∧ (¬ Int32.ofNat n < 10 → Int32.ofNat n = 10 ∨ Int32.ofNat n = 11)) := by decide +kernel
section
variable {nl : Bool} {Ln : Nat} {xs : Nat → Int32} {d : Nat} {σ σ1 : am_S} {w : ow_T} {wk ab v b : Nat} {P : List mPol} {T : List mTell} {Ls : List mLoss} {Cs : List mCase} {i : Nat} {x : mCase} {cc lc : Nat} {day at' : Int32} {C : List mCl} {p pc : Nat} {q : mPol} {hd : Option Nat} {sum worth s : Int64} {rows : List mRow} {tr : List Int32} {fnd : Int32} {ov : Bool}
abbrev lyQ (P : List mPol) (T : List mTell) (Ls : List mLoss) (Cs : List mCase) (day at' year : Int32) (p : Nat) (k : Nat) : Bool := decide (¬ day < (Cs.getD k mCase0).2.2.2.1) && m_of P T Ls year at' p (Cs.getD k mCase0)
abbrev lyK (Ls : List mLoss) (Cs : List mCase) (day at' : Int32) (by' : Bool) (k : Nat) : Int32 := m_key Ls day at' by' (Cs.getD k mCase0)
theorem wk_lay {by' : Bool} {x1 : Option Nat} {year : Int32} {F : Int32 → am_S → Prop} (hw : WfD P T Ls Cs) : ∀ (m n : Nat) (x6 x7 x8 : Option Value) (σ : am_S), n + m = Cs.length → WkX σ w wk ab v b P T Ls Cs i x cc lc day at' C p pc q hd sum worth s rows tr fnd ov → LyW σ ab (lyK Ls Cs day at' by') (m_lay (lyQ P T Ls Cs day at' year p) (lyK Ls Cs day at' by') n) → (∀ σ', LaC wk ab v σ σ' → LyW σ' ab (lyK Ls Cs day at' by') (m_lay (lyQ P T Ls Cs day at' year p) (lyK Ls Cs day at' by') Cs.length) → F (Int32.ofNat (m_lay (lyQ P T Ls Cs day at' year p) (lyK Ls Cs day at' by') Cs.length).length) σ') → c_Wk_putInOrder_46 nl Ln xs (d + 4) wk x1 (b2i by') year (Int32.ofNat (m_lay (lyQ P T Ls Cs day at' year p) (lyK Ls Cs day at' by') n).length) (Int32.ofNat n) x6 x7 x8 σ F := by
  have h100 : Cs.length ≤ 100 := hw.2.2.2.1
  intro m
  induction m with
  | zero =>
    intro n x6 x7 x8 σ hn X H K
    obtain rfl : n = Cs.length := by omega
    have hB := X.1.1.2.2.2.2.2.1
    refine w_Wk_putInOrder_46 ⟨is_mk X.1.1.2.2.1, ?_⟩
    rw [X.1.2.1, Option.getD_some, hB.2.1.2.2]
    exact ⟨is_mk hB.1.2.1, fun z => absurd ((n32lt (by omega) (by omega)).mp z) (by omega), fun _ => K σ Wc.rf H⟩
  | succ m ih =>
    intro n x6 x7 x8 σ hn X H K
    have hB := X.1.1.2.2.2.2.2.1
    obtain ⟨y, hy⟩ := get_ex (show n < Cs.length by omega)
    have gy : Cs.getD n mCase0 = y := getD_of mCase0 hy
    obtain ⟨c, pc1, lc1, p1, l1, z1, z2, -, -, -, -, z3, z4, z5, z6, z7, wc⟩ := hB.case hw hy
    have hll := lay_len (lyQ P T Ls Cs day at' year p) (lyK Ls Cs day at' by') n
    have bn : 0 ≤ (Int32.ofNat n).toInt ∧ (Int32.ofNat n).toInt < 100 := by rw [n32 (by omega)]; omega
    have eo : m_lay (lyQ P T Ls Cs day at' year p) (lyK Ls Cs day at' by') (n + 1) = if lyQ P T Ls Cs day at' year p n = true then m_ins (lyK Ls Cs day at' by') n (m_lay (lyQ P T Ls Cs day at' year p) (lyK Ls Cs day at' by') n) else m_lay (lyQ P T Ls Cs day at' year p) (lyK Ls Cs day at' by') n := rfl
    have skip : lyQ P T Ls Cs day at' year p n = false → ∀ (x6 x7 x8 : Option Value), c_Wk_putInOrder_46 nl Ln xs (d + 4) wk x1 (b2i by') year (Int32.ofNat (m_lay (lyQ P T Ls Cs day at' year p) (lyK Ls Cs day at' by') n).length) (Int32.ofNat (n + 1)) x6 x7 x8 σ F := by
      intro hq x6 x7 x8
      rw [if_neg (by rw [hq]; decide)] at eo
      rw [← eo]
      rw [← eo] at H
      exact ih (n + 1) x6 x7 x8 σ (by omega) X H K
    have place : lyQ P T Ls Cs day at' year p n = true → ∀ (k : Int32) (x6 : Option Nat), k = lyK Ls Cs day at' by' n → c_Wk_putInOrder_151 nl Ln xs (d + 4) wk x1 (b2i by') year (Int32.ofNat (m_lay (lyQ P T Ls Cs day at' year p) (lyK Ls Cs day at' by') n).length) (Int32.ofNat n) x6 k (Int32.ofNat (m_lay (lyQ P T Ls Cs day at' year p) (lyK Ls Cs day at' by') n).length) σ F := by
      intro hq k x6 hk
      rw [if_pos hq] at eo
      subst hk
      refine wk_place (d := d + 3) (by omega) _ σ (Nat.le_refl _) rfl X ⟨fun j z _ hz => H j z hz, fun j z hj hz => ?_⟩ (fun s2 r2 H2 y6 y7 y8 => ?_)
      · have := (List.getElem?_eq_some_iff.mp hz).1
        omega
      · have el : (m_lay (lyQ P T Ls Cs day at' year p) (lyK Ls Cs day at' by') n).length + 1 = (m_lay (lyQ P T Ls Cs day at' year p) (lyK Ls Cs day at' by') (n + 1)).length := by rw [eo, ins_len]
        rw [el]
        rw [← eo] at H2
        exact ih (n + 1) y6 y7 y8 s2 (by omega) (X.la r2) H2 (fun s3 r3 => K s3 (r2.trans r3))
    have ecs : am_fR σ 6006 b = some (bA σ b 6006) := hB.1.2.2.2.2.2.2.1.1
    have kcs : am_kd σ (bA σ b 6006) = (2011, 100) := hB.1.2.2.2.2.2.2.1.2.2
    refine w_Wk_putInOrder_46 ⟨is_mk X.1.1.2.2.1, ?_⟩
    rw [X.1.2.1, Option.getD_some, hB.2.1.2.2, ecs, Option.getD_some, n32c (show n < 2147483648 by omega), z1, X.1.2.2.2.1.1, X.1.2.2.2.1.2.1, X.2.1.1, n32s]
    refine ⟨is_mk hB.1.2.1, fun _ => ⟨fun _ => ⟨ar_mk kcs bn.1 bn.2, ?_⟩, fun z => absurd ((n32lt (b := 100) (by omega) (by omega)).mpr (by omega)) z⟩, fun z => absurd ((n32lt (by omega) (by omega)).mpr (by omega)) z⟩
    rintro v6 rfl
    rw [Option.getD_some, z2.2.2.2.1]
    refine ⟨is_mk z2.1.2.1, fun hd => ?_, fun hd => ?_⟩
    · refine skip ?_ _ _ _
      show (decide (¬ day < (Cs.getD n mCase0).2.2.2.1) && _) = false
      rw [gy, decide_eq_false (fun z => z hd)]
      rfl
    · refine bk_isOfCover (d := d) hB hw hy z1 X.2.1.2.1 X.2.1.2.2.1 (fun _ => ⟨fun ht => ?_, fun ht => ?_⟩)
      · have hq : lyQ P T Ls Cs day at' year p n = true := by
          show (decide (¬ day < (Cs.getD n mCase0).2.2.2.1) && m_of P T Ls year at' p (Cs.getD n mCase0)) = true
          rw [gy, decide_eq_true hd, ht]
          rfl
        refine ⟨fun h0 => place hq _ _ ?_, fun h0 => ?_⟩
        · have hb := b2i0.mp h0
          show -1 = m_key Ls day at' by' (Cs.getD n mCase0)
          rw [hb]
          rfl
        · rw [X.1.2.2.2.1.1, X.1.2.2.2.1.2.1]
          have hb : by' = true := by
            cases hh : by' with
            | true => rfl
            | false => rw [hh] at h0; exact absurd rfl h0
          refine cs_isOpen (d := d) z2.1 wc.2.2.2.2.1 (fun _ => ?_)
          rw [z3, Option.getD_some, z6.2.2.2.2.2.1]
          refine ⟨fun _ => is_mk z6.2.1, ?_⟩
          rintro w19 rfl
          refine place hq _ _ ?_
          show _ = m_key Ls day at' by' (Cs.getD n mCase0)
          unfold m_key
          rw [gy, hb, Bool.true_and]
          rw [← z7]
      · refine skip ?_ _ _ _
        show (_ && m_of P T Ls year at' p (Cs.getD n mCase0)) = false
        rw [gy]
        cases hh : m_of P T Ls year at' p y with
        | true => exact absurd hh ht
        | false => exact Bool.and_false _
/-- by loss or not -/
theorem wk_putInOrder {F : Int32 → am_S → Prop} (hw : WfD P T Ls Cs) (hC : ∀ c ∈ C, WfCl c) (X : WkX σ w wk ab v b P T Ls Cs i x cc lc day at' C p pc q hd sum worth s rows tr fnd ov) (K : ∀ σ', LaC wk ab v σ σ' → LyW σ' ab (lyK Ls Cs day at' (decide (m_by C = 11))) (m_ordL P T Ls Cs x day at' p C i) → F (Int32.ofNat (m_ordL P T Ls Cs x day at' p C i).length) σ') : k_Wk_putInOrder nl Ln xs (d + 4) wk σ F := by
  have hl := X.los
  have ef : C.reverse.find? (fun c => decide (c_op c.1 = 9)) = C.reverse.find? (fun c => decide (¬ c.1 < 10)) := by
    apply find_congr
    intro c hc
    obtain ⟨h0, h1, -⟩ := hC c (List.mem_reverse.mp hc)
    have := (op_9 c.1.toInt.toNat (by omega)).1
    rw [← n32of h0] at this
    exact decide_eq_decide.mpr this
  have em : m_by C = ((C.reverse.find? (fun c => decide (¬ c.1 < 10))).map (fun c => c.1)).getD (-1) := m_last_map2 _ _ _ _
  have go : ∀ (e : Option Nat) (y2 year : Int32), y2 = b2i (decide (m_by C = 11)) → year = m_year (m_ld Ls x) → c_Wk_putInOrder_46 nl Ln xs (d + 4) wk e y2 year 0 0 none none none σ F := by
    intro e y2 year h2 hy
    rw [h2, hy]
    exact wk_lay hw Cs.length 0 none none none σ (by omega) X (fun k y hk => absurd hk (by simp [m_lay])) K
  refine w_Wk_putInOrder ⟨is_mk X.1.1.2.2.1, ?_⟩
  rw [X.2.1.2.2.2.2.1]
  refine nd_lastOf (d := d + 2) (op := 9) X.2.1.2.2.2.2.2 (fun g _ => ⟨fun z => absurd rfl z, ?_⟩) (fun c e g hn _ => ⟨fun _ => is_mk hn.1.2, ?_⟩)
  · rw [X.1.1.2.2.2.2.2.2.2.1, Option.getD_some, hl.2.2.2.2.2.1]
    refine ⟨is_mk hl.2.1, ?_⟩
    intro v11 e11
    refine go _ _ _ ?_ e11
    rw [if_neg (fun z => z.1 rfl), em, ← ef, g]
    rfl
  · rw [X.1.1.2.2.2.2.2.2.2.1, Option.getD_some, Option.getD_some, hl.2.2.2.2.2.1, hn.2.2.1]
    refine ⟨is_mk hl.2.1, ?_⟩
    intro v11 e11
    refine go _ _ _ ?_ e11
    have hc := hC c (List.mem_reverse.mp (List.mem_of_find?_eq_some g))
    have g' := ef.symm.trans g
    have h10 : ¬ c.1 < 10 := of_decide_eq_true (List.find?_some (p := fun c : mCl => decide (¬ c.1 < 10)) g')
    have h1011 : c.1 = 10 ∨ c.1 = 11 := by
      have := (op_9 c.1.toInt.toNat (by have := hc.2.1; omega)).2
      rw [← n32of hc.1] at this
      exact this h10
    have eby : m_by C = c.1 := by rw [em, g']; rfl
    rw [eby]
    unfold c_nr
    rcases h1011 with h | h <;> rw [h] <;> simp <;> decide
end
