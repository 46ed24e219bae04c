/-! BYTES of the class -/
theorem zz_cls (p : Int64) : ((p <<< ((1 : Int32).toInt64 &&& 63)) ^^^ (p >>> ((63 : Int32).toInt64 &&& 63))).toUInt64.toNat = m_zz p := by
  have e1 : ((1 : Int32).toInt64 &&& 63) = 1 := by decide
  have e2 : ((63 : Int32).toInt64 &&& 63) = 63 := by decide
  rw [e1, e2, ← zz_ref]
  congr 2
  have hs : p <<< (1 : Int64) = 2 * p := by
    apply Int64.toBitVec_inj.mp
    show p.toBitVec <<< (((1 : Int64).toBitVec).smod 64) = (2 : Int64).toBitVec * p.toBitVec
    have e : ((1 : Int64).toBitVec).smod 64 = 1#64 := by decide
    rw [e]
    show p.toBitVec <<< (1#64).toNat = _
    rw [BitVec.shiftLeft_eq_mul_twoPow, BitVec.mul_comm]
    rfl
  have hr : p >>> (63 : Int64) = if p < 0 then -1 else 0 := by
    apply Int64.toBitVec_inj.mp
    show (p.toBitVec).sshiftRight' (((63 : Int64).toBitVec).smod 64) = _
    have e : ((63 : Int64).toBitVec).smod 64 = 63#64 := by decide
    rw [e]
    show (p.toBitVec).sshiftRight (63#64).toNat = _
    have hm : p < 0 ↔ p.toBitVec.msb = true := by
      rw [i64lt]
      show p.toBitVec.toInt < 0 ↔ _
      rw [BitVec.msb_eq_toInt]
      simp
    ext i hi
    have h63 : (63#64).toNat = 63 := rfl
    rw [h63, BitVec.getElem_sshiftRight]
    by_cases hp : p < 0
    · rw [if_pos hp]
      have h1 := hm.mp hp
      have h2 : (-1 : Int64).toBitVec = BitVec.allOnes 64 := by decide
      simp only [h2, BitVec.getElem_allOnes]
      split
      · have : i = 0 := by omega
        subst this
        rw [BitVec.msb_eq_getLsbD_last] at h1
        simpa using h1
      · exact h1
    · rw [if_neg hp]
      have h1 : p.toBitVec.msb = false := by
        cases hq : p.toBitVec.msb
        · rfl
        · exact absurd (hm.mpr hq) hp
      have h2 : (0 : Int64).toBitVec = 0#64 := by decide
      simp only [h2, BitVec.getElem_zero]
      split
      · have : i = 0 := by omega
        subst this
        rw [BitVec.msb_eq_getLsbD_last] at h1
        simpa using h1
      · exact h1
  rw [hs, hr]
  by_cases hp : p < 0
  · rw [if_pos hp, if_pos hp]
    apply Int64.toBitVec_inj.mp
    have h2 : (-1 : Int64).toBitVec = BitVec.allOnes 64 := by decide
    rw [Int64.toBitVec_xor, h2, BitVec.xor_allOnes]
    have h3 : ∀ x : BitVec 64, ~~~x = -x - 1#64 := by
      intro x
      rw [BitVec.neg_eq_not_add, BitVec.add_sub_cancel]
    rw [h3]
    have h4 : -2 * p - 1 = -(2 * p) - 1 := by
      rw [Int64.neg_mul]
    rw [h4]
    rfl
  · rw [if_neg hp, if_neg hp]
    simp
def ByR (σ : am_S) (w : ow_T) (k : Nat × Nat) (n g : Nat) (L : List Int32) : Prop := w n = k ∧ am_kd σ n = (2, 0) ∧ g ≤ 13 ∧ L.length ≤ 64 * 2 ^ g ∧ am_fI σ 1001 n = Int32.ofNat L.length ∧ ∃ m, am_fR σ 1000 n = some m ∧ w m = k ∧ am_kd σ m = (1002, 64 * 2 ^ g) ∧ (∀ i, i < L.length → am_aI σ m i &&& 255 = L.getD i 0) ∧ ∀ i, i < 64 * 2 ^ g → fits .byte (.int (am_aI σ m i)) = true
theorem ByR.fr {σ σ' : am_S} {w w' : ow_T} {k : Nat × Nat} {n g : Nat} {L : List Int32} (h : ByR σ w k n g L) (f : Fr σ w σ' w' k) : ByR σ' w' k n g L := by
  obtain ⟨a1, a2, a3, a4, a5, m, b1, b2, b3, b4, b5⟩ := h
  have fn := f n a1
  have fm := f m b2
  refine ⟨fn.1, fn.2.kd.trans a2, a3, a4, fn.2.fI.trans a5, m, fn.2.fR.trans b1, fm.1, fm.2.kd.trans b3, fun i hi => ?_, fun i hi => ?_⟩
  · rw [fm.2.aI]; exact b4 i hi
  · rw [fm.2.aI]; exact b5 i hi
theorem g13 {g : Nat} (h : g ≤ 13) : 64 ≤ 64 * 2 ^ g ∧ 64 * 2 ^ g ≤ 524288 := by
  have h1 := Nat.pow_le_pow_right (n := 2) (by decide) h
  have h2 := Nat.one_le_two_pow (n := g)
  omega
section
variable {nl : Bool} {Ln : Nat} {xs : Nat → Int32} {d : Nat} {σ : am_S} {w : ow_T}
theorem fz_fit {σ : am_S} {n i : Nat} (h : am_fz σ n) : fits .byte (.int (am_aI σ n i)) = true := by
  rw [(h i).2.2.2.1]
  rfl
/-- what a change of a row of bytes leaves, and what it makes -/
def ByC (σ : am_S) (w : ow_T) (σ' : am_S) (w' : ow_T) (k : Nat × Nat) (g g' : Nat) : Prop := Eff (fun q => q = k) σ w σ' w' ∧ am_nx σ' + g = am_nx σ + g' ∧ am_sl σ' + 128 * 2 ^ g = am_sl σ + 128 * 2 ^ g'
theorem ByC.rf {k : Nat × Nat} {g : Nat} (h : OwI σ w) : ByC σ w σ w k g g := ⟨Eff.rf h, rfl, rfl⟩
theorem ByC.trans {σ1 σ2 : am_S} {w1 w2 : ow_T} {k : Nat × Nat} {g g1 g2 : Nat} (h : ByC σ w σ1 w1 k g g1) (h2 : ByC σ1 w1 σ2 w2 k g1 g2) : ByC σ w σ2 w2 k g g2 := by
  obtain ⟨a, b, c⟩ := h
  obtain ⟨a', b', c'⟩ := h2
  exact ⟨a.trans a', by omega, by omega⟩
theorem by_put {n g : Nat} {k : Nat × Nat} {L : List Int32} {b : Int32} {F : am_S → Prop} (h : ByR σ w k n g L) (ho : OwI σ w) (hk : k ≠ (0, 0)) (hl : L.length < 300000)
    (K : ∀ σ' w' g', ByR σ' w' k n g' (L ++ [b &&& 255]) → ByC σ w σ' w' k g g' → F σ') : k_By_put nl Ln xs (d + 3) n b σ F := by
  obtain ⟨a1, a2, a3, a4, a5, m, b1, b2, b3, b4, b5⟩ := h
  have hg := g13 a3
  have hnm : n ≠ m := fun e => by rw [e, b3] at a2; injection a2 with q1 q2; omega
  have el : (L ++ [b &&& 255]).length = L.length + 1 := by simp
  have eg : ∀ i, i < L.length → (L ++ [b &&& 255]).getD i 0 = L.getD i 0 := fun i hi => by simp [List.getD, List.getElem?_append_left hi]
  have eg2 : (L ++ [b &&& 255]).getD L.length 0 = b &&& 255 := by simp [List.getD]
  refine w_By_put ⟨is_mk a2, ⟨m, b1, by rw [b3]⟩, ?_, ?_⟩
  · rw [b1, Option.getD_some, a5, b3, n32lt (by omega) (by omega)]
    intro hlt
    refine ⟨ar_mk b3 (by rw [n32 (by omega)]; omega) (by rw [n32 (by omega)]; omega), ?_⟩
    rintro s5 e5 s8 e8
    rw [n32c (by omega)] at e5
    have f1 : am_fI s5 1001 n = Int32.ofNat L.length := by rw [e5]; exact a5
    rw [f1, n32s] at e8
    have o5 : Eff (fun q => q = k) σ w s5 w := by rw [e5]; exact Eff.saI ho b2
    have o8 : Eff (fun q => q = k) s5 w s8 w := by rw [e8]; exact Eff.sfI o5.1 a1
    refine K s8 w g ⟨a1, by rw [e8, e5]; exact a2, a3, by omega, by rw [el, e8]; exact rI_same, m, by rw [e8, e5]; exact b1, b2, by rw [e8, e5]; exact b3, ?_, ?_⟩ ⟨o5.trans o8, by rw [e8, e5], by rw [e8, e5]⟩
    · intro i hi
      rw [e8, e5]
      rw [el] at hi
      by_cases hi2 : i = L.length
      · subst hi2
        show am_aI (am_saI σ m L.length _) m L.length &&& 255 = _
        rw [aI_same, b255, eg2]
      · show am_aI (am_saI σ m L.length _) m i &&& 255 = _
        rw [aI_i hi2, b4 i (by omega), eg i (by omega)]
    · intro i hi
      rw [e8, e5]
      by_cases hi2 : i = L.length
      · subst hi2
        show fits .byte (.int (am_aI (am_saI σ m L.length _) m L.length)) = true
        rw [aI_same]
        exact bfit _
      · show fits .byte (.int (am_aI (am_saI σ m L.length _) m i)) = true
        rw [aI_i hi2]
        exact b5 i hi
  · rw [b1, Option.getD_some, a5, b3, n32lt (by omega) (by omega)]
    intro hlt
    have hcap : L.length = 64 * 2 ^ g := by omega
    have hg12 : g ≤ 12 := by
      by_cases h12 : g ≤ 12
      · exact h12
      · have : g = 13 := by omega
        subst this
        omega
    refine ⟨fun _ => ?_, fun q => absurd (Int32.lt_iff_toInt_lt.mpr (by rw [n32 (by omega)]; show _ < (268435456 : Int); omega)) q⟩
    have e2 : (2 : Int32) * Int32.ofNat L.length = Int32.ofNat (2 * L.length) := by rw [Int32.ofNat_mul]; rfl
    rw [e2]
    refine w_Arr_copyOf ⟨⟨m, rfl, by rw [b3]⟩, ?_, ?_⟩
    · rw [Option.getD_some, b3, n32i (by omega) (by omega)]
      intro q
      omega
    · intro _
      refine ⟨by rw [Int32.lt_iff_toInt_lt, n32 (by omega)]; show ¬ _ < (0 : Int); omega, by rw [n32c (by omega)]; omega, ?_⟩
      rintro s5 e5 x5 z5 v7 e7
      rw [n32c (by omega)] at e5
      have hmx : m < am_nx σ := by
        apply Nat.lt_of_not_le
        intro q
        have := ho m q
        rw [b2] at this
        exact hk this
      have hnx : n < am_nx σ := by
        apply Nat.lt_of_not_le
        intro q
        have := ho n q
        rw [a1] at this
        exact hk this
      have kd5 : ∀ c, c < am_nx σ → am_kd s5 c = am_kd σ c := fun c hc => by rw [e5]; exact am_vup (by omega)
      have km5 : am_kd s5 m = (1002, 64 * 2 ^ g) := by rw [kd5 m hmx]; exact b3
      have kx5 : am_kd s5 (am_nx σ) = (1002, 2 * L.length) := by rw [e5]; exact up_same
      refine ⟨⟨m, rfl, by rw [km5]⟩, ?_⟩
      rw [Option.getD_some, km5]
      refine w_Math_min2 ?_
      intro w3 e3 _
      rw [if_neg (by rw [n32lt (by omega) (by omega)]; omega)] at e3
      have ecp : am_cp s5 [.int w3, .int 0, am_ov v7, .int 0, am_ov (some m)] = some ([], am_scI s5 (am_nx σ) (va_cpy (am_aI s5 m) (am_aI s5 (am_nx σ)) 0 0 (64 * 2 ^ g))) := by
        rw [e7, e3]
        show am_cp s5 [.int (Int32.ofNat (64 * 2 ^ g)), .int 0, .ref (am_nx σ), .int 0, .ref m] = _
        unfold am_cp
        have z0' : (0 : Int32).toNatClampNeg = 0 := by decide
        simp only [km5, kx5, n32c (show 64 * 2 ^ g < 2147483648 by omega), z0']
        rw [if_pos ⟨trivial, by rw [Int32.lt_iff_toInt_lt, n32 (by omega)]; show ¬ _ < (0 : Int); omega, by decide, by decide, by omega, by omega⟩, if_neg (by decide), if_pos]
        refine Or.inr ⟨trivial, ?_⟩
        rw [List.all_eq_true]
        intro i him
        show fits .byte (.int (am_aI s5 m (0 + i))) = true
        have : am_aI s5 m (0 + i) = am_aI σ m (0 + i) := by rw [e5]
        rw [this]
        exact b5 _ (by have := List.mem_range.mp him; omega)
      refine ⟨_, ecp, ?_⟩
      generalize hs12 : am_scI s5 (am_nx σ) (va_cpy (am_aI s5 m) (am_aI s5 (am_nx σ)) 0 0 (64 * 2 ^ g)) = s12
      rintro x12 s14 e14
      have r14 : am_fR s14 1000 n = some (am_nx σ) := by rw [e14, e7]; exact rR_same
      have i14 : am_fI s14 1001 n = Int32.ofNat L.length := by rw [e14, ← hs12, e5]; exact a5
      have kx14 : am_kd s14 (am_nx σ) = (1002, 2 * L.length) := by rw [e14, ← hs12]; exact kx5
      rw [r14, i14, Option.getD_some, n32c (by omega)]
      refine ⟨ar_mk kx14 (by rw [n32 (by omega)]; omega) (by rw [n32 (by omega)]; omega), ?_⟩
      rintro s18 e18 s21 e21
      have i18 : am_fI s18 1001 n = Int32.ofNat L.length := by rw [e18]; exact i14
      rw [i18, n32s] at e21
      have hg2 : 64 * 2 ^ (g + 1) = 2 * L.length := by rw [Nat.pow_succ]; omega
      have E5 : Eff (fun q => q = k) σ w s5 (va_up w (am_nx σ) k) := by rw [e5]; exact Eff.new ho
      have wx : va_up w (am_nx σ) k (am_nx σ) = k := up_same
      have wn : va_up w (am_nx σ) k n = k := by rw [am_vup (by omega)]; exact a1
      have E12 : Eff (fun q => q = k) s5 (va_up w (am_nx σ) k) s12 (va_up w (am_nx σ) k) := by rw [← hs12]; exact Eff.scI E5.1 wx
      have E14 : Eff (fun q => q = k) s12 (va_up w (am_nx σ) k) s14 (va_up w (am_nx σ) k) := by rw [e14]; exact Eff.sfR E12.1 wn
      have E18 : Eff (fun q => q = k) s14 (va_up w (am_nx σ) k) s18 (va_up w (am_nx σ) k) := by rw [e18]; exact Eff.saI E14.1 wx
      have E21 : Eff (fun q => q = k) s18 (va_up w (am_nx σ) k) s21 (va_up w (am_nx σ) k) := by rw [e21]; exact Eff.sfI E18.1 wn
      have ar : ∀ i, am_aI s21 (am_nx σ) i = if i = L.length then vp_nar .byte b.toInt8.toInt32 else if i < L.length then am_aI σ m i else 0 := by
        intro i
        rw [e21, e18]
        show am_aI (am_saI s14 (am_nx σ) L.length _) (am_nx σ) i = _
        by_cases hi : i = L.length
        · rw [if_pos hi, hi]; exact aI_same
        · rw [if_neg hi, aI_i hi, e14]
          show am_aI s12 (am_nx σ) i = _
          rw [← hs12]
          show va_up s5.2.2.2.2.1 (am_nx σ) _ (am_nx σ) i = _
          rw [up_same]
          unfold va_cpy
          by_cases hi2 : i < L.length
          · rw [if_pos ⟨by omega, by omega⟩, if_pos hi2, show 0 + (i - 0) = i by omega, e5]
          · rw [if_neg (by omega), if_neg hi2]
            exact (z5 i).2.2.2.1
      refine K s21 (va_up w (am_nx σ) k) (g + 1) ⟨wn, ?_, by omega, by omega, by rw [el, e21]; exact rI_same, am_nx σ, by rw [e21, e18]; exact r14, wx, by rw [e21, e18, hg2]; exact kx14, ?_, ?_⟩ ⟨E5.trans (E12.trans (E14.trans (E18.trans E21))), ?_, ?_⟩
      · rw [e21, e18, e14, ← hs12]
        show am_kd s5 n = _
        rw [kd5 n hnx]
        exact a2
      · intro i hi
        rw [el] at hi
        rw [ar]
        by_cases hi2 : i = L.length
        · rw [if_pos hi2, hi2, b255, eg2]
        · rw [if_neg hi2, if_pos (by omega), b4 i (by omega), eg i (by omega)]
      · intro i _
        rw [ar]
        split
        · exact bfit _
        · rename_i hn1
          split
          · rename_i hn2
            exact b5 i (by omega)
          · rfl
      · rw [e21, e18, e14, ← hs12, e5]
        show am_nx σ + 1 + g = am_nx σ + (g + 1)
        omega
      · rw [e21, e18, e14, ← hs12, e5]
        show am_sl σ + 2 * L.length + 128 * 2 ^ g = am_sl σ + 128 * 2 ^ (g + 1)
        rw [Nat.pow_succ]
        omega
end
