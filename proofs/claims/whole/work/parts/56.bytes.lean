/-! EFFECTS: which owners' cells may have changed; what is not made yet is nobody's -/
def OwI (σ : am_S) (w : ow_T) : Prop := ∀ c, am_nx σ ≤ c → w c = (0, 0)
def Eff (K : Nat × Nat → Prop) (σ : am_S) (w : ow_T) (σ' : am_S) (w' : ow_T) : Prop := OwI σ' w' ∧ ∀ q, ¬ K q → q ≠ (0, 0) → Fr σ w σ' w' q
section
variable {K K' : Nat × Nat → Prop} {σ σ1 σ2 : am_S} {w w1 w2 : ow_T} {n g i : Nat} {k : Nat × Nat}
theorem Eff.rf (h : OwI σ w) : Eff K σ w σ w := ⟨h, fun _ _ _ => Fr.rf⟩
theorem Eff.trans (h : Eff K σ w σ1 w1) (h2 : Eff K σ1 w1 σ2 w2) : Eff K σ w σ2 w2 := ⟨h2.1, fun q a b => (h.2 q a b).trans (h2.2 q a b)⟩
theorem Eff.mono (h : Eff K σ w σ1 w1) (hk : ∀ q, K q → K' q) : Eff K' σ w σ1 w1 := ⟨h.1, fun q a b => h.2 q (fun c => a (hk q c)) b⟩
theorem Eff.of (ho : OwI σ w) (hn : am_nx σ1 = am_nx σ) (hk : K (w n)) (e : ∀ c, c ≠ n → am_eqc σ σ1 c) : Eff K σ w σ1 w := ⟨fun c hc => ho c (by rw [← hn]; exact hc), fun q a _ => Fr.of (fun e => a (by rw [← e]; exact hk)) e⟩
theorem Eff.sfI {x : Int32} (ho : OwI σ w) (hk : K (w n)) : Eff K σ w (am_sfI σ g n x) w := Eff.of ho rfl hk fun _ => eqc_sfI
theorem Eff.sfL {x : Int64} (ho : OwI σ w) (hk : K (w n)) : Eff K σ w (am_sfL σ g n x) w := Eff.of ho rfl hk fun _ => eqc_sfL
theorem Eff.sfR {x : Option Nat} (ho : OwI σ w) (hk : K (w n)) : Eff K σ w (am_sfR σ g n x) w := Eff.of ho rfl hk fun _ => eqc_sfR
theorem Eff.saI {x : Int32} (ho : OwI σ w) (hk : K (w n)) : Eff K σ w (am_saI σ n i x) w := Eff.of ho rfl hk fun _ => eqc_saI
theorem Eff.saL {x : Int64} (ho : OwI σ w) (hk : K (w n)) : Eff K σ w (am_saL σ n i x) w := Eff.of ho rfl hk fun _ => eqc_saL
theorem Eff.saR {x : Option Nat} (ho : OwI σ w) (hk : K (w n)) : Eff K σ w (am_saR σ n i x) w := Eff.of ho rfl hk fun _ => eqc_saR
theorem Eff.scI {x : Nat → Int32} (ho : OwI σ w) (hk : K (w n)) : Eff K σ w (am_scI σ n x) w := Eff.of ho rfl hk fun _ => eqc_scI
/-- a new cell gets an owner -/
theorem Eff.new {kd len sl : Nat} (ho : OwI σ w) : Eff K σ w (am_new σ kd len sl) (va_up w (am_nx σ) k) := by
  have h0 : w (am_nx σ) = (0, 0) := ho _ (Nat.le_refl _)
  refine ⟨fun c hc => ?_, fun q _ hq => (Fr.new (by rw [h0]; exact fun e => hq e.symm)).trans (Fr.up (by rw [h0]; exact fun e => hq e.symm))⟩
  have hc' : am_nx σ + 1 ≤ c := hc
  rw [am_vup (by omega)]
  exact ho c (by omega)
theorem Eff.up (ho : OwI σ w) (hn : n < am_nx σ) (hk : K (w n)) : Eff K σ w σ (va_up w n k) := ⟨fun c hc => by rw [am_vup (by omega)]; exact ho c hc, fun q a _ => Fr.up (fun e => a (by rw [← e]; exact hk))⟩
theorem Eff.ow (h : Eff K σ w σ1 w1) : OwI σ1 w1 := h.1
theorem up_same {α : Type} {f : Nat → α} {a : Nat} {x : α} : va_up f a x a = x := by simp [va_up]
end
/-! numbers as bytes -/
theorem b255 (p : Int32) : vp_nar .byte p.toInt8.toInt32 &&& 255 = p &&& 255 := by
  rw [vp_nar_byte]
  apply Int32.toBitVec_inj.mp
  have h : ∀ i : Fin 32, (255#32)[i] = decide (i.val < 8) := by decide
  simp only [Int32.toBitVec_and, Int32.toBitVec_ofNat]
  ext i hi
  have h1 := h ⟨i, hi⟩
  simp only [Fin.getElem_fin] at h1
  simp only [BitVec.getElem_and]
  by_cases h8 : i < 8
  · simp [h1, h8, hi, BitVec.getElem_signExtend, Int8.toBitVec_toInt32, Int32.toBitVec_toInt8]
  · simp [h1, h8]
theorem bfit (p : Int32) : fits .byte (.int (vp_nar .byte p)) = true := by
  rw [vp_nar_byte]
  have h1 : (p.toInt8.toInt32).toInt = p.toInt8.toInt := by simp
  have h2 := p.toInt8.le_toInt
  have h3 := p.toInt8.toInt_lt
  simp only [fits, Bool.and_eq_true, decide_eq_true_eq, Int32.le_iff_toInt_le, h1]
  have e1 : (-128 : Int32).toInt = -128 := by decide
  have e2 : (127 : Int32).toInt = 127 := by decide
  omega
theorem bsm {u : Nat} (h : u < 256) : Int32.ofNat u &&& 255 = Int32.ofNat u := by
  have k : ∀ i : Fin 256, Int32.ofNat i &&& 255 = Int32.ofNat i := by decide +kernel
  exact k ⟨u, h⟩
theorem x127 (x : Int64) : x &&& 127 = Int64.ofNat (x.toUInt64.toNat % 128) := by
  apply Int64.toBitVec_inj.mp
  apply BitVec.eq_of_toNat_eq
  rw [Int64.toBitVec_and, BitVec.toNat_and]
  have e : (127 : Int64).toBitVec.toNat = 2 ^ 7 - 1 := by decide
  rw [e, Nat.and_two_pow_sub_one_eq_mod]
  have h : x.toUInt64.toNat % 128 < 128 := Nat.mod_lt _ (by decide)
  have e2 : (Int64.ofNat (x.toUInt64.toNat % 128)).toBitVec.toNat = x.toUInt64.toNat % 128 := by
    rw [Int64.toBitVec_ofNat', BitVec.toNat_ofNat]
    exact Nat.mod_eq_of_lt (by omega)
  rw [e2]
  rfl
theorem o64_32 (t : Nat) : (Int64.ofNat t).toInt32 = Int32.ofNat t := by simp
theorem u64_shr {x : Int64} : ((x.toUInt64 >>> ((7 : Int32).toInt64.toUInt64 &&& Int64.toUInt64 63)).toInt64).toUInt64.toNat = x.toUInt64.toNat / 128 := by
  have e : ((7 : Int32).toInt64.toUInt64 &&& Int64.toUInt64 63) = 7 := by decide
  rw [e]
  show (x.toUInt64 >>> 7).toNat = _
  rw [UInt64.toNat_shiftRight]
  show x.toUInt64.toNat >>> (7 % 64) = _
  rw [Nat.shiftRight_eq_div_pow]
theorem u64z {x : Int64} : x = 0 ↔ x.toUInt64.toNat = 0 := by
  constructor
  · intro h; rw [h]; rfl
  · intro h
    have : x.toUInt64 = 0 := UInt64.toNat_inj.mp (by simpa using h)
    exact congrArg UInt64.toInt64 this
theorem bm64 (x : Int) : x.bmod 18446744073709551616 % 18446744073709551616 = x % 18446744073709551616 := by
  have h := Int.bmod_emod (x := x) (m := 18446744073709551616)
  exact h
theorem u64i (x : Int64) : (x.toUInt64.toNat : Int) = x.toInt % 18446744073709551616 := by
  have e : x.toInt = x.toBitVec.toInt := rfl
  have e2 : x.toUInt64.toNat = x.toBitVec.toNat := rfl
  rw [e, e2, BitVec.toInt_eq_toNat_bmod]
  have h := x.toBitVec.isLt
  have h2 : (2 ^ 64 : Nat) = 18446744073709551616 := rfl
  rw [h2, bm64]
  omega
theorem zz_ref (p : Int64) : (if p < 0 then -2 * p - 1 else 2 * p).toUInt64.toNat = m_zz p := by
  have h := r64 p
  have z : (0 : Int64).toInt = 0 := by decide
  have two : (2 : Int64).toInt = 2 := by decide
  have one : (1 : Int64).toInt = 1 := by decide
  have mtwo : (-2 : Int64).toInt = -2 := by decide
  have q := u64i (if p < 0 then -2 * p - 1 else 2 * p)
  unfold m_zz
  by_cases hp : p < 0
  · rw [if_pos hp] at q ⊢
    rw [i64lt, z] at hp
    rw [if_pos hp]
    rw [Int64.toInt_sub, Int64.toInt_mul, mtwo, one] at q
    have e64 : ((2 : Nat) ^ 64) = 18446744073709551616 := rfl
    rw [Int.bmod_sub_bmod, e64, bm64] at q
    omega
  · rw [if_neg hp] at q ⊢
    rw [i64lt, z] at hp
    rw [if_neg hp]
    have e64 : ((2 : Nat) ^ 64) = 18446744073709551616 := rfl
    rw [Int64.toInt_mul, two, e64, bm64] at q
    omega
