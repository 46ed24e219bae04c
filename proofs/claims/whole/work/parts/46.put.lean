/-! bytes that are put, and numbers: what changes -/
/-- only the size (field f) of n and the row m have changed -/
def PB (f n m : Nat) (σ σ' : am_S) : Prop := am_kd σ' = am_kd σ ∧ am_fR σ' = am_fR σ ∧ am_fL σ' = am_fL σ ∧ am_aL σ' = am_aL σ ∧ am_aR σ' = am_aR σ ∧ am_nx σ' = am_nx σ ∧ am_sl σ' = am_sl σ ∧ (∀ g c, ¬ (g = f ∧ c = n) → am_fI σ' g c = am_fI σ g c) ∧ ∀ c i, c ≠ m → am_aI σ' c i = am_aI σ c i
theorem PB.rf {f n m : Nat} {σ : am_S} : PB f n m σ σ := ⟨rfl, rfl, rfl, rfl, rfl, rfl, rfl, fun _ _ _ => rfl, fun _ _ _ => rfl⟩
theorem PB.trans {f n m : Nat} {σ σ1 σ2 : am_S} (h : PB f n m σ σ1) (k : PB f n m σ1 σ2) : PB f n m σ σ2 := by
  obtain ⟨h1, h2, h3, h4, h5, h6, h7, h8, h9⟩ := h
  obtain ⟨k1, k2, k3, k4, k5, k6, k7, k8, k9⟩ := k
  exact ⟨k1.trans h1, k2.trans h2, k3.trans h3, k4.trans h4, k5.trans h5, k6.trans h6, k7.trans h7, fun g c q => (k8 g c q).trans (h8 g c q), fun c i q => (k9 c i q).trans (h9 c i q)⟩
theorem PB.put {f n m i : Nat} {b k : Int32} {σ : am_S} : PB f n m σ (am_sfI (am_saI σ m i b) f n k) := by
  refine ⟨rfl, rfl, rfl, rfl, rfl, rfl, rfl, fun g c q => ?_, fun c i q => am_up_ne1 q⟩
  show am_up (am_fI (am_saI σ m i b)) f n k g c = am_fI σ g c
  by_cases hg : g = f
  · by_cases hc : c = n
    · exact absurd ⟨hg, hc⟩ q
    · exact am_up_ne2 hc
  · exact am_up_ne1 hg
theorem PB.eqc {f n m c : Nat} {σ σ' : am_S} (h : PB f n m σ σ') (hn : c ≠ n) (hm : c ≠ m) : am_eqc σ σ' c := by
  obtain ⟨h1, h2, h3, h4, h5, h6, h7, h8, h9⟩ := h
  exact ⟨by rw [h1], fun g => ⟨h8 g c (fun q => hn q.2), by rw [h3], by rw [h2], h9 c g hm, by rw [h4], by rw [h5]⟩⟩
theorem toNC {k : Int32} (h : 0 ≤ k.toInt) : (k.toNatClampNeg : Int) = k.toInt := by
  unfold Int32.toNatClampNeg
  exact Int.toNat_of_nonneg h
section
variable {nl : Bool} {Ln : Nat} {xs : Nat → Int32} {d : Nat} {σ : am_S}
theorem f_put {n m cap : Nat} {b k : Int32} {F : am_S → Prop} (kn : am_kd σ n = (2, 0)) (rm : am_fR σ 1000 n = some m) (km : am_kd σ m = (1002, cap)) (sz : am_fI σ 1001 n = k) (h0 : 0 ≤ k.toInt) (h1 : k.toInt < cap) (hc : cap < 1000000)
    (h : F (am_sfI (am_saI σ m k.toNatClampNeg (vp_nar .byte b.toInt8.toInt32)) 1001 n (k + 1))) : k_By_put nl Ln xs (d + 1) n b σ F := by
  refine w_By_put ⟨is_mk kn, ⟨m, rm, by rw [km]⟩, ?_⟩
  rw [rm, Option.getD_some, sz, km]
  have e : (Int32.ofNat cap).toInt = cap := by
    rw [Int32.toInt_ofNat']
    have hs : Int32.size = 4294967296 := rfl
    rw [hs]
    exact Int.bmod_eq_of_le (by omega) (by omega)
  refine ⟨fun _ => ⟨ar_mk km h0 h1, ?_⟩, fun q => absurd (Int32.lt_iff_toInt_lt.mpr (by rw [e]; exact h1)) q⟩
  rintro s5 e5 s8 e8
  have f1 : am_fI s5 1001 n = k := by rw [e5]; exact sz
  rw [f1] at e8
  rw [e8, e5]
  exact h
theorem f_putNumber {n m cap : Nat} {v : Int64} {k : Int32} {F : am_S → Prop} (kn : am_kd σ n = (2, 0)) (rm : am_fR σ 1000 n = some m) (km : am_kd σ m = (1002, cap)) (hc : cap < 1000000) (sz : am_fI σ 1001 n = k) (h0 : 0 ≤ k.toInt) (h1 : k.toInt + 10 ≤ cap)
    (h : ∀ σ' k', PB 1001 n m σ σ' → am_fI σ' 1001 n = k' → k.toInt ≤ k'.toInt → k'.toInt ≤ k.toInt + 10 → F σ') : k_By_putNumber nl Ln xs (d + 2) n v σ F := by
  have loop : ∀ (j : Nat) (x5 : Int32) (x3 : Int64) (x6 : Option Value) (s : am_S) (q : Int32), x5.toInt + j = 10 → PB 1001 n m σ s → am_fI s 1001 n = q → q.toInt = k.toInt + x5.toInt → 0 ≤ x5.toInt → c_By_putNumber_12 nl Ln xs (d + 2) n v x3 x5 x6 s F := by
    intro j
    induction j with
    | zero =>
      intro x5 x3 x6 s q hj hp hq hk h5
      have c10 : (10 : Int32).toInt = 10 := by decide
      refine w_By_putNumber_12 ⟨fun t => absurd (Int32.lt_iff_toInt_lt.mp t) (by omega), fun _ => h s q hp hq (by omega) (by omega)⟩
    | succ j ih =>
      intro x5 x3 x6 s q hj hp hq hk h5
      refine w_By_putNumber_12 ⟨fun t => ?_, fun _ => h s q hp hq (by omega) (by omega)⟩
      intro v2 _ v4 _ w8 _
      have kn' : am_kd s n = (2, 0) := by rw [hp.1]; exact kn
      have rm' : am_fR s 1000 n = some m := by rw [hp.2.1]; exact rm
      have km' : am_kd s m = (1002, cap) := by rw [hp.1]; exact km
      refine w_By_putNumber_50 ⟨is_mk kn', f_put kn' rm' km' hq (by omega) (by omega) hc ?_⟩
      intro _
      have e1 := i32_add1 (x := x5) (by omega) (by omega)
      have e2 := i32_add1 (x := q) (by omega) (by omega)
      refine ⟨fun _ => h _ (q + 1) (hp.trans PB.put) rI_same (by omega) (by omega), fun _ => ih _ _ _ _ (q + 1) (by omega) (hp.trans PB.put) rI_same (by omega) (by omega)⟩
  have z : (0 : Int32).toInt = 0 := by decide
  exact w_By_putNumber (fun v1 _ => loop 10 0 v1 none σ k (by omega) PB.rf sz (by omega) (by omega))
theorem u64_shr {x : Int64} : ((x.toUInt64 >>> ((7 : Int32).toInt64.toUInt64 &&& Int64.toUInt64 63)).toInt64).toUInt64.toNat = x.toUInt64.toNat / 128 := by
  have e : ((7 : Int32).toInt64.toUInt64 &&& Int64.toUInt64 63) = 7 := by decide
  rw [e]
  show (x.toUInt64 >>> 7).toNat = _
  rw [UInt64.toNat_shiftRight]
  show x.toUInt64.toNat >>> (7 % 64) = _
  rw [Nat.shiftRight_eq_div_pow]
theorem f_noteNumber {n m cap : Nat} {v : Int64} {k : Int32} {F : am_S → Prop} (kn : am_kd σ n = (14, 0)) (rm : am_fR σ 13066 n = some m) (km : am_kd σ m = (1002, cap)) (hc : cap < 1000000) (sz : am_fI σ 13067 n = k) (h0 : 0 ≤ k.toInt) (h1 : k.toInt + 10 ≤ cap)
    (h : ∀ σ' k', PB 13067 n m σ σ' → am_fI σ' 13067 n = k' → k.toInt ≤ k'.toInt → k'.toInt ≤ k.toInt + 10 → F σ') : k_Ro_noteNumber nl Ln xs (d + 1) n v σ F := by
  have loop : ∀ (j : Nat) (x3 : Int64) (x5 x6 : Option Value) (s : am_S) (q : Int32), x3.toUInt64.toNat < 128 ^ (j + 1) → PB 13067 n m σ s → am_fI s 13067 n = q → k.toInt ≤ q.toInt → q.toInt + j + 1 ≤ k.toInt + 10 → c_Ro_noteNumber_22 nl Ln xs (d + 1) n v x3 x5 x6 s F := by
    intro j
    induction j with
    | zero =>
      intro x3 x5 x6 s q hx hp hq hk hk2
      refine w_Ro_noteNumber_22 ?_
      have kn' : am_kd s n = (14, 0) := by rw [hp.1]; exact kn
      have rm' : am_fR s 13066 n = some m := by rw [hp.2.1]; exact rm
      have km' : am_kd s m = (1002, cap) := by rw [hp.1]; exact km
      intro v1 _ v3 e3
      refine ⟨is_mk kn', ?_⟩
      intro w8 _
      rw [rm', hq]
      have z3 : v3 = 0 := by
        have e : v3.toUInt64.toNat = 0 := by rw [e3, u64_shr, Nat.div_eq_of_lt (by simpa using hx)]
        have : v3.toUInt64 = 0 := UInt64.toNat_inj.mp (by simpa using e)
        have e2 := congrArg UInt64.toInt64 this
        exact e2
      refine w_Ro_noteNumber_59 ⟨ar_mk km' (by omega) (by omega), ?_⟩
      intro s2 e2
      refine ⟨by rw [e2]; exact is_mk kn', ?_⟩
      intro s6 e6
      have f1 : am_fI s2 13067 n = q := by rw [e2]; exact hq
      rw [f1, e2] at e6
      have e4 := i32_add1 (x := q) (by omega) (by omega)
      rw [e6]
      exact ⟨fun _ => h _ (q + 1) (hp.trans PB.put) rI_same (by omega) (by omega), fun t => absurd z3 t⟩
    | succ j ih =>
      intro x3 x5 x6 s q hx hp hq hk hk2
      refine w_Ro_noteNumber_22 ?_
      have kn' : am_kd s n = (14, 0) := by rw [hp.1]; exact kn
      have rm' : am_fR s 13066 n = some m := by rw [hp.2.1]; exact rm
      have km' : am_kd s m = (1002, cap) := by rw [hp.1]; exact km
      intro v1 _ v3 e3
      refine ⟨is_mk kn', ?_⟩
      intro w8 _
      rw [rm', hq]
      refine w_Ro_noteNumber_59 ⟨ar_mk km' (by omega) (by omega), ?_⟩
      intro s2 e2
      refine ⟨by rw [e2]; exact is_mk kn', ?_⟩
      intro s6 e6
      have f1 : am_fI s2 13067 n = q := by rw [e2]; exact hq
      rw [f1, e2] at e6
      have e4 := i32_add1 (x := q) (by omega) (by omega)
      rw [e6]
      refine ⟨fun _ => h _ (q + 1) (hp.trans PB.put) rI_same (by omega) (by omega), fun _ => ih _ _ _ _ (q + 1) ?_ (hp.trans PB.put) rI_same (by omega) (by omega)⟩
      rw [e3, u64_shr]
      exact Nat.div_lt_of_lt_mul (by rw [Nat.pow_succ, Nat.mul_comm] at hx; exact hx)
  refine w_Ro_noteNumber (fun w3 _ => loop 9 w3 none none σ k ?_ PB.rf sz (by omega) (by omega))
  have := w3.toUInt64.toNat_lt
  omega
end
