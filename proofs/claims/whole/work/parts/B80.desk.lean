/-! THE CLASS: the desk -/
/-- the desk's own cell; b the book, v the view for working, the other one the view that was looked at -/
def CoR (σ : am_S) (w : ow_T) (v b : Nat) (sp : Option Nat) : Prop := (w 1000 = (2, 1000) ∧ am_kd σ 1000 = (1, 0)) ∧ (am_fR σ 0 1000 = some 1001 ∧ am_fR σ 1 1000 = some 1003 ∧ am_fR σ 2 1000 = some 1005 ∧ am_fR σ 3 1000 = some 1007) ∧ (am_fR σ 4 1000 = some 1008 ∧ am_fR σ 5 1000 = some 1034 ∧ am_fR σ 6 1000 = some 1038) ∧ am_fR σ 7 1000 = some b ∧ am_fR σ 8 1000 = sp ∧ am_fR σ 9 1000 = some (2070 - v) ∧ w 1007 = (2, 1007) ∧ am_kd σ 1007 = (1001, 7)
/-- what stands ready: rows of bytes grown so far, the spare book -/
abbrev Grw : Type := Nat × Nat × Nat × Nat
def grC (g : Grw) (sp : Option Nat) : Nat × Nat := (g.1 + g.2.1 + g.2.2.1 + (if sp = none then 0 else 20 + g.2.2.2), 128 * 2 ^ g.1 + 128 * 2 ^ g.2.1 + 128 * 2 ^ g.2.2.1 + (if sp = none then 0 else 5000 + 128 * 2 ^ g.2.2.2))
/-- the reference's cells are as in τ -/
def RefF (τ σ : am_S) (w : ow_T) : Prop := (∀ c, 1053 ≤ c → c ≤ 1188 → w c = (9, 9) ∧ am_eqc τ σ c) ∧ ∀ c, c < 1000 → w c = (9, 9)
theorem RefF.eff {τ σ s : am_S} {w ws : ow_T} {K : Nat × Nat → Prop} (h : RefF τ σ w) (E : Eff K σ w s ws) (hk : ¬ K (9, 9)) : RefF τ s ws := ⟨fun c c1 c2 => by
  have e := E.2 (9, 9) hk (by simp) c (h.1 c c1 c2).1
  exact ⟨e.1, (h.1 c c1 c2).2.trans e.2⟩, fun c hc => (E.2 (9, 9) hk (by simp) c (h.2 c hc)).1⟩
def DskC (τ σ : am_S) (w : ow_T) (v : Nat) (X : Stx) (b : Nat) (sp : Option Nat) (g : Grw) (gl nu : Nat) (D : mTop) : Prop := CoR σ w v b sp ∧ (1189 ≤ b ∨ b = 1039) ∧ am_fI σ 10 1000 = Int32.ofNat (d_tak D) ∧ ByR σ w (2, 1001) 1001 g.1 (d_tap D) ∧ (∃ tx, ByR σ w (2, 1003) 1003 g.2.1 tx) ∧ ByR σ w (2, 1005) 1005 g.2.2.1 (d_let D) ∧ ((∃ ov, VwD σ (2070 - v) (d_lok D).2.1 (d_lok D).2.2 (d_lok D).1 ov) ∧ (d_lok D).2.1.length ≤ 13) ∧ Bks σ w v X b (d_off D) gl nu (0, 0, 0, 0, 0) (grC g sp) ∧ am_fI σ 2001 1008 = d_fnd D ∧ (∀ b2, sp = some b2 → (1189 ≤ b2 ∨ b2 = 1039) ∧ b2 ≠ b ∧ BookR σ w b2 m_new g.2.2.2 0) ∧ RefF τ σ w
section
variable {nl : Bool} {Ln : Nat} {xs : Nat → Int32} {d : Nat} {σ : am_S} {w : ow_T} {τ : am_S} {v b gl nu : Nat} {X : Stx} {sp : Option Nat} {g : Grw} {D : mTop}
theorem co_finding {F : Int32 → am_S → Prop} (R : DskC τ σ w v X b sp g gl nu D) (K : F (d_lok D).1 σ) : k_Co_finding nl Ln xs (d + 1) 1000 σ F := by
  obtain ⟨C, -, -, -, -, -, ⟨⟨ov, L⟩, -⟩, -⟩ := R
  refine w_Co_finding ⟨is_mk C.1.2, ?_⟩
  rw [C.2.2.2.2.2.1, Option.getD_some, L.2.2.2.1]
  exact ⟨is_mk L.1.1, K⟩
theorem co_row {i what : Int32} {F : Int32 → am_S → Prop} (R : DskC τ σ w v X b sp g gl nu D) (K : F (d_row D i what) σ) : k_Co_row nl Ln xs (d + 1) 1000 i what σ F := by
  obtain ⟨C, -, -, -, -, -, ⟨⟨ov, L⟩, hl⟩, -⟩ := R
  obtain ⟨⟨k1, ⟨k2, k3, k4, k5⟩, k6, k7, k8, k9⟩, ⟨l1, l2, l3, l4⟩, -⟩ := L
  unfold d_row at K
  have z0 : (0 : Int32).toInt = 0 := by decide
  have z1 : (1 : Int32).toInt = 1 := by decide
  have t12 : (what = 0 ∨ what = 1) → c_Co_row_12 nl Ln xs (d + 1) 1000 i what σ F := by
    intro hw
    have hw' : ¬ (what.toInt < 0 ∨ 1 < what.toInt) := by rcases hw with rfl | rfl <;> decide
    rw [if_neg hw'] at K
    refine w_Co_row_12 ?_
    rw [C.2.2.2.2.2.1, Option.getD_some, l1, i32lt, i32lt, z0, n32 (by omega)]
    refine ⟨fun h => ?_, fun h => ⟨is_mk C.1.2, is_mk k1, fun h2 => ?_, fun h2 => ?_⟩⟩
    · rw [if_neg (by omega)] at K
      exact K
    · rw [if_pos ⟨by omega, h2⟩] at K
      obtain ⟨r, hr⟩ := get_ex (show i.toInt.toNat < (d_lok D).2.1.length by omega)
      have en : i.toNatClampNeg = i.toInt.toNat := rfl
      rw [k2, k3, Option.getD_some, Option.getD_some, en, l2 _ r hr, l3 _ r hr]
      refine ⟨fun _ => ar_mk k6 (by omega) (by omega), fun _ => ar_mk k7 (by omega) (by omega), ?_⟩
      rintro w9 rfl
      rw [getD_of _ hr] at K
      rcases hw with rfl | rfl
      · exact K
      · exact K
    · rw [if_neg (by omega)] at K
      exact K
  refine w_Co_row ⟨fun h => t12 (Or.inl h), fun h0 => ⟨fun h => t12 (Or.inr h), fun h1 => ?_⟩⟩
  rw [i32e, z0] at h0
  rw [i32e, z1] at h1
  rw [if_pos (by omega)] at K
  exact K
theorem co_cents {i : Int32} {F : Int64 → am_S → Prop} (R : DskC τ σ w v X b sp g gl nu D) (K : F (d_cents D i) σ) : k_Co_cents nl Ln xs (d + 1) 1000 i σ F := by
  obtain ⟨C, -, -, -, -, -, ⟨⟨ov, L⟩, hl⟩, -⟩ := R
  obtain ⟨⟨k1, ⟨k2, k3, k4, k5⟩, k6, k7, k8, k9⟩, ⟨l1, l2, l3, l4⟩, -⟩ := L
  unfold d_cents at K
  have z0 : (0 : Int32).toInt = 0 := by decide
  refine w_Co_cents ?_
  rw [C.2.2.2.2.2.1, Option.getD_some, l1, k4, Option.getD_some]
  simp only [i32lt, z0, n32 (show (d_lok D).2.1.length < 2147483648 by omega)]
  refine ⟨fun _ => is_mk C.1.2, fun _ => is_mk k1, fun _ _ => is_mk C.1.2, fun _ _ => is_mk k1, fun h1 h2 => ar_mk k8 (by omega) (by omega), ?_⟩
  rintro w9 rfl
  by_cases h : 0 ≤ i.toInt ∧ i.toInt < (d_lok D).2.1.length
  · rw [if_pos h] at K
    obtain ⟨r, hr⟩ := get_ex (show i.toInt.toNat < (d_lok D).2.1.length by omega)
    have en : i.toNatClampNeg = i.toInt.toNat := rfl
    rw [if_neg (by omega), if_pos h.2, en, l4 _ r hr]
    rw [getD_of _ hr] at K
    exact K
  · rw [if_neg h] at K
    by_cases h0 : i.toInt < 0
    · rw [if_pos h0]
      exact K
    · rw [if_neg h0, if_neg (by omega)]
      exact K
theorem co_trace {i : Int32} {F : Int32 → am_S → Prop} (R : DskC τ σ w v X b sp g gl nu D) (K : F (d_trace D i) σ) : k_Co_trace nl Ln xs (d + 1) 1000 i σ F := by
  obtain ⟨C, -, -, -, -, -, ⟨⟨ov, L⟩, hl⟩, -⟩ := R
  obtain ⟨⟨k1, ⟨k2, k3, k4, k5⟩, k6, k7, k8, k9⟩, -, ⟨l1, l2⟩, -⟩ := L
  unfold d_trace at K
  have z0 : (0 : Int32).toInt = 0 := by decide
  refine w_Co_trace ?_
  rw [C.2.2.2.2.2.1, Option.getD_some, l1, k5, Option.getD_some]
  simp only [i32lt, z0, n32 (show min (d_lok D).2.2.length 200 < 2147483648 by omega)]
  refine ⟨fun _ => is_mk C.1.2, fun _ => is_mk k1, fun _ _ => is_mk C.1.2, fun _ _ => is_mk k1, fun h1 h2 => ar_mk k9 (by omega) (by omega), ?_⟩
  rintro w9 rfl
  by_cases h : 0 ≤ i.toInt ∧ i.toInt < (min (d_lok D).2.2.length 200 : Nat)
  · rw [if_pos h] at K
    obtain ⟨r, hr⟩ := get_ex (show i.toInt.toNat < (d_lok D).2.2.length by omega)
    have en : i.toNatClampNeg = i.toInt.toNat := rfl
    rw [if_neg (by omega), if_pos h.2, en, l2 _ (by omega) r hr]
    rw [getD_of _ hr] at K
    exact K
  · rw [if_neg h] at K
    by_cases h0 : i.toInt < 0
    · rw [if_pos h0]
      exact K
    · rw [if_neg h0, if_neg (fun z => h ⟨by omega, z⟩)]
      exact K
theorem co_count {what : Int32} {F : Int32 → am_S → Prop} (R : DskC τ σ w v X b sp g gl nu D) (K : F (d_count D what) σ) : k_Co_count nl Ln xs (d + 1) 1000 what σ F := by
  obtain ⟨C, -, -, T, -, S, -, A, hf, -⟩ := R
  have k0 := C.1.2
  have kb := A.2.1.1.1.2.1
  obtain ⟨n1, n2, n3, n4, n5, n6, n7, n8, n9⟩ := A.2.1.2.1
  unfold d_count at K
  refine w_Co_count ?_
  rw [C.2.2.2.1, C.2.1.1, C.2.1.2.2.1, C.2.2.1.1, Option.getD_some, Option.getD_some, Option.getD_some, Option.getD_some, n1, n2, n3, n4, n5, n6, n7, n8, T.2.2.2.2.1, S.2.2.2.2.1, hf]
  refine ⟨fun q => ⟨is_mk k0, is_mk kb, ?_⟩, fun q => ⟨is_mk k0, is_mk kb, ?_⟩, fun q => ⟨is_mk k0, is_mk kb, ?_⟩, fun q => ⟨is_mk k0, is_mk kb, ?_⟩, fun q => ⟨is_mk k0, is_mk kb, ?_⟩, fun q => ⟨is_mk k0, is_mk kb, ?_⟩, fun q => ⟨is_mk k0, is_mk kb, ?_⟩, fun q => ⟨is_mk k0, is_mk kb, ?_⟩, fun q => ⟨is_mk k0, is_mk T.2.1, ?_⟩, fun q => ⟨is_mk k0, is_mk S.2.1, ?_⟩, fun q => ⟨is_mk k0, is_mk A.1.2.2.2.2.2.1.1, ?_⟩, fun q => ?_⟩
  · rw [q] at K; exact K
  · rw [q] at K; exact K
  · rw [q] at K; exact K
  · rw [q] at K; exact K
  · rw [q] at K; exact K
  · rw [q] at K; exact K
  · rw [q] at K; exact K
  · rw [q] at K; exact K
  · rw [q] at K; exact K
  · rw [q] at K; exact K
  · rw [q] at K; exact K
  · have ne : ∀ x : Int32, x.toInt ≤ 10 → 0 ≤ x.toInt → ¬ what = x := fun x h1 h2 hx => by
      rw [hx] at q
      rcases q with q | q <;> omega
    rw [if_neg (ne 0 (by decide) (by decide)), if_neg (ne 1 (by decide) (by decide)), if_neg (ne 2 (by decide) (by decide)), if_neg (ne 3 (by decide) (by decide)), if_neg (ne 4 (by decide) (by decide)), if_neg (ne 5 (by decide) (by decide)), if_neg (ne 6 (by decide) (by decide)), if_neg (ne 7 (by decide) (by decide)), if_neg (ne 8 (by decide) (by decide)), if_neg (ne 9 (by decide) (by decide)), if_neg (ne 10 (by decide) (by decide))] at K
    exact K
/-- a byte of a row of bytes, at any place -/
theorem by_any {kt : Nat × Nat} {n gg : Nat} {t : List Int32} {i : Int32} {F : Int32 → am_S → Prop} (h : ByR σ w kt n gg t) (K : F (if 0 ≤ i.toInt ∧ i.toInt < t.length then t.getD i.toInt.toNat 0 else -1) σ) : k_By_byteAt nl Ln xs (d + 1) n i σ F := by
  have r := r32 i
  by_cases h0 : 0 ≤ i.toInt
  · have ei : i = Int32.ofNat i.toInt.toNat := by
      rw [i32e, n32 (by omega)]
      omega
    rw [ei]
    refine by_at (d := d) h (by omega) ?_
    by_cases h1 : i.toInt.toNat < t.length
    · rw [if_pos ⟨h0, by omega⟩] at K
      rw [if_pos h1]
      exact K
    · rw [if_neg (by omega)] at K
      rw [if_neg h1]
      exact K
  · rw [if_neg (by omega)] at K
    have z0 : (0 : Int32).toInt = 0 := by decide
    refine w_By_byteAt ?_
    have hneg : i < 0 := by rw [i32lt, z0]; omega
    exact ⟨fun z => absurd hneg z, fun z => absurd hneg z, fun z => absurd hneg z, by rintro w7 rfl; rw [if_pos hneg]; exact K⟩
end
