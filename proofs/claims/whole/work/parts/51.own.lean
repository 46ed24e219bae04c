/-! OWNERS: whose a cell is; what one owner has is as it was -/
abbrev ow_T : Type := Nat → Nat × Nat
def Fr (σ : am_S) (w : ow_T) (σ' : am_S) (w' : ow_T) (k : Nat × Nat) : Prop := ∀ c, w c = k → w' c = k ∧ am_eqc σ σ' c
theorem eqc_scI {σ : am_S} {n c : Nat} {x : Nat → Int32} (h : c ≠ n) : am_eqc σ (am_scI σ n x) c := ⟨rfl, fun _ => ⟨rfl, rfl, rfl, by show va_up σ.2.2.2.2.1 n x c _ = _; rw [am_vup h], rfl, rfl⟩⟩
theorem eqc_scL {σ : am_S} {n c : Nat} {x : Nat → Int64} (h : c ≠ n) : am_eqc σ (am_scL σ n x) c := ⟨rfl, fun _ => ⟨rfl, rfl, rfl, rfl, by show va_up σ.2.2.2.2.2.1 n x c _ = _; rw [am_vup h], rfl⟩⟩
section
variable {σ σ1 σ2 : am_S} {w w1 w2 : ow_T} {k k' : Nat × Nat} {n g i : Nat}
theorem Fr.rf : Fr σ w σ w k := fun _ h => ⟨h, am_eqc.rf⟩
theorem Fr.trans (h : Fr σ w σ1 w1 k) (h2 : Fr σ1 w1 σ2 w2 k) : Fr σ w σ2 w2 k := fun c hc => ⟨(h2 c (h c hc).1).1, (h c hc).2.trans (h2 c (h c hc).1).2⟩
theorem Fr.of (h : w n ≠ k) (e : ∀ c, c ≠ n → am_eqc σ σ1 c) : Fr σ w σ1 w k := fun c hc => ⟨hc, e c (fun q => h (by rw [← q]; exact hc))⟩
theorem Fr.sfI {x : Int32} (h : w n ≠ k) : Fr σ w (am_sfI σ g n x) w k := Fr.of h fun _ => eqc_sfI
theorem Fr.sfL {x : Int64} (h : w n ≠ k) : Fr σ w (am_sfL σ g n x) w k := Fr.of h fun _ => eqc_sfL
theorem Fr.sfR {x : Option Nat} (h : w n ≠ k) : Fr σ w (am_sfR σ g n x) w k := Fr.of h fun _ => eqc_sfR
theorem Fr.saI {x : Int32} (h : w n ≠ k) : Fr σ w (am_saI σ n i x) w k := Fr.of h fun _ => eqc_saI
theorem Fr.saL {x : Int64} (h : w n ≠ k) : Fr σ w (am_saL σ n i x) w k := Fr.of h fun _ => eqc_saL
theorem Fr.saR {x : Option Nat} (h : w n ≠ k) : Fr σ w (am_saR σ n i x) w k := Fr.of h fun _ => eqc_saR
theorem Fr.scI {x : Nat → Int32} (h : w n ≠ k) : Fr σ w (am_scI σ n x) w k := Fr.of h fun _ => eqc_scI
theorem Fr.scL {x : Nat → Int64} (h : w n ≠ k) : Fr σ w (am_scL σ n x) w k := Fr.of h fun _ => eqc_scL
theorem Fr.new {kd len sl : Nat} (h : w (am_nx σ) ≠ k) : Fr σ w (am_new σ kd len sl) w k := Fr.of h fun _ => eqc_new
theorem Fr.up (h : w n ≠ k) : Fr σ w σ (va_up w n k') k := fun c hc => ⟨by rw [am_vup (fun q => h (by rw [← q]; exact hc))]; exact hc, am_eqc.rf⟩
end
/-! the reads of a cell that is as it was -/
section
variable {σ σ1 : am_S} {c g : Nat}
theorem am_eqc.kd (h : am_eqc σ σ1 c) : am_kd σ1 c = am_kd σ c := h.1
theorem am_eqc.fI (h : am_eqc σ σ1 c) : am_fI σ1 g c = am_fI σ g c := (h.2 g).1
theorem am_eqc.fL (h : am_eqc σ σ1 c) : am_fL σ1 g c = am_fL σ g c := (h.2 g).2.1
theorem am_eqc.fR (h : am_eqc σ σ1 c) : am_fR σ1 g c = am_fR σ g c := (h.2 g).2.2.1
theorem am_eqc.aI (h : am_eqc σ σ1 c) : am_aI σ1 c g = am_aI σ c g := (h.2 g).2.2.2.1
theorem am_eqc.aL (h : am_eqc σ σ1 c) : am_aL σ1 c g = am_aL σ c g := (h.2 g).2.2.2.2.1
theorem am_eqc.aR (h : am_eqc σ σ1 c) : am_aR σ1 c g = am_aR σ c g := (h.2 g).2.2.2.2.2
end
