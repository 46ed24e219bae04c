/-! THE CLASS: nodes go back -/
section
variable {nl : Bool} {Ln : Nat} {xs : Nat → Int32} {d : Nat} {k : Nat × Nat}
theorem rd_putBack {F : am_S → Prop} (hk : RdO k) : ∀ (cs : List Nat) (σ : am_S) (w : ow_T) (lN : List Nat) (h x1 : Option Nat) (x2 : Option Value), RdK σ w → OwI σ w → Fls σ w (1, 5) 9 8004 (am_fR σ 4006 1034) lN → Rch (am_fR σ 8004) h cs → (∀ c ∈ cs, w c = k ∧ am_kd σ c = (9, 0) ∧ 1000 ≤ c) → (∀ σ' w', RdK σ' w' → OwI σ' w' → Fls σ' w' (1, 5) 9 8004 (am_fR σ' 4006 1034) (cs.reverse ++ lN) → Eff (rdE k) σ w σ' w' → (am_kd σ' = am_kd σ ∧ am_nx σ' = am_nx σ ∧ am_sl σ' = am_sl σ) → (∀ g, am_fI σ' g 1034 = am_fI σ g 1034) → Stay k cs σ w σ' w' → F σ') → c_Rd_putBack_2 nl Ln xs (d + 1) 1034 x1 x2 h σ F := by
  intro cs
  induction cs with
  | nil =>
    intro σ w lN h x1 x2 R ho hN hr hc K
    have hr : h = none := hr
    subst hr
    exact w_Rd_putBack_2 ⟨fun _ => K σ w R ho hN (Eff.rf ho) ⟨rfl, rfl, rfl⟩ (fun _ => rfl) (fun c _ hc => ⟨hc, am_eqc.rf⟩), fun z => absurd rfl z⟩
  | cons c cs ih =>
    intro σ w lN h x1 x2 R ho hN hr hc K
    have nin := hr.nin
    obtain ⟨rfl, hr⟩ := hr
    obtain ⟨b1, b2, b3⟩ := hc c List.mem_cons_self
    obtain ⟨h1, h2, ⟨h3, h4, h5⟩, h6⟩ := id R
    have h34 := h1 1034 (by omega) (by omega)
    have ne : c ≠ 1034 := fun z => hk.2.2 1034 (by rw [← b1, z]; exact h34)
    refine w_Rd_putBack_2 ⟨fun z => absurd z (by simp), fun _ => ⟨is_mk b2, ?_⟩⟩
    rw [Option.getD_some]
    rintro v3 rfl
    refine ⟨is_mk h2, ?_⟩
    intro s6 q6 s9 q9
    have e9 : ∀ x, x ≠ 1034 → x ≠ c → am_eqc σ s9 x := fun x x1 x2 => by rw [q9, q6]; exact (eqc_sfR x2).trans (eqc_sfR x1)
    have f9 : am_kd s9 = am_kd σ ∧ am_nx s9 = am_nx σ ∧ am_sl s9 = am_sl σ := by rw [q9, q6]; exact ⟨rfl, rfl, rfl⟩
    have hw' : ∀ x, x ≠ c → va_up w c (1, 5) x = w x := fun x hx => am_vup hx
    have g9 : ∀ g, g ≠ 4006 → am_fR s9 g 1034 = am_fR σ g 1034 := fun g hg => by rw [q9, rR_g hg, q6]; exact rR_n (fun z => ne z.symm)
    have cN : c ∉ lN := hN.nin (by rw [b1]; exact hk.2.1)
    have n34 : 1034 ∉ lN := hN.nin (by rw [h34]; simp)
    have R9 : RdK s9 (va_up w c (1, 5)) := by
      refine ⟨fun x x1 x2 => (hw' x (fun z => hk.2.2 x (by rw [← b1, ← z]; exact h1 x x1 x2))).trans (h1 x x1 x2), by rw [f9.1]; exact h2, ⟨?_, ?_, ?_⟩, by rw [f9.1]; exact h6⟩
      · rw [g9 _ (by decide)]; exact h3
      · rw [g9 _ (by decide)]; exact h4
      · rw [g9 _ (by decide)]; exact h5
    have o9 : OwI s9 (va_up w c (1, 5)) := fun x hx => by
      rw [f9.2.1] at hx
      have h0 := ho x hx
      rw [hw' x (fun z => hk.1 (by rw [← b1, ← z]; exact h0))]
      exact h0
    have N9 : Fls s9 (va_up w c (1, 5)) (1, 5) 9 8004 (am_fR s9 4006 1034) (c :: lN) := by
      refine ⟨by rw [q9]; exact rR_same, ⟨up_same, by rw [f9.1]; exact b2, b3⟩, cN, ?_⟩
      have : am_fR s9 8004 c = am_fR σ 4006 1034 := by rw [q9, rR_n ne, q6]; exact rR_same
      rw [this]
      exact hN.mz (z := 1034) e9 hw' cN n34
    have E9 : Eff (rdE k) σ w s9 (va_up w c (1, 5)) := by
      refine ⟨o9, fun q hq _ x hx => ?_⟩
      have x1 : x ≠ 1034 := fun z => hq (by rw [← hx, z, h34]; exact Or.inr (Or.inl rfl))
      have x2 : x ≠ c := fun z => hq (by rw [← hx, z, b1]; exact Or.inr (Or.inr rfl))
      exact ⟨(hw' x x2).trans hx, e9 x x1 x2⟩
    have ek : ∀ x, x ≠ c → w x = k → va_up w c (1, 5) x = k ∧ am_eqc σ s9 x := fun x hx hw => ⟨(hw' x hx).trans hw, e9 x (fun z => hk.2.2 1034 (by rw [← hw, z]; exact h34)) hx⟩
    have ec : ∀ x ∈ cs, va_up w c (1, 5) x = k ∧ am_eqc σ s9 x := fun x hx => ek x (fun z => nin (by rw [← z]; exact hx)) (hc x (List.mem_cons_of_mem _ hx)).1
    refine ih s9 _ (c :: lN) _ _ _ R9 o9 N9 (hr.mono (fun x hx => (ec x hx).2.fR)) (fun x hx => ?_) (fun σ' w' R' o' N' E' f' g' st => K σ' w' R' o' ?_ (E9.trans E') ⟨f'.1.trans f9.1, f'.2.1.trans f9.2.1, f'.2.2.trans f9.2.2⟩ (fun g => (g' g).trans ?_) (fun x hx hw => ?_))
    · have := hc x (List.mem_cons_of_mem _ hx)
      exact ⟨(ec x hx).1, by rw [f9.1]; exact this.2.1, this.2.2⟩
    · rw [List.reverse_cons, List.append_assoc]
      exact N'
    · rw [q9, q6]
    · have x2 : x ≠ c := fun z => hx (by rw [z]; exact List.mem_cons_self)
      have e1 := ek x x2 hw
      have := st x (fun z => hx (List.mem_cons_of_mem _ z)) e1.1
      exact ⟨this.1, e1.2.trans this.2⟩
end
