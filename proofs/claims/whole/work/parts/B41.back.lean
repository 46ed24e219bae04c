/-! THE CLASS: what goes back to the stock -/
/-- cells one behind the other -/
def Rch (nx : Nat → Option Nat) : Option Nat → List Nat → Prop
  | h, [] => h = none
  | h, c :: l => h = some c ∧ Rch nx (nx c) l
section
variable {nx nx' : Nat → Option Nat}
theorem Rch.det : ∀ {l l' : List Nat} {h : Option Nat}, Rch nx h l → Rch nx h l' → l = l'
  | [], [], _, _, _ => rfl
  | [], c :: l', _, h1, h2 => by
    have h1 : _ = none := h1
    rw [h1] at h2
    exact absurd h2.1 (by simp)
  | c :: l, [], _, h1, h2 => by
    have h2 : _ = none := h2
    rw [h2] at h1
    exact absurd h1.1 (by simp)
  | c :: l, c' :: l', _, h1, h2 => by
    have e : c = c' := Option.some.inj (h1.1.symm.trans h2.1)
    subst e
    rw [Rch.det h1.2 h2.2]
theorem Rch.suf : ∀ {l : List Nat} {h : Option Nat} {c : Nat}, Rch nx h l → c ∈ l → ∃ l', Rch nx (some c) l' ∧ l'.length ≤ l.length
  | [], _, _, _, hc => absurd hc (by simp)
  | x :: l, _, c, hh, hc => by
    rcases List.mem_cons.mp hc with rfl | hm
    · exact ⟨c :: l, ⟨rfl, hh.2⟩, Nat.le_refl _⟩
    · obtain ⟨l', h1, h2⟩ := Rch.suf hh.2 hm
      exact ⟨l', h1, by rw [List.length_cons]; omega⟩
theorem Rch.nin {l : List Nat} {h : Option Nat} {c : Nat} (hh : Rch nx h (c :: l)) : c ∉ l := fun hc => by
  obtain ⟨l', h1, h2⟩ := Rch.suf hh.2 hc
  have h3 : Rch nx (some c) (c :: l) := ⟨rfl, hh.2⟩
  have := Rch.det h1 h3
  rw [this, List.length_cons] at h2
  omega
theorem Rch.mono : ∀ {l : List Nat} {h : Option Nat}, Rch nx h l → (∀ c ∈ l, nx' c = nx c) → Rch nx' h l
  | [], _, hh, _ => hh
  | c :: l, _, hh, e => ⟨hh.1, by rw [e c List.mem_cons_self]; exact Rch.mono hh.2 (fun x hx => e x (List.mem_cons_of_mem _ hx))⟩
/-- the cells of a chain -/
theorem Chn.cells {α : Type} {Q : Nat → α → Prop} {R : Nat → Prop} (hq : ∀ c x, Q c x → R c) : ∀ {l : List α} {h : Option Nat}, Chn Q nx h l → ∃ cs, Rch nx h cs ∧ cs.length = l.length ∧ ∀ c ∈ cs, R c
  | [], _, hh => ⟨[], hh, rfl, fun c hc => absurd hc (by simp)⟩
  | x :: l, _, hh => by
    obtain ⟨c, h1, h2, h3⟩ := hh
    obtain ⟨cs, g1, g2, g3⟩ := Chn.cells hq h3
    refine ⟨c :: cs, ⟨h1, g1⟩, by rw [List.length_cons, List.length_cons, g2], fun y hy => ?_⟩
    rcases List.mem_cons.mp hy with rfl | hm
    · exact hq _ _ h2
    · exact g3 y hm
end
section
variable {nl : Bool} {Ln : Nat} {xs : Nat → Int32} {d : Nat} {σ : am_S} {w : ow_T} {k : Nat × Nat} {lE lP lC : List Nat} {lL : List (Nat × Nat × Nat)} {c : Nat}
theorem Stk.pushE (S : Stk σ w lE lP lL lC) (b1 : w c = k) (hk : ¬ stK k) (b2 : am_kd σ c = (8, 0)) (b3 : 1000 ≤ c) : Stk (am_sfR (am_sfR σ 7005 c (am_fR σ 5000 1038)) 5000 1038 (some c)) (va_up w c (1, 1)) (c :: lE) lP lL lC := by
  obtain ⟨⟨h1, h2⟩, a0, a1, a2, a3⟩ := S
  have kn : ∀ q, stK q → w c ≠ q := fun q hq z => hk (by rw [← b1, z]; exact hq)
  have ne : c ≠ 1038 := fun z => kn (2, 1038) (Or.inr rfl) (by rw [z]; exact h1)
  have e : ∀ x, x ≠ 1038 → x ≠ c → am_eqc σ (am_sfR (am_sfR σ 7005 c (am_fR σ 5000 1038)) 5000 1038 (some c)) x := fun x x1 x2 => (eqc_sfR x2).trans (eqc_sfR x1)
  have hw' : ∀ x, x ≠ c → va_up w c (1, 1) x = w x := fun x hx => am_vup hx
  have g5 : ∀ g, g ≠ 5000 → am_fR (am_sfR (am_sfR σ 7005 c (am_fR σ 5000 1038)) 5000 1038 (some c)) g 1038 = am_fR σ g 1038 := fun g hg => (rR_g hg).trans (rR_n (fun z => ne z.symm))
  refine ⟨⟨(hw' 1038 (fun z => ne z.symm)).trans h1, h2⟩, ?_, ?_, ?_, ?_⟩
  · refine ⟨rR_same, ⟨up_same, b2, b3⟩, a0.nin (kn _ (Or.inl ⟨rfl, by decide⟩)), ?_⟩
    rw [rR_n ne, rR_same]
    exact a0.mv e hw' (a0.nin (kn _ (Or.inl ⟨rfl, by decide⟩))) (a0.nin (by rw [h1]; simp))
  · rw [g5 5001 (by decide)]
    exact a1.mv e hw' (a1.nin (kn _ (Or.inl ⟨rfl, by decide⟩))) (a1.nin (by rw [h1]; simp))
  · rw [g5 5002 (by decide)]
    exact a2.mv e hw' (kn _ (Or.inl ⟨rfl, by decide⟩)) (by rw [h1]; simp)
  · rw [g5 5003 (by decide)]
    exact a3.mv e hw' (a3.nin (kn _ (Or.inl ⟨rfl, by decide⟩))) (a3.nin (by rw [h1]; simp))
theorem Stk.pushP (S : Stk σ w lE lP lL lC) (b1 : w c = k) (hk : ¬ stK k) (b2 : am_kd σ c = (10, 0)) (b3 : 1000 ≤ c) : Stk (am_sfR (am_sfR σ 9005 c (am_fR σ 5001 1038)) 5001 1038 (some c)) (va_up w c (1, 2)) lE (c :: lP) lL lC := by
  obtain ⟨⟨h1, h2⟩, a0, a1, a2, a3⟩ := S
  have kn : ∀ q, stK q → w c ≠ q := fun q hq z => hk (by rw [← b1, z]; exact hq)
  have ne : c ≠ 1038 := fun z => kn (2, 1038) (Or.inr rfl) (by rw [z]; exact h1)
  have e : ∀ x, x ≠ 1038 → x ≠ c → am_eqc σ (am_sfR (am_sfR σ 9005 c (am_fR σ 5001 1038)) 5001 1038 (some c)) x := fun x x1 x2 => (eqc_sfR x2).trans (eqc_sfR x1)
  have hw' : ∀ x, x ≠ c → va_up w c (1, 2) x = w x := fun x hx => am_vup hx
  have g5 : ∀ g, g ≠ 5001 → am_fR (am_sfR (am_sfR σ 9005 c (am_fR σ 5001 1038)) 5001 1038 (some c)) g 1038 = am_fR σ g 1038 := fun g hg => (rR_g hg).trans (rR_n (fun z => ne z.symm))
  refine ⟨⟨(hw' 1038 (fun z => ne z.symm)).trans h1, h2⟩, ?_, ?_, ?_, ?_⟩
  · rw [g5 5000 (by decide)]
    exact a0.mv e hw' (a0.nin (kn _ (Or.inl ⟨rfl, by decide⟩))) (a0.nin (by rw [h1]; simp))
  · refine ⟨rR_same, ⟨up_same, b2, b3⟩, a1.nin (kn _ (Or.inl ⟨rfl, by decide⟩)), ?_⟩
    rw [rR_n ne, rR_same]
    exact a1.mv e hw' (a1.nin (kn _ (Or.inl ⟨rfl, by decide⟩))) (a1.nin (by rw [h1]; simp))
  · rw [g5 5002 (by decide)]
    exact a2.mv e hw' (kn _ (Or.inl ⟨rfl, by decide⟩)) (by rw [h1]; simp)
  · rw [g5 5003 (by decide)]
    exact a3.mv e hw' (a3.nin (kn _ (Or.inl ⟨rfl, by decide⟩))) (a3.nin (by rw [h1]; simp))
theorem Stk.pushC (S : Stk σ w lE lP lL lC) (b1 : w c = k) (hk : ¬ stK k) (b2 : am_kd σ c = (12, 0)) (b3 : 1000 ≤ c) : Stk (am_sfR (am_sfR σ 11007 c (am_fR σ 5003 1038)) 5003 1038 (some c)) (va_up w c (1, 4)) lE lP lL (c :: lC) := by
  obtain ⟨⟨h1, h2⟩, a0, a1, a2, a3⟩ := S
  have kn : ∀ q, stK q → w c ≠ q := fun q hq z => hk (by rw [← b1, z]; exact hq)
  have ne : c ≠ 1038 := fun z => kn (2, 1038) (Or.inr rfl) (by rw [z]; exact h1)
  have e : ∀ x, x ≠ 1038 → x ≠ c → am_eqc σ (am_sfR (am_sfR σ 11007 c (am_fR σ 5003 1038)) 5003 1038 (some c)) x := fun x x1 x2 => (eqc_sfR x2).trans (eqc_sfR x1)
  have hw' : ∀ x, x ≠ c → va_up w c (1, 4) x = w x := fun x hx => am_vup hx
  have g5 : ∀ g, g ≠ 5003 → am_fR (am_sfR (am_sfR σ 11007 c (am_fR σ 5003 1038)) 5003 1038 (some c)) g 1038 = am_fR σ g 1038 := fun g hg => (rR_g hg).trans (rR_n (fun z => ne z.symm))
  refine ⟨⟨(hw' 1038 (fun z => ne z.symm)).trans h1, h2⟩, ?_, ?_, ?_, ?_⟩
  · rw [g5 5000 (by decide)]
    exact a0.mv e hw' (a0.nin (kn _ (Or.inl ⟨rfl, by decide⟩))) (a0.nin (by rw [h1]; simp))
  · rw [g5 5001 (by decide)]
    exact a1.mv e hw' (a1.nin (kn _ (Or.inl ⟨rfl, by decide⟩))) (a1.nin (by rw [h1]; simp))
  · rw [g5 5002 (by decide)]
    exact a2.mv e hw' (kn _ (Or.inl ⟨rfl, by decide⟩)) (by rw [h1]; simp)
  · refine ⟨rR_same, ⟨up_same, b2, b3⟩, a3.nin (kn _ (Or.inl ⟨rfl, by decide⟩)), ?_⟩
    rw [rR_n ne, rR_same]
    exact a3.mv e hw' (a3.nin (kn _ (Or.inl ⟨rfl, by decide⟩))) (a3.nin (by rw [h1]; simp))
theorem psh_eff {g g' : Nat} {a : Option Nat} {k1 : Nat × Nat} (h1 : w 1038 = (2, 1038)) (b1 : w c = k) (h0 : k ≠ (0, 0)) (ho : OwI σ w) : Eff (fun q => stK q ∨ q = k) σ w (am_sfR (am_sfR σ g c a) g' 1038 (some c)) (va_up w c k1) := by
  refine ⟨fun x hx => ?_, fun q hq hq0 x hx => ?_⟩
  · have hx : am_nx σ ≤ x := hx
    rw [am_vup (fun z => h0 (by rw [← b1, ← z]; exact ho x hx))]
    exact ho x hx
  · have x1 : x ≠ 1038 := fun z => hq (Or.inl (by rw [← hx, z, h1]; exact Or.inr rfl))
    have x2 : x ≠ c := fun z => hq (Or.inr (by rw [← hx, z, b1]))
    exact ⟨(am_vup x2).trans hx, (eqc_sfR x2).trans (eqc_sfR x1)⟩
/-- cells of the owner k that stay his -/
def Stay (k : Nat × Nat) (cs : List Nat) (σ : am_S) (w : ow_T) (σ' : am_S) (w' : ow_T) : Prop := ∀ c, c ∉ cs → w c = k → w' c = k ∧ am_eqc σ σ' c
theorem sk_putBackAll {F : am_S → Prop} (hk : ¬ stK k) (h0 : k ≠ (0, 0)) : ∀ (cs : List Nat) (σ : am_S) (w : ow_T) (lE : List Nat) (h x1 : Option Nat) (x2 : Option Value), Stk σ w lE lP lL lC → OwI σ w → Rch (am_fR σ 7005) h cs → (∀ c ∈ cs, w c = k ∧ am_kd σ c = (8, 0) ∧ 1000 ≤ c) → (∀ σ' w', Stk σ' w' (cs.reverse ++ lE) lP lL lC → Eff (fun q => stK q ∨ q = k) σ w σ' w' → (am_kd σ' = am_kd σ ∧ am_nx σ' = am_nx σ ∧ am_sl σ' = am_sl σ) → Stay k cs σ w σ' w' → F σ') → c_Sk_putBackAll_2 nl Ln xs (d + 2) 1038 x1 x2 h σ F := by
  intro cs
  induction cs with
  | nil =>
    intro σ w lE h x1 x2 S ho hr hc K
    have hr : h = none := hr
    subst hr
    exact w_Sk_putBackAll_2 ⟨fun _ => K σ w S (Eff.rf ho) ⟨rfl, rfl, rfl⟩ (fun c _ hc => ⟨hc, am_eqc.rf⟩), fun z => absurd rfl z⟩
  | cons c cs ih =>
    intro σ w lE h x1 x2 S ho hr hc K
    have nin := hr.nin
    obtain ⟨rfl, hr⟩ := hr
    obtain ⟨b1, b2, b3⟩ := hc c List.mem_cons_self
    have ne : c ≠ 1038 := fun z => hk (by rw [← b1, z, S.1.1]; exact Or.inr rfl)
    refine w_Sk_putBackAll_2 ⟨fun z => absurd z (by simp), fun _ => ⟨is_mk b2, ?_⟩⟩
    rw [Option.getD_some]
    rintro v3 rfl
    refine ⟨S.cell, w_Sk_putBack ⟨S.cell, is_mk b2, ?_⟩⟩
    rw [Option.getD_some]
    rintro s3 rfl s6 rfl
    intro _
    have S6 := S.pushE b1 hk b2 b3
    have E6 : Eff (fun q => stK q ∨ q = k) σ w (am_sfR (am_sfR σ 7005 c (am_fR σ 5000 1038)) 5000 1038 (some c)) (va_up w c (1, 1)) := psh_eff S.1.1 b1 h0 ho
    have e6 : ∀ x, x ∈ cs → am_eqc σ (am_sfR (am_sfR σ 7005 c (am_fR σ 5000 1038)) 5000 1038 (some c)) x ∧ va_up w c (1, 1) x = k := fun x hx => by
      have x2 : x ≠ c := fun z => nin (by rw [← z]; exact hx)
      have hw := (hc x (List.mem_cons_of_mem _ hx)).1
      have x1 : x ≠ 1038 := fun z => hk (by rw [← hw, z, S.1.1]; exact Or.inr rfl)
      exact ⟨(eqc_sfR x2).trans (eqc_sfR x1), (am_vup x2).trans hw⟩
    refine ih _ _ _ _ _ _ S6 E6.1 (hr.mono (fun x hx => (e6 x hx).1.fR)) (fun x hx => ?_) (fun σ' w' S' E' f' st => K σ' w' ?_ (E6.trans E') f' (fun x hx hw => ?_))
    · have := hc x (List.mem_cons_of_mem _ hx)
      exact ⟨(e6 x hx).2, this.2.1, this.2.2⟩
    · rw [List.reverse_cons, List.append_assoc]
      exact S'
    · have x2 : x ≠ c := fun z => hx (by rw [z]; exact List.mem_cons_self)
      have x1 : x ≠ 1038 := fun z => hk (by rw [← hw, z, S.1.1]; exact Or.inr rfl)
      have := st x (fun z => hx (List.mem_cons_of_mem _ z)) ((am_vup x2).trans hw)
      exact ⟨this.1, ((eqc_sfR x2).trans (eqc_sfR x1)).trans this.2⟩
end
