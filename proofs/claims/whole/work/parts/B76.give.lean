/-! THE CLASS: what a book gave back: cases and losses -/
section
variable {nl : Bool} {Ln : Nat} {xs : Nat → Int32} {d : Nat} {σ : am_S} {w : ow_T} {k : Nat × Nat} {c s m : Nat} {lE lP lC : List Nat} {lL : List (Nat × Nat × Nat)}
def w3L (w : ow_T) (c s m : Nat) : ow_T := va_up (va_up (va_up w c (1, 3)) s (1, 3)) m (1, 3)
theorem w3L_n {x : Nat} (h1 : x ≠ c) (h2 : x ≠ s) (h3 : x ≠ m) : w3L w c s m x = w x := by
  unfold w3L
  rw [am_vup h3, am_vup h2, am_vup h1]
theorem w3L_3 (h1 : c ≠ s) (h2 : c ≠ m) (h3 : s ≠ m) : w3L w c s m c = (1, 3) ∧ w3L w c s m s = (1, 3) ∧ w3L w c s m m = (1, 3) := by
  unfold w3L
  refine ⟨?_, ?_, up_same⟩
  · rw [am_vup h2, am_vup h1, up_same]
  · rw [am_vup h3, up_same]
theorem Stk.pushL (S : Stk σ w lE lP lL lC) (ho : OwI σ w) (hL : LsO σ w k c s m) (hk : ¬ stK k) (h0 : k ≠ (0, 0)) : Stk (am_sfR (am_sfR σ 10009 c (am_fR σ 5002 1038)) 5002 1038 (some c)) (w3L w c s m) lE lP ((c, s, m) :: lL) lC ∧ Eff (fun q => stK q ∨ q = k) σ w (am_sfR (am_sfR σ 10009 c (am_fR σ 5002 1038)) 5002 1038 (some c)) (w3L w c s m) := by
  obtain ⟨⟨h1, h2⟩, a0, a1, a2, a3⟩ := S
  obtain ⟨⟨c1, c2, c3⟩, ⟨s1, s2, s3⟩, m1, m2, m3⟩ := id hL
  have kn : ∀ {y : Nat} (q : Nat × Nat), w y = k → stK q → w y ≠ q := fun {y} q hy hq z => hk (by rw [← hy, z]; exact hq)
  have n38 : ∀ {y : Nat}, w y = k → y ≠ 1038 := fun {y} hy z => kn (2, 1038) hy (Or.inr rfl) (by rw [z]; exact h1)
  have cs : c ≠ s := fun z => by rw [z, s3] at c2; exact absurd c2 (by decide)
  have cm : c ≠ m := fun z => by rw [z, m3] at c2; exact absurd c2 (by decide)
  have sm : s ≠ m := fun z => by rw [z, m3] at s3; exact absurd s3 (by decide)
  obtain ⟨σ', es⟩ : ∃ σ', σ' = am_sfR (am_sfR σ 10009 c (am_fR σ 5002 1038)) 5002 1038 (some c) := ⟨_, rfl⟩
  rw [← es]
  have e : ∀ x, x ≠ 1038 → x ≠ c → am_eqc σ σ' x := fun x x1 x2 => by rw [es]; exact (eqc_sfR x2).trans (eqc_sfR x1)
  have g5 : ∀ g, g ≠ 5002 → am_fR σ' g 1038 = am_fR σ g 1038 := fun g hg => by rw [es]; exact (rR_g hg).trans (rR_n (fun z => n38 c1 z.symm))
  have gc : ∀ g, g ≠ 10009 → am_fR σ' g c = am_fR σ g c := fun g hg => by rw [es]; exact (rR_n (n38 c1)).trans (rR_g hg)
  have kd' : am_kd σ' = am_kd σ := by rw [es]
  have wn : ∀ x, w x ≠ k → w3L w c s m x = w x := fun x hx => w3L_n (fun z => hx (by rw [z]; exact c1)) (fun z => hx (by rw [z]; exact s2)) (fun z => hx (by rw [z]; exact m2))
  have w3 := w3L_3 (w := w) cs cm sm
  have ok : ∀ q, stK q → q ≠ (2, 1038) → ∀ x, w x = q → w3L w c s m x = q ∧ am_eqc σ σ' x := fun q hq hq2 x hx => by
    have hxk : w x ≠ k := fun z => hk (by rw [← z, hx]; exact hq)
    exact ⟨(wn x hxk).trans hx, e x (fun z => hq2 (by rw [← hx, z, h1])) (fun z => hxk (by rw [z]; exact c1))⟩
  have w38 : w 1038 ≠ k := fun z => hk (by rw [← z, h1]; exact Or.inr rfl)
  refine ⟨⟨⟨(wn 1038 w38).trans h1, by rw [kd']; exact h2⟩, ?_, ?_, ?_, ?_⟩, ?_⟩
  · rw [g5 5000 (by decide)]
    exact a0.eqc (fun x hx => ok (1, 1) (Or.inl ⟨rfl, by decide⟩) (by simp) x (a0.mem x hx).1)
  · rw [g5 5001 (by decide)]
    exact a1.eqc (fun x hx => ok (1, 2) (Or.inl ⟨rfl, by decide⟩) (by simp) x (a1.mem x hx).1)
  · have o3 := ok (1, 3) (Or.inl ⟨rfl, by decide⟩) (by simp)
    have n3 : ∀ {x y : Nat}, w x = (1, 3) → w y = k → x ≠ y := fun {x y} hx hy z => hk (by rw [← hy, ← z, hx]; exact Or.inl ⟨rfl, by decide⟩)
    refine ⟨by rw [es]; exact rR_same, ⟨⟨w3.1, by rw [kd']; exact c2, c3⟩, ⟨(gc _ (by decide)).trans s1, w3.2.1, by rw [kd']; exact s3⟩, (gc _ (by decide)).trans m1, w3.2.2, by rw [kd']; exact m3⟩, fun r hr => ?_, ?_⟩
    · have hm := a2.mem r hr
      exact ⟨n3 hm.1.1 c1, n3 hm.2.1.2.1 s2, n3 hm.2.2.2.1 m2⟩
    · have : am_fR σ' 10009 c = am_fR σ 5002 1038 := by rw [es]; exact (rR_n (n38 c1)).trans rR_same
      rw [this]
      exact a2.eqc (fun q hq => ⟨o3 _ (a2.mem q hq).1.1, o3 _ (a2.mem q hq).2.1.2.1, o3 _ (a2.mem q hq).2.2.2.1⟩)
  · rw [g5 5003 (by decide)]
    exact a3.eqc (fun x hx => ok (1, 4) (Or.inl ⟨rfl, by decide⟩) (by simp) x (a3.mem x hx).1)
  · refine ⟨fun x hx => ?_, fun q hq hq0 x hx => ?_⟩
    · have hx' : am_nx σ ≤ x := by rw [es] at hx; exact hx
      have hw0 := ho x hx'
      rw [wn x (fun z => h0 (by rw [← z]; exact hw0))]
      exact hw0
    · have hxk : w x ≠ k := fun z => hq (Or.inr (by rw [← hx, z]))
      exact ⟨(wn x hxk).trans hx, e x (fun z => hq (by rw [← hx, z, h1]; exact Or.inl (Or.inr rfl))) (fun z => hxk (by rw [z]; exact c1))⟩
/-- a case goes back, with its facts -/
theorem sk_putCase {fs : List mFact} {F : am_S → Prop} (hk : ¬ stK k) (h0 : k ≠ (0, 0)) (S : Stk σ w lE lP lL lC) (ho : OwI σ w) (h : CsF σ w k c fs) (hc : 1000 ≤ c)
    (K : ∀ σ' w' lE', Stk σ' w' lE' lP lL (c :: lC) → lE'.length = lE.length + fs.length → Eff (fun q => stK q ∨ q = k) σ w σ' w' → (am_kd σ' = am_kd σ ∧ am_nx σ' = am_nx σ ∧ am_sl σ' = am_sl σ) → F σ') : k_Sk_putBackCase nl Ln xs (d + 3) 1038 (some c) σ F := by
  obtain ⟨h1, h2, h3⟩ := h
  refine low (fun hL => w_Sk_putBackCase ⟨is_mk h2, S.cell, w_Sk_putBackAll ?_⟩)
  obtain ⟨cs, r1, r2, r3⟩ := Chn.cells (R := fun y => w y = k ∧ am_kd σ y = (8, 0) ∧ 1000 ≤ y) (fun y x hy => ⟨hy.1, hy.2.1, by
    apply Classical.byContradiction
    intro z
    have := hL y (by omega)
    rw [hy.2.1] at this
    exact absurd this (by decide)⟩) h3
  rw [Option.getD_some]
  refine sk_putBackAll (d := d) hk h0 cs σ w lE _ _ _ S ho r1 r3 (fun s1 w1 S1 E1 k1 st _ => ?_)
  have cin : c ∉ cs := fun z => by
    have := (r3 c z).2.1
    rw [h2] at this
    exact absurd this (by decide)
  have cst := st c cin h1
  intro s5 e5 s8 e8
  have kd5 : am_kd s1 c = (12, 0) := by rw [k1.1]; exact h2
  have S8 := S1.pushC cst.1 hk kd5 hc
  have E8 := psh_eff (k1 := (1, 4)) (g := 11007) (g' := 5003) (a := am_fR s1 5003 1038) S1.1.1 cst.1 h0 E1.1
  rw [e8, e5]
  refine K _ _ _ S8 ?_ (E1.trans E8) ⟨k1.1, k1.2.1, k1.2.2⟩
  rw [List.length_append, List.length_reverse, r2, List.length_reverse]
  omega
end
