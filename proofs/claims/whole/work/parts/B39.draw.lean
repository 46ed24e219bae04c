/-! THE CLASS: policies and cases from the stock -/
section
variable {nl : Bool} {Ln : Nat} {xs : Nat → Int32} {d : Nat} {σ : am_S} {w : ow_T} {k : Nat × Nat} {lE lP lC : List Nat} {lL : List (Nat × Nat × Nat)}
def PoN (σ : am_S) (w : ow_T) (k : Nat × Nat) (c : Nat) (no kind fst lst : Int32) : Prop := (w c = k ∧ am_kd σ c = (10, 0) ∧ 1000 ≤ c) ∧ am_fI σ 9000 c = no ∧ am_fI σ 9001 c = kind ∧ am_fI σ 9002 c = fst ∧ am_fI σ 9003 c = lst ∧ am_fR σ 9004 c = none
theorem sk_drawPolicy {no : Int32} {kind : Int32} {fst : Int32} {lst : Int32} {F : Option Nat → am_S → Prop} (S : Stk σ w lE lP lL lC) (ho : OwI σ w) (hn : 1039 ≤ am_nx σ)
    (K : ∀ σ' w' c, PoN σ' w' k c no kind fst lst → Stk σ' w' lE lP.tail lL lC → Eff stK σ w σ' w' → w c = (1, 2) ∨ w c = (0, 0) → am_nx σ' = am_nx σ + (if lP = [] then 1 else 0) → am_sl σ' = am_sl σ + (if lP = [] then 6 else 0) → F (some c) σ') : k_Sk_drawPolicy nl Ln xs (d + 2) 1038 no kind fst lst σ F := by
  have go : ∀ (s : am_S) (w1 : ow_T) (c : Nat) (l : List Nat), Stk s w1 lE l lL lC → OwI s w1 → Fls s w1 (1, 2) 10 9005 (some c) (c :: l.tail) → (∀ σ' w', PoN σ' w' k c no kind fst lst → Stk σ' w' lE l.tail lL lC → Eff stK s w1 σ' w' → am_nx σ' = am_nx s → am_sl σ' = am_sl s → F (some c) σ') → c_Sk_drawPolicy_21 nl Ln xs (d + 2) 1038 no kind fst lst (some c) s F := by
    intro s w1 c l S1 o1 hL K1
    obtain ⟨⟨h1, h2⟩, a0, a1, a2, a3⟩ := S1
    obtain ⟨-, ⟨b1, b2, b3⟩, b4, b5⟩ := hL
    have ne : c ≠ 1038 := fun z => by rw [z, h1] at b1; simp at b1
    refine w_Sk_drawPolicy_21 ⟨is_mk b2, is_mk h2, ?_⟩
    rw [Option.getD_some]
    intro s0 qs0 s1 qs1 s2 qs2 s3 qs3 s4 qs4 s5 qs5
    have e : ∀ x, x ≠ 1038 → x ≠ c → am_eqc s s5 x := fun x x1 x2 => by
      rw [qs5, qs4, qs3, qs2, qs1, qs0]
      exact ((((((eqc_sfR x1).trans (eqc_sfI x2)).trans (eqc_sfI x2)).trans (eqc_sfI x2)).trans (eqc_sfI x2)).trans (eqc_sfR x2))
    have f0 : am_kd s5 = am_kd s ∧ am_nx s5 = am_nx s ∧ am_sl s5 = am_sl s := by rw [qs5, qs4, qs3, qs2, qs1, qs0]; exact ⟨rfl, rfl, rfl⟩
    have g3 : ∀ g, am_fR s5 g 1038 = am_fR s0 g 1038 := fun g => by
      rw [qs5, rR_n (fun z => ne z.symm)]
      rw [qs4]
      show am_fR s3 g 1038 = _
      rw [qs3]
      show am_fR s2 g 1038 = _
      rw [qs2]
      show am_fR s1 g 1038 = _
      rw [qs1]
    have g50 : am_fR s5 5001 1038 = am_fR s 9005 c := by rw [g3, qs0]; exact rR_same
    have g5 : ∀ g, g ≠ 5001 → am_fR s5 g 1038 = am_fR s g 1038 := fun g hg => by rw [g3, qs0]; exact rR_g hg
    have hw' : ∀ x, x ≠ c → va_up w1 c k x = w1 x := fun x hx => am_vup hx
    have E : Eff stK s w1 s5 (va_up w1 c k) := stk_eff h1 b1 (by decide) o1 f0.2.1 e
    refine K1 s5 (va_up w1 c k) ⟨⟨up_same, by rw [f0.1]; exact b2, b3⟩, ?_, ?_, ?_, ?_, ?_⟩ ⟨⟨(hw' 1038 (fun z => ne z.symm)).trans h1, by rw [f0.1]; exact h2⟩, ?_, ?_, ?_, ?_⟩ E f0.2.1 f0.2.2
    · rw [qs5]
      show am_fI s4 9000 c = _
      rw [qs4, rI_g (by decide)]
      rw [qs3, rI_g (by decide)]
      rw [qs2, rI_g (by decide)]
      rw [qs1]
      exact rI_same
    · rw [qs5]
      show am_fI s4 9001 c = _
      rw [qs4, rI_g (by decide)]
      rw [qs3, rI_g (by decide)]
      rw [qs2]
      exact rI_same
    · rw [qs5]
      show am_fI s4 9002 c = _
      rw [qs4, rI_g (by decide)]
      rw [qs3]
      exact rI_same
    · rw [qs5]
      show am_fI s4 9003 c = _
      rw [qs4]
      exact rI_same
    · rw [qs5]
      exact rR_same
    · rw [g5 5000 (by decide)]
      exact a0.mv e hw' (a0.nin (by rw [b1]; simp)) (a0.nin (by rw [h1]; simp))
    · rw [g50]
      exact b5.mv e hw' b4 (b5.nin (by rw [h1]; simp))
    · rw [g5 5002 (by decide)]
      exact a2.mv e hw' (by rw [b1]; simp) (by rw [h1]; simp)
    · rw [g5 5003 (by decide)]
      exact a3.mv e hw' (a3.nin (by rw [b1]; simp)) (a3.nin (by rw [h1]; simp))
  refine w_Sk_drawPolicy ⟨S.cell, fun h0 => ?_, fun h0 => ?_⟩
  · have hE : lP = [] := by
      cases lP with
      | nil => rfl
      | cons c l => exact absurd (S.2.2.1.1.symm.trans h0) (by simp)
    subst hE
    rintro s3 rfl _ hz
    refine w_Po_init (fun _ => ?_)
    have S3 := S.new (k := (1, 2)) (kd := 10) (len := 0) (sl := 6) ho
    have E3 : Eff stK σ w (am_new σ 10 0 6) (va_up w (am_nx σ) (1, 2)) := Eff.new ho
    refine go _ _ _ [] S3 E3.1 ⟨rfl, ⟨up_same, new_kd, by omega⟩, by simp, (hz 9005).2.2.1⟩ (fun σ' w' h1 h2 h3 h4 h5 => ?_)
    exact K σ' w' _ h1 h2 (E3.trans h3) (Or.inr (ho _ (Nat.le_refl _))) (by rw [h4, if_pos rfl, new_nx]) (by rw [h5, if_pos rfl, new_sl])
  · cases lP with
    | nil => exact absurd S.2.2.1 h0
    | cons c l =>
      obtain ⟨b1, b2, b3, b4⟩ := S.2.2.1
      rw [b1]
      refine go σ w c (c :: l) S ho ⟨rfl, b2, b3, b4⟩ (fun σ' w' h1 h2 h3 h4 h5 => ?_)
      exact K σ' w' c h1 h2 h3 (Or.inl b2.1) (by rw [h4, if_neg (by simp)]; rfl) (by rw [h5, if_neg (by simp)]; rfl)
def CsN (σ : am_S) (w : ow_T) (k : Nat × Nat) (c : Nat) (pol : Option Nat) (place : Int32) (los : Option Nat) (notice mom : Int32) : Prop := (w c = k ∧ am_kd σ c = (12, 0) ∧ 1000 ≤ c) ∧ am_fR σ 11000 c = pol ∧ am_fI σ 11001 c = place ∧ am_fR σ 11002 c = los ∧ am_fI σ 11003 c = notice ∧ am_fI σ 11004 c = mom ∧ am_fR σ 11005 c = none ∧ am_fI σ 11006 c = 0
theorem sk_drawCase {pol : Option Nat} {place : Int32} {los : Option Nat} {notice : Int32} {mom : Int32} {F : Option Nat → am_S → Prop} (S : Stk σ w lE lP lL lC) (ho : OwI σ w) (hn : 1039 ≤ am_nx σ)
    (K : ∀ σ' w' c, CsN σ' w' k c pol place los notice mom → Stk σ' w' lE lP lL lC.tail → Eff stK σ w σ' w' → w c = (1, 4) ∨ w c = (0, 0) → am_nx σ' = am_nx σ + (if lC = [] then 1 else 0) → am_sl σ' = am_sl σ + (if lC = [] then 8 else 0) → F (some c) σ') : k_Sk_drawCase nl Ln xs (d + 2) 1038 pol place los notice mom σ F := by
  have go : ∀ (s : am_S) (w1 : ow_T) (c : Nat) (l : List Nat), Stk s w1 lE lP lL l → OwI s w1 → Fls s w1 (1, 4) 12 11007 (some c) (c :: l.tail) → (∀ σ' w', CsN σ' w' k c pol place los notice mom → Stk σ' w' lE lP lL l.tail → Eff stK s w1 σ' w' → am_nx σ' = am_nx s → am_sl σ' = am_sl s → F (some c) σ') → c_Sk_drawCase_21 nl Ln xs (d + 2) 1038 pol place los notice mom (some c) s F := by
    intro s w1 c l S1 o1 hL K1
    obtain ⟨⟨h1, h2⟩, a0, a1, a2, a3⟩ := S1
    obtain ⟨-, ⟨b1, b2, b3⟩, b4, b5⟩ := hL
    have ne : c ≠ 1038 := fun z => by rw [z, h1] at b1; simp at b1
    refine w_Sk_drawCase_21 ⟨is_mk b2, is_mk h2, ?_⟩
    rw [Option.getD_some]
    intro s0 qs0 s1 qs1 s2 qs2 s3 qs3 s4 qs4 s5 qs5 s6 qs6 s7 qs7
    have e : ∀ x, x ≠ 1038 → x ≠ c → am_eqc s s7 x := fun x x1 x2 => by
      rw [qs7, qs6, qs5, qs4, qs3, qs2, qs1, qs0]
      exact ((((((((eqc_sfR x1).trans (eqc_sfR x2)).trans (eqc_sfI x2)).trans (eqc_sfR x2)).trans (eqc_sfI x2)).trans (eqc_sfI x2)).trans (eqc_sfR x2)).trans (eqc_sfI x2))
    have f0 : am_kd s7 = am_kd s ∧ am_nx s7 = am_nx s ∧ am_sl s7 = am_sl s := by rw [qs7, qs6, qs5, qs4, qs3, qs2, qs1, qs0]; exact ⟨rfl, rfl, rfl⟩
    have g3 : ∀ g, am_fR s7 g 1038 = am_fR s0 g 1038 := fun g => by
      rw [qs7]
      show am_fR s6 g 1038 = _
      rw [qs6, rR_n (fun z => ne z.symm)]
      rw [qs5]
      show am_fR s4 g 1038 = _
      rw [qs4]
      show am_fR s3 g 1038 = _
      rw [qs3, rR_n (fun z => ne z.symm)]
      rw [qs2]
      show am_fR s1 g 1038 = _
      rw [qs1, rR_n (fun z => ne z.symm)]
    have g50 : am_fR s7 5003 1038 = am_fR s 11007 c := by rw [g3, qs0]; exact rR_same
    have g5 : ∀ g, g ≠ 5003 → am_fR s7 g 1038 = am_fR s g 1038 := fun g hg => by rw [g3, qs0]; exact rR_g hg
    have hw' : ∀ x, x ≠ c → va_up w1 c k x = w1 x := fun x hx => am_vup hx
    have E : Eff stK s w1 s7 (va_up w1 c k) := stk_eff h1 b1 (by decide) o1 f0.2.1 e
    refine K1 s7 (va_up w1 c k) ⟨⟨up_same, by rw [f0.1]; exact b2, b3⟩, ?_, ?_, ?_, ?_, ?_, ?_, ?_⟩ ⟨⟨(hw' 1038 (fun z => ne z.symm)).trans h1, by rw [f0.1]; exact h2⟩, ?_, ?_, ?_, ?_⟩ E f0.2.1 f0.2.2
    · rw [qs7]
      show am_fR s6 11000 c = _
      rw [qs6, rR_g (by decide)]
      rw [qs5]
      show am_fR s4 11000 c = _
      rw [qs4]
      show am_fR s3 11000 c = _
      rw [qs3, rR_g (by decide)]
      rw [qs2]
      show am_fR s1 11000 c = _
      rw [qs1]
      exact rR_same
    · rw [qs7, rI_g (by decide)]
      rw [qs6]
      show am_fI s5 11001 c = _
      rw [qs5, rI_g (by decide)]
      rw [qs4, rI_g (by decide)]
      rw [qs3]
      show am_fI s2 11001 c = _
      rw [qs2]
      exact rI_same
    · rw [qs7]
      show am_fR s6 11002 c = _
      rw [qs6, rR_g (by decide)]
      rw [qs5]
      show am_fR s4 11002 c = _
      rw [qs4]
      show am_fR s3 11002 c = _
      rw [qs3]
      exact rR_same
    · rw [qs7, rI_g (by decide)]
      rw [qs6]
      show am_fI s5 11003 c = _
      rw [qs5, rI_g (by decide)]
      rw [qs4]
      exact rI_same
    · rw [qs7, rI_g (by decide)]
      rw [qs6]
      show am_fI s5 11004 c = _
      rw [qs5]
      exact rI_same
    · rw [qs7]
      show am_fR s6 11005 c = _
      rw [qs6]
      exact rR_same
    · rw [qs7]
      exact rI_same
    · rw [g5 5000 (by decide)]
      exact a0.mv e hw' (a0.nin (by rw [b1]; simp)) (a0.nin (by rw [h1]; simp))
    · rw [g5 5001 (by decide)]
      exact a1.mv e hw' (a1.nin (by rw [b1]; simp)) (a1.nin (by rw [h1]; simp))
    · rw [g5 5002 (by decide)]
      exact a2.mv e hw' (by rw [b1]; simp) (by rw [h1]; simp)
    · rw [g50]
      exact b5.mv e hw' b4 (b5.nin (by rw [h1]; simp))
  refine w_Sk_drawCase ⟨S.cell, fun h0 => ?_, fun h0 => ?_⟩
  · have hE : lC = [] := by
      cases lC with
      | nil => rfl
      | cons c l => exact absurd (S.2.2.2.2.1.symm.trans h0) (by simp)
    subst hE
    rintro s3 rfl _ hz
    refine w_Cs_init (fun _ => ?_)
    have S3 := S.new (k := (1, 4)) (kd := 12) (len := 0) (sl := 8) ho
    have E3 : Eff stK σ w (am_new σ 12 0 8) (va_up w (am_nx σ) (1, 4)) := Eff.new ho
    refine go _ _ _ [] S3 E3.1 ⟨rfl, ⟨up_same, new_kd, by omega⟩, by simp, (hz 11007).2.2.1⟩ (fun σ' w' h1 h2 h3 h4 h5 => ?_)
    exact K σ' w' _ h1 h2 (E3.trans h3) (Or.inr (ho _ (Nat.le_refl _))) (by rw [h4, if_pos rfl, new_nx]) (by rw [h5, if_pos rfl, new_sl])
  · cases lC with
    | nil => exact absurd S.2.2.2.2 h0
    | cons c l =>
      obtain ⟨b1, b2, b3, b4⟩ := S.2.2.2.2
      rw [b1]
      refine go σ w c (c :: l) S ho ⟨rfl, b2, b3, b4⟩ (fun σ' w' h1 h2 h3 h4 h5 => ?_)
      exact K σ' w' c h1 h2 h3 (Or.inl b2.1) (by rw [h4, if_neg (by simp)]; rfl) (by rw [h5, if_neg (by simp)]; rfl)
end
