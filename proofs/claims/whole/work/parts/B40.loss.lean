/-! THE CLASS: losses from the stock -/
/-- one row of longs may have changed -/
def Only (a : Nat) (σ σ' : am_S) : Prop := am_kd σ' = am_kd σ ∧ am_nx σ' = am_nx σ ∧ am_sl σ' = am_sl σ ∧ (∀ c, c ≠ a → am_eqc σ σ' c) ∧ ∀ g c, am_fI σ' g c = am_fI σ g c ∧ am_fL σ' g c = am_fL σ g c ∧ am_fR σ' g c = am_fR σ g c
section
variable {nl : Bool} {Ln : Nat} {xs : Nat → Int32} {d : Nat} {σ σ1 σ2 : am_S} {w : ow_T} {k : Nat × Nat} {lE lP lC : List Nat} {lL : List (Nat × Nat × Nat)} {a : Nat}
theorem Only.rf : Only a σ σ := ⟨rfl, rfl, rfl, fun _ _ => am_eqc.rf, fun _ _ => ⟨rfl, rfl, rfl⟩⟩
theorem Only.trans (h : Only a σ σ1) (h2 : Only a σ1 σ2) : Only a σ σ2 := ⟨h2.1.trans h.1, h2.2.1.trans h.2.1, h2.2.2.1.trans h.2.2.1, fun c hc => (h.2.2.2.1 c hc).trans (h2.2.2.2.1 c hc), fun g c => ⟨(h2.2.2.2.2 g c).1.trans (h.2.2.2.2 g c).1, (h2.2.2.2.2 g c).2.1.trans (h.2.2.2.2 g c).2.1, (h2.2.2.2.2 g c).2.2.trans (h.2.2.2.2 g c).2.2⟩⟩
theorem Only.saL {i : Nat} {x : Int64} : Only a σ (am_saL σ a i x) := ⟨rfl, rfl, rfl, fun _ h => eqc_saL h, fun _ _ => ⟨rfl, rfl, rfl⟩⟩
theorem Only.saI {i : Nat} {x : Int32} : Only a σ (am_saI σ a i x) := ⟨rfl, rfl, rfl, fun _ h => eqc_saI h, fun _ _ => ⟨rfl, rfl, rfl⟩⟩
theorem Only.saR {i : Nat} {x : Option Nat} : Only a σ (am_saR σ a i x) := ⟨rfl, rfl, rfl, fun _ h => eqc_saR h, fun _ _ => ⟨rfl, rfl, rfl⟩⟩
theorem arr_fill {n : Nat} {z : Int64} {F : am_S → Prop} (k1 : am_kd σ a = (1001, n)) (hn : n < 2147483648) (K : ∀ σ', Only a σ σ' → (∀ y, y < n → am_aL σ' a y = z) → F σ') : k_Arr_fill nl Ln xs (d + 1) (some a) z σ F := by
  have loop : ∀ (m j : Nat) (s1 : am_S), j + m = n → Only a σ s1 → (∀ y, y < j → am_aL s1 a y = z) → c_Arr_fill_6 nl Ln xs (d + 1) (some a) z (Int32.ofNat j) (Int32.ofNat n) s1 F := by
    intro m
    induction m with
    | zero =>
      intro j s1 hj r h
      exact w_Arr_fill_6 ⟨fun q => absurd ((n32lt (by omega) (by omega)).mp q) (by omega), fun _ => K s1 r (fun y hy => h y (by omega))⟩
    | succ m ih =>
      intro j s1 hj r h
      refine w_Arr_fill_6 ⟨fun _ => ⟨ar_mk (by rw [r.1]; exact k1) (by rw [n32 (by omega)]; omega) (by rw [n32 (by omega)]; omega), ?_⟩, fun q => absurd ((n32lt (by omega) (by omega)).mpr (by omega)) q⟩
      rw [Option.getD_some, n32c (by omega), n32s]
      intro s3 q3
      refine ih (j + 1) s3 (by omega) (r.trans (by rw [q3]; exact Only.saL)) (fun y hy => ?_)
      rw [saL_all q3]
      by_cases hyj : y = j
      · rw [if_pos hyj]
      · rw [if_neg hyj]
        exact h y (by omega)
  refine w_Arr_fill ⟨⟨a, rfl, by rw [k1]⟩, ?_⟩
  rw [Option.getD_some, k1]
  rintro v2 rfl
  exact loop n 0 σ (by omega) Only.rf (fun y hy => absurd hy (by omega))
theorem arr_fill2 {n : Nat} {z : Int32} {F : am_S → Prop} (k1 : am_kd σ a = (1000, n)) (hn : n < 2147483648) (K : ∀ σ', Only a σ σ' → (∀ y, y < n → am_aI σ' a y = z) → F σ') : k_Arr_fill2 nl Ln xs (d + 1) (some a) z σ F := by
  have loop : ∀ (m j : Nat) (s1 : am_S), j + m = n → Only a σ s1 → (∀ y, y < j → am_aI s1 a y = z) → c_Arr_fill2_5 nl Ln xs (d + 1) (some a) z (Int32.ofNat j) (Int32.ofNat n) s1 F := by
    intro m
    induction m with
    | zero =>
      intro j s1 hj r h
      exact w_Arr_fill2_5 ⟨fun q => absurd ((n32lt (by omega) (by omega)).mp q) (by omega), fun _ => K s1 r (fun y hy => h y (by omega))⟩
    | succ m ih =>
      intro j s1 hj r h
      refine w_Arr_fill2_5 ⟨fun _ => ⟨ar_mk (by rw [r.1]; exact k1) (by rw [n32 (by omega)]; omega) (by rw [n32 (by omega)]; omega), ?_⟩, fun q => absurd ((n32lt (by omega) (by omega)).mpr (by omega)) q⟩
      rw [Option.getD_some, n32c (by omega), n32s]
      intro s3 q3
      refine ih (j + 1) s3 (by omega) (r.trans (by rw [q3]; exact Only.saI)) (fun y hy => ?_)
      rw [saI_all q3]
      by_cases hyj : y = j
      · rw [if_pos hyj]
      · rw [if_neg hyj]
        exact h y (by omega)
  refine w_Arr_fill2 ⟨⟨a, rfl, by rw [k1]⟩, ?_⟩
  rw [Option.getD_some, k1]
  rintro v2 rfl
  exact loop n 0 σ (by omega) Only.rf (fun y hy => absurd hy (by omega))
/-- a new loss -/
def LsN (σ : am_S) (w : ow_T) (k : Nat × Nat) (c s m : Nat) (no kind day : Int32) (whole : Option Nat) (hund : Int32) : Prop := LsO σ w k c s m ∧ am_fI σ 10000 c = no ∧ am_fI σ 10001 c = kind ∧ am_fI σ 10002 c = day ∧ am_fR σ 10003 c = whole ∧ am_fI σ 10004 c = hund ∧ am_fI σ 10007 c = 0 ∧ am_fI σ 10008 c = 0 ∧ ∀ y, y < 12 → am_aL σ m y = 0
theorem Stk.efL {σ' : am_S} {w' : ow_T} (S : Stk σ w lE lP [] lC) (E : Eff (fun q => q = (1, 3)) σ w σ' w') : Stk σ' w' lE lP [] lC := by
  obtain ⟨⟨h1, h2⟩, a0, a1, a2, a3⟩ := S
  have f := fun q (hq : q ≠ (1, 3)) (h0 : q ≠ (0, 0)) => E.2 q hq h0
  have c := f (2, 1038) (by simp) (by simp) 1038 h1
  refine ⟨⟨c.1, c.2.kd.trans h2⟩, ?_, ?_, c.2.fR.trans a2, ?_⟩
  · rw [c.2.fR]; exact a0.fr (f _ (by simp) (by simp))
  · rw [c.2.fR]; exact a1.fr (f _ (by simp) (by simp))
  · rw [c.2.fR]; exact a3.fr (f _ (by simp) (by simp))
theorem sk_drawLoss {no kind day : Int32} {whole : Option Nat} {hund : Int32} {F : Option Nat → am_S → Prop} (S : Stk σ w lE lP lL lC) (ho : OwI σ w) (hn : 1039 ≤ am_nx σ)
    (K : ∀ σ' w' c s m, LsN σ' w' k c s m no kind day whole hund → Stk σ' w' lE lP lL.tail lC → Eff stK σ w σ' w' → am_nx σ' = am_nx σ + (if lL = [] then 3 else 0) → am_sl σ' = am_sl σ + (if lL = [] then 28 else 0) → F (some c) σ') : k_Sk_drawLoss nl Ln xs (d + 2) 1038 no kind day whole hund σ F := by
  have go : ∀ (s : am_S) (w1 : ow_T) (q : Nat × Nat × Nat) (l : List (Nat × Nat × Nat)), Stk s w1 lE lP l lC → OwI s w1 → FlL s w1 (some q.1) (q :: l.tail) → (∀ σ' w', LsN σ' w' k q.1 q.2.1 q.2.2 no kind day whole hund → Stk σ' w' lE lP l.tail lC → Eff stK s w1 σ' w' → am_nx σ' = am_nx s → am_sl σ' = am_sl s → F (some q.1) σ') → c_Sk_drawLoss_21 nl Ln xs (d + 2) 1038 no kind day whole hund (some q.1) s F := by
    intro s w1 q l S1 o1 hL K1
    obtain ⟨c, r, m⟩ := q
    obtain ⟨⟨h1, h2⟩, a0, a1, a2, a3⟩ := S1
    obtain ⟨-, ⟨⟨b1, b2, b3⟩, ⟨b4, b5, b6⟩, b7, b8, b9⟩, b10, b11⟩ := hL
    dsimp only at b1 b2 b3 b4 b5 b6 b7 b8 b9 b10 b11 K1 ⊢
    have ne : c ≠ 1038 := fun z => by rw [z, h1] at b1; simp at b1
    have nr : r ≠ 1038 := fun z => by rw [z, h1] at b5; simp at b5
    have nm : m ≠ 1038 := fun z => by rw [z, h1] at b8; simp at b8
    have cr : c ≠ r := fun z => by rw [z, b6] at b2; simp at b2
    have cm : c ≠ m := fun z => by rw [z, b9] at b2; simp at b2
    have rm : r ≠ m := fun z => by rw [z, b9] at b6; simp at b6
    refine w_Sk_drawLoss_21 ⟨is_mk b2, is_mk h2, ?_⟩
    rw [Option.getD_some]
    intro s0 q0 s1 q1 s2 q2 s3 q3 s4 q4 s5 q5 s6 q6 s7 q7
    have e7 : ∀ x, x ≠ 1038 → x ≠ c → am_eqc s s7 x := fun x x1 x2 => by
      rw [q7, q6, q5, q4, q3, q2, q1, q0]
      exact (((((((eqc_sfR x1).trans (eqc_sfI x2)).trans (eqc_sfI x2)).trans (eqc_sfI x2)).trans (eqc_sfR x2)).trans (eqc_sfI x2)).trans (eqc_sfI x2)).trans (eqc_sfI x2)
    have f7 : am_kd s7 = am_kd s ∧ am_nx s7 = am_nx s ∧ am_sl s7 = am_sl s := by rw [q7, q6, q5, q4, q3, q2, q1, q0]; exact ⟨rfl, rfl, rfl⟩
    have fr7 : ∀ g x, g ≠ 10003 → ¬ (g = 5002 ∧ x = 1038) → am_fR s7 g x = am_fR s g x := fun g x hg hx => by
      rw [q7]
      show am_fR s6 g x = _
      rw [q6]
      show am_fR s5 g x = _
      rw [q5]
      show am_fR s4 g x = _
      rw [q4, rR_g hg, q3]
      show am_fR s2 g x = _
      rw [q2]
      show am_fR s1 g x = _
      rw [q1]
      show am_fR s0 g x = _
      rw [q0]
      by_cases h : g = 5002
      · exact rR_n (fun z => hx ⟨h, z⟩)
      · exact rR_g h
    rw [fr7 10006 c (by decide) (by simp), b7]
    refine arr_fill (d := d) (n := 12) (by rw [f7.1]; exact b9) (by decide) (fun s8 O8 z8 _ => ?_)
    have e : ∀ x, x ≠ 1038 → x ≠ c → x ≠ m → am_eqc s s8 x := fun x x1 x2 x3 => (e7 x x1 x2).trans (O8.2.2.2.1 x x3)
    have f0 : am_kd s8 = am_kd s ∧ am_nx s8 = am_nx s ∧ am_sl s8 = am_sl s := ⟨O8.1.trans f7.1, O8.2.1.trans f7.2.1, O8.2.2.1.trans f7.2.2⟩
    have fr8 : ∀ g x, g ≠ 10003 → ¬ (g = 5002 ∧ x = 1038) → am_fR s8 g x = am_fR s g x := fun g x hg hx => (O8.2.2.2.2 g x).2.2.trans (fr7 g x hg hx)
    have g50 : am_fR s8 5002 1038 = am_fR s 10009 c := by
      rw [(O8.2.2.2.2 5002 1038).2.2, q7]
      show am_fR s6 5002 1038 = _
      rw [q6]
      show am_fR s5 5002 1038 = _
      rw [q5]
      show am_fR s4 5002 1038 = _
      rw [q4, rR_g (by decide), q3]
      show am_fR s2 5002 1038 = _
      rw [q2]
      show am_fR s1 5002 1038 = _
      rw [q1]
      show am_fR s0 5002 1038 = _
      rw [q0]
      exact rR_same
    obtain ⟨w', hW⟩ : ∃ w' : ow_T, w' = va_up (va_up (va_up w1 c k) r k) m k := ⟨_, rfl⟩
    have hw' : ∀ x, x ≠ c → x ≠ r → x ≠ m → w' x = w1 x := fun x h1 h2 h3 => by rw [hW, am_vup h3, am_vup h2, am_vup h1]
    have wc : w' c = k := by rw [hW, am_vup cm, am_vup cr]; exact up_same
    have wr : w' r = k := by rw [hW, am_vup rm]; exact up_same
    have wm : w' m = k := by rw [hW]; exact up_same
    have n3 : ∀ x, w1 x ≠ (1, 3) → x ≠ c ∧ x ≠ r ∧ x ≠ m := fun x hx => ⟨fun z => hx (by rw [z]; exact b1), fun z => hx (by rw [z]; exact b5), fun z => hx (by rw [z]; exact b8)⟩
    have ok : ∀ x, w1 x ≠ (1, 3) → x ≠ 1038 → w' x = w1 x ∧ am_eqc s s8 x := fun x hx h38 => ⟨hw' x (n3 x hx).1 (n3 x hx).2.1 (n3 x hx).2.2, e x h38 (n3 x hx).1 (n3 x hx).2.2⟩
    have E : Eff stK s w1 s8 w' := by
      refine ⟨fun x hx => ?_, fun q hq hq0 x hx => ?_⟩
      · rw [f0.2.1] at hx
        have h0 := o1 x hx
        have n := n3 x (by rw [h0]; simp)
        rw [hw' x n.1 n.2.1 n.2.2]
        exact h0
      · have x1 : x ≠ 1038 := fun z => hq (by rw [← hx, z, h1]; exact Or.inr rfl)
        have x3 : w1 x ≠ (1, 3) := fun z => hq (by rw [← hx, z]; exact Or.inl ⟨rfl, by decide⟩)
        have := ok x x3 x1
        exact ⟨this.1.trans hx, this.2⟩
    have lst : ∀ {kd g : Nat} {kk : Nat × Nat} {h : Option Nat} {l : List Nat}, kk ≠ (1, 3) → kk ≠ (2, 1038) → Fls s w1 kk kd g h l → Fls s8 w' kk kd g h l := fun hk1 hk2 hh => hh.eqc (fun x hx => by
      have hm := hh.mem x hx
      have := ok x (by rw [hm.1]; exact hk1) (fun z => hk2 (by rw [← hm.1, z]; exact h1))
      exact ⟨this.1.trans hm.1, this.2⟩)
    have rI : ∀ g, am_fI s8 g c = am_fI s7 g c := fun g => (O8.2.2.2.2 g c).1
    refine K1 s8 w' ⟨⟨⟨wc, by rw [f0.1]; exact b2, b3⟩, ⟨(fr8 10005 c (by decide) (by simp)).trans b4, wr, by rw [f0.1]; exact b6⟩, (fr8 10006 c (by decide) (by simp)).trans b7, wm, by rw [f0.1]; exact b9⟩, ?_, ?_, ?_, ?_, ?_, ?_, ?_, z8⟩ ⟨⟨?_, by rw [f0.1]; exact h2⟩, ?_, ?_, ?_, ?_⟩ E f0.2.1 f0.2.2
    · rw [rI, q7, rI_g (by decide), q6, rI_g (by decide), q5, rI_g (by decide), q4]
      show am_fI s3 10000 c = _
      rw [q3, rI_g (by decide), q2, rI_g (by decide), q1]
      exact rI_same
    · rw [rI, q7, rI_g (by decide), q6, rI_g (by decide), q5, rI_g (by decide), q4]
      show am_fI s3 10001 c = _
      rw [q3, rI_g (by decide), q2]
      exact rI_same
    · rw [rI, q7, rI_g (by decide), q6, rI_g (by decide), q5, rI_g (by decide), q4]
      show am_fI s3 10002 c = _
      rw [q3]
      exact rI_same
    · rw [(O8.2.2.2.2 10003 c).2.2, q7]
      show am_fR s6 10003 c = _
      rw [q6]
      show am_fR s5 10003 c = _
      rw [q5]
      show am_fR s4 10003 c = _
      rw [q4]
      exact rR_same
    · rw [rI, q7, rI_g (by decide), q6, rI_g (by decide), q5]
      exact rI_same
    · rw [rI, q7, rI_g (by decide), q6]
      exact rI_same
    · rw [rI, q7]
      exact rI_same
    · exact (hw' 1038 (fun z => ne z.symm) (fun z => nr z.symm) (fun z => nm z.symm)).trans h1
    · rw [fr8 5000 1038 (by decide) (by simp)]
      exact lst (by simp) (by simp) a0
    · rw [fr8 5001 1038 (by decide) (by simp)]
      exact lst (by simp) (by simp) a1
    · rw [g50]
      refine b11.eqc (fun t ht => ?_)
      have hm := b11.mem t ht
      have hd := b10 t ht
      have t1 : t.1 ≠ r := fun z => by have := hm.1.2.1; rw [z, b6] at this; simp at this
      have t2 : t.1 ≠ m := fun z => by have := hm.1.2.1; rw [z, b9] at this; simp at this
      have t3 : t.2.1 ≠ c := fun z => by have := hm.2.1.2.2; rw [z, b2] at this; simp at this
      have t4 : t.2.1 ≠ m := fun z => by have := hm.2.1.2.2; rw [z, b9] at this; simp at this
      have t5 : t.2.2 ≠ c := fun z => by have := hm.2.2.2.2; rw [z, b2] at this; simp at this
      have t6 : t.2.2 ≠ r := fun z => by have := hm.2.2.2.2; rw [z, b6] at this; simp at this
      have n38 : ∀ x, w1 x = (1, 3) → x ≠ 1038 := fun x hx z => by rw [z, h1] at hx; simp at hx
      exact ⟨⟨(hw' _ hd.1 t1 t2).trans hm.1.1, e _ (n38 _ hm.1.1) hd.1 t2⟩, ⟨(hw' _ t3 hd.2.1 t4).trans hm.2.1.2.1, e _ (n38 _ hm.2.1.2.1) t3 t4⟩, ⟨(hw' _ t5 t6 hd.2.2).trans hm.2.2.2.1, e _ (n38 _ hm.2.2.2.1) t5 hd.2.2⟩⟩
    · rw [fr8 5003 1038 (by decide) (by simp)]
      exact lst (by simp) (by simp) a3
  refine w_Sk_drawLoss ⟨S.cell, fun h0 => ?_, fun h0 => ?_⟩
  · have hE : lL = [] := by
      cases lL with
      | nil => rfl
      | cons c l => exact absurd (S.2.2.2.1.1.symm.trans h0) (by simp)
    subst hE
    intro s3 q3 _ hz
    refine w_Ls_init ?_
    intro s4 q4 _ hz4
    have n3 : am_nx s3 = am_nx σ + 1 := by rw [q3, new_nx]
    have E3 : Eff (fun q => q = (1, 3)) σ w s3 (va_up w (am_nx σ) (1, 3)) := by rw [q3]; exact Eff.new ho
    have E4 : Eff (fun q => q = (1, 3)) s3 (va_up w (am_nx σ) (1, 3)) s4 (va_up (va_up w (am_nx σ) (1, 3)) (am_nx s3) (1, 3)) := by rw [q4]; exact Eff.new E3.1
    have k3 : am_kd s3 (am_nx σ) = (11, 0) := by rw [q3]; exact new_kd
    have k4 : am_kd s4 (am_nx σ) = (11, 0) := by
      rw [q4]
      show va_up (am_kd s3) (am_nx s3) _ (am_nx σ) = _
      rw [am_vup (by omega)]
      exact k3
    refine ⟨is_mk k4, ?_⟩
    intro s5 q5 s6 q6 _ hz6 s7 q7
    rw [n3] at E4
    have w4 : va_up (va_up w (am_nx σ) (1, 3)) (am_nx σ + 1) (1, 3) (am_nx σ) = (1, 3) := by rw [am_vup (by omega)]; exact up_same
    have n4 : am_nx s4 = am_nx σ + 2 := by rw [q4, new_nx, n3]
    have n5 : am_nx s5 = am_nx σ + 2 := by rw [q5]; exact n4
    have E5 : Eff (fun q => q = (1, 3)) s4 (va_up (va_up w (am_nx σ) (1, 3)) (am_nx σ + 1) (1, 3)) s5 (va_up (va_up w (am_nx σ) (1, 3)) (am_nx σ + 1) (1, 3)) := by rw [q5]; exact Eff.sfR E4.1 w4
    have E6 : Eff (fun q => q = (1, 3)) s5 (va_up (va_up w (am_nx σ) (1, 3)) (am_nx σ + 1) (1, 3)) s6 (va_up (va_up (va_up w (am_nx σ) (1, 3)) (am_nx σ + 1) (1, 3)) (am_nx σ + 2) (1, 3)) := by
      have : Eff (fun q => q = (1, 3)) s5 (va_up (va_up w (am_nx σ) (1, 3)) (am_nx σ + 1) (1, 3)) s6 (va_up (va_up (va_up w (am_nx σ) (1, 3)) (am_nx σ + 1) (1, 3)) (am_nx s5) (1, 3)) := by rw [q6]; exact Eff.new E5.1
      rw [n5] at this
      exact this
    have w6 : va_up (va_up (va_up w (am_nx σ) (1, 3)) (am_nx σ + 1) (1, 3)) (am_nx σ + 2) (1, 3) (am_nx σ) = (1, 3) := by rw [am_vup (by omega)]; exact w4
    have E7 : Eff (fun q => q = (1, 3)) s6 (va_up (va_up (va_up w (am_nx σ) (1, 3)) (am_nx σ + 1) (1, 3)) (am_nx σ + 2) (1, 3)) s7 (va_up (va_up (va_up w (am_nx σ) (1, 3)) (am_nx σ + 1) (1, 3)) (am_nx σ + 2) (1, 3)) := by rw [q7]; exact Eff.sfR E6.1 w6
    have EE := (((E3.trans E4).trans E5).trans E6).trans E7
    have S7 := S.efL EE
    have n7 : am_nx s7 = am_nx σ + 3 := by rw [q7]; show am_nx s6 = _; rw [q6, new_nx, n5]
    have l7 : am_sl s7 = am_sl σ + 28 := by
      rw [q7]
      show am_sl s6 = _
      rw [q6, new_sl, q5]
      show am_sl s4 + 12 = _
      rw [q4, new_sl, q3, new_sl]
    have kk : ∀ x, am_kd s7 x = va_up (va_up (va_up (am_kd σ) (am_nx σ) (11, 0)) (am_nx σ + 1) (1000, 6)) (am_nx σ + 2) (1001, 12) x := fun x => by
      rw [q7]
      show am_kd s6 x = _
      rw [q6]
      show va_up (am_kd s5) (am_nx s5) (1001, 12) x = _
      rw [n5, q5]
      show va_up (am_kd s4) (am_nx σ + 2) (1001, 12) x = _
      rw [q4]
      show va_up (va_up (am_kd s3) (am_nx s3) (1000, 6)) (am_nx σ + 2) (1001, 12) x = _
      rw [n3, q3]
    have g5 : am_fR s7 10005 (am_nx σ) = some (am_nx σ + 1) := by
      rw [q7, rR_g (by decide), q6]
      show am_fR s5 10005 (am_nx σ) = _
      rw [q5, ← n3]
      exact rR_same
    have g6 : am_fR s7 10006 (am_nx σ) = some (am_nx σ + 2) := by
      rw [q7, n5]
      exact rR_same
    have g9 : am_fR s7 10009 (am_nx σ) = none := by
      rw [q7, rR_g (by decide), q6]
      show am_fR s5 10009 (am_nx σ) = _
      rw [q5, rR_g (by decide), q4]
      show am_fR s3 10009 (am_nx σ) = _
      exact (hz 10009).2.2.1
    refine fun _ => go s7 _ (am_nx σ, am_nx σ + 1, am_nx σ + 2) [] S7 EE.1 ⟨rfl, ⟨⟨w6, ?_, by show 1000 ≤ am_nx σ; omega⟩, ⟨g5, ?_, ?_⟩, g6, up_same, ?_⟩, by simp, g9⟩ (fun σ' w' h1 h2 h3 h4 h5 => ?_)
    · rw [kk, am_vup (by omega), am_vup (by omega)]
      exact up_same
    · show va_up (va_up (va_up w (am_nx σ) (1, 3)) (am_nx σ + 1) (1, 3)) (am_nx σ + 2) (1, 3) (am_nx σ + 1) = _
      rw [am_vup (by omega)]
      exact up_same
    · show am_kd s7 (am_nx σ + 1) = _
      rw [kk, am_vup (by omega)]
      exact up_same
    · show am_kd s7 (am_nx σ + 2) = _
      rw [kk]
      exact up_same
    · exact K σ' w' _ _ _ h1 h2 ((EE.mono (fun q hq => by rw [hq]; exact Or.inl ⟨rfl, by decide⟩)).trans h3) (by rw [h4, n7, if_pos rfl]) (by rw [h5, l7, if_pos rfl])
  · cases lL with
    | nil => exact absurd S.2.2.2.1 h0
    | cons q l =>
      obtain ⟨b1, b2, b3, b4⟩ := S.2.2.2.1
      rw [b1]
      refine go σ w q (q :: l) S ho ⟨rfl, b2, b3, b4⟩ (fun σ' w' h1 h2 h3 h4 h5 => ?_)
      exact K σ' w' _ _ _ h1 h2 h3 (by rw [h4, if_neg (by simp)]; rfl) (by rw [h5, if_neg (by simp)]; rfl)
end
