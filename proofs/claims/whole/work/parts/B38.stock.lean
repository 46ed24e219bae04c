/-! THE CLASS: what nobody uses any more -/
def Fls (σ : am_S) (w : ow_T) (k : Nat × Nat) (kd g : Nat) : Option Nat → List Nat → Prop
  | h, [] => h = none
  | h, c :: l => h = some c ∧ (w c = k ∧ am_kd σ c = (kd, 0) ∧ 1000 ≤ c) ∧ c ∉ l ∧ Fls σ w k kd g (am_fR σ g c) l
/-- a loss with its two rows -/
def LsO (σ : am_S) (w : ow_T) (k : Nat × Nat) (c s m : Nat) : Prop := (w c = k ∧ am_kd σ c = (11, 0) ∧ 1000 ≤ c) ∧ (am_fR σ 10005 c = some s ∧ w s = k ∧ am_kd σ s = (1000, 6)) ∧ am_fR σ 10006 c = some m ∧ w m = k ∧ am_kd σ m = (1001, 12)
def FlL (σ : am_S) (w : ow_T) : Option Nat → List (Nat × Nat × Nat) → Prop
  | h, [] => h = none
  | h, q :: l => h = some q.1 ∧ LsO σ w (1, 3) q.1 q.2.1 q.2.2 ∧ (∀ r ∈ l, r.1 ≠ q.1 ∧ r.2.1 ≠ q.2.1 ∧ r.2.2 ≠ q.2.2) ∧ FlL σ w (am_fR σ 10009 q.1) l
def Stk (σ : am_S) (w : ow_T) (lE lP : List Nat) (lL : List (Nat × Nat × Nat)) (lC : List Nat) : Prop := (w 1038 = (2, 1038) ∧ am_kd σ 1038 = (6, 0)) ∧ Fls σ w (1, 1) 8 7005 (am_fR σ 5000 1038) lE ∧ Fls σ w (1, 2) 10 9005 (am_fR σ 5001 1038) lP ∧ FlL σ w (am_fR σ 5002 1038) lL ∧ Fls σ w (1, 4) 12 11007 (am_fR σ 5003 1038) lC
section
variable {σ σ' : am_S} {w w' : ow_T} {k : Nat × Nat} {kd g : Nat}
theorem Fls.eqc : ∀ {l : List Nat} {h : Option Nat}, Fls σ w k kd g h l → (∀ c ∈ l, w' c = k ∧ am_eqc σ σ' c) → Fls σ' w' k kd g h l
  | [], _, hh, _ => hh
  | c :: l, _, hh, e => by
    obtain ⟨h1, ⟨h2, h3, h4⟩, h5, h6⟩ := hh
    obtain ⟨e1, e2⟩ := e c List.mem_cons_self
    exact ⟨h1, ⟨e1, e2.kd.trans h3, h4⟩, h5, by rw [e2.fR]; exact Fls.eqc h6 (fun x hx => e x (List.mem_cons_of_mem _ hx))⟩
theorem Fls.mem : ∀ {l : List Nat} {h : Option Nat}, Fls σ w k kd g h l → ∀ c ∈ l, w c = k ∧ am_kd σ c = (kd, 0) ∧ 1000 ≤ c
  | [], _, _, c, hc => absurd hc (by simp)
  | x :: l, _, hh, c, hc => by
    obtain ⟨h1, h2, h5, h6⟩ := hh
    rcases List.mem_cons.mp hc with rfl | hm
    · exact h2
    · exact Fls.mem h6 c hm
theorem Fls.fr {l : List Nat} {h : Option Nat} (hh : Fls σ w k kd g h l) (f : Fr σ w σ' w' k) : Fls σ' w' k kd g h l := hh.eqc (fun c hc => f c (hh.mem c hc).1)
theorem LsO.eqc {c s m : Nat} (h : LsO σ w k c s m) (h1 : w' c = k ∧ am_eqc σ σ' c) (h2 : w' s = k ∧ am_eqc σ σ' s) (h3 : w' m = k ∧ am_eqc σ σ' m) : LsO σ' w' k c s m := by
  obtain ⟨⟨a1, a2, a3⟩, ⟨b1, b2, b3⟩, c1, c2, c3⟩ := h
  exact ⟨⟨h1.1, h1.2.kd.trans a2, a3⟩, ⟨h1.2.fR.trans b1, h2.1, h2.2.kd.trans b3⟩, h1.2.fR.trans c1, h3.1, h3.2.kd.trans c3⟩
theorem FlL.eqc : ∀ {l : List (Nat × Nat × Nat)} {h : Option Nat}, FlL σ w h l → (∀ q ∈ l, (w' q.1 = (1, 3) ∧ am_eqc σ σ' q.1) ∧ (w' q.2.1 = (1, 3) ∧ am_eqc σ σ' q.2.1) ∧ (w' q.2.2 = (1, 3) ∧ am_eqc σ σ' q.2.2)) → FlL σ' w' h l
  | [], _, hh, _ => hh
  | c :: l, _, hh, e => by
    obtain ⟨h1, h2, h5, h6⟩ := hh
    obtain ⟨e1, e2, e3⟩ := e c List.mem_cons_self
    exact ⟨h1, h2.eqc e1 e2 e3, h5, by rw [e1.2.fR]; exact FlL.eqc h6 (fun x hx => e x (List.mem_cons_of_mem _ hx))⟩
theorem FlL.mem : ∀ {l : List (Nat × Nat × Nat)} {h : Option Nat}, FlL σ w h l → ∀ q ∈ l, LsO σ w (1, 3) q.1 q.2.1 q.2.2
  | [], _, _, c, hc => absurd hc (by simp)
  | x :: l, _, hh, c, hc => by
    obtain ⟨h1, h2, h5, h6⟩ := hh
    rcases List.mem_cons.mp hc with rfl | hm
    · exact h2
    · exact FlL.mem h6 c hm
theorem FlL.fr {l : List (Nat × Nat × Nat)} {h : Option Nat} (hh : FlL σ w h l) (f : Fr σ w σ' w' (1, 3)) : FlL σ' w' h l := hh.eqc (fun q hq => ⟨f _ (hh.mem q hq).1.1, f _ (hh.mem q hq).2.1.2.1, f _ (hh.mem q hq).2.2.2.1⟩)
/-- the stock's own cell -/
theorem Stk.cell {lE lP lC : List Nat} {lL : List (Nat × Nat × Nat)} (S : Stk σ w lE lP lL lC) : am_is σ (some 1038) 5 := is_mk S.1.2
def stK (q : Nat × Nat) : Prop := (q.1 = 1 ∧ q.2 ≤ 4) ∨ q = (2, 1038)
/-- a new entry -/
def EnN (σ : am_S) (w : ow_T) (k : Nat × Nat) (c : Nat) (act which mom : Int32) (val : Int64) (cl bef : Option Nat) : Prop := (w c = k ∧ am_kd σ c = (8, 0) ∧ 1000 ≤ c) ∧ am_fI σ 7000 c = act ∧ am_fI σ 7001 c = which ∧ am_fI σ 7002 c = mom ∧ am_fL σ 7003 c = val ∧ am_fR σ 7004 c = cl ∧ am_fR σ 7005 c = bef
theorem new_nx {kd len sl : Nat} : am_nx (am_new σ kd len sl) = am_nx σ + 1 := rfl
theorem new_sl {kd len sl : Nat} : am_sl (am_new σ kd len sl) = am_sl σ + sl := rfl
theorem new_kd {kd len sl : Nat} : am_kd (am_new σ kd len sl) (am_nx σ) = (kd, len) := by
  show va_up (am_kd σ) (am_nx σ) (kd, len) (am_nx σ) = _
  exact up_same
theorem ow_lt (ho : OwI σ w) {c : Nat} (h : w c ≠ (0, 0)) : c < am_nx σ := Classical.byContradiction (fun z => h (ho c (by omega)))
/-- a new cell has an owner: the stock stands -/
theorem Stk.new {lE lP lC : List Nat} {lL : List (Nat × Nat × Nat)} {kd len sl : Nat} (S : Stk σ w lE lP lL lC) (ho : OwI σ w) : Stk (am_new σ kd len sl) (va_up w (am_nx σ) k) lE lP lL lC := by
  have e : Eff (fun _ => False) σ w (am_new σ kd len sl) (va_up w (am_nx σ) k) := Eff.new ho
  have f : ∀ q, q ≠ (0, 0) → Fr σ w (am_new σ kd len sl) (va_up w (am_nx σ) k) q := fun q hq => e.2 q (fun z => z) hq
  obtain ⟨⟨h1, h2⟩, a1, a2, a3, a4⟩ := S
  have c := f (2, 1038) (by simp) 1038 h1
  refine ⟨⟨c.1, c.2.kd.trans h2⟩, ?_, ?_, ?_, ?_⟩
  · rw [c.2.fR]; exact a1.fr (f _ (by simp))
  · rw [c.2.fR]; exact a2.fr (f _ (by simp))
  · rw [c.2.fR]; exact a3.fr (f _ (by simp))
  · rw [c.2.fR]; exact a4.fr (f _ (by simp))
end
section
variable {σ σ' : am_S} {w w' : ow_T} {k k1 : Nat × Nat} {kd g c : Nat}
theorem Fls.nin {l : List Nat} {h : Option Nat} (hh : Fls σ w k kd g h l) (hc : w c ≠ k) : c ∉ l := fun z => hc (hh.mem c z).1
/-- all but two cells are as they were, and neither is in the list -/
theorem Fls.mv {l : List Nat} {h : Option Nat} (hh : Fls σ w k kd g h l) (e : ∀ x, x ≠ 1038 → x ≠ c → am_eqc σ σ' x) (hw : ∀ x, x ≠ c → w' x = w x) (h1 : c ∉ l) (h2 : 1038 ∉ l) : Fls σ' w' k kd g h l :=
  hh.eqc (fun x hx => ⟨(hw x (fun z => h1 (by rw [← z]; exact hx))).trans (hh.mem x hx).1, e x (fun z => h2 (by rw [← z]; exact hx)) (fun z => h1 (by rw [← z]; exact hx))⟩)
theorem FlL.mv {l : List (Nat × Nat × Nat)} {h : Option Nat} (hh : FlL σ w h l) (e : ∀ x, x ≠ 1038 → x ≠ c → am_eqc σ σ' x) (hw : ∀ x, x ≠ c → w' x = w x) (h1 : w c ≠ (1, 3)) (h2 : w 1038 ≠ (1, 3)) : FlL σ' w' h l := by
  have ok : ∀ x, w x = (1, 3) → w' x = (1, 3) ∧ am_eqc σ σ' x := fun x hx => ⟨(hw x (fun z => h1 (by rw [← z]; exact hx))).trans hx, e x (fun z => h2 (by rw [← z]; exact hx)) (fun z => h1 (by rw [← z]; exact hx))⟩
  exact hh.eqc (fun q hq => ⟨ok _ (hh.mem q hq).1.1, ok _ (hh.mem q hq).2.1.2.1, ok _ (hh.mem q hq).2.2.2.1⟩)
theorem stk_eff (h1 : w 1038 = (2, 1038)) (b1 : w c = k1) (hk : k1.1 = 1 ∧ k1.2 ≤ 4) (ho : OwI σ w) (hn : am_nx σ' = am_nx σ) (e : ∀ x, x ≠ 1038 → x ≠ c → am_eqc σ σ' x) : Eff stK σ w σ' (va_up w c k) := by
  refine ⟨fun x hx => ?_, fun q hq hq0 x hx => ?_⟩
  · rw [hn] at hx
    rw [am_vup (fun z => by rw [z] at hx; have := ho c hx; rw [b1] at this; rw [this] at hk; exact absurd hk.1 (by decide))]
    exact ho x hx
  · have x1 : x ≠ 1038 := fun z => hq (by rw [← hx, z, h1]; exact Or.inr rfl)
    have x2 : x ≠ c := fun z => hq (by rw [← hx, z, b1]; exact Or.inl hk)
    exact ⟨(am_vup x2).trans hx, e x x1 x2⟩
end
section
variable {nl : Bool} {Ln : Nat} {xs : Nat → Int32} {d : Nat} {σ : am_S} {w : ow_T} {k : Nat × Nat} {lE lP lC : List Nat} {lL : List (Nat × Nat × Nat)}

theorem sk_drawEntry {act : Int32} {which : Int32} {mom : Int32} {val : Int64} {cl : Option Nat} {bef : Option Nat} {F : Option Nat → am_S → Prop} (S : Stk σ w lE lP lL lC) (ho : OwI σ w) (hn : 1039 ≤ am_nx σ)
    (K : ∀ σ' w' c, EnN σ' w' k c act which mom val cl bef → Stk σ' w' lE.tail lP lL lC → Eff stK σ w σ' w' → w c = (1, 1) ∨ w c = (0, 0) → am_nx σ' = am_nx σ + (if lE = [] then 1 else 0) → am_sl σ' = am_sl σ + (if lE = [] then 10 else 0) → F (some c) σ') : k_Sk_drawEntry nl Ln xs (d + 2) 1038 act which mom val cl bef σ F := by
  have go : ∀ (s : am_S) (w1 : ow_T) (c : Nat) (l : List Nat), Stk s w1 l lP lL lC → OwI s w1 → Fls s w1 (1, 1) 8 7005 (some c) (c :: l.tail) → (∀ σ' w', EnN σ' w' k c act which mom val cl bef → Stk σ' w' l.tail lP lL lC → Eff stK s w1 σ' w' → am_nx σ' = am_nx s → am_sl σ' = am_sl s → F (some c) σ') → c_Sk_drawEntry_21 nl Ln xs (d + 2) 1038 act which mom val cl bef (some c) s F := by
    intro s w1 c l S1 o1 hL K1
    obtain ⟨⟨h1, h2⟩, a0, a1, a2, a3⟩ := S1
    obtain ⟨-, ⟨b1, b2, b3⟩, b4, b5⟩ := hL
    have ne : c ≠ 1038 := fun z => by rw [z, h1] at b1; simp at b1
    refine w_Sk_drawEntry_21 ⟨is_mk b2, is_mk h2, ?_⟩
    rw [Option.getD_some]
    intro s0 qs0 s1 qs1 s2 qs2 s3 qs3 s4 qs4 s5 qs5 s6 qs6
    have e : ∀ x, x ≠ 1038 → x ≠ c → am_eqc s s6 x := fun x x1 x2 => by
      rw [qs6, qs5, qs4, qs3, qs2, qs1, qs0]
      exact (((((((eqc_sfR x1).trans (eqc_sfI x2)).trans (eqc_sfI x2)).trans (eqc_sfI x2)).trans (eqc_sfL x2)).trans (eqc_sfR x2)).trans (eqc_sfR x2))
    have f0 : am_kd s6 = am_kd s ∧ am_nx s6 = am_nx s ∧ am_sl s6 = am_sl s := by rw [qs6, qs5, qs4, qs3, qs2, qs1, qs0]; exact ⟨rfl, rfl, rfl⟩
    have g3 : ∀ g, am_fR s6 g 1038 = am_fR s0 g 1038 := fun g => by
      rw [qs6, rR_n (fun z => ne z.symm)]
      rw [qs5, rR_n (fun z => ne z.symm)]
      rw [qs4]
      show am_fR s3 g 1038 = _
      rw [qs3]
      show am_fR s2 g 1038 = _
      rw [qs2]
      show am_fR s1 g 1038 = _
      rw [qs1]
    have g50 : am_fR s6 5000 1038 = am_fR s 7005 c := by rw [g3, qs0]; exact rR_same
    have g5 : ∀ g, g ≠ 5000 → am_fR s6 g 1038 = am_fR s g 1038 := fun g hg => by rw [g3, qs0]; exact rR_g hg
    have hw' : ∀ x, x ≠ c → va_up w1 c k x = w1 x := fun x hx => am_vup hx
    have E : Eff stK s w1 s6 (va_up w1 c k) := stk_eff h1 b1 (by decide) o1 f0.2.1 e
    refine K1 s6 (va_up w1 c k) ⟨⟨up_same, by rw [f0.1]; exact b2, b3⟩, ?_, ?_, ?_, ?_, ?_, ?_⟩ ⟨⟨(hw' 1038 (fun z => ne z.symm)).trans h1, by rw [f0.1]; exact h2⟩, ?_, ?_, ?_, ?_⟩ E f0.2.1 f0.2.2
    · rw [qs6]
      show am_fI s5 7000 c = _
      rw [qs5]
      show am_fI s4 7000 c = _
      rw [qs4]
      show am_fI s3 7000 c = _
      rw [qs3, rI_g (by decide)]
      rw [qs2, rI_g (by decide)]
      rw [qs1]
      exact rI_same
    · rw [qs6]
      show am_fI s5 7001 c = _
      rw [qs5]
      show am_fI s4 7001 c = _
      rw [qs4]
      show am_fI s3 7001 c = _
      rw [qs3, rI_g (by decide)]
      rw [qs2]
      exact rI_same
    · rw [qs6]
      show am_fI s5 7002 c = _
      rw [qs5]
      show am_fI s4 7002 c = _
      rw [qs4]
      show am_fI s3 7002 c = _
      rw [qs3]
      exact rI_same
    · rw [qs6]
      show am_fL s5 7003 c = _
      rw [qs5]
      show am_fL s4 7003 c = _
      rw [qs4]
      exact rL_same
    · rw [qs6, rR_g (by decide)]
      rw [qs5]
      exact rR_same
    · rw [qs6]
      exact rR_same
    · rw [g50]
      exact b5.mv e hw' b4 (b5.nin (by rw [h1]; simp))
    · rw [g5 5001 (by decide)]
      exact a1.mv e hw' (a1.nin (by rw [b1]; simp)) (a1.nin (by rw [h1]; simp))
    · rw [g5 5002 (by decide)]
      exact a2.mv e hw' (by rw [b1]; simp) (by rw [h1]; simp)
    · rw [g5 5003 (by decide)]
      exact a3.mv e hw' (a3.nin (by rw [b1]; simp)) (a3.nin (by rw [h1]; simp))
  refine w_Sk_drawEntry ⟨S.cell, fun h0 => ?_, fun h0 => ?_⟩
  · have hE : lE = [] := by
      cases lE with
      | nil => rfl
      | cons c l => exact absurd (S.2.1.1.symm.trans h0) (by simp)
    subst hE
    rintro s3 rfl _ hz
    refine w_En_init (fun _ => ?_)
    have S3 := S.new (k := (1, 1)) (kd := 8) (len := 0) (sl := 10) ho
    have E3 : Eff stK σ w (am_new σ 8 0 10) (va_up w (am_nx σ) (1, 1)) := Eff.new ho
    refine go _ _ _ [] S3 E3.1 ⟨rfl, ⟨up_same, new_kd, by omega⟩, by simp, (hz 7005).2.2.1⟩ (fun σ' w' h1 h2 h3 h4 h5 => ?_)
    exact K σ' w' _ h1 h2 (E3.trans h3) (Or.inr (ho _ (Nat.le_refl _))) (by rw [h4, if_pos rfl, new_nx]) (by rw [h5, if_pos rfl, new_sl])
  · cases lE with
    | nil => exact absurd S.2.1 h0
    | cons c l =>
      obtain ⟨b1, b2, b3, b4⟩ := S.2.1
      rw [b1]
      refine go σ w c (c :: l) S ho ⟨rfl, b2, b3, b4⟩ (fun σ' w' h1 h2 h3 h4 h5 => ?_)
      exact K σ' w' c h1 h2 h3 (Or.inl b2.1) (by rw [h4, if_neg (by simp)]; rfl) (by rw [h5, if_neg (by simp)]; rfl)
end
