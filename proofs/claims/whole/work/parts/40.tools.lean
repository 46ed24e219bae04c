/-! TOOLS: what the formulas ask, out of facts -/
theorem is_mk {σ : am_S} {n ci l : Nat} (h : am_kd σ n = (ci + 1, l)) : am_is σ (some n) ci := ⟨n, rfl, by rw [h]⟩
theorem ar_mk {σ : am_S} {n k l : Nat} {i : Int32} (h : am_kd σ n = (k, l)) (h0 : 0 ≤ i.toInt) (h1 : i.toInt < l) : am_ar σ k (some n) i := ⟨n, rfl, by rw [h], h0, by rw [h]; exact h1⟩
def st_fill (σ : am_S) (a : Int32) (p1 p2 p3 p4 : Int64) : am_S := am_saL (am_saL (am_saL (am_saL (am_saL (am_saL (am_saL σ 1007 0 a.toInt64) 1007 1 p1) 1007 2 p2) 1007 3 p3) 1007 4 p4) 1007 5 0) 1007 6 0
theorem z0 : ((0 : Int32)).toNatClampNeg = 0 := by decide
theorem z1 : ((1 : Int32)).toNatClampNeg = 1 := by decide
theorem z2 : ((2 : Int32)).toNatClampNeg = 2 := by decide
theorem z3 : ((3 : Int32)).toNatClampNeg = 3 := by decide
theorem z4 : ((4 : Int32)).toNatClampNeg = 4 := by decide
theorem z5 : ((5 : Int32)).toNatClampNeg = 5 := by decide
theorem z6 : ((6 : Int32)).toNatClampNeg = 6 := by decide
section
variable {nl : Bool} {Ln : Nat} {xs : Nat → Int32} {d : Nat} {σ : am_S}
theorem f_fill {a : Int32} {p1 p2 p3 p4 : Int64} {F : am_S → Prop} (k0 : am_kd σ 1000 = (1, 0)) (k7 : am_kd σ 1007 = (1001, 7)) (r3 : am_fR σ 3 1000 = some 1007) (h : F (st_fill σ a p1 p2 p3 p4)) : k_Co_fill nl Ln xs (d + 1) 1000 a p1 p2 p3 p4 σ F := by
  have ar : ∀ (σ' : am_S) (i : Int32), am_kd σ' = am_kd σ → am_fR σ' 3 1000 = some 1007 → 0 ≤ i.toInt → i.toInt < 7 → am_ar σ' 1001 (am_fR σ' 3 1000) i := fun σ' i e1 e2 h1 h2 => by
    rw [e2]
    exact ar_mk (l := 7) (by rw [e1]; exact k7) h1 (by exact_mod_cast h2)
  refine w_Co_fill ⟨is_mk k0, ar σ 0 rfl r3 (by decide) (by decide), ?_⟩
  intro s1 es1
  rw [r3, Option.getD_some, z0] at es1
  have q1 : am_fR s1 3 1000 = some 1007 := by rw [es1]; exact r3
  have c1 : am_kd s1 = am_kd σ := by rw [es1]
  refine ⟨ar _ 1 c1 q1 (by decide) (by decide), ?_⟩
  intro s2 es2
  rw [q1, Option.getD_some, z1] at es2
  have q2 : am_fR s2 3 1000 = some 1007 := by rw [es2]; exact q1
  have c2 : am_kd s2 = am_kd σ := by rw [es2]; exact c1
  refine ⟨ar _ 2 c2 q2 (by decide) (by decide), ?_⟩
  intro s3 es3
  rw [q2, Option.getD_some, z2] at es3
  have q3 : am_fR s3 3 1000 = some 1007 := by rw [es3]; exact q2
  have c3 : am_kd s3 = am_kd σ := by rw [es3]; exact c2
  refine ⟨ar _ 3 c3 q3 (by decide) (by decide), ?_⟩
  intro s4 es4
  rw [q3, Option.getD_some, z3] at es4
  have q4 : am_fR s4 3 1000 = some 1007 := by rw [es4]; exact q3
  have c4 : am_kd s4 = am_kd σ := by rw [es4]; exact c3
  refine ⟨ar _ 4 c4 q4 (by decide) (by decide), ?_⟩
  intro s5 es5
  rw [q4, Option.getD_some, z4] at es5
  have q5 : am_fR s5 3 1000 = some 1007 := by rw [es5]; exact q4
  have c5 : am_kd s5 = am_kd σ := by rw [es5]; exact c4
  refine ⟨ar _ 5 c5 q5 (by decide) (by decide), ?_⟩
  intro s6 es6
  rw [q5, Option.getD_some, z5] at es6
  have q6 : am_fR s6 3 1000 = some 1007 := by rw [es6]; exact q5
  have c6 : am_kd s6 = am_kd σ := by rw [es6]; exact c5
  refine ⟨ar _ 6 c6 q6 (by decide) (by decide), ?_⟩
  intro s7 es7
  rw [q6, Option.getD_some, z6] at es7
  have q7 : am_fR s7 3 1000 = some 1007 := by rw [es7]; exact q6
  have c7 : am_kd s7 = am_kd σ := by rw [es7]; exact c6
  have e : s7 = st_fill σ a p1 p2 p3 p4 := by rw [es7, es6, es5, es4, es3, es2, es1]; rfl
  rw [e]
  exact h
theorem fl_0 {a : Int32} {p1 p2 p3 p4 : Int64} : am_aL (st_fill σ a p1 p2 p3 p4) 1007 0 = a.toInt64 := rfl
theorem fl_1 {a : Int32} {p1 p2 p3 p4 : Int64} : am_aL (st_fill σ a p1 p2 p3 p4) 1007 1 = p1 := rfl
theorem fl_2 {a : Int32} {p1 p2 p3 p4 : Int64} : am_aL (st_fill σ a p1 p2 p3 p4) 1007 2 = p2 := rfl
theorem fl_3 {a : Int32} {p1 p2 p3 p4 : Int64} : am_aL (st_fill σ a p1 p2 p3 p4) 1007 3 = p3 := rfl
theorem fl_4 {a : Int32} {p1 p2 p3 p4 : Int64} : am_aL (st_fill σ a p1 p2 p3 p4) 1007 4 = p4 := rfl
theorem fl_5 {a : Int32} {p1 p2 p3 p4 : Int64} : am_aL (st_fill σ a p1 p2 p3 p4) 1007 5 = 0 := rfl
theorem fl_6 {a : Int32} {p1 p2 p3 p4 : Int64} : am_aL (st_fill σ a p1 p2 p3 p4) 1007 6 = 0 := rfl
theorem i64_32 (a : Int32) : a.toInt64.toInt32 = a := by simp
end
/-! reads behind writes -/
section
variable {σ : am_S} {g g' n m i j : Nat}
theorem rI_same {x : Int32} : am_fI (am_sfI σ g n x) g n = x := am_up_same _ _ _ _
theorem rI_g {x : Int32} (h : g' ≠ g) : am_fI (am_sfI σ g n x) g' m = am_fI σ g' m := am_up_ne1 h
theorem rI_n {x : Int32} (h : m ≠ n) : am_fI (am_sfI σ g n x) g' m = am_fI σ g' m := am_up_ne2 h
theorem rL_same {x : Int64} : am_fL (am_sfL σ g n x) g n = x := am_up_same _ _ _ _
theorem rL_g {x : Int64} (h : g' ≠ g) : am_fL (am_sfL σ g n x) g' m = am_fL σ g' m := am_up_ne1 h
theorem rL_n {x : Int64} (h : m ≠ n) : am_fL (am_sfL σ g n x) g' m = am_fL σ g' m := am_up_ne2 h
theorem rR_same {x : Option Nat} : am_fR (am_sfR σ g n x) g n = x := am_up_same _ _ _ _
theorem rR_g {x : Option Nat} (h : g' ≠ g) : am_fR (am_sfR σ g n x) g' m = am_fR σ g' m := am_up_ne1 h
theorem rR_n {x : Option Nat} (h : m ≠ n) : am_fR (am_sfR σ g n x) g' m = am_fR σ g' m := am_up_ne2 h
theorem aI_same {x : Int32} : am_aI (am_saI σ n i x) n i = x := am_up_same _ _ _ _
theorem aI_n {x : Int32} (h : m ≠ n) : am_aI (am_saI σ n i x) m j = am_aI σ m j := am_up_ne1 h
theorem aI_i {x : Int32} (h : j ≠ i) : am_aI (am_saI σ n i x) m j = am_aI σ m j := am_up_ne2 h
theorem aL_same {x : Int64} : am_aL (am_saL σ n i x) n i = x := am_up_same _ _ _ _
theorem aL_n {x : Int64} (h : m ≠ n) : am_aL (am_saL σ n i x) m j = am_aL σ m j := am_up_ne1 h
theorem aL_i {x : Int64} (h : j ≠ i) : am_aL (am_saL σ n i x) m j = am_aL σ m j := am_up_ne2 h
theorem aR_same {x : Option Nat} : am_aR (am_saR σ n i x) n i = x := am_up_same _ _ _ _
theorem aR_n {x : Option Nat} (h : m ≠ n) : am_aR (am_saR σ n i x) m j = am_aR σ m j := am_up_ne1 h
theorem aR_i {x : Option Nat} (h : j ≠ i) : am_aR (am_saR σ n i x) m j = am_aR σ m j := am_up_ne2 h
end
/-- the cells of the reference are as they were -/
def am_eqc (σ σ' : am_S) (c : Nat) : Prop := am_kd σ' c = am_kd σ c ∧ ∀ g, am_fI σ' g c = am_fI σ g c ∧ am_fL σ' g c = am_fL σ g c ∧ am_fR σ' g c = am_fR σ g c ∧ am_aI σ' c g = am_aI σ c g ∧ am_aL σ' c g = am_aL σ c g ∧ am_aR σ' c g = am_aR σ c g
theorem am_eqc.rf {σ : am_S} {c : Nat} : am_eqc σ σ c := ⟨rfl, fun _ => ⟨rfl, rfl, rfl, rfl, rfl, rfl⟩⟩
theorem am_eqc.trans {σ σ1 σ2 : am_S} {c : Nat} (h : am_eqc σ σ1 c) (k : am_eqc σ1 σ2 c) : am_eqc σ σ2 c :=
  ⟨k.1.trans h.1, fun g => ⟨(k.2 g).1.trans (h.2 g).1, (k.2 g).2.1.trans (h.2 g).2.1, (k.2 g).2.2.1.trans (h.2 g).2.2.1, (k.2 g).2.2.2.1.trans (h.2 g).2.2.2.1, (k.2 g).2.2.2.2.1.trans (h.2 g).2.2.2.2.1, (k.2 g).2.2.2.2.2.trans (h.2 g).2.2.2.2.2⟩⟩
section
variable {σ : am_S} {g n c i : Nat}
theorem eqc_sfI {x : Int32} (h : c ≠ n) : am_eqc σ (am_sfI σ g n x) c := ⟨rfl, fun _ => ⟨am_up_ne2 h, rfl, rfl, rfl, rfl, rfl⟩⟩
theorem eqc_sfL {x : Int64} (h : c ≠ n) : am_eqc σ (am_sfL σ g n x) c := ⟨rfl, fun _ => ⟨rfl, am_up_ne2 h, rfl, rfl, rfl, rfl⟩⟩
theorem eqc_sfR {x : Option Nat} (h : c ≠ n) : am_eqc σ (am_sfR σ g n x) c := ⟨rfl, fun _ => ⟨rfl, rfl, am_up_ne2 h, rfl, rfl, rfl⟩⟩
theorem eqc_saI {x : Int32} (h : c ≠ n) : am_eqc σ (am_saI σ n i x) c := ⟨rfl, fun _ => ⟨rfl, rfl, rfl, am_up_ne1 h, rfl, rfl⟩⟩
theorem eqc_saL {x : Int64} (h : c ≠ n) : am_eqc σ (am_saL σ n i x) c := ⟨rfl, fun _ => ⟨rfl, rfl, rfl, rfl, am_up_ne1 h, rfl⟩⟩
theorem eqc_saR {x : Option Nat} (h : c ≠ n) : am_eqc σ (am_saR σ n i x) c := ⟨rfl, fun _ => ⟨rfl, rfl, rfl, rfl, rfl, am_up_ne1 h⟩⟩
theorem eqc_new {kd len sl : Nat} (h : c ≠ am_nx σ) : am_eqc σ (am_new σ kd len sl) c := ⟨am_vup h, fun _ => ⟨rfl, rfl, rfl, rfl, rfl, rfl⟩⟩
end
