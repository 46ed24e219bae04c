/-! THE FIRST CALL: rank, loss, type of the class -/
def LA (σ s : am_S) (a : Int64) (nx sl : Nat) : Prop := lg0 s 0 ∧ am_aL s 1007 0 = a ∧ (∀ q, am_m q → am_eqc σ s q) ∧ am_nx s ≤ nx ∧ am_sl s ≤ sl ∧ 1189 ≤ am_nx s
section
variable {σ s : am_S} {a : Int64} {nx sl g n i : Nat}
theorem LA.sfI {x : Int32} (h : LA σ s a nx sl) (h1 : ¬ (g = 1001 ∧ n = 1040)) (hn : ¬ am_m n) : LA σ (am_sfI s g n x) a nx sl := by
  obtain ⟨⟨b1, b2, b3, b4, b5, b6, b7, b8⟩, c1, c2, c3⟩ := h
  refine ⟨⟨b1, b2, b3, b4, b5, ?_, b7, b8⟩, c1, fun q hq => (c2 q hq).trans (eqc_sfI (fun e => hn (e ▸ hq))), c3⟩
  by_cases hg : 1001 = g
  · exact (rI_n (fun e => h1 ⟨hg.symm, e.symm⟩)).trans b6
  · exact (rI_g hg).trans b6
theorem LA.sfL {x : Int64} (h : LA σ s a nx sl) (hn : ¬ am_m n) : LA σ (am_sfL s g n x) a nx sl := by
  obtain ⟨b, c1, c2, c3⟩ := h
  exact ⟨b, c1, fun q hq => (c2 q hq).trans (eqc_sfL (fun e => hn (e ▸ hq))), c3⟩
theorem LA.sfR {x : Option Nat} (h : LA σ s a nx sl) (h1 : ¬ (g = 6003 ∧ n = 1039)) (h2 : ¬ (g = 1000 ∧ n = 1040)) (hn : ¬ am_m n) : LA σ (am_sfR s g n x) a nx sl := by
  obtain ⟨⟨b1, b2, b3, b4, b5, b6, b7, b8⟩, c1, c2, c3⟩ := h
  refine ⟨⟨b1, ?_, b3, ?_, b5, b6, b7, b8⟩, c1, fun q hq => (c2 q hq).trans (eqc_sfR (fun e => hn (e ▸ hq))), c3⟩
  · by_cases hg : 6003 = g
    · exact (rR_n (fun e => h1 ⟨hg.symm, e.symm⟩)).trans b2
    · exact (rR_g hg).trans b2
  · by_cases hg : 1000 = g
    · exact (rR_n (fun e => h2 ⟨hg.symm, e.symm⟩)).trans b4
    · exact (rR_g hg).trans b4
theorem LA.saI {x : Int32} (h : LA σ s a nx sl) (hn : ¬ am_m n) : LA σ (am_saI s n i x) a nx sl := by
  obtain ⟨b, c1, c2, c3⟩ := h
  exact ⟨b, c1, fun q hq => (c2 q hq).trans (eqc_saI (fun e => hn (e ▸ hq))), c3⟩
theorem LA.saL {x : Int64} (h : LA σ s a nx sl) (h7 : 1007 ≠ n) (hn : ¬ am_m n) : LA σ (am_saL s n i x) a nx sl := by
  obtain ⟨b, c1, c2, c3⟩ := h
  exact ⟨b, (aL_n h7).trans c1, fun q hq => (c2 q hq).trans (eqc_saL (fun e => hn (e ▸ hq))), c3⟩
theorem LA.saR {x : Option Nat} (h : LA σ s a nx sl) (hn : ¬ am_m n) : LA σ (am_saR s n i x) a nx sl := by
  obtain ⟨b, c1, c2, c3⟩ := h
  exact ⟨b, c1, fun q hq => (c2 q hq).trans (eqc_saR (fun e => hn (e ▸ hq))), c3⟩
theorem LA.new {k l z : Nat} (h : LA σ s a nx sl) : LA σ (am_new s k l z) a (nx + 1) (sl + z) := by
  obtain ⟨⟨b1, b2, b3, b4, b5, b6, b7, b8⟩, c1, c2, c3, c4, c5⟩ := h
  have e : ∀ q, q < 1189 → am_kd (am_new s k l z) q = am_kd s q := fun q hq => am_vup (by omega)
  exact ⟨⟨(e _ (by decide)).trans b1, b2, (e _ (by decide)).trans b3, b4, (e _ (by decide)).trans b5, b6, (e _ (by decide)).trans b7, by rw [e _ (by decide)]; exact b8⟩, c1, fun q hq => (c2 q hq).trans (eqc_new (by omega)), Nat.succ_le_succ c3, Nat.add_le_add_right c4 _, Nat.le_succ_of_le c5⟩
theorem kd_new {k l z : Nat} : am_kd (am_new s k l z) (am_nx s) = (k, l) := by
  show va_up s.1 (am_nx s) (k, l) (am_nx s) = _
  simp [va_up]
end
section
variable {nl : Bool} {Ln : Nat} {xs : Nat → Int32} {d : Nat} {σ : am_S}
def okK (p0 p1 : Int32) : Prop := (¬ p0 < 0 ∧ p0 < 6) ∧ (¬ p1 < 0 ∧ ¬ (9 : Int32) < p1)
theorem p_Co_rank {p0 p1 : Int32} {F : Int32 → am_S → Prop} (h0 : i_fact σ) (hs : i_st σ) (h1 : okK p0 p1 → ∀ σ', CR σ σ' → F 1 σ') (h2 : ¬ okK p0 p1 → ∀ σ', CR σ σ' → F (-2) σ') : k_Co_rank nl Ln xs (d + 12) 1000 p0 p1 σ F := by
  obtain ⟨hc, -, hnx, hsl, hA⟩ := h0
  refine w_Co_rank ⟨is_mk (ik_1000 hc), f_fillV hc hs ?_⟩
  intro s1 H _
  obtain ⟨g1, hs1, a0, a1, a2, -, -, hq, hx, hl, hai⟩ := H
  have bad : ∀ {G : Prop}, (F (-2) s1 → G) → ¬ okK p0 p1 → G := fun k nk => k (h2 nk s1 ⟨hq, by rw [hx]; exact Nat.le_add_right _ _, by rw [hl]; exact Nat.le_add_right _ _⟩)
  rw [ir_7_1000 g1, ir_3_1000 g1, ir_1_1000 g1, Option.getD_some]
  refine ⟨is_mk (ik_1039 g1), p_perf g1 a0 (by decide) (by decide) (p_tom2 g1 a0 (w_Bk_tellOrMake_69 ⟨is_mk (ik_1039 g1), w_Bk_tellRank ⟨p_ar g1 (by decide) (by decide), ?_⟩⟩))⟩
  rw [Option.getD_some, z1, z2, a1, a2, lt64a (c := 0) (by decide), lt64a (c := 6) (by decide), lt64a (c := 0) (by decide), lt64b (c := 9) (by decide)]
  refine ⟨fun k _ _ => p_neg (by decide) (bad (fun k _ => k) (fun q => q.1.1 k)), fun k1 => ⟨p_ar g1 (by decide) (by decide), fun k2 => ⟨p_ar g1 (by decide) (by decide), fun k _ _ => p_neg (by decide) (bad (fun k _ => k) (fun q => q.2.1 k)), fun k3' => ⟨p_ar g1 (by decide) (by decide), fun k _ _ => p_neg (by decide) (bad (fun k _ => k) (fun q => q.2.2 k)), fun k4 => ?_⟩⟩, fun k _ _ => p_neg (by decide) (bad (fun k _ => k) (fun q => k q.1.2))⟩⟩
  refine ⟨is_mk (ik_1039 g1), w_Bk_isToldOut ⟨is_mk (ik_1039 g1), ?_⟩⟩
  have at0 : am_aI s1 1045 2 = 0 := by rw [hai]; exact hA
  rw [ir_6007_1039 g1, Option.getD_some, z2, at0, rl0, rv5 (by decide) (by decide), show ((dd_sr.getD (500 - 500) []).getD 2 0) = (60 : Int32) by decide +kernel]
  refine ⟨ar_mk (ik_1045 g1) (by decide) (by decide), hs1 500 (by decide), by decide, by decide, ?_⟩
  intro _
  refine ⟨fun k => absurd k (by decide), fun _ => ?_⟩
  refine ⟨ar_mk (ik_1045 g1) (by decide) (by decide), ar_mk (ik_1045 g1) (by decide) (by decide), ?_⟩
  intro s15 e15
  have L1 : LA σ s1 (2 : Int32).toInt64 1189 1704035 := ⟨p_lg0 g1 hs1, a0, hq, by rw [hx, hnx]; exact Nat.le_refl _, by rw [hl, hsl]; exact Nat.le_refl _, by rw [hx, hnx]; exact Nat.le_refl _⟩
  have L15 : LA σ s15 (2 : Int32).toInt64 1189 1704035 := by rw [e15]; exact L1.saI (by decide)
  have g15 : i_fc s15 := by rw [e15]; exact g1
  rw [ir_6002_1039 g15, Option.getD_some]
  refine ⟨p_ar g15 (by decide) (by decide), p_ar g15 (by decide) (by decide), is_mk (ik_1038 g15), w_Sk_drawEntry ⟨is_mk (ik_1038 g15), fun _ => ?_, fun k => absurd (ir_5000_1038 g15) k⟩⟩
  intro t3 u3 _ _
  refine w_En_init ?_
  intro _
  obtain ⟨e, he, hlo⟩ : ∃ e, e = am_nx s15 ∧ 1189 ≤ e := ⟨_, rfl, L15.2.2.2.2.2⟩
  have L3 : LA σ t3 (2 : Int32).toInt64 1190 1704045 := by rw [u3]; exact L15.new
  have k3 : am_kd t3 e = (8, 0) := by rw [u3, he]; exact kd_new
  have k38 : am_kd t3 1038 = (6, 0) := by rw [u3]; exact (am_vup (by omega)).trans (ik_1038 g15)
  rw [← he]
  have hm : ¬ am_m e := by omega
  refine w_Sk_drawEntry_21 ⟨is_mk k3, is_mk k38, ?_⟩
  intro t4 u4 t6 u6 t9 u9 t12 u12 t15 u15 t18 u18 t21 u21 _
  rw [Option.getD_some] at u6 u9 u12 u15 u18 u21
  have L21 : LA σ t21 (2 : Int32).toInt64 1190 1704045 := by
    have w4 : LA σ t4 (2 : Int32).toInt64 1190 1704045 := by rw [u4]; exact L3.sfR (by decide) (by decide) (by decide)
    have w6 : LA σ t6 (2 : Int32).toInt64 1190 1704045 := by rw [u6]; exact w4.sfI (by omega) hm
    have w9 : LA σ t9 (2 : Int32).toInt64 1190 1704045 := by rw [u9]; exact w6.sfI (by omega) hm
    have w12 : LA σ t12 (2 : Int32).toInt64 1190 1704045 := by rw [u12]; exact w9.sfI (by omega) hm
    have w15 : LA σ t15 (2 : Int32).toInt64 1190 1704045 := by rw [u15]; exact w12.sfL hm
    have w18 : LA σ t18 (2 : Int32).toInt64 1190 1704045 := by rw [u18]; exact w15.sfR (by omega) (by omega) hm
    rw [u21]; exact w18.sfR (by omega) (by omega) hm
  intro s23 e23 _ _
  have L23 : LA σ s23 (2 : Int32).toInt64 1190 1704045 := by rw [e23]; exact L21.sfR (by decide) (by decide) (by decide)
  refine p_done (n := 2) (by decide) L23.1 L23.2.1 (by decide) (by decide) (by rw [rl6]; decide) (by rw [rv5 (by decide) (by decide)]; decide +kernel) (by decide) (by decide) ?_
  intro s' v1 v2 v3 _
  exact h1 ⟨⟨k1, k2⟩, k3', k4⟩ s' ⟨fun q hq' => (L23.2.2.1 q hq').trans (v1 q hq'), by rw [v2, hnx]; exact Nat.le_trans L23.2.2.2.1 (by decide), by rw [v3, hsl]; exact Nat.le_trans L23.2.2.2.2.1 (by decide)⟩
def okS (p0 p1 : Int32) : Prop := (¬ p0 < 0 ∧ ¬ (4 : Int32) < p0) ∧ (¬ p1 < 0 ∧ ¬ (10949 : Int32) < p1)
theorem f_fillL {m n : Nat} {x : Int64} {s : am_S} {F : am_S → Prop} (km : am_kd s m = (1001, n)) (hn : n < 1000) (h : ∀ s', (am_kd s' = am_kd s ∧ am_fI s' = am_fI s ∧ am_fL s' = am_fL s ∧ am_fR s' = am_fR s ∧ am_aI s' = am_aI s ∧ am_aR s' = am_aR s ∧ am_nx s' = am_nx s ∧ am_sl s' = am_sl s ∧ ∀ c i, c ≠ m → am_aL s' c i = am_aL s c i) → F s') : k_Arr_fill nl Ln xs (d + 1) (some m) x s F := by
  have en : (Int32.ofNat n).toInt = n := by
    rw [Int32.toInt_ofNat']
    have hs : Int32.size = 4294967296 := rfl
    rw [hs]
    exact Int.bmod_eq_of_le (by omega) (by omega)
  have loop : ∀ (j : Nat) (x3 : Int32) (t : am_S), x3.toInt + j = n → 0 ≤ x3.toInt → (am_kd t = am_kd s ∧ am_fI t = am_fI s ∧ am_fL t = am_fL s ∧ am_fR t = am_fR s ∧ am_aI t = am_aI s ∧ am_aR t = am_aR s ∧ am_nx t = am_nx s ∧ am_sl t = am_sl s ∧ ∀ c i, c ≠ m → am_aL t c i = am_aL s c i) → c_Arr_fill_6 nl Ln xs (d + 1) (some m) x x3 (Int32.ofNat n) t F := by
    intro j
    induction j with
    | zero =>
      intro x3 t hj h0 ht
      exact w_Arr_fill_6 ⟨fun q => absurd (Int32.lt_iff_toInt_lt.mp q) (by omega), fun _ => h t ht⟩
    | succ j ih =>
      intro x3 t hj h0 ht
      refine w_Arr_fill_6 ⟨fun q => ⟨ar_mk (by rw [ht.1]; exact km) h0 (by omega), ?_⟩, fun q => absurd (Int32.lt_iff_toInt_lt.mpr (by omega)) q⟩
      intro t3 e3
      have e1 := i32_add1 (x := x3) (by omega) (by omega)
      refine ih _ t3 (by omega) (by omega) ?_
      rw [e3]
      exact ⟨ht.1, ht.2.1, ht.2.2.1, ht.2.2.2.1, ht.2.2.2.2.1, ht.2.2.2.2.2.1, ht.2.2.2.2.2.2.1, ht.2.2.2.2.2.2.2.1, fun c i hc => (aL_n hc).trans (ht.2.2.2.2.2.2.2.2 c i hc)⟩
  refine w_Arr_fill ⟨⟨m, rfl, by rw [km]⟩, ?_⟩
  intro v2 e2
  rw [Option.getD_some, km] at e2
  rw [e2]
  have z : (0 : Int32).toInt = 0 := by decide
  exact loop n 0 s (by omega) (by omega) ⟨rfl, rfl, rfl, rfl, rfl, rfl, rfl, rfl, fun _ _ _ => rfl⟩
theorem p_Co_loss {p0 p1 : Int32} {F : Int32 → am_S → Prop} (h0 : i_fact σ) (hs : i_st σ) (h1 : okS p0 p1 → ∀ σ', CR σ σ' → F 0 σ') (h2 : ¬ okS p0 p1 → ∀ σ', CR σ σ' → F (-2) σ') : k_Co_loss nl Ln xs (d + 14) 1000 p0 p1 σ F := by
  obtain ⟨hc, -, hnx, hsl, -⟩ := h0
  refine w_Co_loss ⟨is_mk (ik_1000 hc), f_fillV hc hs ?_⟩
  intro s1 H _
  obtain ⟨g1, hs1, a0, a1, a2, -, -, hq, hx, hl, hai⟩ := H
  have bad : ∀ {G : Prop}, (F (-2) s1 → G) → ¬ okS p0 p1 → G := fun k nk => k (h2 nk s1 ⟨hq, by rw [hx]; exact Nat.le_add_right _ _, by rw [hl]; exact Nat.le_add_right _ _⟩)
  rw [ir_7_1000 g1, ir_3_1000 g1, ir_1_1000 g1, Option.getD_some]
  refine ⟨is_mk (ik_1039 g1), p_perf g1 a0 (by decide) (by decide) (p_tom8 g1 a0 (w_Bk_tellOrMake_99 ⟨is_mk (ik_1039 g1), w_Bk_makeLoss ⟨p_ar g1 (by decide) (by decide), ?_⟩⟩))⟩
  rw [Option.getD_some, z1, z2, a1, a2, lt64a (c := 0) (by decide), lt64b (c := 4) (by decide)]
  refine ⟨fun k _ _ => p_neg (by decide) (bad (fun k _ => k) (fun q => q.1.1 k)), fun k1 => ⟨p_ar g1 (by decide) (by decide), fun k _ _ => p_neg (by decide) (bad (fun k _ => k) (fun q => q.1.2 k)), fun k2 => ⟨p_ar g1 (by decide) (by decide), w_Co_isDay ?_⟩⟩⟩
  intro _
  rw [q_rng (lo := 0) (hi := 10949) (by decide) (by decide)]
  refine ⟨fun k3 => ?_, fun k _ _ => p_neg (by decide) (bad (fun k _ => k) (fun q => k (decide_eq_true q.2)))⟩
  rw [a1, a2, i64_32, i64_32]
  have L1 : LA σ s1 (8 : Int32).toInt64 1189 1704035 := ⟨p_lg0 g1 hs1, a0, hq, by rw [hx, hnx]; exact Nat.le_refl _, by rw [hl, hsl]; exact Nat.le_refl _, by rw [hx, hnx]; exact Nat.le_refl _⟩
  refine ⟨p_ar g1 (by decide) (by decide), p_ar g1 (by decide) (by decide), is_mk (ik_1039 g1), w_Bk_addLoss ⟨is_mk (ik_1039 g1), ?_⟩⟩
  rw [ii_6013_1039 g1, ir_6002_1039 g1, ir_6005_1039 g1, Option.getD_some, Option.getD_some, z0]
  refine ⟨fun _ => ⟨is_mk (ik_1038 g1), w_Sk_drawLoss ⟨is_mk (ik_1038 g1), fun _ => ?_, fun k => absurd (ir_5002_1038 g1) k⟩⟩, fun k => absurd (by decide) k⟩
  intro t3 u3 _ _
  obtain ⟨e, he, hlo⟩ : ∃ e, e = am_nx s1 ∧ 1189 ≤ e := ⟨_, rfl, L1.2.2.2.2.2⟩
  have L3 : LA σ t3 (8 : Int32).toInt64 1190 1704045 := by rw [u3]; exact L1.new
  have k3e : am_kd t3 e = (11, 0) := by rw [u3, he]; exact kd_new
  have k38 : am_kd t3 1038 = (6, 0) := by rw [u3]; exact (am_vup (by omega)).trans (ik_1038 g1)
  have k43 : am_kd t3 1043 = (2010, 200) := by rw [u3]; exact (am_vup (by omega)).trans (ik_1043 g1)
  have n3 : am_nx t3 = e + 1 := by rw [u3, he]
  have f13 : am_fI t3 6013 1039 = 0 := by have q := ii_6013_1039 g1; rw [u3]; exact q
  have hm : ¬ am_m e := by omega
  rw [← he]
  refine w_Ls_init ?_
  intro r1 v1 _ _
  have R1 : LA σ r1 (8 : Int32).toInt64 1191 1704051 := by rw [v1]; exact L3.new
  have n1 : am_nx r1 = e + 2 := by rw [v1]; show am_nx t3 + 1 = e + 2; rw [n3]
  have j1 : am_kd r1 e = (11, 0) := by rw [v1]; exact (am_vup (by rw [n3]; omega)).trans k3e
  refine ⟨is_mk j1, ?_⟩
  intro r4 v4 r7 v7 _ _ r9 v9 _
  have R4 : LA σ r4 (8 : Int32).toInt64 1191 1704051 := by rw [v4]; exact R1.sfR (by omega) (by omega) hm
  have n4 : am_nx r4 = e + 2 := by rw [v4]; exact n1
  have R7 : LA σ r7 (8 : Int32).toInt64 1192 1704063 := by rw [v7]; exact R4.new
  have R9 : LA σ r9 (8 : Int32).toInt64 1192 1704063 := by rw [v9]; exact R7.sfR (by omega) (by omega) hm
  have j9 : am_kd r9 e = (11, 0) := by
    rw [v9]
    show am_kd r7 e = _
    rw [v7]
    refine (am_vup (by rw [n4]; omega)).trans ?_
    rw [v4]
    exact j1
  have j38 : am_kd r9 1038 = (6, 0) := by
    rw [v9]
    show am_kd r7 1038 = _
    rw [v7]
    refine (am_vup (by rw [n4]; omega)).trans ?_
    rw [v4]
    show am_kd r1 1038 = _
    rw [v1]
    exact (am_vup (by rw [n3]; omega)).trans k38
  have j43 : am_kd r9 1043 = (2010, 200) := by
    rw [v9]
    show am_kd r7 1043 = _
    rw [v7]
    refine (am_vup (by rw [n4]; omega)).trans ?_
    rw [v4]
    show am_kd r1 1043 = _
    rw [v1]
    exact (am_vup (by rw [n3]; omega)).trans k43
  have jm : am_kd r9 (e + 2) = (1001, 12) := by
    rw [v9]
    show am_kd r7 (e + 2) = _
    rw [v7, ← n4]
    exact kd_new
  have rm9 : am_fR r9 10006 e = some (e + 2) := by rw [v9, n4]; exact rR_same
  have f9 : am_fI r9 6013 1039 = 0 := by rw [v9, v7, v4, v1]; exact f13
  refine w_Sk_drawLoss_21 ⟨is_mk j9, is_mk j38, ?_⟩
  intro t4 u4 t6 u6 t9 u9 t12 u12 t15 u15 t18 u18 t21 u21 t24 u24
  rw [Option.getD_some] at u6 u9 u12 u15 u18 u21 u24
  have W : LA σ t24 (8 : Int32).toInt64 1192 1704063 ∧ am_kd t24 = am_kd r9 ∧ am_fR t24 10006 e = some (e + 2) ∧ am_fI t24 6013 1039 = 0 := by
    have w4 : LA σ t4 (8 : Int32).toInt64 1192 1704063 := by rw [u4]; exact R9.sfR (by decide) (by decide) (by decide)
    have w6 : LA σ t6 (8 : Int32).toInt64 1192 1704063 := by rw [u6]; exact w4.sfI (by omega) hm
    have w9 : LA σ t9 (8 : Int32).toInt64 1192 1704063 := by rw [u9]; exact w6.sfI (by omega) hm
    have w12 : LA σ t12 (8 : Int32).toInt64 1192 1704063 := by rw [u12]; exact w9.sfI (by omega) hm
    have w15 : LA σ t15 (8 : Int32).toInt64 1192 1704063 := by rw [u15]; exact w12.sfR (by omega) (by omega) hm
    have w18 : LA σ t18 (8 : Int32).toInt64 1192 1704063 := by rw [u18]; exact w15.sfI (by omega) hm
    have w21 : LA σ t21 (8 : Int32).toInt64 1192 1704063 := by rw [u21]; exact w18.sfI (by omega) hm
    refine ⟨by rw [u24]; exact w21.sfI (by omega) hm, by rw [u24, u21, u18, u15, u12, u9, u6, u4], ?_, ?_⟩
    · rw [u24, u21, u18]
      show am_fR t15 10006 e = _
      rw [u15]
      refine (rR_g (by decide)).trans ?_
      rw [u12, u9, u6]
      show am_fR t4 10006 e = _
      rw [u4]
      exact (rR_g (by decide)).trans rm9
    · rw [u24]
      refine (rI_g (by decide)).trans ?_
      rw [u21]
      refine (rI_g (by decide)).trans ?_
      rw [u18]
      refine (rI_g (by decide)).trans ?_
      rw [u15]
      show am_fI t12 6013 1039 = 0
      rw [u12]
      refine (rI_g (by decide)).trans ?_
      rw [u9]
      refine (rI_g (by decide)).trans ?_
      rw [u6]
      refine (rI_g (by decide)).trans ?_
      rw [u4]
      exact f9
  obtain ⟨W1, W2, W3, W4⟩ := W
  rw [Option.getD_some, W3]
  refine f_fillL (by rw [W2]; exact jm) (by decide) ?_
  intro y hy _ _
  obtain ⟨y1, y2, y3, y4, y5, y6, y7, y8, y9⟩ := hy
  have ky : am_kd y = am_kd r9 := y1.trans W2
  refine ⟨ar_mk (by rw [ky]; exact j43) (by decide) (by decide), fun n hn => by cases hn; rw [ky, j9], ?_⟩
  intro y8s ey y11 ey11 _ _ _
  have Y : LA σ y (8 : Int32).toInt64 1192 1704063 := by
    obtain ⟨⟨b1, b2, b3, b4, b5, b6, b7, b8⟩, c1, c2, c3, c4, c5⟩ := W1
    refine ⟨⟨by rw [y1]; exact b1, by rw [y4]; exact b2, by rw [y1]; exact b3, by rw [y4]; exact b4, by rw [y1]; exact b5, by rw [y2]; exact b6, by rw [y1]; exact b7, by rw [y1]; exact b8⟩, (y9 1007 0 (by omega)).trans c1, fun q hq' => (c2 q hq').trans ⟨by rw [y1], fun g => ⟨by rw [y2], by rw [y3], by rw [y4], by rw [y5], y9 q g (by omega), by rw [y6]⟩⟩, by rw [y7]; exact c3, by rw [y8]; exact c4, by rw [y7]; exact c5⟩
  have Y8 : LA σ y8s (8 : Int32).toInt64 1192 1704063 := by rw [ey]; exact Y.saR (by decide)
  have Y11 : LA σ y11 (8 : Int32).toInt64 1192 1704063 := by rw [ey11]; exact Y8.sfI (by decide) (by decide)
  have fy : am_fI y8s 6013 1039 = 0 := by rw [ey]; show am_fI y 6013 1039 = 0; rw [y2]; exact W4
  have fy2 : am_fI y11 6013 1039 = 0 + 1 := by rw [ey11, fy]; exact rI_same
  rw [fy2]
  refine p_done (n := 2) (by decide) Y11.1 Y11.2.1 (by decide) (by decide) (by rw [rl6]; decide) (by rw [rv5 (by decide) (by decide)]; decide +kernel) (by decide) (by decide) ?_
  intro s' w1 w2 w3 _
  exact h1 ⟨⟨k1, k2⟩, of_decide_eq_true k3⟩ s' ⟨fun q hq' => (Y11.2.2.1 q hq').trans (w1 q hq'), by rw [w2, hnx]; exact Nat.le_trans Y11.2.2.2.1 (by decide), by rw [w3, hsl]; exact Nat.le_trans Y11.2.2.2.2.1 (by decide)⟩
end
