/-! THE CLASS: a book is as a new one -/
def gvK (b nC nL nP : Nat) (q : Nat × Nat) : Prop := stK q ∨ q = (1, 5) ∨ q = (2, 1034) ∨ q = (b, 1) ∨ (q.1 = b ∧ ((600 ≤ q.2 ∧ q.2 < 600 + nC) ∨ (300 ≤ q.2 ∧ q.2 < 300 + nL) ∨ (100 ≤ q.2 ∧ q.2 < 100 + nP)))
def Gv (σ : am_S) (w : ow_T) (b : Nat) (X : Stx) (s : am_S) (ws : ow_T) (nC nL nP nE nN : Nat) : Prop := ∃ Y : Stx, (Stk s ws Y.1 Y.2.1 Y.2.2.1 Y.2.2.2.1 ∧ RdK s ws ∧ Fls s ws (1, 5) 9 8004 (am_fR s 4006 1034) Y.2.2.2.2) ∧ Eff (gvK b nC nL nP) σ w s ws ∧ (am_kd s = am_kd σ ∧ am_nx s = am_nx σ ∧ am_sl s = am_sl σ) ∧ (Y.1.length = X.1.length + nE ∧ Y.2.1.length = X.2.1.length + nP ∧ Y.2.2.1.length = X.2.2.1.length + nL ∧ Y.2.2.2.1.length = X.2.2.2.1.length + nC ∧ Y.2.2.2.2.length = X.2.2.2.2.length + nN)
section
variable {nl : Bool} {Ln : Nat} {xs : Nat → Int32} {d : Nat} {σ s : am_S} {w ws : ow_T} {b v gl nu nC nL nP nE nN : Nat} {X : Stx} {M : mOff} {V : Nat × Nat × Nat × Nat × Nat} {Cc : Nat × Nat}
theorem gv_no (hb : 1000 ≤ b) {j : Nat} (h1 : j ≠ 1) (h : ¬ ((600 ≤ j ∧ j < 600 + nC) ∨ (300 ≤ j ∧ j < 300 + nL) ∨ (100 ≤ j ∧ j < 100 + nP))) : ¬ gvK b nC nL nP (b, j) := fun z => by
  rcases z with z | z | z | z | z
  · exact nst_b hb j z
  · have : b = 1 := congrArg Prod.fst z
    omega
  · have : b = 2 := congrArg Prod.fst z
    omega
  · exact h1 (congrArg Prod.snd z)
  · exact h z.2
theorem Gv.fr (G : Gv σ w b X s ws nC nL nP nE nN) (hb : 1000 ≤ b) {j : Nat} (h1 : j ≠ 1) (h : ¬ ((600 ≤ j ∧ j < 600 + nC) ∨ (300 ≤ j ∧ j < 300 + nL) ∨ (100 ≤ j ∧ j < 100 + nP))) : Fr σ w s ws (b, j) := by
  obtain ⟨Y, -, E, -⟩ := G
  exact E.bk (gv_no hb h1 h) hb
theorem Gv.own (G : Gv σ w b X s ws nC nL nP nE nN) (hb : 1000 ≤ b) : Fr σ w s ws (b, 2) := G.fr hb (by decide) (by omega)
theorem gvK.mono {nC' nL' nP' : Nat} (h1 : nC ≤ nC') (h2 : nL ≤ nL') (h3 : nP ≤ nP') (q : Nat × Nat) (h : gvK b nC nL nP q) : gvK b nC' nL' nP' q := by
  rcases h with z | z | z | z | z
  · exact Or.inl z
  · exact Or.inr (Or.inl z)
  · exact Or.inr (Or.inr (Or.inl z))
  · exact Or.inr (Or.inr (Or.inr (Or.inl z)))
  · exact Or.inr (Or.inr (Or.inr (Or.inr ⟨z.1, by omega⟩)))
theorem bk_giveBack {F : am_S → Prop} (hb : 1189 ≤ b ∨ b = 1039) (h100 : (o_pol M).length ≤ 100) (h200 : (o_los M).length ≤ 200) (hc100 : (o_cas M).length ≤ 100) (A : Bks σ w v X b M gl nu V Cc)
    (K : ∀ s' w', Gv σ w b X s' w' (o_cas M).length (o_los M).length (o_pol M).length (ne M) nu → F s') : k_Bk_giveBack nl Ln xs (d + 4) b σ F := by
  obtain ⟨Ev, B, R⟩ := id A
  obtain ⟨⟨hK, hNm, hP, hL, hC, hT⟩, hN, hH, ⟨lg, lg1, lg2⟩, ns, m1, m2⟩ := id B
  obtain ⟨wb, kb, hb1, ⟨f0, f1, f2⟩, a4, a5, a6, a7, a8, a9⟩ := id hK
  have nst := nst_b hb1
  have n0 : ∀ j, ((b, j) : Nat × Nat) ≠ (0, 0) := fun j z => by
    have : b = 0 := congrArg Prod.fst z
    omega
  -- the policies
  have l71 : ∀ (j n : Nat) (s : am_S) (ws : ow_T) (x2 : Option Value), n + j = (o_pol M).length → Gv σ w b X s ws (o_cas M).length (o_los M).length n ((tlA (o_tel M) 2).length + sumN (fun i => ((o_cas M).getD i mCase0).2.2.2.2.2.length) (o_cas M).length + sumN (fun i => (tlP (o_tel M) i).length) n) (sumN (fun i => (ns i).length) n) → c_Bk_giveBack_71 nl Ln xs (d + 4) b (Int32.ofNat n) x2 s F := by
    intro j
    induction j with
    | zero =>
      intro n s ws x2 hn G
      have eb := (G.own hb1 b wb).2
      have hn : n = (o_pol M).length := by omega
      refine w_Bk_giveBack_71 ⟨is_mk (eb.kd.trans kb), ?_⟩
      rw [eb.fI, hNm.1, n32lt (by omega) (by omega)]
      refine ⟨fun z => absurd z (by omega), fun _ => K s ws ?_⟩
      rw [m2]
      unfold ne
      rw [hn] at G
      obtain ⟨Y, g1, g2, g3, g4, g5⟩ := G
      exact ⟨Y, g1, g2, g3, by omega, g5⟩
    | succ j ih =>
      intro n s ws x2 hn G
      have eb := (G.own hb1 b wb).2
      have ea := (G.own hb1 _ a4.2.1).2
      obtain ⟨q, hq⟩ := get_ex (show n < (o_pol M).length by omega)
      obtain ⟨pc, p1, p2⟩ := hP n q hq
      have frn : Fr σ w s ws (b, 100 + n) := G.fr hb1 (by omega) (by omega)
      obtain ⟨q1, q2, q3, q4, q5, q6, q7, q8⟩ := p2.fr frn
      obtain ⟨nd, pc', r1, r2, r3⟩ := m1 n (by omega)
      have epc : pc' = pc := Option.some.inj (r1.symm.trans p1)
      subst epc
      have r3' : MdT s ws (b, 100 + n) (tlP (o_tel M) n).length (am_fR s 9004 pc') (ns n) := by
        rw [(frn pc' p2.1).2.fR]
        exact r3.fr frn
      have ebA : bA s b 6004 = bA σ b 6004 := by unfold bA; rw [eb.fR]
      have f64 : am_fR s 6004 b = some (bA σ b 6004) := eb.fR.trans a4.1
      have p1' : am_aR s (bA σ b 6004) n = some pc' := ea.aR.trans p1
      have ar4 : am_ar s 2009 (some (bA σ b 6004)) (Int32.ofNat n) := ar_mk (ea.kd.trans a4.2.2) (by rw [n32 (by omega)]; omega) (by rw [n32 (by omega)]; omega)
      refine w_Bk_giveBack_71 ⟨is_mk (eb.kd.trans kb), ?_⟩
      rw [eb.fI, hNm.1, n32lt (by omega) (by omega), f64, Option.getD_some, n32c (by omega), p1', Option.getD_some]
      refine ⟨fun _ => ⟨ar4, is_mk q2, ?_⟩, fun z => absurd (by omega) z⟩
      rintro v5 rfl
      obtain ⟨cs, c1, c2, c3⟩ := Chn.cells (R := fun y => ws y = (b, 100 + n) ∧ am_kd s y = (8, 0)) (fun y x hy => ⟨hy.1, hy.2.1⟩) q8
      rw [List.length_reverse] at c2
      obtain ⟨Y, ⟨S, Rk, Lk⟩, E, kx, y1, y2, y3, y4, y5⟩ := id G
      have hko : RdO (b, 100 + n) := ⟨n0 _, fun z => by
        have : b = 1 := congrArg Prod.fst z
        omega, fun c z => by
        have : b = 2 := congrArg Prod.fst z
        omega⟩
      have wbs := (G.own hb1 b wb).1
      refine bk_give89 (d := d + 2) (σ := s) (w := ws) (k := (b, 100 + n)) (tot := Y.2.2.2.2.length + (ns n).length) hko (fun z => by have : 100 + n = 2 := congrArg Prod.snd z; omega) ⟨by omega, by omega, by omega⟩ wbs (eb.kd.trans kb) (eb.fR.trans f1) (fun s3 w3 lN3 R3 O3 L3 E3 k3 S93 ht3 => ?_) (tlP (o_tel M) n).length _ (ns n) cs s ws Y.2.2.2.2 c2 c1 c3 r3' nd Rk E.1 Lk (Eff.rf E.1) ⟨rfl, rfl, rfl⟩ (fun c hc _ => ⟨hc, am_eqc.rf⟩) rfl
      have nrb : ∀ j, j ≠ 100 + n → ¬ rdE (b, 100 + n) (b, j) := fun j hj z => by
        rcases z with z | z | z
        · have : b = 1 := congrArg Prod.fst z
          omega
        · have : b = 2 := congrArg Prod.fst z
          omega
        · exact hj (congrArg Prod.snd z)
      have fr3 : Fr s ws s3 w3 (b, 2) := E3.bk (nrb 2 (by omega)) hb1
      have eb3 := (fr3 b wbs).2
      have wa := (G.own hb1 _ a4.2.1).1
      have ea3 := (fr3 _ wa).2
      have spc := S93 pc' q1 (by rw [q2]; decide)
      have S3 : Stk s3 w3 Y.1 Y.2.1 Y.2.2.1 Y.2.2.2.1 := S.eff E3 (fun q hq z => by
        rcases z with z | z | z
        · rw [z] at hq
          rcases hq with h | h
          · exact absurd h.2 (by decide)
          · exact absurd h (by decide)
        · rw [z] at hq
          rcases hq with h | h
          · exact absurd h.1 (by decide)
          · exact absurd h (by decide)
        · rw [z] at hq
          exact nst _ hq)
      refine w_Bk_giveBack_89 ⟨fun _ => ⟨is_mk (eb3.kd.trans (eb.kd.trans kb)), ?_⟩, fun z => absurd rfl z⟩
      rw [eb3.fR, f64, eb3.fR, eb.fR, f2, Option.getD_some, Option.getD_some, n32c (by omega), ea3.aR, p1']
      have c3' : ∀ y ∈ cs, w3 y = (b, 100 + n) ∧ am_kd s3 y = (8, 0) := fun y hy => by
        have := S93 y (c3 y hy).1 (by rw [(c3 y hy).2]; decide)
        exact ⟨this.1, this.2.kd.trans (c3 y hy).2⟩
      have c1' : Rch (am_fR s3 7005) (am_fR s3 9004 pc') cs := by
        rw [spc.2.fR]
        exact c1.mono (fun y hy => (S93 y (c3 y hy).1 (by rw [(c3 y hy).2]; decide)).2.fR)
      refine ⟨ar_mk (ea3.kd.trans (ea.kd.trans a4.2.2)) (by rw [n32 (by omega)]; omega) (by rw [n32 (by omega)]; omega), S3.cell, sk_putPolicy (d := d) (nst _) (n0 _) S3 O3 spc.1 (spc.2.kd.trans q2) q3 c1' c3' (fun s5 w5 lE5 S5 hl5 E5 k5 _ => ?_)⟩
      rw [n32s]
      have nr5 : ∀ c, 1034 ≤ c → c ≤ 1037 → ¬ (stK (2, c) ∨ ((2, c) : Nat × Nat) = (b, 100 + n)) := fun c h1 h2 z => by
        rcases z with z | z
        · rcases z with z | z
          · exact absurd z.1 (show ¬ (2 : Nat) = 1 by decide)
          · have : c = 1038 := congrArg Prod.snd z
            omega
        · have : 2 = b := congrArg Prod.fst z
          omega
      have RL5 := rdl_eff ⟨R3, L3⟩ E5 nr5 (fun z => by
        rcases z with z | z
        · rcases z with z | z
          · exact absurd z.2 (by decide)
          · exact absurd z (by decide)
        · have : 1 = b := congrArg Prod.fst z
          omega)
      have in5 : ∀ q, (stK q ∨ q = (b, 100 + n)) → gvK b (o_cas M).length (o_los M).length (n + 1) q := fun q hq => by
        rcases hq with h | h
        · exact Or.inl h
        · rw [h]
          exact Or.inr (Or.inr (Or.inr (Or.inr ⟨rfl, Or.inr (Or.inr ⟨by show 100 ≤ 100 + n; omega, by show 100 + n < 100 + (n + 1); omega⟩)⟩)))
      have in3 : ∀ q, rdE (b, 100 + n) q → gvK b (o_cas M).length (o_los M).length (n + 1) q := fun q hq => by
        rcases hq with h | h | h
        · exact Or.inr (Or.inl h)
        · exact Or.inr (Or.inr (Or.inl h))
        · exact in5 q (Or.inr h)
      refine ih (n + 1) s5 w5 _ (by omega) ⟨(lE5, pc' :: Y.2.1, Y.2.2.1, Y.2.2.2.1, lN3), ⟨S5, RL5.1, RL5.2⟩, ((E.mono (gvK.mono (Nat.le_refl _) (Nat.le_refl _) (by omega))).trans (E3.mono in3)).trans (E5.mono in5), ⟨k5.1.trans (k3.1.trans kx.1), k5.2.1.trans (k3.2.1.trans kx.2.1), k5.2.2.trans (k3.2.2.trans kx.2.2)⟩, ?_, ?_, y3, y4, ?_⟩
      · show lE5.length = _
        rw [hl5, y1, c2, sumN]
        omega
      · show (pc' :: Y.2.1).length = _
        rw [List.length_cons, y2]
        omega
      · show lN3.length = _
        rw [ht3, y5, sumN]
        omega
  -- the losses
  have l42 : ∀ (j n : Nat) (s : am_S) (ws : ow_T), n + j = (o_los M).length → Gv σ w b X s ws (o_cas M).length n 0 ((tlA (o_tel M) 2).length + sumN (fun i => ((o_cas M).getD i mCase0).2.2.2.2.2.length) (o_cas M).length) 0 → c_Bk_giveBack_42 nl Ln xs (d + 4) b (Int32.ofNat n) s F := by
    intro j
    induction j with
    | zero =>
      intro n s ws hn G
      have eb := (G.own hb1 b wb).2
      have hn : n = (o_los M).length := by omega
      refine w_Bk_giveBack_42 ⟨is_mk (eb.kd.trans kb), ?_⟩
      rw [eb.fI, hNm.2.1, n32lt (by omega) (by omega)]
      refine ⟨fun z => absurd z (by omega), fun _ => l71 (o_pol M).length 0 s ws none (by omega) ?_⟩
      rw [hn] at G
      exact G
    | succ j ih =>
      intro n s ws hn G
      have eb := (G.own hb1 b wb).2
      have ea := (G.own hb1 _ a5.2.1).2
      obtain ⟨q, hq⟩ := get_ex (show n < (o_los M).length by omega)
      obtain ⟨c, p1, p2, -⟩ := hL n q hq
      have frn : Fr σ w s ws (b, 300 + n) := G.fr hb1 (by omega) (by omega)
      obtain ⟨q1, q2, q3, -, -, -, -, -, -, ⟨sc, t1, t2, t3, -⟩, ⟨mc, u1, u2, u3, -⟩⟩ := p2.fr frn
      obtain ⟨Y, ⟨S, Rk, Lk⟩, E, kx, y1, y2, y3, y4, y5⟩ := id G
      have f65 : am_fR s 6005 b = some (bA σ b 6005) := eb.fR.trans a5.1
      have p1' : am_aR s (bA σ b 6005) n = some c := ea.aR.trans p1
      have P := S.pushL (c := c) (s := sc) (m := mc) (k := (b, 300 + n)) E.1 ⟨⟨q1, q2, q3⟩, ⟨t1, t2, t3⟩, u1, u2, u3⟩ (nst _) (n0 _)
      refine w_Bk_giveBack_42 ⟨is_mk (eb.kd.trans kb), ?_⟩
      rw [eb.fI, hNm.2.1, n32lt (by omega) (by omega), f65, eb.fR, f2, Option.getD_some, Option.getD_some, n32c (by omega), p1']
      refine ⟨fun _ => ⟨ar_mk (ea.kd.trans a5.2.2) (by rw [n32 (by omega)]; omega) (by rw [n32 (by omega)]; omega), S.cell, w_Sk_putBackLoss ⟨S.cell, is_mk q2, ?_⟩⟩, fun z => absurd (by omega) z⟩
      rw [Option.getD_some]
      intro s3 e3 s6 e6 _
      rw [← e3, ← e6] at P
      have k6 : am_kd s6 = am_kd s ∧ am_nx s6 = am_nx s ∧ am_sl s6 = am_sl s := by rw [e6, e3]; exact ⟨rfl, rfl, rfl⟩
      obtain ⟨S6, E6⟩ := P
      have nr5 : ∀ c, 1034 ≤ c → c ≤ 1037 → ¬ (stK (2, c) ∨ ((2, c) : Nat × Nat) = (b, 300 + n)) := fun c h1 h2 z => by
        rcases z with z | z
        · rcases z with z | z
          · exact absurd z.1 (show ¬ (2 : Nat) = 1 by decide)
          · have : c = 1038 := congrArg Prod.snd z
            omega
        · have : 2 = b := congrArg Prod.fst z
          omega
      have RL5 := rdl_eff ⟨Rk, Lk⟩ E6 nr5 (fun z => by
        rcases z with z | z
        · rcases z with z | z
          · exact absurd z.2 (by decide)
          · exact absurd z (by decide)
        · have : 1 = b := congrArg Prod.fst z
          omega)
      have in5 : ∀ q, (stK q ∨ q = (b, 300 + n)) → gvK b (o_cas M).length (n + 1) 0 q := fun q hq => by
        rcases hq with h | h
        · exact Or.inl h
        · rw [h]
          exact Or.inr (Or.inr (Or.inr (Or.inr ⟨rfl, Or.inr (Or.inl ⟨by show 300 ≤ 300 + n; omega, by show 300 + n < 300 + (n + 1); omega⟩)⟩)))
      rw [n32s]
      refine ih (n + 1) s6 _ (by omega) ⟨(Y.1, Y.2.1, (c, sc, mc) :: Y.2.2.1, Y.2.2.2.1, Y.2.2.2.2), ⟨S6, RL5.1, RL5.2⟩, (E.mono (gvK.mono (Nat.le_refl _) (by omega) (Nat.le_refl _))).trans (E6.mono in5), ⟨k6.1.trans kx.1, k6.2.1.trans kx.2.1, k6.2.2.trans kx.2.2⟩, y1, y2, ?_, y4, y5⟩
      show ((c, sc, mc) :: Y.2.2.1).length = _
      rw [List.length_cons, y3]
      omega
  -- the cases
  have l13 : ∀ (j n : Nat) (s : am_S) (ws : ow_T), n + j = (o_cas M).length → Gv σ w b X s ws n 0 0 ((tlA (o_tel M) 2).length + sumN (fun i => ((o_cas M).getD i mCase0).2.2.2.2.2.length) n) 0 → c_Bk_giveBack_13 nl Ln xs (d + 4) b (Int32.ofNat n) s F := by
    intro j
    induction j with
    | zero =>
      intro n s ws hn G
      have eb := (G.own hb1 b wb).2
      have hn : n = (o_cas M).length := by omega
      refine w_Bk_giveBack_13 ⟨is_mk (eb.kd.trans kb), ?_⟩
      rw [eb.fI, hNm.2.2, n32lt (by omega) (by omega)]
      refine ⟨fun z => absurd z (by omega), fun _ => l42 (o_los M).length 0 s ws (by omega) ?_⟩
      rw [hn] at G
      exact G
    | succ j ih =>
      intro n s ws hn G
      have eb := (G.own hb1 b wb).2
      have ea := (G.own hb1 _ a6.2.1).2
      obtain ⟨q, hq⟩ := get_ex (show n < (o_cas M).length by omega)
      obtain ⟨c, p1, p2, -⟩ := hC n q hq
      have frn : Fr σ w s ws (b, 600 + n) := G.fr hb1 (by omega) (by omega)
      have p2' := p2.fr frn
      obtain ⟨Y, ⟨S, Rk, Lk⟩, E, kx, y1, y2, y3, y4, y5⟩ := id G
      have f66 : am_fR s 6006 b = some (bA σ b 6006) := eb.fR.trans a6.1
      have p1' : am_aR s (bA σ b 6006) n = some c := ea.aR.trans p1
      refine w_Bk_giveBack_13 ⟨is_mk (eb.kd.trans kb), ?_⟩
      rw [eb.fI, hNm.2.2, n32lt (by omega) (by omega), f66, eb.fR, f2, Option.getD_some, Option.getD_some, n32c (by omega), p1']
      refine ⟨fun _ => ⟨ar_mk (ea.kd.trans a6.2.2) (by rw [n32 (by omega)]; omega) (by rw [n32 (by omega)]; omega), S.cell, sk_putCase (d := d) (nst _) (n0 _) S E.1 p2'.1 p2'.2.1 (fun s5 w5 lE5 S5 hl5 E5 k5 _ => ?_)⟩, fun z => absurd (by omega) z⟩
      have nr5 : ∀ c, 1034 ≤ c → c ≤ 1037 → ¬ (stK (2, c) ∨ ((2, c) : Nat × Nat) = (b, 600 + n)) := fun c h1 h2 z => by
        rcases z with z | z
        · rcases z with z | z
          · exact absurd z.1 (show ¬ (2 : Nat) = 1 by decide)
          · have : c = 1038 := congrArg Prod.snd z
            omega
        · have : 2 = b := congrArg Prod.fst z
          omega
      have RL5 := rdl_eff ⟨Rk, Lk⟩ E5 nr5 (fun z => by
        rcases z with z | z
        · rcases z with z | z
          · exact absurd z.2 (by decide)
          · exact absurd z (by decide)
        · have : 1 = b := congrArg Prod.fst z
          omega)
      have in5 : ∀ q, (stK q ∨ q = (b, 600 + n)) → gvK b (n + 1) 0 0 q := fun q hq => by
        rcases hq with h | h
        · exact Or.inl h
        · rw [h]
          exact Or.inr (Or.inr (Or.inr (Or.inr ⟨rfl, Or.inl ⟨by show 600 ≤ 600 + n; omega, by show 600 + n < 600 + (n + 1); omega⟩⟩)))
      rw [n32s]
      refine ih (n + 1) s5 w5 (by omega) ⟨(lE5, Y.2.1, Y.2.2.1, c :: Y.2.2.2.1, Y.2.2.2.2), ⟨S5, RL5.1, RL5.2⟩, (E.mono (gvK.mono (by omega) (Nat.le_refl _) (Nat.le_refl _))).trans (E5.mono in5), ⟨k5.1.trans kx.1, k5.2.1.trans kx.2.1, k5.2.2.trans kx.2.2⟩, ?_, y2, y3, ?_, y5⟩
      · show lE5.length = _
        rw [hl5, y1, sumN, getD_of mCase0 hq]
        omega
      · show (c :: Y.2.2.2.1).length = _
        rw [List.length_cons, y4]
        omega
  -- the ranks
  obtain ⟨⟨o0, nx0⟩, S0, R0, J0⟩ := id Ev
  refine low (fun hLow => w_Bk_giveBack ⟨is_mk kb, ?_⟩)
  rw [f2, Option.getD_some]
  refine ⟨S0.cell, w_Sk_putBackAll ?_⟩
  obtain ⟨cs, c1, c2, c3⟩ := Chn.cells (R := fun y => w y = (b, 1) ∧ am_kd σ y = (8, 0) ∧ 1000 ≤ y) (fun y x hy => ⟨hy.1, hy.2.1, by
    apply Classical.byContradiction
    intro z
    have := hLow y (by omega)
    rw [hy.2.1] at this
    exact absurd this (by decide)⟩) hT.2
  rw [List.length_reverse] at c2
  refine sk_putBackAll (d := d + 1) (nst 1) (n0 1) cs σ w X.1 _ _ _ S0 o0 c1 c3 (fun s1 w1 S1 E1 k1 st _ => ?_)
  have nr5 : ∀ c, 1034 ≤ c → c ≤ 1037 → ¬ (stK (2, c) ∨ ((2, c) : Nat × Nat) = (b, 1)) := fun c h1 h2 z => by
    rcases z with z | z
    · rcases z with z | z
      · exact absurd z.1 (show ¬ (2 : Nat) = 1 by decide)
      · have : c = 1038 := congrArg Prod.snd z
        omega
    · have : 2 = b := congrArg Prod.fst z
      omega
  have RL1 := rdl_eff R0 E1 nr5 (fun z => by
    rcases z with z | z
    · rcases z with z | z
      · exact absurd z.2 (by decide)
      · exact absurd z (by decide)
    · have : 1 = b := congrArg Prod.fst z
      omega)
  refine l13 (o_cas M).length 0 s1 w1 (by omega) ⟨(cs.reverse ++ X.1, X.2), ⟨S1, RL1.1, RL1.2⟩, E1.mono (fun q hq => ?_), k1, ?_, rfl, rfl, rfl, rfl⟩
  · rcases hq with h | h
    · exact Or.inl h
    · exact Or.inr (Or.inr (Or.inr (Or.inl h)))
  · show (cs.reverse ++ X.1).length = _
    rw [List.length_append, List.length_reverse, c2, sumN]
    omega
end
