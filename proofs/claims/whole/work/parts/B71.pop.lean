/-! THE CLASS: a fact is taken from its case again -/
theorem Chn.on {α : Type} {Q Q' : Nat → α → Prop} {nx nx' : Nat → Option Nat} : ∀ {l : List α} {h : Option Nat} {cs : List Nat}, Chn Q nx h l → Rch nx h cs → (∀ c ∈ cs, ∀ x, Q c x → Q' c x ∧ nx' c = nx c) → Chn Q' nx' h l
  | [], _, _, hc, _, _ => hc
  | x :: l, h, cs, hc, hr, hm => by
    obtain ⟨c, rfl, hq, hn⟩ := hc
    cases cs with
    | nil => cases hr
    | cons c' cs =>
      obtain ⟨e, hr⟩ := hr
      have e : c = c' := Option.some.inj e
      subst e
      obtain ⟨q, en⟩ := hm c List.mem_cons_self x hq
      exact ⟨c, rfl, q, by rw [en]; exact Chn.on hn hr (fun y hy => hm y (List.mem_cons_of_mem _ hy))⟩
def putF (c : mCase) (fs : List mFact) : mCase := (c.1, c.2.1, c.2.2.1, c.2.2.2.1, c.2.2.2.2.1, fs)
def popM (M : mOff) (i : Nat) : mOff := m_setCas M ((o_cas M).modify i (fun c => putF c c.2.2.2.2.2.dropLast))
section
variable {nl : Bool} {Ln : Nat} {xs : Nat → Int32} {d : Nat} {σ : am_S} {w : ow_T} {b v gl nu i cc : Nat} {X : Stx} {M : mOff} {V : Nat × Nat × Nat × Nat × Nat} {Cc : Nat × Nat} {x : mCase} {l : List mFact} {f : mFact}
theorem bk_pop (hb : 1189 ≤ b ∨ b = 1039) (hL : LowK σ) (h100 : (o_pol M).length ≤ 100) (h200 : (o_los M).length ≤ 200) (hi : (o_cas M)[i]? = some x) (hcc : am_aR σ (bA σ b 6006) i = some cc) (hx : x.2.2.2.2.2 = l ++ [f]) (hl : l.length < 1000) (A : Bks σ w v X b M gl nu V Cc) : ∃ c, am_fR σ 11005 cc = some c ∧ am_kd σ c = (8, 0) ∧ am_fI σ 7002 c = f.2.2.1 ∧ ∀ s9, s9 = am_sfR σ 11005 cc (am_fR σ 7005 c) → ∀ s12, s12 = am_sfI s9 11006 cc (am_fI s9 11006 cc - 1) → ∀ s15, s15 = am_sfR s12 7005 c (am_fR s12 5000 1038) → ∀ s17, s17 = am_sfR s15 5000 1038 (some c) → ∃ w', Bks s17 w' v (c :: X.1, X.2) b (popM M i) gl nu V Cc ∧ Eff (bkK b v) σ w s17 w' ∧ am_fI s17 2001 1008 = am_fI σ 2001 1008 ∧ am_kd s12 = am_kd σ ∧ am_fR s12 6002 b = some 1038 ∧ am_kd s12 1038 = (6, 0) ∧ ∀ j, am_aR s17 (bA s17 b 6006) j = am_aR σ (bA σ b 6006) j := by
  obtain ⟨Ev, B, R⟩ := id A
  obtain ⟨⟨hK, hNm, hP, hLo, hC, hT⟩, hN, hH, ⟨lg, lg1, lg2⟩, ns, m1, m2⟩ := id B
  obtain ⟨-, -, hb1, ⟨f0, f1, f2⟩, a4, a5, a6, a7, a8, a9⟩ := id hK
  obtain ⟨c', z1, z2, z3, z4⟩ := hC i x hi
  have ecc : c' = cc := Option.some.inj (z1.symm.trans hcc)
  subst ecc
  obtain ⟨⟨y1, y2, y3⟩, y4, y5, y6, y7, y8⟩ := id z2
  have hil := lt_of_get hi
  have y3' := y3
  rw [hx, List.reverse_append] at y3
  obtain ⟨c, hc, hE, hn⟩ := y3
  obtain ⟨cs0, hcs0, -, hR0⟩ := Chn.cells (R := fun c => w c = (b, 600 + i) ∧ am_kd σ c = (8, 0)) (fun c x h => ⟨h.1, h.2.1⟩) y3'
  have nst := nst_b hb1
  cases cs0 with
  | nil => rw [hc] at hcs0; cases hcs0
  | cons q cs =>
  have hcs1 := hcs0
  obtain ⟨eq, hcs⟩ := hcs0
  have eq : q = c := (Option.some.inj (hc.symm.trans eq)).symm
  subst eq
  have hnin : q ∉ cs := hcs1.nin
  obtain ⟨c1, c2, c3, c4, c5, c6⟩ := id hE
  have q1000 : 1000 ≤ q := by
    apply Classical.byContradiction
    intro z
    have := hL q (by omega)
    rw [c2] at this
    exact absurd this (by decide)
  have S0 := Ev.2.1
  have w38 : w 1038 = (2, 1038) := S0.1.1
  have k38 : am_kd σ 1038 = (6, 0) := S0.1.2
  have wne : ∀ {y : Nat} {j : Nat}, w y = (b, j) → y ≠ 1038 := fun {y j} hy z => by
    rw [z, w38] at hy
    have : 2 = b := congrArg Prod.fst hy
    omega
  have q38 := wne c1
  have c38 := wne y1
  have qc : q ≠ c' := fun z => by rw [z, y2] at c2; exact absurd c2 (by decide)
  refine ⟨q, hc, c2, c5, ?_⟩
  intro s9 e9 s12 e12 s15 e15 s17 e17
  have E12 : Eff (fun z => z = (b, 600 + i)) σ w s12 w := by
    rw [e12, e9]
    exact (Eff.sfR Ev.1.1 y1).trans (Eff.sfI (Eff.sfR (K := fun z => z = (b, 600 + i)) Ev.1.1 y1).1 y1)
  have k12 : am_kd s12 = am_kd σ := by rw [e12, e9]
  have S12 := S0.eff E12 (fun q hq z => nst _ (by rw [← z]; exact hq))
  have e38 : am_eqc σ s12 1038 := (E12.2 (2, 1038) (fun z => by
    have : 2 = b := congrArg Prod.fst z
    omega) (by simp) 1038 w38).2
  have S17 : Stk s17 (va_up w q (1, 1)) (q :: X.1) X.2.1 X.2.2.1 X.2.2.2.1 := by
    rw [e17, e15]
    exact S12.pushE c1 (nst _) (by rw [k12]; exact c2) q1000
  have E17 : Eff (fun z => stK z ∨ z = (b, 600 + i)) s12 w s17 (va_up w q (1, 1)) := by
    rw [e17, e15]
    exact psh_eff w38 c1 (fun z => by
      have : b = 0 := congrArg Prod.fst z
      omega) E12.1
  have EE : Eff (fun z => stK z ∨ z = (b, 600 + i)) σ w s17 (va_up w q (1, 1)) := (E12.mono (fun z h => Or.inr h)).trans E17
  have hKK : ∀ z, (stK z ∨ z = (b, 600 + i)) → stK z ∨ z.1 = b := fun z h => by
    rcases h with h | h
    · exact Or.inl h
    · rw [h]; exact Or.inr rfl
  have fr : ∀ j, j ≠ 600 + i → Fr σ w s17 (va_up w q (1, 1)) (b, j) := fun j h2 => EE.bk (fun z => by
    rcases z with h | h
    · exact nst j h
    · exact h2 (congrArg Prod.snd h)) hb1
  have Bk : Bc b [] [] σ w s17 (va_up w q (1, 1)) := Bc.of hK (fr 2 (by omega))
  have k17 : am_kd s17 = am_kd σ ∧ am_nx s17 = am_nx σ ∧ am_sl s17 = am_sl σ := by rw [e17, e15, e12, e9]; exact ⟨rfl, rfl, rfl⟩
  have ec : ∀ y, y ≠ q → y ≠ c' → y ≠ 1038 → am_eqc σ s17 y := fun y h1 h2 h3 => by
    rw [e17, e15, e12, e9]
    exact ((((eqc_sfR h2)).trans (eqc_sfI h2)).trans (eqc_sfR h1)).trans (eqc_sfR h3)
  have rcc : ∀ g, g ≠ 11005 → am_fR s17 g c' = am_fR σ g c' := fun g hg => by
    rw [e17, rR_n c38, e15, rR_n (fun z => qc z.symm), e12]
    show am_fR s9 g c' = _
    rw [e9]
    exact rR_g hg
  have r05 : am_fR s17 11005 c' = am_fR σ 7005 q := by
    rw [e17, rR_n c38, e15, rR_n (fun z => qc z.symm), e12]
    show am_fR s9 11005 c' = _
    rw [e9]
    exact rR_same
  have icc : ∀ g, g ≠ 11006 → am_fI s17 g c' = am_fI σ g c' := fun g hg => by
    rw [e17]
    show am_fI s15 g c' = _
    rw [e15]
    show am_fI s12 g c' = _
    rw [e12, rI_g hg, e9]
  have r06 : am_fI s17 11006 c' = Int32.ofNat l.length := by
    rw [e17]
    show am_fI s15 11006 c' = _
    rw [e15]
    show am_fI s12 11006 c' = _
    rw [e12, rI_same, e9]
    show am_fI σ 11006 c' - 1 = _
    rw [y8, hx, len_app, ← n32s, Int32.add_sub_cancel]
  have emo : o_cas (popM M i) = (o_cas M).modify i (fun c => putF c c.2.2.2.2.2.dropLast) := rfl
  have lmod : (o_cas (popM M i)).length = (o_cas M).length := by rw [emo, List.length_modify]
  have w17c : va_up w q (1, 1) c' = (b, 600 + i) := (am_vup (fun z => qc z.symm)).trans y1
  refine ⟨va_up w q (1, 1), ⟨eff_env Ev EE hb hKK S17 rfl (by rw [k17.2.1]; exact Ev.1.2), ⟨⟨hK.bc Bk, ⟨(Bk.2.1 _ (by simp)).trans hNm.1, (Bk.2.1 _ (by simp)).trans hNm.2.1, by rw [lmod]; exact (Bk.2.1 _ (by simp)).trans hNm.2.2⟩, hP.bc Bk (by simp) (fun j hj => fr _ (by have : j < (o_pol M).length := hj; omega)), hLo.bc Bk (by simp) (fun j hj => fr _ (by have : j < (o_los M).length := hj; omega)), ?_, hT.bc Bk (by simp) ?_ (fr 1 (by omega))⟩, ?_, hH.bc Bk (by simp), ⟨lg, (Bk.2.2.1 _ (by decide)).trans lg1, lg2.fr (fr 3 (by omega))⟩, ns, m1.bc Bk (by simp) (fun j hj => fr _ (by have : j < (o_pol M).length := hj; omega)), m2⟩, ?_⟩, EE.mono (bkK_of hKK), i2001 Ev EE hb hKK, k12, ?_, by rw [k12]; exact k38, fun j => (Bk.row (by decide) (by simp)).2.2⟩
  · intro j x' hx'
    rw [emo] at hx'
    rcases get_mod hx' with ⟨rfl, x0, hx0, rfl⟩ | ⟨hne', hx0⟩
    · have ex : x0 = x := Option.some.inj (hx0.symm.trans hi)
      subst ex
      have edl : x0.2.2.2.2.2.dropLast = l := by rw [hx, List.dropLast_concat]
      refine ⟨c', (Bk.row (by decide) (by simp)).2.2.trans hcc, ⟨⟨w17c, by rw [k17.1]; exact y2, ?_⟩, y4, (icc _ (by decide)).trans y5, (icc _ (by decide)).trans y6, (icc _ (by decide)).trans y7, ?_⟩, ?_, ?_⟩
      · show ChF s17 _ _ (am_fR s17 11005 c') (x0.2.2.2.2.2.dropLast).reverse
        rw [edl, r05]
        refine Chn.on hn hcs (fun y hy t ht => ?_)
        have yq : y ≠ q := fun z => hnin (by rw [← z]; exact hy)
        have hyR := hR0 y (List.mem_cons_of_mem _ hy)
        have yc : y ≠ c' := fun z => by rw [z, y2] at hyR; exact absurd hyR.2 (by decide)
        have e := ec y yq yc (wne hyR.1)
        obtain ⟨t1, t2, t3, t4, t5, t6, t7, t8, t9⟩ := ht
        exact ⟨⟨(am_vup yq).trans t1, e.kd.trans t2, e.fI.trans t3, e.fI.trans t4, e.fI.trans t5, fun h => e.fI.trans (t6 h), fun h => ⟨e.fI.trans (t7 h).1, e.fI.trans (t7 h).2⟩, e.fL.trans t8, e.fL.trans t9⟩, e.fR⟩
      · show am_fI s17 11006 c' = Int32.ofNat (x0.2.2.2.2.2.dropLast).length
        rw [edl]
        exact r06
      · rw [rcc _ (by decide), z3]
        exact (Bk.row (by decide) (by simp)).2.2.symm
      · rw [rcc _ (by decide), z4]
        exact (Bk.row (by decide) (by simp)).2.2.symm
    · obtain ⟨q0, q1, q2, q3, q4⟩ := hC j x' hx0
      have fi := fr (600 + j) (by omega)
      have e := (fi q0 q2.1.1).2
      refine ⟨q0, (Bk.row (by decide) (by simp)).2.2.trans q1, q2.fr fi, ?_, ?_⟩
      · rw [e.fR, q3]
        exact (Bk.row (by decide) (by simp)).2.2.symm
      · rw [e.fR, q4]
        exact (Bk.row (by decide) (by simp)).2.2.symm
  · exact ((fr 2 (by omega)) b hK.1).2.fR
  · have h := hN.bc Bk (by decide)
    unfold BkN at h ⊢
    rw [lmod]
    exact h
  · have hneM : ne M = ne (popM M i) + 1 := by
      unfold ne
      rw [lmod]
      have e1 : sumN (fun j => ((o_cas M).getD j mCase0).2.2.2.2.2.length) (o_cas M).length = sumN (fun j => ((o_cas (popM M i)).getD j mCase0).2.2.2.2.2.length) (o_cas M).length + 1 := by
        refine sumN_upd (p := i) hil ?_ (fun j hj hne' => ?_)
        · rw [emo, List.getD_eq_getElem?_getD, hi, List.getD_eq_getElem?_getD, List.getElem?_modify_eq, hi]
          show x.2.2.2.2.2.length = (x.2.2.2.2.2.dropLast).length + 1
          rw [hx, List.dropLast_concat, len_app]
        · rw [emo, List.getD_eq_getElem?_getD, List.getD_eq_getElem?_getD, List.getElem?_modify_ne _ _ (fun z => hne' z.symm)]
      rw [e1]
      rfl
    unfold Room at R ⊢
    rw [hneM] at R
    rw [k17.2.1, k17.2.2, lmod]
    simp only [List.length_cons]
    have p1 : o_pol (popM M i) = o_pol M := rfl
    have p2 : o_los (popM M i) = o_los M := rfl
    rw [p1, p2]
    generalize 128 * 2 ^ gl = y1 at R ⊢
    omega
  · have : am_fR s12 6002 b = am_fR σ 6002 b := (E12.2 (b, 2) (fun z => by have : 2 = 600 + i := congrArg Prod.snd z; omega) (fun z => by
      have : b = 0 := congrArg Prod.fst z
      omega) b hK.1).2.fR
    rw [this]
    exact f2
end
