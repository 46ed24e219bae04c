/-! THE CLASS: clauses are told -/
section
variable {nl : Bool} {Ln : Nat} {xs : Nat → Int32} {d : Nat} {σ : am_S} {w : ow_T} {b v gl nu D len n : Nat} {X : Stx} {M : mOff} {V : Nat × Nat × Nat × Nat × Nat} {Cc : Nat × Nat} {fnd : Int32} {a : mArg}
theorem rd_env {X' : Stx} {σ' : am_S} {w' : ow_T} (Ev : EnvR σ w v X) (E : Eff rdX σ w σ' w') (R : RdK σ' w' ∧ Fls σ' w' (1, 5) 9 8004 (am_fR σ' 4006 1034) X'.2.2.2.2) (h : X'.1 = X.1 ∧ X'.2.1 = X.2.1 ∧ X'.2.2.1 = X.2.2.1 ∧ X'.2.2.2.1 = X.2.2.2.1) (hn : 1189 ≤ am_nx σ') : EnvR σ' w' v X' := by
  obtain ⟨⟨o, n⟩, S, -, J⟩ := Ev
  obtain ⟨h1, h2, h3, h4⟩ := h
  refine ⟨⟨E.1, hn⟩, ?_, R, J.eff E (fun c hc z => ?_)⟩
  · rw [h1, h2, h3, h4]
    refine S.eff E (fun q hq z => ?_)
    rcases z with z | z
    · rw [z] at hq
      rcases hq with h | h
      · have : 5 ≤ 4 := h.2
        omega
      · exact absurd h (by simp)
    · rcases hq with h | h
      · omega
      · rw [h] at z
        have : 1038 ≤ 1037 := z.2.2
        omega
  · unfold fixW at hc
    rcases z with z | z
    · exact absurd z (by simp)
    · have : 1034 ≤ c := z.2.1
      have : c ≤ 1037 := z.2.2
      omega
theorem bk_tellClauses {kt : Nat × Nat} {tn gt : Nat} {t : List Int32} {F : Int32 → am_S → Prop} (hb : 1189 ≤ b ∨ b = 1039) (hV : Vok V) (hne : ne M ≤ 4860) (h100 : (o_pol M).length ≤ 100) (hnuV : nu + V.2.2.2.2 ≤ 11000) (hc : m_cnt (o_tel M) 6 ≤ 150) {a' : mArg} (hD : DdR σ D 0 len 6 a') (ha0 : a' 0 = a 0) (hT : ByR σ w kt tn gt t) (hkt : KtO w kt) (htl : t.length < 100000) (A : Bks σ w v X b M gl nu V Cc)
    (K : ∀ r, r = (if ¬ (m_isCov (o_pol M) (a 0) ∧ t.length ≤ 400) then (-2, M, fnd) else if m_cnt (o_tel M) 6 = 150 then (-7, M, fnd) else (match m_parse t with
    | .inl e => (-10 - Int32.ofNat e, M, fnd)
    | .inr C => m_tellA M fnd 6 150 a t (m_ix (a 0)) 0 0 C (Int32.ofNat C.length))) → ∀ ans M1 σ' w' X' nu', Stg M fnd 6 a t r ans M1 → Bks σ' w' v X' b M1 gl nu' V Cc → (nu' ≤ nu + t.length ∧ (ans.toInt < 0 → nu' = nu)) → Eff (bkK b v) σ w σ' w' → am_fI σ' 2001 1008 = am_fI σ 2001 1008 → F ans σ') : k_Bk_tellClauses nl Ln xs (d + 69) b (some D) (some tn) σ F := by
  have A0 := A
  obtain ⟨Ev, B, R⟩ := A
  have no : ¬ (m_isCov (o_pol M) (a 0) ∧ t.length ≤ 400) → F (-2) σ := fun h => K _ rfl _ M σ w X nu (Or.inl ⟨by decide, by rw [if_pos h], rfl⟩) A0 ⟨by omega, fun _ => rfl⟩ (Eff.rf Ev.1.1) rfl
  obtain ⟨hBD, hN, hH, ⟨lg, lg1, lg2⟩, ns, m1, m2⟩ := id B
  obtain ⟨hK, hNm, hP, hL, hC, hTl⟩ := id hBD
  obtain ⟨-, -, hb1, ⟨f0, f1, f2⟩, a4, a5, a6, a7, a8, a9⟩ := id hK
  refine w_Bk_tellClauses ⟨hD.r1, is_mk hK.2.1, ?_⟩
  rw [Option.getD_some, hD.a1, ha0]
  refine bk_policyAt hBD h100 (fun h _ => ⟨fun _ => no (fun z => h z.1.1), fun z => absurd rfl z⟩) (fun pc q h hq hpc hPo _ => ⟨fun z => absurd z (by simp), fun _ => ⟨is_mk hPo.2.1, ?_⟩⟩)
  have gq : (o_pol M).getD (m_ix (a 0)) mPol0 = q := getD_of mPol0 hq
  subst gq
  rw [Option.getD_some, Option.getD_some, hPo.2.2.2.2.1, hT.2.2.2.2.1]
  refine ⟨fun h6 => no (fun z => z.1.2 h6), fun h6 => ⟨is_mk hT.2.1, fun h4 => no (fun z => ?_), fun h4 => ?_⟩⟩
  · have := (n32lt (a := 400) (b := t.length) (by omega) (by omega)).mp h4
    have := z.2
    omega
  have hl : t.length ≤ 400 := by
    have : ¬ 400 < t.length := fun z => h4 ((n32lt (a := 400) (b := t.length) (by omega) (by omega)).mpr z)
    omega
  have hg : m_isCov (o_pol M) (a 0) ∧ t.length ≤ 400 := ⟨⟨h, h6⟩, hl⟩
  refine bk_isToldOut (d := d + 67) (n := 6) (most := 150) hK hTl.1 (by decide) hc (fun _ => ⟨fun hto => ?_, fun hto => ?_⟩)
  · have hcm : m_cnt (o_tel M) (Int32.ofNat 6) = 150 := of_decide_eq_true hto
    exact K _ rfl _ M σ w X nu (Or.inl ⟨by decide, by rw [if_neg (fun z => z hg), if_pos (show m_cnt (o_tel M) 6 = 150 from hcm)], rfl⟩) A0 ⟨by omega, fun _ => rfl⟩ (Eff.rf Ev.1.1) rfl
  have hcm : m_cnt (o_tel M) (Int32.ofNat 6) ≠ 150 := fun z => hto (decide_eq_true z)
  have hp := lt_of_get hq
  obtain ⟨p, hpe⟩ : ∃ p, p = m_ix (a 0) := ⟨_, rfl⟩
  rw [← hpe] at hp hpc hPo hq
  have hko : RdO (b, 100 + p) := ⟨fun z => by have : b = 0 := congrArg Prod.fst z; omega, fun z => by have : b = 1 := congrArg Prod.fst z; omega, fun c z => by have : b = 2 := congrArg Prod.fst z; omega⟩
  rw [f1, Option.getD_some]
  obtain ⟨⟨o0, n0⟩, S0, ⟨R0, I0⟩, J0⟩ := id Ev
  have nrd : ∀ j, ¬ rdX (b, j) := fun j z => by
    rcases z with z | z
    · have : b = 1 := congrArg Prod.fst z
      omega
    · have : b = 2 := z.1
      omega
  have rdb : ∀ q, rdX q → bkK b v q := fun q z => by
    rcases z with z | z
    · rw [z]; exact Or.inr (Or.inl rfl)
    · exact Or.inr (Or.inr ⟨z.1, Or.inr (Or.inl ⟨by omega, by omega⟩)⟩)
  have r8 : ¬ rdX (2, 1008) := fun z => by
    rcases z with z | z
    · exact absurd z (by simp)
    · exact absurd z.2.1 (by decide)
  refine ⟨is_mk R0.2.1, ?_⟩
  refine rd_read (d := d + 1) hko hl R0 o0 (by omega) I0 hT hkt (fun e hpe2 he σ' w' lN' R' N' f5 E' hln hlg nx' sl' _ => ?_) (fun C hpe2 σ' w' ms R' N' f5 f4 hcl hrch hms hlen hlt E' nx' sl' _ => ?_)
  · have fB : FrB σ w σ' w' b := fun j => E'.bk (nrd j) hb1
    have B' := B.fr fB
    rw [(B'.1.1.2.2.2.1.2.1), Option.getD_some, f5]
    refine ⟨is_mk R'.2.1, fun z => absurd z (fltE he), fun _ => ?_⟩
    have hneg : (-10 - Int32.ofNat e).toInt < 0 := by
      rw [i32sub (by rw [n32 (by omega), show (-10 : Int32).toInt = -10 by decide]; omega) (by rw [n32 (by omega), show (-10 : Int32).toInt = -10 by decide]; omega), n32 (by omega), show (-10 : Int32).toInt = -10 by decide]
      omega
    refine K _ rfl _ M σ' w' (X.1, X.2.1, X.2.2.1, X.2.2.2.1, lN') nu (Or.inl ⟨hneg, by rw [if_neg (fun z => z hg), if_neg (show ¬ m_cnt (o_tel M) 6 = 150 from hcm), hpe2], rfl⟩) ⟨rd_env Ev E' ⟨R', N'⟩ ⟨rfl, rfl, rfl, rfl⟩ ?_, B', ?_⟩ ⟨by omega, fun _ => rfl⟩ (E'.mono rdb) (E'.2 _ r8 (by simp) 1008 (J0.2.1 1008 (by unfold fixW; omega))).2.fI
    · omega
    · unfold Room at R ⊢
      show (X.1.length + ne M + V.1 ≤ 9800 ∧ X.2.1.length + (o_pol M).length + V.2.1 ≤ 200 ∧ X.2.2.1.length + (o_los M).length + V.2.2.1 ≤ 400 ∧ X.2.2.2.1.length + (o_cas M).length + V.2.2.2.1 ≤ 200 ∧ lN'.length + nu + V.2.2.2.2 ≤ 12000) ∧ _ ≤ 1189 + (X.1.length + ne M + V.1) + (X.2.1.length + (o_pol M).length + V.2.1) + 3 * (X.2.2.1.length + (o_los M).length + V.2.2.1) + (X.2.2.2.1.length + (o_cas M).length + V.2.2.2.1) + (lN'.length + nu + V.2.2.2.2) + gl + Cc.1 ∧ _ ≤ 1704035 + 10 * (X.1.length + ne M + V.1) + 6 * (X.2.1.length + (o_pol M).length + V.2.1) + 28 * (X.2.2.1.length + (o_los M).length + V.2.2.1) + 8 * (X.2.2.2.1.length + (o_cas M).length + V.2.2.2.1) + 5 * (lN'.length + nu + V.2.2.2.2) + 128 * 2 ^ gl + Cc.2
      omega
  · have fB : FrB σ w σ' w' b := fun j => E'.bk (nrd j) hb1
    have c' : Bc b [] [] σ w σ' w' := Bc.of hK (fB 2)
    have D' := hBD.fr fB
    have eA : bA σ' b 6004 = bA σ b 6004 := c'.eA (by decide)
    rw [(D'.1.2.2.2.1.2.1), Option.getD_some, f5]
    refine ⟨is_mk R'.2.1, fun _ => ?_, fun z => absurd rfl z⟩
    have x' : 1189 ≤ am_nx σ' := by rw [nx']; omega
    have Ev' : EnvR σ' w' v (X.1, X.2.1, X.2.2.1, X.2.2.2.1, X.2.2.2.2.drop ms.length) := rd_env Ev E' ⟨R', N'⟩ ⟨rfl, rfl, rfl, rfl⟩ x'
    have R1 : Room σ' (X.1, X.2.1, X.2.2.1, X.2.2.2.1, X.2.2.2.2.drop ms.length) M (nu + ms.length) gl V Cc := by
      unfold Room at R ⊢
      show (X.1.length + ne M + V.1 ≤ 9800 ∧ X.2.1.length + (o_pol M).length + V.2.1 ≤ 200 ∧ X.2.2.1.length + (o_los M).length + V.2.2.1 ≤ 400 ∧ X.2.2.2.1.length + (o_cas M).length + V.2.2.2.1 ≤ 200 ∧ (X.2.2.2.2.drop ms.length).length + (nu + ms.length) + V.2.2.2.2 ≤ 12000) ∧ _ ≤ 1189 + (X.1.length + ne M + V.1) + (X.2.1.length + (o_pol M).length + V.2.1) + 3 * (X.2.2.1.length + (o_los M).length + V.2.2.1) + (X.2.2.2.1.length + (o_cas M).length + V.2.2.2.1) + ((X.2.2.2.2.drop ms.length).length + (nu + ms.length) + V.2.2.2.2) + gl + Cc.1 ∧ _ ≤ 1704035 + 10 * (X.1.length + ne M + V.1) + 6 * (X.2.1.length + (o_pol M).length + V.2.1) + 28 * (X.2.2.1.length + (o_los M).length + V.2.2.1) + 8 * (X.2.2.2.1.length + (o_cas M).length + V.2.2.2.1) + 5 * ((X.2.2.2.2.drop ms.length).length + (nu + ms.length) + V.2.2.2.2) + 128 * 2 ^ gl + Cc.2
      rw [List.length_drop]
      omega
    refine bk_tellPolicy (d := d + 65) (n := 6) (most := 150) (p := p) (C := C) (ms := ms) (ns := ns) hb hV hne h100 (by decide) hc Ev' D' (hN.bc c' (by decide)) (hH.bc c' (by simp)) ⟨lg, (c'.2.2.1 _ (by decide)).trans lg1, lg2.fr (fB 3)⟩ (m1.bc c' (by simp) (fun i _ => fB _)) m2 R1 hp (by rw [eA]; exact (c'.2.2.2 6004 (by decide) (by simp) p).2.2.trans hpc) hcl ⟨hrch, fun c hc => (hms c hc).1⟩ (fun x hx hin => ?_) (fun z => absurd z hcm) (fun hcm' σ2 w2 X2 B2 E2 R2 f2' e2 e34 _ => ?_)
    · obtain ⟨-, q0, -, -, y4⟩ := m1 p hp
      exact (hms x hx).2 (y4.own x hin)
    · rw [(B2.1.1.2.2.2.1.2.1), Option.getD_some, e34 4004, f4]
      have hC30 : C.length ≤ ms.length := by
        rw [hlen]
        have : ∀ l : List mCl, l.length ≤ clN l := by
          intro l
          induction l with
          | nil => exact Nat.le_refl _
          | cons c l ih =>
            rw [clN, List.length_cons]
            unfold cN
            omega
        exact this C
      refine ⟨is_mk E2.2.2.1.1.2.1, K _ rfl _ _ σ2 w2 X2 (nu + ms.length) (Or.inr ⟨by rw [n32 (by omega)]; omega, ?_⟩) ⟨E2, B2, R2⟩ ⟨by omega, fun z => absurd z (by rw [n32 (by omega)]; omega)⟩ ((E'.mono rdb).trans f2') (e2.trans (E'.2 _ r8 (by simp) 1008 (J0.2.1 1008 (by unfold fixW; omega))).2.fI)⟩
      rw [if_neg (fun z => z hg), if_neg (show ¬ m_cnt (o_tel M) 6 = 150 from hcm), hpe2]
      dsimp only
      unfold m_tellA
      rw [if_neg hcm, ← hpe]
end
