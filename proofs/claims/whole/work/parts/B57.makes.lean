/-! THE CLASS: periods, rules of sharing, policies -/
def WhoT (P : List mPol) (T : List mTell) : Prop := ∀ t ∈ T, t.1 ≠ 2 → t.2.1 < P.length
section
variable {nl : Bool} {Ln : Nat} {xs : Nat → Int32} {d : Nat} {σ : am_S} {w : ow_T} {b v gl nu D len n : Nat} {X : Stx} {M : mOff} {V : Nat × Nat × Nat × Nat × Nat} {Cc : Nat × Nat} {fnd : Int32} {a : mArg}
theorem bk_tellA {n most p : Nat} {which : Int32} {val : Int64} {pc : Nat} {F : Int32 → am_S → Prop} (hb : 1189 ≤ b ∨ b = 1039) (hV : Vok V) (hne : ne M ≤ 4860) (h100 : (o_pol M).length ≤ 100) (hn : (n, most) ∈ [(4, 200), (5, 300), (6, 150), (7, 150)]) (hc : m_cnt (o_tel M) (Int32.ofNat n) ≤ most) (A : Bks σ w v X b M gl nu V Cc) (hp : p < (o_pol M).length) (hpc : am_aR σ (bA σ b 6004) p = some pc)
    (K : ∀ ans M1 σ' w' X', Stg M fnd n a [] (m_tellA M fnd n most a [] p which val [] 1) ans M1 → Bks σ' w' v X' b M1 gl nu V Cc → Eff (bkK b v) σ w σ' w' → am_fI σ' 2001 1008 = am_fI σ 2001 1008 → F ans σ') : k_Bk_tellPolicy nl Ln xs (d + 3) b (Int32.ofNat n) (some pc) which val none σ F := by
  obtain ⟨Ev, ⟨hD, hN, hH, hLg, ns, hMd, hnu⟩, R⟩ := id A
  refine bk_tellPolicy (d := d) (ms := []) (C := []) hb hV hne h100 hn hc Ev hD hN hH hLg hMd hnu R hp hpc rfl ⟨rfl, fun c hc => absurd hc (by simp)⟩ (fun x hx => absurd hx (by simp)) (fun h => ?_) (fun h σ' w' X' B' E' R' f' e' _ => ?_)
  · exact K _ M σ w X (Or.inl ⟨by decide, by unfold m_tellA; rw [if_pos h], rfl⟩) A (Eff.rf Ev.1.1) rfl
  · exact K _ _ σ' w' X' (Or.inr ⟨by decide, by unfold m_tellA; rw [if_neg h]⟩) ⟨E', B', R'⟩ f' e'
theorem bk_tellPeriod {F : Int32 → am_S → Prop} (hb : 1189 ≤ b ∨ b = 1039) (hV : Vok V) (hne : ne M ≤ 4860) (h100 : (o_pol M).length ≤ 100) (hc : m_cnt (o_tel M) 5 ≤ 300) (hfit : (a 1).toInt32.toInt64 = a 1) (hD : DdR σ D 0 len 5 a) (A : Bks σ w v X b M gl nu V Cc)
    (K : ∀ r, r = (if ¬ (m_isCov (o_pol M) (a 0) ∧ m_rg (a 1) (m_year ((o_pol M).getD (m_ix (a 0)) mPol0).2.1).toInt (m_year ((o_pol M).getD (m_ix (a 0)) mPol0).2.2).toInt ∧ m_rg (a 2) 0 1000000000000) then (-2, M, fnd) else m_tellA M fnd 5 300 a [] (m_ix (a 0)) (a 1).toInt32 (a 2) [] 1) → ∀ ans M1 σ' w' X', Stg M fnd 5 a [] r ans M1 → Bks σ' w' v X' b M1 gl nu V Cc → Eff (bkK b v) σ w σ' w' → am_fI σ' 2001 1008 = am_fI σ 2001 1008 → F ans σ') : k_Bk_tellPeriod nl Ln xs (d + 4) b (some D) σ F := by
  have A0 := A
  obtain ⟨Ev, B, R⟩ := A
  have no : ¬ (m_isCov (o_pol M) (a 0) ∧ m_rg (a 1) (m_year ((o_pol M).getD (m_ix (a 0)) mPol0).2.1).toInt (m_year ((o_pol M).getD (m_ix (a 0)) mPol0).2.2).toInt ∧ m_rg (a 2) 0 1000000000000) → F (-2) σ := fun h => K _ rfl _ M σ w X (Or.inl ⟨by decide, by rw [if_pos h], rfl⟩) A0 (Eff.rf Ev.1.1) rfl
  have t12 : (1000000000000 : Int64).toInt = 1000000000000 := by decide
  have a1i : (a 1).toInt = (a 1).toInt32.toInt := by
    conv => lhs; rw [← hfit]
    exact t64 _
  refine w_Bk_tellPeriod ⟨hD.r1, is_mk B.1.1.2.1, ?_⟩
  rw [Option.getD_some, hD.a1]
  refine bk_policyAt B.1 h100 (fun h _ => ⟨hD.r2, ?_⟩) (fun pc q h hq hpc hP _ => ⟨hD.r2, ?_⟩)
  · rintro v6 rfl
    exact ⟨fun _ => no (fun z => h z.1.1), fun z => absurd rfl z⟩
  · have gq : (o_pol M).getD (m_ix (a 0)) mPol0 = q := getD_of mPol0 hq
    obtain ⟨-, p2, -, -, p5, p6, p7, -⟩ := id hP
    subst gq
    rw [hD.a2]
    rintro v6 rfl
    refine ⟨fun z => absurd z (by simp), fun _ => ⟨is_mk p2, ?_⟩⟩
    rw [Option.getD_some, p5]
    refine ⟨fun h6 => no (fun z => z.1.2 h6), fun h6 => w_Po_hasYear ⟨is_mk p2, ?_⟩⟩
    rw [p6, p7]
    have hy : (¬ ((a 1).toInt32 < ((o_pol M).getD (m_ix (a 0)) mPol0).2.1 / 365) ∧ ¬ (((o_pol M).getD (m_ix (a 0)) mPol0).2.2 / 365 < (a 1).toInt32)) ↔ m_rg (a 1) (m_year ((o_pol M).getD (m_ix (a 0)) mPol0).2.1).toInt (m_year ((o_pol M).getD (m_ix (a 0)) mPol0).2.2).toInt := by
      unfold m_rg m_year
      rw [i32lt, i32lt, a1i]
      omega
    refine fun _ => ⟨fun hd => ?_, fun hd => no (fun z => hd (decide_eq_true (hy.mpr z.2.1)))⟩
    have hd := hy.mp (of_decide_eq_true hd)
    refine ⟨hD.r3, w_Co_isMoney ?_⟩
    rw [hD.a3]
    have hm : (¬ (a 2 < 0) ∧ ¬ (1000000000000 < a 2)) ↔ m_rg (a 2) 0 1000000000000 := by
      unfold m_rg
      rw [i64lt, i64lt, z64i, t12]
      omega
    refine fun _ => ⟨fun hmo => ⟨hD.r3, ?_⟩, fun hmo => no (fun z => hmo (decide_eq_true (hm.mpr z.2.2)))⟩
    have hmo := hm.mp (of_decide_eq_true hmo)
    have hg : m_isCov (o_pol M) (a 0) ∧ m_rg (a 1) (m_year ((o_pol M).getD (m_ix (a 0)) mPol0).2.1).toInt (m_year ((o_pol M).getD (m_ix (a 0)) mPol0).2.2).toInt ∧ m_rg (a 2) 0 1000000000000 := ⟨⟨h, h6⟩, hd, hmo⟩
    refine bk_tellA (d := d) (n := 5) (most := 300) (fnd := fnd) (a := a) hb hV hne h100 (by decide) hc A0 (lt_of_get hq) hpc (fun ans M1 σ' w' X' S' A' E' f' _ => K _ rfl ans M1 σ' w' X' ?_ A' E' f')
    rw [if_neg (fun z => z hg)]
    exact S'
theorem bk_tellRule {F : Int32 → am_S → Prop} (hb : 1189 ≤ b ∨ b = 1039) (hV : Vok V) (hne : ne M ≤ 4860) (h100 : (o_pol M).length ≤ 100) (hc : m_cnt (o_tel M) 7 ≤ 150) (hD : DdR σ D 0 len 7 a) (A : Bks σ w v X b M gl nu V Cc)
    (K : ∀ r, r = (if ¬ (m_isCov (o_pol M) (a 0) ∧ m_rg (a 1) 0 2) then (-2, M, fnd) else m_tellA M fnd 7 150 a [] (m_ix (a 0)) 0 (a 1) [] 1) → ∀ ans M1 σ' w' X', Stg M fnd 7 a [] r ans M1 → Bks σ' w' v X' b M1 gl nu V Cc → Eff (bkK b v) σ w σ' w' → am_fI σ' 2001 1008 = am_fI σ 2001 1008 → F ans σ') : k_Bk_tellRule nl Ln xs (d + 4) b (some D) σ F := by
  have A0 := A
  obtain ⟨Ev, B, R⟩ := A
  have no : ¬ (m_isCov (o_pol M) (a 0) ∧ m_rg (a 1) 0 2) → F (-2) σ := fun h => K _ rfl _ M σ w X (Or.inl ⟨by decide, by rw [if_pos h], rfl⟩) A0 (Eff.rf Ev.1.1) rfl
  have t2 : (2 : Int64).toInt = 2 := by decide
  refine w_Bk_tellRule ⟨hD.r1, is_mk B.1.1.2.1, ?_⟩
  rw [Option.getD_some, hD.a1]
  refine bk_policyAt B.1 h100 (fun h _ => ⟨fun _ => no (fun z => h z.1.1), fun z => absurd rfl z⟩) (fun pc q h hq hpc hP _ => ⟨fun z => absurd z (by simp), fun _ => ⟨is_mk hP.2.1, ?_⟩⟩)
  have gq : (o_pol M).getD (m_ix (a 0)) mPol0 = q := getD_of mPol0 hq
  rw [Option.getD_some, hP.2.2.2.2.1, hD.a2]
  refine ⟨fun h6 => no (fun z => by have := z.1.2; rw [gq] at this; exact this h6), fun h6 => ⟨hD.r2, fun h0 => no (fun z => ?_), fun h0 => ⟨hD.r2, fun h2 => no (fun z => ?_), fun h2 => ⟨hD.r2, ?_⟩⟩⟩⟩
  · rw [i64lt, z64i] at h0
    have := z.2.1
    omega
  · rw [i64lt, t2] at h2
    have := z.2.2
    omega
  · rw [i64lt, z64i] at h0
    rw [i64lt, t2] at h2
    have hg : m_isCov (o_pol M) (a 0) ∧ m_rg (a 1) 0 2 := ⟨⟨h, by rw [gq]; exact h6⟩, by omega, by omega⟩
    refine bk_tellA (d := d) (n := 7) (most := 150) (fnd := fnd) (a := a) hb hV hne h100 (by decide) hc A0 (lt_of_get hq) hpc (fun ans M1 σ' w' X' S' A' E' f' _ => K _ rfl ans M1 σ' w' X' ?_ A' E' f')
    rw [if_neg (fun z => z hg)]
    exact S'
theorem saR_all {σ s : am_S} {c i k : Nat} {x : Option Nat} (h : s = am_saR σ c i x) : am_aR s c k = if k = i then x else am_aR σ c k := by
  rw [h]
  by_cases h : k = i
  · rw [if_pos h, h]; exact aR_same
  · rw [if_neg h]; exact aR_i h
theorem len_app {α : Type} (l : List α) (x : α) : (l ++ [x]).length = l.length + 1 := by simp
theorem get_app {α : Type} {l : List α} {x y : α} {i : Nat} (h : (l ++ [x])[i]? = some y) : l[i]? = some y ∨ (i = l.length ∧ y = x) := by
  by_cases hi : i < l.length
  · rw [List.getElem?_append_left hi] at h
    exact Or.inl h
  · rw [List.getElem?_append_right (by omega)] at h
    have hi2 : i - l.length = 0 := by
      have := lt_of_get h
      simp at this
      omega
    rw [hi2] at h
    exact Or.inr ⟨by omega, (Option.some.inj h).symm⟩
theorem bk_makePolicy {F : Int32 → am_S → Prop} (hb : 1189 ≤ b ∨ b = 1039) (hV : Vok V) (h100 : (o_pol M).length ≤ 100) (hper : 0 ≤ (o_per M).toInt) (hWho : WhoT (o_pol M) (o_tel M)) (hWc : ∀ x ∈ o_cas M, x.1 < (o_pol M).length) (hD : DdR σ D 0 len 3 a) (A : Bks σ w v X b M gl nu V Cc)
    (K : ∀ r, r = (if ¬ (m_rg (a 0) 0 6 ∧ (0 ≤ (a 1).toInt ∧ (a 1).toInt < (o_per M).toInt) ∧ m_rg (a 2) 0 10949 ∧ m_rg (a 3) (a 2).toInt 10949) then (-2, M, fnd) else if (o_pol M).length = 100 then (-7, M, fnd) else (Int32.ofNat (o_pol M).length, m_done (m_setPol M (o_pol M ++ [((a 0).toInt32, (a 2).toInt32, (a 3).toInt32)])) 3 a [], fnd)) → ∀ ans M1 σ' w' X', Stg M fnd 3 a [] r ans M1 → Bks σ' w' v X' b M1 gl nu V Cc → Eff (bkK b v) σ w σ' w' → am_fI σ' 2001 1008 = am_fI σ 2001 1008 → F ans σ') : k_Bk_makePolicy nl Ln xs (d + 3) b (some D) σ F := by
  have A0 := A
  obtain ⟨Ev, B, R⟩ := A
  obtain ⟨⟨hK, hNm, hP, hL, hC, hT⟩, hN, hH, ⟨lg, lg1, lg2⟩, ns, m1, m2⟩ := id B
  obtain ⟨-, -, hb1, ⟨f0, f1, f2⟩, a4, a5, a6, a7, a8, a9⟩ := id hK
  have t6 : (6 : Int64).toInt = 6 := by decide
  have tD : (10949 : Int64).toInt = 10949 := by decide
  have t100 : (100 : Int32).toInt = 100 := by decide
  have hday : ∀ x : Int64, (¬ (x < 0) ∧ ¬ (10949 < x)) ↔ m_rg x 0 10949 := fun x => by
    unfold m_rg
    rw [i64lt, i64lt, z64i, tD]
    omega
  have no : ¬ (m_rg (a 0) 0 6 ∧ (0 ≤ (a 1).toInt ∧ (a 1).toInt < (o_per M).toInt) ∧ m_rg (a 2) 0 10949 ∧ m_rg (a 3) (a 2).toInt 10949) → F (-2) σ := fun h => K _ rfl _ M σ w X (Or.inl ⟨by decide, by rw [if_pos h], rfl⟩) A0 (Eff.rf Ev.1.1) rfl
  refine w_Bk_makePolicy ?_
  rw [Option.getD_some, hD.a1, hD.a2, hN.1]
  refine ⟨hD.r1, fun _ => hD.r1, fun _ _ => hD.r2, fun _ _ _ => hD.r2, fun _ _ _ => is_mk hK.2.1, ?_⟩
  have hkp : (¬ (a 0 < 0) ∧ (¬ (6 < a 0) ∧ (¬ (a 1 < 0) ∧ (a 1 < (o_per M).toInt64)))) ↔ (m_rg (a 0) 0 6 ∧ (0 ≤ (a 1).toInt ∧ (a 1).toInt < (o_per M).toInt)) := by
    unfold m_rg
    rw [i64lt, i64lt, i64lt, i64lt, z64i, t6, t64]
    omega
  by_cases hk : (¬ (a 0 < 0) ∧ (¬ (6 < a 0) ∧ (¬ (a 1 < 0) ∧ (a 1 < (o_per M).toInt64))))
  · rw [if_pos hk]
    have hk := hkp.mp hk
    refine w_Bk_makePolicy_43 ⟨fun z => absurd z (by decide), fun _ => ⟨hD.r3, w_Co_isDay ?_⟩⟩
    rw [Option.getD_some, hD.a3]
    refine fun _ => ⟨fun h3 => ⟨hD.r4, w_Co_isDay ?_⟩, fun h3 => no (fun z => h3 (decide_eq_true ((hday _).mpr z.2.2.1)))⟩
    have h3 := (hday _).mp (of_decide_eq_true h3)
    rw [hD.a4, hD.a3]
    refine fun _ => ⟨fun h4 => ⟨hD.r4, hD.r3, fun h5 => ?_, fun h5 => ⟨is_mk hK.2.1, fun h6 => ⟨hD.r1, hD.r3, hD.r4, ?_⟩, fun h6 => ?_⟩⟩, fun h4 => no (fun z => h4 (decide_eq_true ((hday _).mpr ⟨by have := z.2.2.1.1; have := z.2.2.2.1; omega, z.2.2.2.2⟩)))⟩
    · refine no (fun z => ?_)
      rw [i64lt] at h5
      have := z.2.2.2.1
      omega
    · have h4 := (hday _).mp (of_decide_eq_true h4)
      rw [i64lt] at h5
      have hg : m_rg (a 0) 0 6 ∧ (0 ≤ (a 1).toInt ∧ (a 1).toInt < (o_per M).toInt) ∧ m_rg (a 2) 0 10949 ∧ m_rg (a 3) (a 2).toInt 10949 := ⟨hk.1, hk.2, h3, ⟨by omega, h4.2⟩⟩
      rw [hNm.1, i32lt, n32 (by omega), t100] at h6
      have hlt : (o_pol M).length < 100 := by omega
      obtain ⟨⟨o0, n0⟩, S0, R0, J0⟩ := id Ev
      rw [f2, Option.getD_some, hNm.1, hD.a1]
      refine ⟨S0.cell, ?_⟩
      refine sk_drawPolicy (d := d) (k := (b, 100 + (o_pol M).length)) S0 o0 (by omega) (fun s12 w12 c Pn S12 E12 hwc nx12 sl12 _ => ?_)
      obtain ⟨⟨c1, c2, c3⟩, c4, c5, c6, c7, c8⟩ := Pn
      have nst := nst_b hb1
      have fb := E12.bk (nst 2) hb1
      have ix : 0 ≤ (Int32.ofNat (o_pol M).length).toInt ∧ (Int32.ofNat (o_pol M).length).toInt < 100 := by rw [n32 (by omega)]; omega
      rw [a4.1, Option.getD_some, n32c (by omega)]
      refine ⟨ar_mk ((fb _ a4.2.1).2.kd.trans a4.2.2) ix.1 ix.2, fun x hx => by rw [← Option.some.inj hx, c2], ?_⟩
      intro s14 e14 s17 e17
      have B12 : Bc b [6012] [6004] σ w s12 w12 := Bc.of hK fb
      have K12 := hK.bc B12
      have eA12 : bA s12 b 6004 = bA σ b 6004 := B12.eA (by decide)
      have B14 : Bc b [6012] [6004] s12 w12 s14 w12 := by
        rw [e14, ← eA12]
        exact Bc.saR K12 (by decide) (by decide)
      have B17 : Bc b [6012] [6004] s14 w12 s17 w12 := by rw [e17]; exact Bc.sfI (by decide)
      have Bk := (B12.trans B14).trans B17
      have wA : w12 (bA σ b 6004) = (b, 2) := (fb _ a4.2.1).1
      have wb : w12 b = (b, 2) := (fb b hK.1).1
      have E14 : Eff (fun q => q = (b, 2)) s12 w12 s14 w12 := by rw [e14]; exact Eff.saR E12.1 wA
      have E17 : Eff (fun q => q = (b, 2)) s14 w12 s17 w12 := by rw [e17]; exact Eff.sfI E14.1 wb
      have EE : Eff (fun q => stK q ∨ q = (b, 2)) σ w s17 w12 := ((E12.mono (fun q h => Or.inl h)).trans (E14.mono (fun q h => Or.inr h))).trans (E17.mono (fun q h => Or.inr h))
      have hKK : ∀ q, (stK q ∨ q = (b, 2)) → stK q ∨ q.1 = b := fun q h => by
        rcases h with h | h
        · exact Or.inl h
        · rw [h]; exact Or.inr rfl
      have fr : ∀ j, j ≠ 2 → Fr σ w s17 w12 (b, j) := fun j h1 => EE.bk (fun z => by
        rcases z with h | h
        · exact nst j h
        · exact h1 (congrArg Prod.snd h)) hb1
      have e12 : am_fI s14 6012 b = Int32.ofNat (o_pol M).length := by rw [e14]; exact (fb b hK.1).2.fI.trans hNm.1
      have e1712 : am_fI s17 6012 b = Int32.ofNat ((o_pol M).length + 1) := by rw [e17, rI_same, e12, n32s]
      have cb : c ≠ b := fun z => by
        rw [z, wb] at c1
        have : 2 = 100 + (o_pol M).length := congrArg Prod.snd c1
        omega
      have cA : c ≠ bA σ b 6004 := fun z => by
        rw [z, wA] at c1
        have : 2 = 100 + (o_pol M).length := congrArg Prod.snd c1
        omega
      have ec : am_eqc s12 s17 c := by rw [e17, e14]; exact (eqc_saR cA).trans (eqc_sfI cb)
      have row : ∀ i, am_aR s17 (bA s17 b 6004) i = if i = (o_pol M).length then some c else am_aR σ (bA σ b 6004) i := fun i => by
        rw [Bk.eA (by decide), e17]
        show am_aR s14 (bA σ b 6004) i = _
        rw [e14, saR_all rfl]
        by_cases h : i = (o_pol M).length
        · rw [if_pos h, if_pos h]
        · rw [if_neg h, if_neg h]
          exact (fb _ a4.2.1).2.aR
      have tl0 : tlP (o_tel M) (o_pol M).length = [] := by
        unfold tlP
        rw [List.filter_eq_nil_iff]
        intro t ht z
        rw [Bool.and_eq_true] at z
        have := hWho t ht (of_decide_eq_true z.2)
        have := of_decide_eq_true z.1
        omega
      have ans : am_fI s17 6012 b - 1 = Int32.ofNat (o_pol M).length := by rw [e1712, ← n32s, i32as]
      rw [ans]
      have nxe : am_nx s17 = am_nx σ + (if X.2.1 = [] then 1 else 0) := by rw [show am_nx s17 = am_nx s12 by rw [e17, e14], nx12]
      have sle : am_sl s17 = am_sl σ + (if X.2.1 = [] then 6 else 0) := by rw [show am_sl s17 = am_sl s12 by rw [e17, e14], sl12]
      refine K _ rfl _ (m_setPol M (o_pol M ++ [((a 0).toInt32, (a 2).toInt32, (a 3).toInt32)])) s17 w12 (X.1, X.2.1.tail, X.2.2) (Or.inr ⟨ix.1, by rw [if_neg (fun z => z hg), if_neg (by omega)]⟩) ⟨eff_env Ev EE hb hKK ((S12.eff E14 (fun q hq z => nst _ (by rw [← z]; exact hq))).eff E17 (fun q hq z => nst _ (by rw [← z]; exact hq))) rfl (by rw [nxe]; omega), ⟨⟨hK.bc Bk, ⟨?_, (Bk.2.1 _ (by decide)).trans hNm.2.1, (Bk.2.1 _ (by decide)).trans hNm.2.2⟩, ?_, hL.bc Bk (by decide) (fun i _ => fr _ (by omega)), ?_, hT.bc Bk (by decide) ?_ (fr 1 (by decide))⟩, ?_, hH.bc Bk (by decide), ⟨lg, (Bk.2.2.1 _ (by decide)).trans lg1, lg2.fr (fr 3 (by decide))⟩, fun i => if i = (o_pol M).length then [] else ns i, ?_, ?_⟩, ?_⟩ (EE.mono (bkK_of hKK)) ?_
      · show am_fI s17 6012 b = Int32.ofNat (o_pol M ++ [_]).length
        rw [len_app]
        exact e1712
      · intro i q hq
        rcases get_app hq with hq | ⟨rfl, rfl⟩
        · obtain ⟨q0, z1, z2⟩ := hP i q hq
          exact ⟨q0, by rw [row, if_neg (by have := lt_of_get hq; omega)]; exact z1, z2.fr (fr _ (by omega))⟩
        · refine ⟨c, by rw [row, if_pos rfl], c1, ec.kd.trans c2, c3, ec.fI.trans c4, ec.fI.trans c5, ec.fI.trans c6, ec.fI.trans c7, ?_⟩
          show ChT s17 w12 _ (am_fR s17 9004 c) (tlP (o_tel M) (o_pol M).length).reverse
          rw [tl0, ec.fR, c8]
          exact rfl
      · intro i x hx
        obtain ⟨q0, z1, z2, z3, z4⟩ := hC i x hx
        have fi := fr (600 + i) (by omega)
        have e := (fi q0 z2.1.1).2
        refine ⟨q0, (Bk.row (by decide) (by decide)).2.2.trans z1, z2.fr fi, ?_, ?_⟩
        · rw [e.fR, z3, row]
          by_cases h : x.1 = (o_pol M).length
          · exact absurd (hWc x (List.mem_of_getElem? hx)) (by omega)
          · rw [if_neg h]
        · rw [e.fR, z4]
          exact (Bk.row (by decide) (by decide)).2.2.symm
      · rw [e17, e14]
        exact (fb b hK.1).2.fR
      · obtain ⟨h1, h2, h3, h4, h5, h6, h7, h8, h9⟩ := hN
        exact ⟨(Bk.2.1 _ (by decide)).trans h1, by show am_fI s17 6012 b = Int32.ofNat (o_pol M ++ [_]).length; rw [len_app]; exact e1712, (Bk.2.1 _ (by decide)).trans h3, (Bk.2.1 _ (by decide)).trans h4, (Bk.2.1 _ (by decide)).trans h5, (Bk.2.1 _ (by decide)).trans h6, (Bk.2.1 _ (by decide)).trans h7, (Bk.2.1 _ (by decide)).trans h8, (Bk.2.1 _ (by decide)).trans h9⟩
      · intro i hi
        have hi : i < (o_pol M ++ [_]).length := hi
        rw [len_app] at hi
        by_cases h : i = (o_pol M).length
        · subst h
          refine ⟨by show (if (o_pol M).length = (o_pol M).length then ([] : List Nat) else ns _).Nodup; rw [if_pos rfl]; exact List.nodup_nil, c, by rw [row, if_pos rfl], c1, ?_⟩
          show MdT s17 w12 _ (tlP (o_tel M) (o_pol M).length).length (am_fR s17 9004 c) (if (o_pol M).length = (o_pol M).length then [] else ns _)
          rw [tl0, if_pos rfl]
          exact rfl
        · obtain ⟨y1, q0, y2, y3, y4⟩ := m1 i (by omega)
          have e := fr (100 + i) (by omega) q0 y3
          refine ⟨by show (if i = (o_pol M).length then ([] : List Nat) else ns i).Nodup; rw [if_neg h]; exact y1, q0, by rw [row, if_neg h]; exact y2, e.1, ?_⟩
          show MdT s17 w12 _ _ (am_fR s17 9004 q0) (if i = (o_pol M).length then [] else ns i)
          rw [if_neg h, e.2.fR]
          exact y4.fr (fr _ (by omega))
      · show nu = sumN (fun i => (if i = (o_pol M).length then ([] : List Nat) else ns i).length) (o_pol M ++ [_]).length
        rw [len_app, sumN, if_pos rfl, m2]
        exact sumN_congr (fun i hi => by rw [if_neg (by omega)])
      · have hneM : ne (m_setPol M (o_pol M ++ [((a 0).toInt32, (a 2).toInt32, (a 3).toInt32)])) = ne M := by
          unfold ne
          show (tlA (o_tel M) 2).length + sumN (fun i => (tlP (o_tel M) i).length) (o_pol M ++ [_]).length + _ = _
          rw [len_app, sumN, tl0]
          rfl
        unfold Room at R ⊢
        rw [hneM, nxe, sle]
        show (X.1.length + ne M + V.1 ≤ 9800 ∧ X.2.1.tail.length + (o_pol M ++ [_]).length + V.2.1 ≤ 200 ∧ X.2.2.1.length + (o_los M).length + V.2.2.1 ≤ 400 ∧ X.2.2.2.1.length + (o_cas M).length + V.2.2.2.1 ≤ 200 ∧ X.2.2.2.2.length + nu + V.2.2.2.2 ≤ 12000) ∧ _ ≤ 1189 + (X.1.length + ne M + V.1) + (X.2.1.tail.length + (o_pol M ++ [_]).length + V.2.1) + 3 * (X.2.2.1.length + (o_los M).length + V.2.2.1) + (X.2.2.2.1.length + (o_cas M).length + V.2.2.2.1) + (X.2.2.2.2.length + nu + V.2.2.2.2) + gl + Cc.1 ∧ _ ≤ 1704035 + 10 * (X.1.length + ne M + V.1) + 6 * (X.2.1.tail.length + (o_pol M ++ [_]).length + V.2.1) + 28 * (X.2.2.1.length + (o_los M).length + V.2.2.1) + 8 * (X.2.2.2.1.length + (o_cas M).length + V.2.2.2.1) + 5 * (X.2.2.2.2.length + nu + V.2.2.2.2) + 128 * 2 ^ gl + Cc.2
        rw [len_app]
        have hv := hV.2.1
        cases hX : X.2.1 with
        | nil =>
          rw [hX] at R
          rw [if_pos rfl, if_pos rfl]
          simp only [List.tail_nil, List.length_nil] at R ⊢
          omega
        | cons y l =>
          rw [hX] at R
          rw [if_neg (by simp), if_neg (by simp)]
          simp only [List.tail_cons, List.length_cons] at R ⊢
          omega
      · have j8 := J0.2.1 1008 (by unfold fixW; omega)
        have ne8 : (1008 : Nat) ≠ b := by omega
        rw [e17, rI_n ne8, e14]
        show am_fI s12 2001 1008 = _
        exact (E12.2 (2, 1008) (fun z => by
          rcases z with h | h
          · exact absurd h.1 (by decide)
          · exact absurd (congrArg Prod.snd h) (by decide)) (by simp) 1008 j8).2.fI
    · have h4 := (hday _).mp (of_decide_eq_true h4)
      rw [i64lt] at h5
      rw [hNm.1, i32lt, n32 (by omega), t100] at h6
      have hg : m_rg (a 0) 0 6 ∧ (0 ≤ (a 1).toInt ∧ (a 1).toInt < (o_per M).toInt) ∧ m_rg (a 2) 0 10949 ∧ m_rg (a 3) (a 2).toInt 10949 := ⟨hk.1, hk.2, h3, ⟨by omega, h4.2⟩⟩
      exact K _ rfl _ M σ w X (Or.inl ⟨by decide, by rw [if_neg (fun z => z hg), if_pos (by omega)], rfl⟩) A0 (Eff.rf Ev.1.1) rfl
  · rw [if_neg hk]
    exact w_Bk_makePolicy_43 ⟨fun _ => no (fun z => hk (hkp.mpr ⟨z.1, z.2.1⟩)), fun z => absurd rfl z⟩
end
