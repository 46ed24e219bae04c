/-! THE CLASS: something is told of a policy, or of a rank -/
section
variable {nl : Bool} {Ln : Nat} {xs : Nat → Int32} {d : Nat} {σ : am_S} {w : ow_T} {b v gl nu : Nat} {X : Stx} {M : mOff} {V : Nat × Nat × Nat × Nat × Nat} {Cc : Nat × Nat}
theorem eff_env {X' : Stx} {σ' : am_S} {w' : ow_T} {K : Nat × Nat → Prop} (Ev : EnvR σ w v X) (E : Eff K σ w σ' w') (hb : 1189 ≤ b ∨ b = 1039) (hK : ∀ q, K q → stK q ∨ q.1 = b) (S : Stk σ' w' X'.1 X'.2.1 X'.2.2.1 X'.2.2.2.1) (h5 : X'.2.2.2.2 = X.2.2.2.2) (hn : 1189 ≤ am_nx σ') : EnvR σ' w' v X' := by
  obtain ⟨⟨o, n⟩, -, R, J⟩ := Ev
  have nb : ∀ c, ¬ (1008 ≤ c ∧ c ≤ 1037) ∧ ¬ (1048 ≤ c ∧ c ≤ 1052) ∨ ¬ K (2, c) := fun c => by
    by_cases h : K (2, c)
    · refine Or.inl ⟨fun z => ?_, fun z => ?_⟩
      · rcases hK _ h with h | h
        · rcases h with h | h
          · have : 2 = 1 := h.1
            omega
          · have : c = 1038 := congrArg Prod.snd h
            omega
        · have : 2 = b := h
          omega
      · rcases hK _ h with h | h
        · rcases h with h | h
          · have : 2 = 1 := h.1
            omega
          · have : c = 1038 := congrArg Prod.snd h
            omega
        · have : 2 = b := h
          omega
    · exact Or.inr h
  refine ⟨⟨E.1, hn⟩, S, ?_, J.eff E (fun c hc => ?_)⟩
  · rw [h5]
    refine rdl_eff R E (fun c c1 c2 => ?_) (fun z => ?_)
    · rcases nb c with h | h
      · exact absurd ⟨by omega, c2⟩ h.1
      · exact h
    · rcases hK _ z with h | h
      · rcases h with h | h
        · have : 5 ≤ 4 := h.2
          omega
        · exact absurd h (by simp)
      · have : 1 = b := h
        omega
  · unfold fixW at hc
    rcases nb c with h | h
    · omega
    · exact h
theorem bkK_of {K : Nat × Nat → Prop} (h : ∀ q, K q → stK q ∨ q.1 = b) : ∀ q, K q → bkK b v q := fun q hq => by
  rcases h q hq with h | h
  · rcases h with h | h
    · exact Or.inr (Or.inl h.1)
    · rw [h]
      exact Or.inr (Or.inr ⟨rfl, Or.inr (Or.inl ⟨by decide, by decide⟩)⟩)
  · exact Or.inl h
theorem bk_tellPolicy {n most p : Nat} {which : Int32} {val : Int64} {C : List mCl} {ms : List Nat} {pc : Nat} {ns : Nat → List Nat} {F : Int32 → am_S → Prop} (hb : 1189 ≤ b ∨ b = 1039) (hV : Vok V) (hne : ne M ≤ 4860) (h100 : (o_pol M).length ≤ 100) (hn : (n, most) ∈ [(4, 200), (5, 300), (6, 150), (7, 150)]) (hc : m_cnt (o_tel M) (Int32.ofNat n) ≤ most) (Ev : EnvR σ w v X) (hD : BkD σ w b (o_pol M) (o_tel M) (o_los M) (o_cas M)) (hN : BkN σ b M) (hH : BkH σ b (o_hel M)) (hLg : ∃ lg, am_fR σ 6003 b = some lg ∧ ByR σ w (b, 3) lg gl (o_log M)) (hMd : MdB σ w b (o_pol M) (o_tel M) ns) (hnu : nu = sumN (fun i => (ns i).length) (o_pol M).length) (R : Room σ X M (nu + ms.length) gl V Cc) (hp : p < (o_pol M).length) (hpc : am_aR σ (bA σ b 6004) p = some pc) (hcl : ClN σ w (b, 100 + p) ms.head? C) (hms : MdN σ w (b, 100 + p) ms.head? ms) (hdis : ∀ x ∈ ms, x ∉ ns p)
    (K1 : m_cnt (o_tel M) (Int32.ofNat n) = most → F (-7) σ)
    (K2 : m_cnt (o_tel M) (Int32.ofNat n) ≠ most → ∀ σ' w' X', BookR σ' w' b (m_setTel M (o_tel M ++ [(Int32.ofNat n, p, which, o_now M + 1, val, C)])) gl (nu + ms.length) → EnvR σ' w' v X' → Room σ' X' (m_setTel M (o_tel M ++ [(Int32.ofNat n, p, which, o_now M + 1, val, C)])) (nu + ms.length) gl V Cc → Eff (bkK b v) σ w σ' w' → am_fI σ' 2001 1008 = am_fI σ 2001 1008 → (∀ g, am_fI σ' g 1034 = am_fI σ g 1034) → F 1 σ') : k_Bk_tellPolicy nl Ln xs (d + 3) b (Int32.ofNat n) (some pc) which val ms.head? σ F := by
  obtain ⟨hK, hNm, hP, hL, hC, hT⟩ := id hD
  have hn5 : n = 4 ∨ n = 5 ∨ n = 6 ∨ n = 7 := by
    simp only [List.mem_cons, Prod.mk.injEq, List.mem_nil_iff, or_false] at hn
    omega
  have hmost : most ≤ 300 := by
    simp only [List.mem_cons, Prod.mk.injEq, List.mem_nil_iff, or_false] at hn
    omega
  have hn2 : (Int32.ofNat n) ≠ 2 := fun z => by
    rw [i32e, n32 (by omega), show (2 : Int32).toInt = 2 by decide] at z
    omega
  obtain ⟨-, -, b3, ⟨f0, f1, f2⟩, a4, a5, a6, a7, a8, a9⟩ := id hK
  have hb1 : 1000 ≤ b := b3
  obtain ⟨pc', q1, q2⟩ := hP p _ (getD_some mPol0 hp)
  have epc : pc' = pc := Option.some.inj (q1.symm.trans hpc)
  subst epc
  obtain ⟨p1, p2, p3, p4, p5, p6, p7, p8⟩ := id q2
  refine w_Bk_tellPolicy ⟨is_mk hK.2.1, bk_isToldOut (d := d + 1) (most := most) hK hT.1 (by simp only [List.mem_cons, Prod.mk.injEq, List.mem_nil_iff, or_false] at hn ⊢; omega) hc (fun _ => ⟨fun h => K1 (of_decide_eq_true h), fun h => ?_⟩)⟩
  have hcn : m_cnt (o_tel M) (Int32.ofNat n) ≠ most := fun z => h (decide_eq_true z)
  have n8 : (Int32.ofNat n).toInt = n := n32 (by omega)
  rw [a7.1, Option.getD_some, n32c (by omega), hT.1 n (by omega), n32s]
  refine ⟨ar_mk a7.2.2 (by rw [n8]; omega) (by rw [n8]; omega), ar_mk a7.2.2 (by rw [n8]; omega) (by rw [n8]; omega), ?_⟩
  intro s7 e7
  obtain ⟨⟨o0, n0⟩, S0, R0, J0⟩ := id Ev
  have E7 : Eff (fun q => q = (b, 2)) σ w s7 w := by rw [e7]; exact Eff.saI o0 a7.2.1
  have B7 : Bc b [] [6007] σ w s7 w := by rw [e7]; exact Bc.saI hK (by decide) (by decide)
  have S7 : Stk s7 w X.1 X.2.1 X.2.2.1 X.2.2.2.1 := S0.eff E7 (fun q hq z => by
    rw [z] at hq
    rcases hq with h | h
    · have : b = 1 := h.1
      omega
    · have : b = 2 := congrArg Prod.fst h
      omega)
  have k7 : am_kd s7 = am_kd σ := by rw [e7]
  have f7 : ∀ g c, am_fR s7 g c = am_fR σ g c := fun g c => by rw [e7]
  have i7 : ∀ g c, am_fI s7 g c = am_fI σ g c := fun g c => by rw [e7]
  have x7 : am_nx s7 = am_nx σ ∧ am_sl s7 = am_sl σ := by rw [e7]; exact ⟨rfl, rfl⟩
  rw [f7 6002 b, f2, Option.getD_some, Option.getD_some, f7 9004 pc', i7 6015 b, hN.2.2.2.2.1]
  refine ⟨is_mk (by rw [k7]; exact p2), S7.cell, ?_⟩
  refine sk_drawEntry (d := d) (k := (b, 100 + p)) S7 E7.1 (by rw [x7.1]; omega) (fun s12 w12 c En S12 E12 hwc nx12 sl12 _ => ?_)
  intro s14 e14
  obtain ⟨⟨c1, c2, c3⟩, c4, c5, c6, c7, c8, c9⟩ := En
  have cpc : c ≠ pc' := fun z => by
    rw [z, p1] at hwc
    rcases hwc with h | h
    · have := congrArg Prod.fst h
      simp at this
      omega
    · have := congrArg Prod.fst h
      simp at this
      omega
  have nst : ∀ j, ¬ stK (b, j) := fun j z => by
    rcases z with h | h
    · have : b = 1 := h.1
      omega
    · have : b = 2 := congrArg Prod.fst h
      omega
  have hwpc : w12 pc' = (b, 100 + p) := (E12.bk (nst _) hb1 pc' p1).1
  have E14 : Eff (fun q => q = (b, 100 + p)) s12 w12 s14 w12 := by rw [e14]; exact Eff.sfR E12.1 hwpc
  have EE : Eff (fun q => stK q ∨ q = (b, 2) ∨ q = (b, 100 + p)) σ w s14 w12 := ((E7.mono (fun q h => Or.inr (Or.inl h))).trans (E12.mono (fun q h => Or.inl h))).trans (E14.mono (fun q h => Or.inr (Or.inr h)))
  have hKK : ∀ q, (stK q ∨ q = (b, 2) ∨ q = (b, 100 + p)) → stK q ∨ q.1 = b := fun q h => by
    rcases h with h | h | h
    · exact Or.inl h
    · rw [h]; exact Or.inr rfl
    · rw [h]; exact Or.inr rfl
  have fr : ∀ j, j ≠ 2 → j ≠ 100 + p → Fr σ w s14 w12 (b, j) := fun j h1 h2 => EE.bk (fun z => by
    rcases z with h | h | h
    · exact nst j h
    · exact h1 (congrArg Prod.snd h)
    · exact h2 (congrArg Prod.snd h)) hb1
  have B12 : Bc b [] [6007] s7 w s12 w12 := Bc.of (hK.bc B7) (E12.bk (nst 2) hb1)
  have pcb : ∀ g, g ∈ bkAs → bA σ b g ≠ pc' := fun g hg z => by
    obtain ⟨kd, len, ak, -⟩ := hK.arr hg
    have := ak.2.1
    rw [z, p1] at this
    have := congrArg Prod.snd this
    simp at this
    omega
  have bpc : b ≠ pc' := fun z => by
    have := hK.1
    rw [z, p1] at this
    have := congrArg Prod.snd this
    simp at this
    omega
  have B14 : Bc b [] [6007] s12 w12 s14 w12 := by
    rw [e14]
    exact ⟨fun _ h => ⟨h, rfl⟩, fun _ _ => rfl, fun _ _ => rR_n bpc, fun _ _ _ _ => ⟨rfl, rfl, rfl⟩⟩
  have Bk := (B7.trans B12).trans B14
  have K14 := hK.bc Bk
  -- the owner of the policy's cells
  have fk : Fq σ w s14 w12 (b, 100 + p) pc' := fun x hx hxp => by
    have h7 : am_eqc σ s7 x := by
      rw [e7]
      refine eqc_saI (fun z => ?_)
      rw [z, a7.2.1] at hx
      have := congrArg Prod.snd hx
      simp at this
      omega
    have h12 := E12.bk (nst (100 + p)) hb1 x hx
    exact ⟨h12.1, (h7.trans h12.2).trans (by rw [e14]; exact eqc_sfR hxp)⟩
  have kd14 : am_kd s14 = am_kd s12 := by rw [e14]
  have hne9 : am_kd σ pc' ≠ (9, 0) := by rw [p2]; decide
  have hne8 : am_kd σ pc' ≠ (8, 0) := by rw [p2]; decide
  have r14 : ∀ g y, g ≠ 9004 → am_fR s14 g y = am_fR s12 g y := fun g y hg => by rw [e14]; exact rR_g hg
  have i14 : ∀ g y, am_fI s14 g y = am_fI s12 g y := fun g y => by rw [e14]
  have l14 : ∀ g y, am_fL s14 g y = am_fL s12 g y := fun g y => by rw [e14]
  have eT : EnT s14 w12 (b, 100 + p) c (Int32.ofNat n, p, which, o_now M + 1, val, C) := by
    refine ⟨c1, by rw [kd14]; exact c2, (i14 _ _).trans c4, (i14 _ _).trans c5, (i14 _ _).trans c6, (l14 _ _).trans c7, ?_⟩
    rw [r14 _ _ (by decide), c8]
    exact hcl.fq fk hne9
  have h94 : am_fR s14 9004 pc' = some c := by rw [e14]; exact rR_same
  have epc12 : am_eqc s7 s12 pc' := (E12.bk (nst (100 + p)) hb1 pc' p1).2
  have ipc : ∀ g, am_fI s14 g pc' = am_fI σ g pc' := fun g => (i14 _ _).trans (epc12.fI.trans (i7 _ _))
  have h75 : am_fR s14 7005 c = am_fR σ 9004 pc' := (r14 _ _ (by decide)).trans c9
  have h74 : am_fR s14 7004 c = ms.head? := (r14 _ _ (by decide)).trans c8
  have tl : ∀ i, tlP (o_tel M ++ [(Int32.ofNat n, p, which, o_now M + 1, val, C)]) i = if i = p then tlP (o_tel M) i ++ [(Int32.ofNat n, p, which, o_now M + 1, val, C)] else tlP (o_tel M) i := fun i => by
    rw [tlP_app]
    by_cases h : i = p
    · rw [if_pos h, if_pos ⟨h.symm, hn2⟩]
    · rw [if_neg h, if_neg (fun z => h z.1.symm)]
  have tA2 : tlA (o_tel M ++ [(Int32.ofNat n, p, which, o_now M + 1, val, C)]) 2 = tlA (o_tel M) 2 := by
    rw [tlA_app, if_neg hn2]
  obtain ⟨lg, lg1, lg2⟩ := hLg
  have nd : ms.Nodup := by
    have : ∀ (l : List Nat) (h : Option Nat), Rch (am_fR σ 8004) h l → l.Nodup := by
      intro l
      induction l with
      | nil => intro _ _; exact List.nodup_nil
      | cons c l ih => intro h hh; exact List.nodup_cons.mpr ⟨hh.nin, ih _ hh.2⟩
    exact this ms _ hms.1
  refine K2 hcn s14 w12 (X.1.tail, X.2) ⟨⟨K14, ?_, ?_, ?_, ?_, ?_, ?_⟩, ?_, hH.bc Bk (by decide), ⟨lg, (Bk.2.2.1 _ (by decide)).trans lg1, lg2.fr (fr 3 (by decide) (by omega))⟩, fun i => if i = p then ms ++ ns p else ns i, ?_, ?_⟩ (eff_env Ev EE hb hKK (S12.eff E14 (fun q hq z => nst _ (by rw [← z]; exact hq))) rfl (by rw [show am_nx s14 = am_nx s12 by rw [e14], nx12, x7.1]; omega)) ?_ (EE.mono (bkK_of hKK)) ?_ (fun g => ?_)
  · exact ⟨(Bk.2.1 _ (by simp)).trans hNm.1, (Bk.2.1 _ (by simp)).trans hNm.2.1, (Bk.2.1 _ (by simp)).trans hNm.2.2⟩
  · intro i q hq
    have hi := lt_of_get hq
    by_cases hip : i = p
    · subst hip
      have hq : (o_pol M)[i]? = some q := hq
      have eq : q = (o_pol M).getD i mPol0 := (getD_of mPol0 hq).symm
      refine ⟨pc', (Bk.row (by decide) (by decide)).2.2.trans hpc, hwpc, by rw [kd14, epc12.kd, k7]; exact p2, p3, (ipc _).trans p4, by rw [ipc, eq]; exact p5, by rw [ipc, eq]; exact p6, by rw [ipc, eq]; exact p7, ?_⟩
      show ChT s14 w12 (b, 100 + i) (am_fR s14 9004 pc') (tlP (o_tel M ++ [(Int32.ofNat n, i, which, o_now M + 1, val, C)]) i).reverse
      rw [tl, if_pos rfl, List.reverse_append, h94]
      exact ⟨c, rfl, eT, by rw [h75]; exact p8.fq fk hne9 hne8⟩
    · obtain ⟨q0, z1, z2⟩ := hP i q hq
      refine ⟨q0, (Bk.row (by decide) (by decide)).2.2.trans z1, ?_⟩
      show PoR s14 w12 (b, 100 + i) q0 i q (tlP (o_tel M ++ [(Int32.ofNat n, p, which, o_now M + 1, val, C)]) i)
      rw [tl, if_neg hip]
      exact z2.fr (fr (100 + i) (by omega) (by omega))
  · have h200 : ∀ i, i < (o_los M).length → Fr σ w s14 w12 (b, 300 + i) := fun i _ => fr (300 + i) (by omega) (by omega)
    exact hL.bc Bk (by decide) h200
  · exact hC.bc Bk (by decide) (by decide) (by decide) (fun i _ => fr (600 + i) (by omega) (by omega))
  · intro q hq
    show am_aI s14 (bA s14 b 6007) q = Int32.ofNat (m_cnt (o_tel M ++ [_]) (Int32.ofNat q))
    have e1 : am_aI s14 (bA s14 b 6007) q = am_aI s7 (bA σ b 6007) q := by
      rw [(B7.trans B12 |>.trans B14).eA (by decide), e14]
      show am_aI s12 (bA σ b 6007) q = _
      exact (E12.bk (nst 2) hb1 _ a7.2.1).2.aI
    rw [e1, cnt_app, e7]
    show am_aI (am_saI σ (bA σ b 6007) n _) (bA σ b 6007) q = _
    rw [saI_all rfl]
    by_cases hqn : q = n
    · rw [if_pos hqn, hqn, if_pos rfl]
    · rw [if_neg hqn, if_neg (fun z => hqn ?_), Nat.add_zero]
      · exact hT.1 q hq
      · have z : Int32.ofNat n = Int32.ofNat q := z
        rw [i32e, n32 (by omega), n32 (by omega)] at z
        omega
  · show ChT s14 w12 (b, 1) (am_fR s14 6010 b) (tlA (o_tel M ++ [_]) 2).reverse
    rw [tA2]
    have : am_fR s14 6010 b = am_fR σ 6010 b := by
      rw [r14 _ _ (by decide), (E12.bk (nst 2) hb1 b hK.1).2.fR, f7]
    rw [this]
    exact ChT.fr hT.2 (fr 1 (by decide) (by omega))
  · exact hN.bc Bk (by decide)
  · intro i hi
    have hi : i < (o_pol M).length := hi
    by_cases hip : i = p
    · subst hip
      obtain ⟨m1, q0, m2, m3, m4⟩ := hMd i hi
      have eq0 : q0 = pc' := Option.some.inj (m2.symm.trans hpc)
      subst eq0
      refine ⟨?_, q0, (Bk.row (by decide) (by decide)).2.2.trans hpc, hwpc, ?_⟩
      · show (if i = i then ms ++ ns i else ns i).Nodup
        rw [if_pos rfl, List.nodup_append]
        exact ⟨nd, m1, fun x hx y hy z => hdis x hx (by rw [z]; exact hy)⟩
      · show MdT s14 w12 (b, 100 + i) (tlP (o_tel M ++ [_]) i).length (am_fR s14 9004 q0) (if i = i then ms ++ ns i else ns i)
        rw [tl, if_pos rfl, if_pos rfl, List.length_append, List.length_singleton, h94]
        exact ⟨c, ms, ns i, rfl, ⟨c1, by rw [kd14]; exact c2⟩, by rw [h74]; exact hms.fq fk hne9, rfl, by rw [h75]; exact m4.fq fk hne9 hne8⟩
    · obtain ⟨m1, q0, m2, m3, m4⟩ := hMd i hi
      have ff := fr (100 + i) (by omega) (by omega)
      have e := ff q0 m3
      refine ⟨by show (if i = p then ms ++ ns p else ns i).Nodup; rw [if_neg hip]; exact m1, q0, (Bk.row (by decide) (by decide)).2.2.trans m2, e.1, ?_⟩
      show MdT s14 w12 (b, 100 + i) (tlP (o_tel M ++ [_]) i).length (am_fR s14 9004 q0) (if i = p then ms ++ ns p else ns i)
      rw [tl, if_neg hip, if_neg hip, e.2.fR]
      exact m4.fr ff
  · show nu + ms.length = sumN (fun i => (if i = p then ms ++ ns p else ns i).length) (o_pol M).length
    rw [hnu]
    refine (sumN_upd (p := p) hp ?_ (fun i hi hne => ?_)).symm
    · rw [if_pos rfl, List.length_append]
      omega
    · rw [if_neg hne]
  · have hneM : ne (m_setTel M (o_tel M ++ [(Int32.ofNat n, p, which, o_now M + 1, val, C)])) = ne M + 1 := by
      unfold ne
      show (tlA (o_tel M ++ [_]) 2).length + sumN (fun i => (tlP (o_tel M ++ [_]) i).length) (o_pol M).length + _ = _
      rw [tA2, sumN_upd (f := fun i => (tlP (o_tel M) i).length) (p := p) (c := 1) hp (by show (tlP _ p).length = _; rw [tl, if_pos rfl, List.length_append]; rfl) (fun i hi hne => by show (tlP _ i).length = _; rw [tl, if_neg hne])]
      show _ + _ + sumN (fun i => ((o_cas M).getD i mCase0).2.2.2.2.2.length) (o_cas M).length = _
      omega
    unfold Room at R ⊢
    rw [hneM]
    have nxe : am_nx s14 = am_nx σ + (if X.1 = [] then 1 else 0) := by rw [show am_nx s14 = am_nx s12 by rw [e14], nx12, x7.1]
    have sle : am_sl s14 = am_sl σ + (if X.1 = [] then 10 else 0) := by rw [show am_sl s14 = am_sl s12 by rw [e14], sl12, x7.2]
    rw [nxe, sle]
    show (X.1.tail.length + (ne M + 1) + V.1 ≤ 9800 ∧ X.2.1.length + (o_pol M).length + V.2.1 ≤ 200 ∧ X.2.2.1.length + (o_los M).length + V.2.2.1 ≤ 400 ∧ X.2.2.2.1.length + (o_cas M).length + V.2.2.2.1 ≤ 200 ∧ X.2.2.2.2.length + (nu + ms.length) + V.2.2.2.2 ≤ 12000) ∧ _ ≤ 1189 + (X.1.tail.length + (ne M + 1) + V.1) + (X.2.1.length + (o_pol M).length + V.2.1) + 3 * (X.2.2.1.length + (o_los M).length + V.2.2.1) + (X.2.2.2.1.length + (o_cas M).length + V.2.2.2.1) + (X.2.2.2.2.length + (nu + ms.length) + V.2.2.2.2) + gl + Cc.1 ∧ _ ≤ 1704035 + 10 * (X.1.tail.length + (ne M + 1) + V.1) + 6 * (X.2.1.length + (o_pol M).length + V.2.1) + 28 * (X.2.2.1.length + (o_los M).length + V.2.2.1) + 8 * (X.2.2.2.1.length + (o_cas M).length + V.2.2.2.1) + 5 * (X.2.2.2.2.length + (nu + ms.length) + V.2.2.2.2) + 128 * 2 ^ gl + Cc.2
    have hv := hV.1
    cases hX : X.1 with
    | nil =>
      rw [hX] at R
      rw [if_pos rfl, if_pos rfl]
      simp only [List.tail_nil, List.length_nil] at R ⊢
      omega
    | cons y l =>
      rw [hX] at R
      rw [if_neg (by simp), if_neg (by simp)]
      simp only [List.tail_cons, List.length_cons] at R ⊢
      omega
  · rw [i14, (E12.2 (2, 1008) (fun z => by
      rcases z with h | h
      · exact absurd h.1 (by decide)
      · exact absurd (congrArg Prod.snd h) (by decide)) (by simp) 1008 (J0.2.1 1008 (by unfold fixW; omega))).2.fI, i7]
  · rw [i14, (E12.2 (2, 1034) (fun z => by
      rcases z with h | h
      · exact absurd h.1 (by decide)
      · exact absurd (congrArg Prod.snd h) (by decide)) (by simp) 1034 (R0.1.1 1034 (by omega) (by omega))).2.fI, i7]
end
