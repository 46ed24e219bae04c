/-! THE CLASS: facts are held; a batch is over -/
theorem mul7 : ∀ h, h < 61 → Int32.ofNat h * 7 = Int32.ofNat (7 * h) := by decide +kernel
section
variable {nl : Bool} {Ln : Nat} {xs : Nat → Int32} {d : Nat} {σ : am_S} {w : ow_T} {b v gl nu D len n : Nat} {X : Stx} {M : mOff} {V : Nat × Nat × Nat × Nat × Nat} {Cc : Nat × Nat} {a : mArg}
theorem bk_hold {F : Int32 → am_S → Prop} (hb : 1189 ≤ b ∨ b = 1039) (hh : (o_hel M).length ≤ 60) (hDw : w D = (2, 1007)) (hD : DdR σ D 0 len n a) (A : Bks σ w v X b M gl nu V Cc)
    (K1 : (o_hel M).length = 60 → F (-7) σ)
    (K2 : (o_hel M).length ≠ 60 → ∀ σ', Bks σ' w v X b (m_setHel M (o_hel M ++ [(n, a)])) gl nu V Cc → Eff (bkK b v) σ w σ' w → am_fI σ' 2001 1008 = am_fI σ 2001 1008 → F (-8) σ') : k_Bk_holdFact nl Ln xs (d + 1) b (some D) σ F := by
  obtain ⟨Ev, B, R⟩ := id A
  obtain ⟨⟨hK, hNm, hP, hL, hC, hT⟩, hN, hH, ⟨lg, lg1, lg2⟩, ns, m1, m2⟩ := id B
  obtain ⟨wb, kb, hb1, ⟨f0, f1, f2⟩, a4, a5, a6, a7, a8, a9⟩ := id hK
  have t60 : (60 : Int32).toInt = 60 := by decide
  have h18 : am_fI σ 6018 b = Int32.ofNat (o_hel M).length := hN.2.2.2.2.2.2.2.1
  obtain ⟨h, eh⟩ : ∃ h, h = (o_hel M).length := ⟨_, rfl⟩
  rw [← eh] at h18 hh K1 K2
  refine w_Bk_holdFact ⟨is_mk kb, ?_⟩
  rw [h18, i32lt, n32 (by omega), t60]
  refine ⟨fun hlt => ?_, fun hge => K1 (by omega)⟩
  have K2' := K2 (by omega)
  obtain ⟨dd, edd⟩ : ∃ dd, dd = bA σ b 6008 := ⟨_, rfl⟩
  have ddk : am_kd σ dd = (1001, 420) := by rw [edd]; exact a8.2.2
  have ddw : w dd = (b, 2) := by rw [edd]; exact a8.2.1
  have ddr : am_fR σ 6008 b = some dd := by rw [edd]; exact a8.1
  have Dd : D ≠ dd := fun z => by
    rw [z, ddw] at hDw
    have : b = 2 := congrArg Prod.fst hDw
    omega
  obtain ⟨k1, k2, k3, k4, k5⟩ := id hD
  obtain ⟨s3, e3⟩ : ∃ s3, s3 = am_scL σ dd (va_cpy (am_aL σ D) (am_aL σ dd) 0 (7 * h) 7) := ⟨_, rfl⟩
  have ecp : am_cp σ [.int 7, .int (Int32.ofNat h * 7), am_ov (am_fR σ 6008 b), .int 0, am_ov (some D)] = some ([], s3) := by
    rw [mul7 h (by omega), ddr, e3]
    show (if (am_kd σ D).1 = (am_kd σ dd).1 ∧ ¬ (7 : Int32) < 0 ∧ ¬ Int32.ofNat (7 * h) < 0 ∧ ¬ (0 : Int32) < 0 ∧ (0 : Int32).toNatClampNeg + (7 : Int32).toNatClampNeg ≤ (am_kd σ D).2 ∧ (Int32.ofNat (7 * h)).toNatClampNeg + (7 : Int32).toNatClampNeg ≤ (am_kd σ dd).2 then _ else none) = _
    rw [k1, ddk, n32c (by omega), show (0 : Int32).toNatClampNeg = 0 by decide, show (7 : Int32).toNatClampNeg = 7 by decide]
    rw [if_pos ⟨rfl, by decide, by rw [i32lt, n32 (by omega), show (0 : Int32).toInt = 0 by decide]; omega, by decide, by omega, by omega⟩, if_pos rfl]
  refine ⟨s3, ecp, ?_⟩
  have o3 : Only dd σ s3 := by rw [e3]; exact ⟨rfl, rfl, rfl, fun c hc => eqc_scL hc, fun _ _ => ⟨rfl, rfl, rfl⟩⟩
  have aL3 : ∀ k, am_aL s3 dd k = va_cpy (am_aL σ D) (am_aL σ dd) 0 (7 * h) 7 k := fun k => by
    rw [e3]
    show va_up σ.2.2.2.2.2.1 dd _ dd k = _
    rw [up_same]
  have c3 : Bc b [6018] [6008] σ w s3 w := (bc_only (a := 6008) hK (by decide) (by rw [← edd]; exact o3)).mono (by simp) (by simp)
  refine ⟨is_mk (by rw [o3.1]; exact kb), ?_⟩
  rintro s6 e6
  have h18' : am_fI s3 6018 b = Int32.ofNat h := (o3.2.2.2.2 _ _).1.trans h18
  rw [h18', n32s] at e6
  have c6 : Bc b [6018] [6008] σ w s6 w := c3.trans (by rw [e6]; exact Bc.sfI (by decide))
  have E6 : Eff (fun q => q = (b, 2)) σ w s6 w := by
    have E3 : Eff (fun q => q = (b, 2)) σ w s3 w := ⟨fun c hc => Ev.1.1 c (by rw [← o3.2.1]; exact hc), fun q hq _ c hc => ⟨hc, o3.2.2.2.1 c (fun z => hq (by rw [← hc, z]; exact ddw))⟩⟩
    rw [e6]
    exact E3.trans (Eff.sfI E3.1 wb)
  have fr : ∀ j, j ≠ 2 → Fr σ w s6 w (b, j) := fun j hj => E6.bk (fun z => hj (congrArg Prod.snd z)) hb1
  have aL6 : ∀ k, am_aL s6 (bA s6 b 6008) k = va_cpy (am_aL σ D) (am_aL σ dd) 0 (7 * h) 7 k := fun k => by
    rw [c6.eA (by decide), ← edd, e6]
    exact aL3 k
  have r10 : am_fR s6 6010 b = am_fR σ 6010 b := by
    rw [e6]
    exact (o3.2.2.2.2 _ _).2.2
  have kx : am_nx s6 = am_nx σ ∧ am_sl s6 = am_sl σ := by rw [e6]; exact ⟨o3.2.1, o3.2.2.1⟩
  refine K2' s6 ⟨Ev.bk E6 hb (fun q hq => by rw [hq]) (by rw [kx.1]; exact Ev.1.2), ⟨⟨hK.bc c6, ⟨(c6.2.1 _ (by decide)).trans hNm.1, (c6.2.1 _ (by decide)).trans hNm.2.1, (c6.2.1 _ (by decide)).trans hNm.2.2⟩, hP.bc c6 (by decide) (fun i _ => fr _ (by omega)), hL.bc c6 (by decide) (fun i _ => fr _ (by omega)), hC.bc c6 (by decide) (by decide) (by decide) (fun i _ => fr _ (by omega)), hT.bc c6 (by decide) r10 (fr 1 (by decide))⟩, ?_, ?_, ⟨lg, (c6.2.2.1 _ (by decide)).trans lg1, lg2.fr (fr 3 (by decide))⟩, ns, m1.bc c6 (by decide) (fun i _ => fr _ (by omega)), m2⟩, R.eq ⟨rfl, rfl, rfl, rfl⟩ kx⟩ (E6.mono (fun q hq => by rw [hq]; exact Or.inl rfl)) (by rw [e6]; exact (rI_g (by decide)).trans (o3.2.2.2.2 _ _).1)
  · obtain ⟨h1, h2, h3, h4, h5, h6, h7, h8, h9⟩ := hN
    refine ⟨(c6.2.1 _ (by decide)).trans h1, (c6.2.1 _ (by decide)).trans h2, (c6.2.1 _ (by decide)).trans h3, (c6.2.1 _ (by decide)).trans h4, (c6.2.1 _ (by decide)).trans h5, (c6.2.1 _ (by decide)).trans h6, (c6.2.1 _ (by decide)).trans h7, ?_, (c6.2.1 _ (by decide)).trans h9⟩
    show am_fI s6 6018 b = Int32.ofNat (o_hel M ++ [(n, a)]).length
    rw [len_app, ← eh, e6]
    exact rI_same
  · intro i q hq
    have hq : (o_hel M ++ [(n, a)])[i]? = some q := hq
    rcases get_app hq with hq | ⟨hi, hq⟩
    · have hl := lt_of_get hq
      obtain ⟨q1, q2⟩ := hH i q hq
      refine ⟨?_, fun j hj => ?_⟩
      · rw [aL6]
        unfold va_cpy
        rw [if_neg (by omega), edd]
        exact q1
      · rw [aL6]
        unfold va_cpy
        rw [if_neg (by omega), edd]
        exact q2 j hj
    · subst hq
      rw [← eh] at hi
      subst hi
      refine ⟨?_, fun j hj => ?_⟩
      · rw [aL6]
        unfold va_cpy
        rw [if_pos (by omega), Nat.sub_self]
        exact k4
      · rw [aL6]
        unfold va_cpy
        rw [if_pos (by omega), show 0 + (7 * i + 1 + j - 7 * i) = 0 + 1 + j by omega]
        exact k5 j hj
/-- a batch is over -/
theorem bk_finish {n2 : Nat} {ans : Int32} {F : Int32 → am_S → Prop} (hb : 1189 ≤ b ∨ b = 1039) (hn2 : n2 < 100) (hh : (o_hel M).length ≤ 60) (hq : ∀ q ∈ o_hel M, 12 ≤ q.1 ∧ q.1 ≤ 19) (hl : (o_log M).length < 190000) (A : Bks σ w v X b M gl nu V Cc)
    (K : ∀ σ' w' gl', Bks σ' w' v X b (m_over M (o_now M) (o_cas M) n2) gl' nu V Cc → Eff (bkK b v) σ w σ' w' → am_fI σ' 2001 1008 = am_fI σ 2001 1008 → F ans σ') : k_Bk_finishBatch nl Ln xs (d + 6) b (Int32.ofNat n2) ans σ F := by
  have B := A.2.1
  obtain ⟨lg, l1, l2⟩ := B.2.2.2.1
  have hb1 := B.1.1.2.2.1
  refine w_Bk_finishBatch ?_
  rw [l1, Option.getD_some]
  refine ⟨is_mk B.1.1.2.1, is_mk l2.2.1, bk_put (d := d + 1) hb (by omega) A l1 (fun s2 w2 g2 A2 E2 hlg2 => ?_)⟩
  have w1008 : w 1008 = (2, 1008) := A.1.2.2.2.2.1 1008 (by unfold fixW; omega)
  have n2e : (Int32.ofNat n2).toInt64 = Int64.ofNat n2 := by rw [i64e, t64, n32 (by omega), n64 (by omega)]
  have nlen : ∀ l : List mDeed, (l.flatMap (fun q => m_note q.1 q.2 [])).length ≤ 70 * l.length := by
    intro l
    induction l with
    | nil => simp
    | cons q l ih =>
      have := note_le q.1 q.2
      rw [List.flatMap_cons, List.length_append, List.length_cons]
      omega
  have e20 := m_enc_len 20
  have loop : ∀ (j m : Nat) (s : am_S) (ws : ow_T) (gs : Nat), m + j = (o_hel M).length → Bks s ws v X b (setL M (o_log M ++ m_enc 20 ++ ((o_hel M).take m).flatMap (fun q => m_note q.1 q.2 []))) gs nu V Cc → Eff (fun q => q = (b, 3)) σ w s ws → am_fR s 6003 b = some lg → c_Bk_finishBatch_12 nl Ln xs (d + 6) b (Int32.ofNat n2) ans (Int32.ofNat m) s F := by
    intro j
    induction j with
    | zero =>
      intro m s ws gs hm A E hlg
      obtain ⟨Ev, B, R⟩ := id A
      obtain ⟨⟨hK, hNm, hP, hL, hC, hT⟩, hN, hH, ⟨lg', lg1, lg2⟩, ns, m1, m2⟩ := id B
      have e : lg' = lg := Option.some.inj (lg1.symm.trans hlg)
      subst e
      have h18 : am_fI s 6018 b = Int32.ofNat (o_hel M).length := hN.2.2.2.2.2.2.2.1
      refine w_Bk_finishBatch_12 ⟨is_mk hK.2.1, ?_⟩
      rw [h18, n32lt (by omega) (by omega), hlg, Option.getD_some, n2e]
      have hln := nlen ((o_hel M).take m)
      rw [List.length_take] at hln
      refine ⟨fun h => absurd h (by omega), fun _ => ⟨is_mk lg2.2.1, bk_put (d := d + 1) hb (by show (_ ++ _ : List Int32).length + 10 < 300000; rw [List.length_append, List.length_append]; omega) A hlg (fun s6 w6 g6 A6 E6 hlg6 => ?_)⟩⟩
      intro s8 e8 s11 e11 s14 e14
      obtain ⟨Ev6, B6, R6⟩ := id A6
      obtain ⟨⟨hK6, hNm6, hP6, hL6, hC6, hT6⟩, hN6, hH6, ⟨lg6, lg16, lg26⟩, ns6, m16, m26⟩ := id B6
      have c14 : Bc b [6017, 6018, 6019] [] s6 w6 s14 w6 := by
        rw [e14, e11, e8]
        exact ((Bc.sfI (by decide)).trans (Bc.sfI (by decide))).trans (Bc.sfI (by decide))
      have wb := hK6.1
      have E14 : Eff (fun q => q = (b, 2)) s6 w6 s14 w6 := by
        have x1 : Eff (fun q => q = (b, 2)) s6 w6 s8 w6 := by rw [e8]; exact Eff.sfI Ev6.1.1 wb
        have x2 : Eff (fun q => q = (b, 2)) s8 w6 s11 w6 := by rw [e11]; exact Eff.sfI x1.1 wb
        have x3 : Eff (fun q => q = (b, 2)) s11 w6 s14 w6 := by rw [e14]; exact Eff.sfI x2.1 wb
        exact (x1.trans x2).trans x3
      have fr : ∀ j, j ≠ 2 → Fr s6 w6 s14 w6 (b, j) := fun j hj => E14.bk (fun z => hj (congrArg Prod.snd z)) hb1
      have kx : am_nx s14 = am_nx s6 ∧ am_sl s14 = am_sl s6 := by rw [e14, e11, e8]; exact ⟨rfl, rfl⟩
      have elog : o_log M ++ m_enc 20 ++ ((o_hel M).take m).flatMap (fun q => m_note q.1 q.2 []) ++ m_enc (Int64.ofNat n2) = o_log M ++ (m_batchLog (o_hel M) ++ m_enc (Int64.ofNat n2)) := by
        rw [List.take_of_length_le (by omega)]
        unfold m_batchLog
        simp only [List.append_assoc]
      have lgx : ByR s6 w6 (b, 3) lg6 g6 (o_log M ++ (m_batchLog (o_hel M) ++ m_enc (Int64.ofNat n2))) := by
        rw [← elog]
        exact lg26
      have r10 : am_fR s14 6010 b = am_fR s6 6010 b := by rw [e14, e11, e8]
      have EF : Eff (fun q => q.1 = b) σ w s14 w6 := ((E.mono (fun q hq => by rw [hq])).trans (E6.mono (fun q hq => by rw [hq]))).trans (E14.mono (fun q hq => by rw [hq]))
      refine K s14 w6 g6 ⟨Ev6.bk E14 hb (fun q hq => by rw [hq]) (by rw [kx.1]; exact Ev6.1.2), ⟨⟨hK6.bc c14, ⟨(c14.2.1 _ (by decide)).trans hNm6.1, (c14.2.1 _ (by decide)).trans hNm6.2.1, (c14.2.1 _ (by decide)).trans hNm6.2.2⟩, hP6.bc c14 (by simp) (fun i _ => fr _ (by omega)), hL6.bc c14 (by simp) (fun i _ => fr _ (by omega)), hC6.bc c14 (by simp) (by simp) (by simp) (fun i _ => fr _ (by omega)), hT6.bc c14 (by simp) r10 (fr 1 (by decide))⟩, ?_, ?_, ⟨lg6, (c14.2.2.1 _ (by decide)).trans lg16, lgx.fr (fr 3 (by decide))⟩, ns6, m16.bc c14 (by simp) (fun i _ => fr _ (by omega)), m26⟩, R6.eq ⟨rfl, rfl, rfl, rfl⟩ kx⟩ (EF.mono (fun q hq => Or.inl hq)) ?_
      · obtain ⟨h1, h2, h3, h4, h5, h6, h7, h8, h9⟩ := hN6
        refine ⟨(c14.2.1 _ (by decide)).trans h1, (c14.2.1 _ (by decide)).trans h2, (c14.2.1 _ (by decide)).trans h3, (c14.2.1 _ (by decide)).trans h4, (c14.2.1 _ (by decide)).trans h5, (c14.2.1 _ (by decide)).trans h6, ?_, ?_, ?_⟩
        · rw [e14, rI_same, e11, rI_g (by decide), e8, rI_g (by decide), h7]
          rfl
        · rw [e14, rI_g (by decide), e11]
          exact rI_same
        · rw [e14, rI_g (by decide), e11, rI_g (by decide), e8]
          exact rI_same
      · intro i q hq
        have hq : ([] : List mDeed)[i]? = some q := hq
        simp at hq
      · exact (EF.2 (2, 1008) (fun z => by
          have : 2 = b := z
          omega) (by simp) 1008 w1008).2.fI
    | succ j ih =>
      intro m s ws gs hm A E hlg
      obtain ⟨Ev, B, R⟩ := id A
      obtain ⟨⟨hK, hNm, hP, hL, hC, hT⟩, hN, hH, -, -⟩ := id B
      have h18 : am_fI s 6018 b = Int32.ofNat (o_hel M).length := hN.2.2.2.2.2.2.2.1
      have a8 := hK.2.2.2.2.2.2.2.2.1
      obtain ⟨q, hqm⟩ := get_ex (show m < (o_hel M).length by omega)
      have hqq := hq q (List.mem_of_getElem? hqm)
      obtain ⟨q1, q2⟩ := hH m q hqm
      have Dm : DdR s (bA s b 6008) (7 * m) 420 q.1 q.2 := ⟨a8.2.2, by omega, by omega, q1, q2⟩
      refine w_Bk_finishBatch_12 ⟨is_mk hK.2.1, ?_⟩
      rw [h18, n32lt (by omega) (by omega), mul7 m (by omega), a8.1]
      have hln := nlen ((o_hel M).take m)
      rw [List.length_take] at hln
      refine ⟨fun _ => bk_logDeed (d := d) (kt := (0, 0)) (tn := 0) (gt := 0) (t := []) hb (by omega) (fun z => absurd z (by omega)) (by show (_ ++ _ : List Int32).length < 198000; rw [List.length_append, List.length_append]; omega) Dm (fun _ _ => rfl) ⟨by rw [a8.2.1]; simp, by rw [a8.2.1]; simp⟩ A (fun s6 w6 g6 A6 E6 _ => ?_), fun h => absurd (by omega) h⟩
      rw [n32s]
      have f3 : am_fR s6 6003 b = am_fR s 6003 b := (E6.2 (b, 2) (by simp) (by simp) b hK.1).2.fR
      refine ih (m + 1) s6 w6 g6 (by omega) ?_ (E.trans E6) (f3.trans hlg)
      have et : ((o_hel M).take (m + 1)).flatMap (fun q => m_note q.1 q.2 []) = ((o_hel M).take m).flatMap (fun q => m_note q.1 q.2 []) ++ m_note q.1 q.2 [] := by
        rw [List.take_add_one, hqm, List.flatMap_append]
        simp
      rw [et, ← List.append_assoc]
      exact A6
  refine loop (o_hel M).length 0 s2 w2 g2 (by omega) ?_ E2 hlg2
  rw [List.take_zero, List.flatMap_nil, List.append_nil]
  exact A2
end
