/-! THE CLASS: an act -/
/-- what the class's side asks of an office -/
def CkM (M : mOff) : Prop := WfX M ∧ ActT (o_tel M) ∧ ClsOk (o_tel M) ∧ WhoT (o_pol M) (o_tel M) ∧ (o_und M = false → o_hel M = [])
section
variable {nl : Bool} {Ln : Nat} {xs : Nat → Int32} {d : Nat} {σ : am_S} {w : ow_T} {b v gl nu D len n : Nat} {X : Stx} {M : mOff} {V : Nat × Nat × Nat × Nat × Nat} {Cc : Nat × Nat} {fnd : Int32} {a : mArg} {kt : Nat × Nat} {tn gt : Nat} {t : List Int32} {x2 : Option Nat}
theorem bk_235 {r : mAns} {ans x3 : Int32} {M1 : mOff} {F : Int32 → am_S → Prop} (hb : 1189 ≤ b ∨ b = 1039) (hn : n < 23) (hS : Stg M fnd n a t r ans M1) (A : Bks σ w v X b M1 gl nu V Cc) (hl : (o_log r.2.1).length < 198000) (hf : am_fI σ 2001 1008 = fnd) {a' : mArg} (hD : DdR σ D 0 len n a') (ha' : ∀ k, k < argC n → a' k = a k) (hDw : w D = (2, 1007)) (h6 : n = 6 → x2 = some tn ∧ ByR σ w kt tn gt t ∧ kt.1 ≠ b ∧ kt ≠ (0, 0) ∧ t.length < 7000 ∧ a 1 = Int64.ofNat t.length)
    (K : ∀ s' w' gl', Bks s' w' v X b r.2.1 gl' nu V Cc → Eff (fun q => q.1 = b) σ w s' w' → am_fI s' 2001 1008 = r.2.2 → F r.1 s') : c_Bk_perform_235 nl Ln xs (d + 6) b (some D) x2 x3 ans σ F := by
  have z32 : (0 : Int32).toInt = 0 := by decide
  obtain ⟨Ev, B, R⟩ := id A
  have hK := B.1.1
  have hb1 := hK.2.2.1
  refine w_Bk_perform_235 ?_
  rw [i32lt, z32]
  rcases hS with ⟨h1, h2, h3⟩ | ⟨h1, h2⟩
  · refine ⟨fun _ => ?_, fun h => absurd h1 h⟩
    rw [h2] at K
    rw [h3] at A
    exact K σ w gl A (Eff.rf Ev.1.1) hf
  · refine ⟨fun h => absurd h (by omega), fun _ => ⟨is_mk hK.2.1, ?_⟩⟩
    rw [B.2.1.2.2.2.2.1]
    intro s3 e3
    have E3 : Eff (fun q => q = (b, 2)) σ w s3 w := by rw [e3]; exact Eff.sfI Ev.1.1 hK.1
    have c3 : Bc b [6015] [] σ w s3 w := by rw [e3]; exact Bc.sfI (by decide)
    have kx : am_nx s3 = am_nx σ ∧ am_sl s3 = am_sl σ := by rw [e3]; exact ⟨rfl, rfl⟩
    have fr : ∀ j, j ≠ 2 → Fr σ w s3 w (b, j) := fun j hj => E3.bk (fun z => hj (congrArg Prod.snd z)) hb1
    have A3 : Bks s3 w v X b (upM M1 (o_now M1 + 1) (o_cas M1)) gl nu V Cc := by
      refine ⟨Ev.bk E3 hb (fun q hq => by rw [hq]) (by rw [kx.1]; exact Ev.1.2), B.num c3 (by rw [e3]) fr ?_ ⟨rfl, rfl, rfl, rfl, rfl, rfl⟩, R.eq ⟨rfl, rfl, rfl, rfl⟩ kx⟩
      obtain ⟨h1, h2, h3, h4, h5, h6, h7, h8, h9⟩ := B.2.1
      exact ⟨(c3.2.1 _ (by decide)).trans h1, (c3.2.1 _ (by decide)).trans h2, (c3.2.1 _ (by decide)).trans h3, (c3.2.1 _ (by decide)).trans h4, by rw [e3]; exact rI_same, (c3.2.1 _ (by decide)).trans h6, (c3.2.1 _ (by decide)).trans h7, (c3.2.1 _ (by decide)).trans h8, (c3.2.1 _ (by decide)).trans h9⟩
    have hDb : w D ≠ (b, 3) ∧ w D ≠ (0, 0) := by
      rw [hDw]
      refine ⟨fun z => ?_, by simp⟩
      have : 2 = b := congrArg Prod.fst z
      omega
    have D3 : DdR s3 D 0 len n a' := hD.eq (by
      rw [e3]
      refine eqc_sfI (fun z => ?_)
      rw [z, hK.1] at hDw
      have : b = 2 := congrArg Prod.fst hDw
      omega)
    have hlog : (o_log M1).length < 198000 := by
      rw [h2] at hl
      have : (o_log M1 ++ m_note n a t).length < 198000 := hl
      rw [List.length_append] at this
      omega
    refine bk_logDeed (d := d) (o := 0) (M := upM M1 (o_now M1 + 1) (o_cas M1)) (kt := kt) (tn := tn) (gt := gt) (t := t) hb hn (fun q => ?_) hlog D3 ha' hDb A3 (fun s6 w6 g6 A6 E6 _ => ?_)
    · obtain ⟨e1, e2, e3', e4, e5, e6⟩ := h6 q
      exact ⟨e1, e2.fr (E3.2 kt (fun z => e3' (by rw [z])) e4), ⟨fun z => e3' (by rw [z]), e4⟩, e5, e6⟩
    · rw [h2] at K
      have EF : Eff (fun q => q.1 = b) σ w s6 w6 := (E3.mono (fun q hq => by rw [hq])).trans (E6.mono (fun q hq => by rw [hq]))
      refine K s6 w6 g6 A6 EF ?_
      rw [← hf]
      exact (EF.2 (2, 1008) (fun z => by
        have : 2 = b := z
        omega) (by simp) 1008 (Ev.2.2.2.2.1 1008 (by unfold fixW; omega))).2.fI
theorem bk_perform {F : Int32 → am_S → Prop} (hb : 1189 ≤ b ∨ b = 1039) (hV : Vok V) (hw : CkM M) (h1 : 1 ≤ n) (h22 : n ≤ 22) (hl : (o_log M).length < 190000) (hl2 : (o_log (m_act M fnd n a t).2.1).length < 198000) (hnow : (o_now M).toInt ≤ 2000000000) (hnuV : nu + V.2.2.2.2 ≤ 11000) (hfit : n = 5 → (a 1).toInt32.toInt64 = a 1) {a' : mArg} (hD' : DdR σ D 0 len n a') (ha' : ∀ k, k < argC n → a' k = a k) (hA6 : n ≠ 6 → a' = a) (hDw : w D = (2, 1007)) (h6 : n = 6 → x2 = some tn ∧ ByR σ w kt tn gt t ∧ ¬ bkK b v kt ∧ kt ≠ (0, 0) ∧ t.length < 7000 ∧ a 1 = Int64.ofNat t.length) (A : Bks σ w v X b M gl nu V Cc) (hf : am_fI σ 2001 1008 = fnd)
    (K : ∀ r, r = m_act M fnd n a t → ∀ σ' w' X' gl' nu', Bks σ' w' v X' b r.2.1 gl' nu' V Cc → (nu' ≤ nu + t.length ∧ (r.1.toInt < 0 → nu' = nu)) → Eff (bkK b v) σ w σ' w' → am_fI σ' 2001 1008 = r.2.2 → F r.1 σ') : k_Bk_perform nl Ln xs (d + 416) b (some D) x2 σ F := by
  obtain ⟨wx, wA, wT, wWho, wU⟩ := id hw
  obtain ⟨wo, wper, w60, whel⟩ := id wx
  obtain ⟨Ev, B, R⟩ := id A
  have hne := ne_le wo wA
  have h100 := wo.1.p100
  have h200 := wo.1.l200
  have hc100 := wo.1.c100
  have hcnt := wo.1.2.1.2.2.2
  have wl : WfLL (o_los M) := wo.1.2.2.1
  have hK := B.1.1
  have kb := hK.2.1
  have hb1 := hK.2.2.1
  have h19f : am_fI σ 6019 b = b2i (o_und M) := B.2.1.2.2.2.2.2.2.2.2
  have en : ∀ k : Nat, k < 100 → (Int32.ofNat n = Int32.ofNat k ↔ n = k) := fun k hk => n32i (by omega) (by omega)
  have stay : ∀ z : Int32, m_act M fnd n a t = (z, M, fnd) → F z σ := fun z e => K (z, M, fnd) e.symm σ w X gl nu A ⟨by omega, fun _ => rfl⟩ (Eff.rf Ev.1.1) hf
  have hDk : ¬ bkK b v (2, 1007) := fun z => by
    have hv := Ev.2.2.2.1
    rcases z with h | h | h
    · have : 2 = b := h
      omega
    · exact absurd h (by decide)
    · have z2 := h.2
      simp only at z2
      omega
  -- an act that tells or makes
  have go : ∀ {r : mAns} {ans x3 : Int32} {M1 : mOff} {s1 : am_S} {w1 : ow_T} {X1 : Stx} {nu1 : Nat} {t1 : List Int32}, r = m_act M fnd n a t → Stg M fnd n a t1 r ans M1 → (n = 6 → t1 = t) → Bks s1 w1 v X1 b M1 gl nu1 V Cc → (nu1 ≤ nu + t.length ∧ (ans.toInt < 0 → nu1 = nu)) → Eff (bkK b v) σ w s1 w1 → am_fI s1 2001 1008 = am_fI σ 2001 1008 → c_Bk_perform_235 nl Ln xs (d + 416) b (some D) x2 x3 ans s1 F := by
    intro r ans x3 M1 s1 w1 X1 nu1 t1 hr hS ht A1 hnu E1 f1
    have eD := E1.2 (2, 1007) hDk (by simp) D hDw
    have ean : r.1 = ans := by
      rcases hS with ⟨_, e, _⟩ | ⟨_, e⟩
      · rw [e]
      · rw [e]
    refine bk_235 (d := d + 410) (kt := kt) (tn := tn) (gt := gt) (t := t1) (n := n) hb (by omega) hS A1 (by rw [hr]; exact hl2) (f1.trans hf) (hD'.eq eD.2) ha' eD.1 (fun q => ?_) (fun s' w' gl' A' E' f' => K r hr s' w' X1 gl' nu1 A' ⟨hnu.1, fun z => hnu.2 (by rw [← ean]; exact z)⟩ (E1.trans (E'.mono (fun q hq => Or.inl hq))) f')
    obtain ⟨e1, e2, e3, e4, e5, e6⟩ := h6 q
    rw [ht q]
    exact ⟨e1, e2.fr (E1.2 kt e3 e4), fun z => e3 (Or.inl z), e4, e5, e6⟩
  have hDn : n ≠ 6 → DdR σ D 0 len n a := fun z => by rw [← hA6 z]; exact hD'
  refine w_Bk_perform ⟨hD'.s0, ?_⟩
  have h0 : am_aL σ ((some D).getD 0) (0 : Int32).toNatClampNeg = Int64.ofNat n := hD'.h0
  rw [h0, act32 (by omega)]
  rintro v2 rfl
  have rest : ¬ (12 ≤ n ∧ n ≤ 19) → c_Bk_perform_56 nl Ln xs (d + 416) b (some D) x2 (Int32.ofNat n) σ F := by
    intro hnf
    refine w_Bk_perform_56 ⟨is_mk kb, w_Bk_perform_77 ?_⟩
    have e20 : Int32.ofNat n = 20 ↔ n = 20 := en 20 (by decide)
    have e21 : Int32.ofNat n = 21 ↔ n = 21 := en 21 (by decide)
    have e22 : Int32.ofNat n = 22 ↔ n = 22 := en 22 (by decide)
    have e6 : Int32.ofNat n = 6 ↔ n = 6 := en 6 (by decide)
    have eu : (am_fI σ 6019 b = (if (Int32.ofNat n = 21) ∨ (Int32.ofNat n = 22) then (1 : Int32) else 0)) ↔ o_und M = decide (n = 21 ∨ n = 22) := by
      rw [h19f]
      by_cases hq : n = 21 ∨ n = 22
      · rw [if_pos (hq.imp e21.mpr e22.mpr), decide_eq_true hq]
        cases o_und M <;> decide
      · rw [if_neg (fun z => hq (z.imp e21.mp e22.mp)), decide_eq_false hq]
        cases o_und M <;> decide
    rw [eu]
    refine ⟨fun hu => ?_, fun hu => stay _ (act_state hnf hu)⟩
    have hgo : ¬ (o_und M ≠ decide (n = 21 ∨ n = 22)) := fun z => z hu
    refine ⟨fun q => ?_, fun q20 => ⟨fun q => ?_, fun q22 => ⟨fun q => ?_, fun q21 => ⟨fun q => ?_, fun q6 => ?_⟩⟩⟩⟩
    · have q := e20.mp q
      subst q
      have hun : o_und M = false := by rw [hu]; decide
      have hel := wU hun
      refine ⟨is_mk kb, ?_⟩
      intro s4 e4 s7 e7
      obtain ⟨n1, n2, n3, n4, n5, n6, n7, n8, n9⟩ := B.2.1
      have c7 : Bc b [6016, 6019] [] σ w s7 w := by
        rw [e7, e4]
        exact (Bc.sfI (by decide)).trans (Bc.sfI (by decide))
      have E7 : Eff (fun q => q = (b, 2)) σ w s7 w := by
        have x1 : Eff (fun q => q = (b, 2)) σ w s4 w := by rw [e4]; exact Eff.sfI Ev.1.1 hK.1
        rw [e7]
        exact x1.trans (Eff.sfI x1.1 hK.1)
      have kx : am_nx s7 = am_nx σ ∧ am_sl s7 = am_sl σ := by rw [e7, e4]; exact ⟨rfl, rfl⟩
      have fr : ∀ j, j ≠ 2 → Fr σ w s7 w (b, j) := fun j hj => E7.bk (fun z => hj (congrArg Prod.snd z)) hb1
      have e16 : am_fI s7 6016 b = o_bat M + 1 := by
        rw [e7, rI_same, e4, rI_g (by decide), n6]
      rw [e16]
      have ea : m_act M fnd 20 a t = (o_bat M + 1, ((o_per M, o_now M, o_bat M + 1, o_tri M, true), o_pol M, o_tel M, o_los M, o_cas M, [], o_log M), fnd) := by
        unfold m_act
        rw [if_neg hnf, if_neg hgo]
        rfl
      refine K (o_bat M + 1, ((o_per M, o_now M, o_bat M + 1, o_tri M, true), o_pol M, o_tel M, o_los M, o_cas M, [], o_log M), fnd) ea.symm s7 w X gl nu ⟨Ev.bk E7 hb (fun q hq => by rw [hq]) (by rw [kx.1]; exact Ev.1.2), B.num c7 (by rw [e7, e4]) fr ?_ ⟨rfl, rfl, rfl, rfl, hel.symm, rfl⟩, R.eq ⟨rfl, rfl, rfl, rfl⟩ kx⟩ ⟨by omega, fun _ => rfl⟩ (E7.mono (fun q hq => by rw [hq]; exact Or.inl rfl)) ?_
      · exact ⟨(c7.2.1 _ (by decide)).trans n1, (c7.2.1 _ (by decide)).trans n2, (c7.2.1 _ (by decide)).trans n3, (c7.2.1 _ (by decide)).trans n4, (c7.2.1 _ (by decide)).trans n5, e16, (c7.2.1 _ (by decide)).trans n7, ((c7.2.1 _ (by decide)).trans n8).trans (by rw [hel]), by rw [e7, rI_g (by decide), e4]; exact rI_same⟩
      · rw [e7, rI_g (by decide), e4, rI_g (by decide)]
        exact hf
    · have q := e22.mp q
      subst q
      have ea : m_act M fnd 22 a t = (Int32.ofNat (o_hel M).length, m_over M (o_now M) (o_cas M) 22, fnd) := by
        unfold m_act
        rw [if_neg hnf, if_neg hgo]
        rfl
      rw [B.2.1.2.2.2.2.2.2.2.1]
      exact ⟨is_mk kb, bk_finish (d := d + 409) (n2 := 22) hb (by omega) w60 whel hl A (fun s' w' gl' A' E' f' _ => K _ ea.symm s' w' X gl' nu A' ⟨by omega, fun _ => rfl⟩ E' (f'.trans hf))⟩
    · have q := e21.mp q
      subst q
      have ea : m_act M fnd 21 a t = m_end M fnd := by
        unfold m_act
        rw [if_neg hnf, if_neg hgo]
        rfl
      rw [B.2.1.2.2.2.2.1]
      refine ⟨is_mk kb, ?_⟩
      rintro v16 rfl
      exact bk_end (d := d) hb hV wx wA wT hl hnow A hf (fun r hr s' w' X' gl' A' E' f' => K r (hr.trans ea.symm) s' w' X' gl' nu A' ⟨by omega, fun _ => rfl⟩ E' f')
    · have q := e6.mp q
      subst q
      obtain ⟨e1, e2, e3, e4, e5, e6'⟩ := h6 rfl
      have hkt : KtO w kt := fun c c1 c2 z => e3 (by
        rw [← z, Ev.2.2.1.1.1 c (by omega) c2]
        exact Or.inr (Or.inr ⟨rfl, Or.inr (Or.inl ⟨by show 1027 ≤ c; omega, by show c ≤ 1038; omega⟩)⟩))
      rw [e1]
      refine ⟨is_mk kb, bk_tellClauses (d := d + 346) (fnd := fnd) hb hV hne h100 hnuV hcnt.2.2.2.1 hD' (ha' 0 (by decide)) e2 hkt (by omega) A (fun r hr ans M1 s' w' X' nu' hS A' hnu E' f' _ => ?_)⟩
      rw [← e1]
      refine go ?_ hS (fun _ => rfl) A' hnu E' f'
      rw [hr]
      symm
      unfold m_act
      rw [if_neg hnf, if_neg hgo]
      rfl
    · have hun : o_und M = false := by
        rw [hu]
        exact decide_eq_false (fun z => z.elim (fun z => q21 (e21.mpr z)) (fun z => q22 (e22.mpr z)))
      have hWc1 : ∀ x ∈ o_cas M, x.1 < (o_pol M).length := fun x hx => by
        obtain ⟨i, hi⟩ := List.mem_iff_getElem?.mp hx
        exact (wo.1.c hi).1
      have hWc2 : ∀ x ∈ o_cas M, x.2.2.1 < (o_los M).length := fun x hx => by
        obtain ⟨i, hi⟩ := List.mem_iff_getElem?.mp hx
        exact (wo.1.c hi).2.1
      have hWc3 : ∀ x ∈ o_cas M, x.2.2.1 < (o_los M).length ∧ 0 ≤ x.2.2.2.1.toInt := fun x hx => by
        obtain ⟨i, hi⟩ := List.mem_iff_getElem?.mp hx
        refine ⟨(wo.1.c hi).2.1, ?_⟩
        have q1 := (wo.1.c hi).2.2.1
        have q2 : 0 ≤ (m_ld (o_los M) x).toInt := (wo.1.ls _ (List.mem_of_getElem? (getD_some mLoss0 (wo.1.c hi).2.1))).2.2.1
        omega
      have hDw2 : w D ≠ (b, 2) := by
        rw [hDw]
        intro z
        have : 2 = b := congrArg Prod.fst z
        omega
      refine ⟨is_mk kb, w_Bk_tellOrMake ⟨hD'.s0, ?_⟩⟩
      have hD := hDn (fun z => q6 (e6.mpr z))
      rw [h0, act32 (by omega)]
      have ent : (Int32.ofNat n).toInt = n := n32 (by omega)
      refine ⟨fun q => ?_, fun q => ?_, fun q => ?_, fun q => ?_, fun q => ?_, fun q => ?_, fun q => ?_, fun q => ?_, fun q => ?_, fun q => ?_, fun q => ?_⟩
      · have q := (en 1 (by decide)).mp q
        subst q
        refine w_Bk_tellOrMake_64 ⟨is_mk kb, bk_makePerson (d := d + 413) (fnd := fnd) (a := a) hb wper A (fun r hr ans M1 s' w' X' hS A' E' f' _ _ => go ?_ hS (fun z => absurd z (by decide)) A' ⟨by omega, fun _ => rfl⟩ E' f')⟩
        rw [hr]
        symm
        unfold m_act
        rw [if_neg hnf, if_neg hgo]
        rfl
      · have q := (en 2 (by decide)).mp q
        subst q
        refine w_Bk_tellOrMake_69 ⟨is_mk kb, bk_tellRank (d := d + 411) (fnd := fnd) hb hV hne hcnt.1 hD hDw2 A (fun r hr ans M1 s' w' X' hS A' E' f' _ _ => go ?_ hS (fun z => absurd z (by decide)) A' ⟨by omega, fun _ => rfl⟩ E' f')⟩
        rw [hr]
        symm
        unfold m_act
        rw [if_neg hnf, if_neg hgo]
        rfl
      · have q := (en 3 (by decide)).mp q
        subst q
        refine w_Bk_tellOrMake_75 ⟨is_mk kb, bk_makePolicy (d := d + 411) (fnd := fnd) hb hV h100 wper.1 wWho hWc1 hD A (fun r hr ans M1 s' w' X' hS A' E' f' _ _ => go ?_ hS (fun z => absurd z (by decide)) A' ⟨by omega, fun _ => rfl⟩ E' f')⟩
        rw [hr]
        symm
        unfold m_act
        rw [if_neg hnf, if_neg hgo]
        rfl
      · have q := (en 4 (by decide)).mp q
        subst q
        refine w_Bk_tellOrMake_81 ⟨is_mk kb, bk_tellBundle (d := d + 410) (fnd := fnd) hb hV hne wo.1 hDw hD A (fun r hr ans M1 s' w' X' hS A' E' f' _ _ => go ?_ hS (fun z => absurd z (by decide)) A' ⟨by omega, fun _ => rfl⟩ E' f')⟩
        rw [hr]
        symm
        unfold m_act
        rw [if_neg hnf, if_neg hgo]
        rfl
      · have q := (en 5 (by decide)).mp q
        subst q
        refine w_Bk_tellOrMake_87 ⟨is_mk kb, bk_tellPeriod (d := d + 410) (fnd := fnd) hb hV hne h100 hcnt.2.2.1 (hfit rfl) hD A (fun r hr ans M1 s' w' X' hS A' E' f' _ _ => go ?_ hS (fun z => absurd z (by decide)) A' ⟨by omega, fun _ => rfl⟩ E' f')⟩
        rw [hr]
        symm
        unfold m_act
        rw [if_neg hnf, if_neg hgo]
        rfl
      · have q := (en 7 (by decide)).mp q
        subst q
        refine w_Bk_tellOrMake_93 ⟨is_mk kb, bk_tellRule (d := d + 410) (fnd := fnd) hb hV hne h100 hcnt.2.2.2.2.1 hD A (fun r hr ans M1 s' w' X' hS A' E' f' _ _ => go ?_ hS (fun z => absurd z (by decide)) A' ⟨by omega, fun _ => rfl⟩ E' f')⟩
        rw [hr]
        symm
        unfold m_act
        rw [if_neg hnf, if_neg hgo]
        rfl
      · have q := (en 8 (by decide)).mp q
        subst q
        refine w_Bk_tellOrMake_99 ⟨is_mk kb, bk_makeLoss (d := d + 410) (fnd := fnd) hb hV h200 (fun i l hl => (wl.2.1 i l hl).2.1) hWc2 hD A (fun r hr ans M1 s' w' X' hS A' E' f' _ _ => go ?_ hS (fun z => absurd z (by decide)) A' ⟨by omega, fun _ => rfl⟩ E' f')⟩
        rw [hr]
        symm
        unfold m_act
        rw [if_neg hnf, if_neg hgo]
        rfl
      · have q := (en 9 (by decide)).mp q
        subst q
        refine w_Bk_tellOrMake_105 ⟨is_mk kb, bk_makePart (d := d + 410) (fnd := fnd) hb hV wl hWc2 hD A (fun r hr ans M1 s' w' X' hS A' E' f' _ _ => go ?_ hS (fun z => absurd z (by decide)) A' ⟨by omega, fun _ => rfl⟩ E' f')⟩
        rw [hr]
        symm
        unfold m_act
        rw [if_neg hnf, if_neg hgo]
        rfl
      · have q := (en 10 (by decide)).mp q
        subst q
        refine w_Bk_tellOrMake_111 ⟨is_mk kb, bk_makeItem (d := d + 412) (fnd := fnd) hb h100 wl hDw hD A (fun r hr ans M1 s' w' X' hS A' E' f' _ _ => go ?_ hS (fun z => absurd z (by decide)) A' ⟨by omega, fun _ => rfl⟩ E' f')⟩
        rw [hr]
        symm
        unfold m_act
        rw [if_neg hnf, if_neg hgo]
        rfl
      · have q := (en 11 (by decide)).mp q
        subst q
        refine w_Bk_tellOrMake_117 ⟨is_mk kb, bk_makeCase (d := d + 411) (fnd := fnd) hb hV h100 wl hc100 hWc3 hDw hD A (fun r hr ans M1 s' w' X' hS A' E' f' _ _ => go ?_ hS (fun z => absurd z (by decide)) A' ⟨by omega, fun _ => rfl⟩ E' f')⟩
        rw [hr]
        symm
        unfold m_act
        rw [if_neg hnf, if_neg hgo]
        rfl
      · exfalso
        rw [ent] at q
        rcases q with (q | q) | q
        · omega
        · have h1 : ¬ n = 20 := fun z => q20 (e20.mpr z)
          have h2 : ¬ n = 21 := fun z => q21 (e21.mpr z)
          have h3 : ¬ n = 22 := fun z => q22 (e22.mpr z)
          omega
        · exact q6 q
  have l12 : Int32.ofNat n < 12 ↔ n < 12 := n32lt (b := 12) (by omega) (by omega)
  have l19 : (19 : Int32) < Int32.ofNat n ↔ 19 < n := n32lt (a := 19) (by omega) (by omega)
  rw [l12, l19]
  refine ⟨fun q => rest (by omega), fun q => ⟨fun q2 => rest (by omega), fun q2 => ⟨is_mk kb, ?_⟩⟩⟩
  have hf12 : 12 ≤ n ∧ n ≤ 19 := by omega
  have hD := hDn (by omega)
  rw [h19f]
  refine ⟨fun hu => ?_, fun hu => ?_⟩
  · have hun : o_und M = false := by
      cases h : o_und M
      · rfl
      · rw [h] at hu
        exact absurd hu (by decide)
    refine bk_doFact (d := d) (o := 0) hb hV hne wo wT hf12.1 hf12.2 hD (Or.inl hDw) hf A (fun r hr s2 w2 X2 A2 E2 f2 _ => ?_)
    have ea := act_fact (fnd := fnd) (a := a) (t := t) hf12 hun
    rw [← hr] at ea
    have hx := fact_wf (a := a) (fnd := fnd) wo hf12.1 hf12.2 (by omega)
    rw [← hr] at hx
    refine w_Bk_perform_38 ⟨fun h1' => ⟨is_mk A2.2.1.1.1.2.1, ?_⟩, fun h1' => ?_⟩
    · have eD := E2.2 (2, 1007) hDk (by simp) D hDw
      have hlg : o_log r.2.1 = o_log M := by
        rcases hx with ⟨u1, u2⟩ | ⟨it, u1, u2, u3, u4⟩
        · rw [u1]
        · rw [u1]
          rfl
      refine bk_logDeed (d := d + 410) (o := 0) (kt := kt) (tn := tn) (gt := gt) (t := []) hb (by omega) (fun z => by omega) (by rw [hlg]; omega) (hD.eq eD.2) (fun _ _ => rfl) ⟨by rw [eD.1]; intro z; have : 2 = b := congrArg Prod.fst z; omega, by rw [eD.1]; simp⟩ A2 (fun s6 w6 g6 A6 E6 _ => ?_)
      rw [if_pos h1'] at ea
      rw [hlg] at A6
      refine K (r.1, setL r.2.1 (o_log M ++ m_note n a []), r.2.2) ea.symm s6 w6 X2 g6 nu A6 ⟨by omega, fun _ => rfl⟩ (E2.trans (E6.mono (fun q hq => by rw [hq]; exact Or.inl rfl))) ?_
      rw [← f2]
      exact (E6.2 (2, 1008) (fun z => by
        have : 2 = b := congrArg Prod.fst z
        omega) (by simp) 1008 (A2.1.2.2.2.2.1 1008 (by unfold fixW; omega))).2.fI
    · rw [if_neg h1'] at ea
      exact K r ea.symm s2 w2 X2 gl nu A2 ⟨by omega, fun _ => rfl⟩ E2 f2
  · have hun : o_und M = true := by
      cases h : o_und M
      · rw [h] at hu
        exact absurd rfl hu
      · rfl
    have ea := act_hold (fnd := fnd) (a := a) (t := t) hf12 hun
    refine bk_hold (d := d + 414) hb w60 hDw hD A (fun h60 _ => w_Bk_perform_38 ⟨fun z => absurd z (by decide), fun _ => stay _ (by rw [ea, if_pos h60])⟩) (fun h60 s' A' E' f' _ => w_Bk_perform_38 ⟨fun z => absurd z (by decide), fun _ => ?_⟩)
    rw [if_neg h60] at ea
    exact K _ ea.symm s' w X gl nu A' ⟨by omega, fun _ => rfl⟩ E' (f'.trans hf)
end
