/-! THE CLASS: the rows of bytes of the desk -/
section
variable {nl : Bool} {Ln : Nat} {xs : Nat → Int32} {d : Nat} {σ s : am_S} {w ws : ow_T} {τ : am_S} {v b gl nu : Nat} {X : Stx} {sp : Option Nat} {g : Grw} {D : mTop}
theorem by_clr {k : Nat × Nat} {n gg : Nat} {L : List Int32} {F : am_S → Prop} (h : ByR σ w k n gg L) (ho : OwI σ w) (K : ∀ σ', ByR σ' w k n gg [] → ByC σ w σ' w k gg gg → F σ') : k_By_clear nl Ln xs (d + 1) n σ F := by
  obtain ⟨a1, a2, a3, a4, a5, m, b1, b2, b3, b4, b5⟩ := h
  refine w_By_clear ⟨is_mk a2, ?_⟩
  intro s2 e2
  have mn : m ≠ n := fun z => by
    rw [z, a2] at b3
    exact absurd (congrArg Prod.fst b3) (show ¬ (2 : Nat) = 1002 by decide)
  refine K s2 ?_ ?_
  · rw [e2]
    exact ⟨a1, a2, a3, by simp, rI_same, m, b1, b2, b3, fun i hi => absurd hi (by simp), b5⟩
  · rw [e2]
    exact ⟨Eff.sfI ho a1, rfl, rfl⟩
theorem Bks.byt {M : mOff} {V : Nat × Nat × Nat × Nat × Nat} {Cc Cc' : Nat × Nat} {c : Nat} (hb : 1189 ≤ b ∨ b = 1039) (A : Bks σ w v X b M gl nu V Cc) (E : Eff (fun q => q = (2, c)) σ w s ws) (hc : c < 1008) (hx : am_nx σ ≤ am_nx s) (hr : Room s X M nu gl V Cc') : Bks s ws v X b M gl nu V Cc' := by
  obtain ⟨⟨⟨o1, n1⟩, St, Rd, J⟩, B, Rm⟩ := A
  refine ⟨⟨⟨E.1, by omega⟩, St.eff E (fun q hq z => ?_), rdl_eff Rd E (fun c' c1 c2 z => ?_) (fun z => absurd (congrArg Prod.fst z) (show ¬ (1 : Nat) = 2 by decide)), J.eff E (fun c' hc' z => ?_)⟩, B.fr (fun j => E.bk (fun z => ?_) (by omega)), hr⟩
  · rw [z] at hq
    rcases hq with h | h
    · exact absurd h.1 (show ¬ (2 : Nat) = 1 by decide)
    · have : c = 1038 := congrArg Prod.snd h
      omega
  · have : c' = c := congrArg Prod.snd z
    omega
  · have : c' = c := congrArg Prod.snd z
    unfold fixW at hc'
    omega
  · have : b = 2 := congrArg Prod.fst z
    omega
theorem CoR.eff {K : Nat × Nat → Prop} (C : CoR σ w v b sp) (E : Eff K σ w s ws) (h1 : ¬ K (2, 1000)) (h2 : ¬ K (2, 1007)) : CoR s ws v b sp := by
  have w7 := C.2.2.2.2.2.2.1
  have e0 := E.2 (2, 1000) h1 (by simp) 1000 C.1.1
  have e7 := E.2 (2, 1007) h2 (by simp) 1007 w7
  exact C.fr (fun c hc => by
    rcases hc with rfl | rfl
    · exact ⟨e0.1.trans C.1.1.symm, e0.2⟩
    · exact ⟨e7.1.trans w7.symm, e7.2⟩)
theorem snd_ne {a c : Nat} (h : a ≠ c) : ¬ ((2, a) : Nat × Nat) = (2, c) := fun z => h (congrArg Prod.snd z)
theorem fst_ne {a e c : Nat} (h : a ≠ 2) : ¬ ((a, e) : Nat × Nat) = (2, c) := fun z => h (congrArg Prod.fst z)
theorem DskC.tap {g' : Nat} {L : List Int32} (R : DskC τ σ w v X b sp g gl nu D) (hB : ByR s ws (2, 1001) 1001 g' L) (hc : ByC σ w s ws (2, 1001) g.1 g') (hx : am_nx σ ≤ am_nx s) : DskC τ s ws v X b sp (g', g.2) gl nu (d_setTap D L) := by
  obtain ⟨C, hb, ht, T, ⟨tx, Tx⟩, S, ⟨⟨ov, Lk⟩, hl13⟩, A, hf, hsp, hrf⟩ := R
  obtain ⟨E, e1, e2⟩ := hc
  have hv := A.1.2.2.2.1
  have hO := A.1.2.2.2.2.1
  have e0 := E.2 (2, 1000) (snd_ne (by decide)) (by simp) 1000 C.1.1
  have e8 := E.2 (2, 1008) (snd_ne (by decide)) (by simp) 1008 (hO 1008 (by unfold fixW; omega))
  refine ⟨C.eff E (snd_ne (by decide)) (snd_ne (by decide)), hb, e0.2.fI.trans ht, hB, ⟨tx, Tx.fr (E.2 (2, 1003) (snd_ne (by decide)) (by simp))⟩, S.fr (E.2 (2, 1005) (snd_ne (by decide)) (by simp)), ⟨⟨ov, Lk.eqc (fun j hj => (E.2 (2, 2070 - v + j) (snd_ne (by omega)) (by simp) _ (hO _ (by unfold fixW; omega))).2)⟩, hl13⟩, A.byt hb E (by omega) hx ?_, e8.2.fI.trans hf, fun b2 h2 => ⟨(hsp b2 h2).1, (hsp b2 h2).2.1, (hsp b2 h2).2.2.fr (fun j => E.bk (fst_ne (by have := (hsp b2 h2).1; omega)) (by have := (hsp b2 h2).1; omega))⟩, hrf.eff E (fst_ne (by decide))⟩
  obtain ⟨R1, R2, R3⟩ := A.2.2
  unfold grC at R2 R3
  simp only at R2 R3
  refine ⟨R1, ?_, ?_⟩
  · unfold grC
    simp only
    generalize (if sp = none then 0 else 20 + g.2.2.2) = q1 at R2 ⊢
    show _ ≤ 1189 + (X.1.length + ne (d_off D) + 0) + (X.2.1.length + (o_pol (d_off D)).length + 0) + 3 * (X.2.2.1.length + (o_los (d_off D)).length + 0) + (X.2.2.2.1.length + (o_cas (d_off D)).length + 0) + (X.2.2.2.2.length + nu + 0) + gl + _
    omega
  · unfold grC
    simp only
    generalize (if sp = none then 0 else 5000 + 128 * 2 ^ g.2.2.2) = q1 at R3 ⊢
    generalize 128 * 2 ^ g.2.1 = q2 at R3 ⊢
    generalize 128 * 2 ^ g.2.2.1 = q3 at R3 ⊢
    generalize 128 * 2 ^ g.1 = q4 at R3 e2
    generalize 128 * 2 ^ g' = q5 at e2 ⊢
    generalize 128 * 2 ^ gl = q6 at R3 ⊢
    show _ ≤ 1704035 + 10 * (X.1.length + ne (d_off D) + 0) + 6 * (X.2.1.length + (o_pol (d_off D)).length + 0) + 28 * (X.2.2.1.length + (o_los (d_off D)).length + 0) + 8 * (X.2.2.2.1.length + (o_cas (d_off D)).length + 0) + 5 * (X.2.2.2.2.length + nu + 0) + q6 + _
    omega
theorem DskC.let {g' : Nat} {L : List Int32} (R : DskC τ σ w v X b sp g gl nu D) (hB : ByR s ws (2, 1005) 1005 g' L) (hc : ByC σ w s ws (2, 1005) g.2.2.1 g') (hx : am_nx σ ≤ am_nx s) : DskC τ s ws v X b sp (g.1, g.2.1, g', g.2.2.2) gl nu (d_setLet D L) := by
  obtain ⟨C, hb, ht, T, ⟨tx, Tx⟩, S, ⟨⟨ov, Lk⟩, hl13⟩, A, hf, hsp, hrf⟩ := R
  obtain ⟨E, e1, e2⟩ := hc
  have hv := A.1.2.2.2.1
  have hO := A.1.2.2.2.2.1
  have e0 := E.2 (2, 1000) (snd_ne (by decide)) (by simp) 1000 C.1.1
  have e8 := E.2 (2, 1008) (snd_ne (by decide)) (by simp) 1008 (hO 1008 (by unfold fixW; omega))
  refine ⟨C.eff E (snd_ne (by decide)) (snd_ne (by decide)), hb, e0.2.fI.trans ht, T.fr (E.2 (2, 1001) (snd_ne (by decide)) (by simp)), ⟨tx, Tx.fr (E.2 (2, 1003) (snd_ne (by decide)) (by simp))⟩, hB, ⟨⟨ov, Lk.eqc (fun j hj => (E.2 (2, 2070 - v + j) (snd_ne (by omega)) (by simp) _ (hO _ (by unfold fixW; omega))).2)⟩, hl13⟩, A.byt hb E (by omega) hx ?_, e8.2.fI.trans hf, fun b2 h2 => ⟨(hsp b2 h2).1, (hsp b2 h2).2.1, (hsp b2 h2).2.2.fr (fun j => E.bk (fst_ne (by have := (hsp b2 h2).1; omega)) (by have := (hsp b2 h2).1; omega))⟩, hrf.eff E (fst_ne (by decide))⟩
  obtain ⟨R1, R2, R3⟩ := A.2.2
  unfold grC at R2 R3
  simp only at R2 R3
  refine ⟨R1, ?_, ?_⟩
  · unfold grC
    simp only
    generalize (if sp = none then 0 else 20 + g.2.2.2) = q1 at R2 ⊢
    show _ ≤ 1189 + (X.1.length + ne (d_off D) + 0) + (X.2.1.length + (o_pol (d_off D)).length + 0) + 3 * (X.2.2.1.length + (o_los (d_off D)).length + 0) + (X.2.2.2.1.length + (o_cas (d_off D)).length + 0) + (X.2.2.2.2.length + nu + 0) + gl + _
    omega
  · unfold grC
    simp only
    generalize (if sp = none then 0 else 5000 + 128 * 2 ^ g.2.2.2) = q1 at R3 ⊢
    generalize 128 * 2 ^ g.2.1 = q2 at R3 ⊢
    generalize 128 * 2 ^ g.2.2.1 = q3 at R3 e2
    generalize 128 * 2 ^ g.1 = q4 at R3 ⊢
    generalize 128 * 2 ^ g' = q5 at e2 ⊢
    generalize 128 * 2 ^ gl = q6 at R3 ⊢
    show _ ≤ 1704035 + 10 * (X.1.length + ne (d_off D) + 0) + 6 * (X.2.1.length + (o_pol (d_off D)).length + 0) + 28 * (X.2.2.1.length + (o_los (d_off D)).length + 0) + 8 * (X.2.2.2.1.length + (o_cas (d_off D)).length + 0) + 5 * (X.2.2.2.2.length + nu + 0) + q6 + _
    omega
theorem co_correct {p0 p1 p2 p3 p5 : Int32} {p4 : Int64} {F : Int32 → am_S → Prop} (G : DskG D nu) (R : DskC τ σ w v X b sp g gl nu D) (K : ∀ s ws X' gl' nu', nu' ≤ nu → DskC τ s ws v X' b sp g gl' nu' (d_act D 16 [p0.toInt64, p1.toInt64, p2.toInt64, p3.toInt64, p4, p5.toInt64]).2 → F (d_act D 16 [p0.toInt64, p1.toInt64, p2.toInt64, p3.toInt64, p4, p5.toInt64]).1 s) : k_Co_correct nl Ln xs (d + 417) 1000 p0 p1 p2 p3 p4 p5 σ F := by
  refine w_Co_correct ⟨is_mk R.1.1.2, co_fill (d := d + 415) (n := 16) (by decide) R.1 (fun s2 o2 D2 _ => ?_)⟩
  have R2 := R.deed o2
  have f3 := R2.1.2.1.2.2.2
  have k7 := R2.1.2.2.2.2.2.2.2
  rw [f3, Option.getD_some]
  refine ⟨ar_mk k7 (by decide) (by decide), ?_⟩
  intro s5 e5
  have x5 : am_fR s5 3 1000 = some 1007 ∧ am_kd s5 1007 = (1001, 7) := by rw [e5]; exact ⟨f3, k7⟩
  rw [x5.1, Option.getD_some]
  refine ⟨ar_mk x5.2 (by decide) (by decide), ?_⟩
  intro s9 e9
  have o9 : Only 1007 s2 s9 := by rw [e9, e5]; exact Only.saL.trans Only.saL
  obtain ⟨d1, d2, d3, d4, d5⟩ := D2
  have D9 : DdR s9 1007 0 7 16 (d_arg [p0.toInt64, p1.toInt64, p2.toInt64, p3.toInt64, p4, p5.toInt64]) := by
    refine ⟨by rw [o9.1]; exact d1, d2, d3, ?_, fun j hj => ?_⟩
    · rw [e9, aL_i (by decide), e5, aL_i (by decide)]
      exact d4
    · have hj : j = 0 ∨ j = 1 ∨ j = 2 ∨ j = 3 ∨ j = 4 ∨ j = 5 := by omega
      rcases hj with rfl | rfl | rfl | rfl | rfl | rfl
      · rw [e9, aL_i (by decide), e5, aL_i (by decide)]
        exact d5 0 (by decide)
      · rw [e9, aL_i (by decide), e5, aL_i (by decide)]
        exact d5 1 (by decide)
      · rw [e9, aL_i (by decide), e5, aL_i (by decide)]
        exact d5 2 (by decide)
      · rw [e9, aL_i (by decide), e5, aL_i (by decide)]
        exact d5 3 (by decide)
      · rw [e9, aL_i (by decide), e5]
        exact aL_same
      · rw [e9]
        exact aL_same
  exact co_act (d := d) (a := d_arg [p0.toInt64, p1.toInt64, p2.toInt64, p3.toInt64, p4, p5.toInt64]) G (R2.deed o9) (by decide) (by decide) (by decide) (fun z => absurd z (by decide)) D9 (fun r hr s ws X' gl' nu' hn R' _ => by
    have := K s ws X' gl' nu' hn
    unfold d_act at this
    rw [← hr] at this
    exact this R')
/-- clauses of the tape -/
theorem co_clauses {p : Int32} {F : Int32 → am_S → Prop} (G : DskG D nu) (htap : (d_tap D).length ≤ 6000) (R : DskC τ σ w v X b sp g gl nu D) (K : ∀ s ws X' gl' nu', nu' + (d_tap (d_clauses D p).2).length ≤ nu + (d_tap D).length → DskC τ s ws v X' b sp g gl' nu' (d_clauses D p).2 → F (d_clauses D p).1 s) : k_Co_clauses nl Ln xs (d + 417) 1000 p σ F := by
  obtain ⟨ck, hl, hnow, hnu⟩ := G
  refine w_Co_clauses ⟨is_mk R.1.1.2, co_fill (d := d + 415) (n := 6) (by decide) R.1 (fun s2 o2 D2 _ => ?_)⟩
  have R2 := R.deed o2
  obtain ⟨C, hb, ht, T, ⟨tx, Tx⟩, S, ⟨⟨ov, L⟩, hl13⟩, A, hf, hsp, hrf⟩ := id R2
  rw [C.2.2.2.1, C.2.1.2.2.2, C.2.1.1, Option.getD_some]
  have hl2 := act_log (fnd := d_fnd D) (n := 6) (a := d_arg [p.toInt64, Int64.ofNat (d_tap D).length]) (t := d_tap D) ck.1 hnow (by decide) (by decide)
  have hv := A.1.2.2.2.1
  have nbk : ∀ c, c < 1008 → ¬ bkK b v (2, c) := fun c hc z => by
    rcases z with z | z | z
    · have : 2 = b := z
      omega
    · exact absurd z (show ¬ (2 : Nat) = 1 by decide)
    · have z2 := z.2
      simp only at z2
      omega
  have w7 := C.2.2.2.2.2.2.1
  refine ⟨is_mk A.2.1.1.1.2.1, bk_perform (d := d) (a := d_arg [p.toInt64, Int64.ofNat (d_tap D).length]) (kt := (2, 1001)) (tn := 1001) (gt := g.1) (t := d_tap D) hb ⟨by decide, by decide, by decide, by decide⟩ ck (by decide) (by decide) (by omega) (by omega) hnow (by show nu + 0 ≤ 11000; omega) (fun z => absurd z (by decide)) D2 (fun k hk => ?_) (fun z => absurd rfl z) w7 (fun _ => ⟨rfl, T, nbk 1001 (by decide), by simp, by omega, rfl⟩) A hf (fun r hr s ws X' gl' nu' A' hn' E' f' _ => ?_)⟩
  · have hk : k < 1 := hk
    have : k = 0 := by omega
    subst this
    rfl
  · have e7 := E'.2 (2, 1007) (nbk 1007 (by decide)) (by simp) 1007 w7
    have R5 := R2.act E' (fun q hq => Or.inl hq) ⟨e7.1, e7.2.kd.trans C.2.2.2.2.2.2.2⟩ A' f'
    have K' := K
    unfold d_clauses at K'
    rw [← hr] at K'
    rw [i32lt, show (0 : Int32).toInt = 0 by decide]
    refine ⟨fun hneg => ?_, fun hneg => ?_⟩
    · have h5 := K' s ws X' gl' nu'
      simp only [if_pos hneg] at h5
      refine h5 ?_ R5
      rw [hn'.2 hneg]
      exact Nat.le_refl _
    · have C5 := R5.1
      have T5 := R5.2.2.2.1
      have O5 := R5.2.2.2.2.2.2.2.1.1.1.1
      rw [C5.2.1.1, Option.getD_some]
      refine ⟨is_mk T5.2.1, by_clr (d := d + 415) T5 O5 (fun s9 T9 c9 hext => ?_)⟩
      have h5 := K' s9 ws X' gl' nu'
      simp only [if_neg hneg] at h5
      refine h5 ?_ (R5.tap T9 c9 hext.2)
      show nu' + 0 ≤ _
      have := hn'.1
      omega
end
