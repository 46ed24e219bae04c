/-! THE CLASS: what is owed -/
section
variable {nl : Bool} {Ln : Nat} {xs : Nat → Int32} {d : Nat} {σ s : am_S} {w ws : ow_T} {τ : am_S} {v b gl nu : Nat} {X : Stx} {sp : Option Nat} {g : Grw} {D : mTop}
/-- what the desk has beside its book stands where none of its cells changed -/
theorem CoR.fr (C : CoR σ w v b sp) (f : ∀ c, (c = 1000 ∨ c = 1007) → ws c = w c ∧ am_eqc σ s c) : CoR s ws v b sp := by
  obtain ⟨⟨c1, c2⟩, ⟨c3, c4, c5, c6⟩, ⟨c7, c8, c9⟩, c10, c11, c12, c13, c14⟩ := C
  have e := f 1000 (Or.inl rfl)
  have e7 := f 1007 (Or.inr rfl)
  exact ⟨⟨e.1.trans c1, e.2.kd.trans c2⟩, ⟨e.2.fR.trans c3, e.2.fR.trans c4, e.2.fR.trans c5, e.2.fR.trans c6⟩, ⟨e.2.fR.trans c7, e.2.fR.trans c8, e.2.fR.trans c9⟩, e.2.fR.trans c10, e.2.fR.trans c11, e.2.fR.trans c12, e7.1.trans c13, e7.2.kd.trans c14⟩
theorem co_owed {k day at' : Int32} {F : Int64 → am_S → Prop} (hw : WfO (d_off D)) (hT : ClsOk (o_tel (d_off D))) (R : DskC τ σ w v X b sp g gl nu D) (K : ∀ σ' v', DskC τ σ' w v' X b sp g gl nu (d_owed D k day at').2 → F (d_owed D k day at').1 σ') : k_Co_owed nl Ln xs (d + 415) 1000 k day at' σ F := by
  have R0 := R
  obtain ⟨C, hb, ht, T, ⟨tx, Tx⟩, S, ⟨⟨ov, L⟩, hl13⟩, A, hf, hsp, hrf⟩ := R
  obtain ⟨Ev, B, Rm⟩ := id A
  obtain ⟨hv, hO, W1, W2, h20⟩ := id Ev.2.2.2
  have hBD := B.1
  have hN := B.2.1
  have kb := hBD.1.2.1
  have t64i := @t64
  have no : ∀ {Q : Prop}, d_owed D k day at' = (d_no, D) → (F (-9223372036854775808) σ) := fun {Q} e => by
    have := K σ v (by rw [e]; exact R0)
    rw [e] at this
    exact this
  have z9 : (10949 : Int32).toInt = 10949 := by decide
  have eix : m_ix k.toInt64 = k.toInt.toNat := by unfold m_ix; rw [t64]
  unfold d_owed at K no
  refine w_Co_owed ⟨is_mk C.1.2, ?_⟩
  rw [C.2.2.2.1, Option.getD_some]
  refine ⟨is_mk kb, bk_caseAt (d := d + 413) hBD hw.1.c100 (fun h _ => ⟨fun _ => no (Q := True) (if_neg (fun z => h (by rw [t64]; exact z.1))), fun z => absurd rfl z⟩) (fun c x h hi hc hR _ => ⟨fun z => absurd z (by simp), fun _ => ?_⟩)⟩
  rw [t64] at h
  rw [eix] at hi hc hR
  have ecase : d_case (d_off D) k = x := getD_of mCase0 hi
  rw [ecase] at K no
  rw [C.2.2.1.1, C.2.2.2.1, Option.getD_some, Option.getD_some, Option.getD_some, hf, hR.2.2.2.1, hR.2.2.2.2.1, hN.2.2.2.2.1]
  have bad : ¬ ((0 ≤ k.toInt ∧ k.toInt < (o_cas (d_off D)).length) ∧ (x.2.2.2.1.toInt ≤ day.toInt ∧ day.toInt ≤ 10949) ∧ (x.2.2.2.2.1.toInt ≤ at'.toInt ∧ at'.toInt ≤ (o_now (d_off D)).toInt) ∧ d_fnd D < 2500) → F (-9223372036854775808) σ := fun h => no (Q := True) (if_neg h)
  refine ⟨is_mk W1.1, fun hm => ⟨is_mk hR.1.2.1, fun h1 => bad (fun z => ?_), fun h1 => ⟨fun h2 => bad (fun z => ?_), fun h2 => ⟨fun h3 => bad (fun z => ?_), fun h3 => ⟨is_mk kb, fun h4 => bad (fun z => ?_), fun h4 => ?_⟩⟩⟩⟩, fun hm => bad (fun z => hm z.2.2.2)⟩
  · rw [i32lt] at h1
    omega
  · rw [i32lt, z9] at h2
    omega
  · rw [i32lt] at h3
    omega
  · rw [i32lt] at h4
    omega
  rw [i32lt] at h1 h3 h4
  rw [i32lt, z9] at h2
  rw [if_pos ⟨h, ⟨by omega, by omega⟩, ⟨by omega, by omega⟩, hm⟩] at K
  refine low (fun hL => ?_)
  refine wk_settle (d := d) hw.1 (fun p => hT p _) ⟨⟨Or.inl ⟨rfl, rfl⟩, Or.inr hv⟩, hL, W1.1, W1.2.1, W1.2.2.1, hBD, hO, W1.2.2.2⟩ ⟨⟨Or.inr ⟨rfl, rfl⟩, Or.inl rfl⟩, hL, W2.1, W2.2.1, W2.2.2.1, hBD, hO, W2.2.2.2⟩ h20 hv hi hc (by omega) (by omega) (fun W hW s7 S7 f7 r7 _ => ?_)
  rw [← hW] at K
  obtain ⟨A7, E7⟩ := Bks.se hb A r7
  have nse : ∀ c, (c < 1008 ∨ (2070 - v ≤ c ∧ c ≤ 2070 - v + 4)) → ¬ seE v (2, c) := fun c hc z => by
    have z2 := z.2
    simp only at z2
    omega
  have e1000 := (E7.2 (2, 1000) (nse 1000 (by omega)) (by simp) 1000 C.1.1).2
  have C7 : CoR s7 w v b sp := C.fr (fun c hc => by
    rcases hc with rfl | rfl
    · exact ⟨rfl, e1000⟩
    · exact ⟨rfl, (E7.2 (2, 1007) (nse 1007 (by omega)) (by simp) 1007 C.2.2.2.2.2.2.1).2⟩)
  obtain ⟨⟨⟨o7, n7⟩, St7, Rd7, J7⟩, B7, Rm7⟩ := id A7
  have hlook : ∀ j, j ≤ 4 → am_eqc σ s7 (2070 - v + j) := fun j hj => (E7.2 (2, 2070 - v + j) (nse _ (by omega)) (by simp) _ (hO _ (by unfold fixW; omega))).2
  have L7 := L.eqc hlook
  obtain ⟨⟨ov7, V7⟩, -⟩ := S7
  have W17 := J7.2.2.1
  rw [C7.2.2.1.1, Option.getD_some, W17.2.1, C7.2.2.2.2.2.1]
  refine ⟨is_mk W17.1, ?_⟩
  rintro v17 rfl
  intro s19 e19 s22 e22
  have hlen := work_len (day := day) (at' := at') hw.1 hi
  rw [← hW] at hlen
  have ec : ∀ y, y ≠ 1008 → y ≠ 1000 → am_eqc s7 s22 y := fun y h1 h2 => by
    rw [e22, e19]
    exact (eqc_sfR h1).trans (eqc_sfR h2)
  have E22 : Eff (fun q => q = (2, 1008) ∨ q = (2, 1000)) s7 w s22 w := ⟨fun y hy => o7 y (by rw [e22, e19] at hy; exact hy), fun q hq _ y hy => ⟨hy, ec y (fun z => hq (Or.inl (by rw [← hy, z]; exact hO 1008 (by unfold fixW; omega)))) (fun z => hq (Or.inr (by rw [← hy, z]; exact C.1.1)))⟩⟩
  have kd22 : am_kd s22 = am_kd s7 ∧ am_nx s22 = am_nx s7 ∧ am_sl s22 = am_sl s7 := by rw [e22, e19]; exact ⟨rfl, rfl, rfl⟩
  have r8 : ∀ q, q ≠ 2002 → am_fR s22 q 1008 = am_fR s7 q 1008 := fun q hq => by rw [e22, rR_n (by decide), e19, rR_g hq]
  have r82 : am_fR s22 2002 1008 = some (2070 - v) := by rw [e22, rR_n (by decide), e19]; exact rR_same
  have r0 : ∀ q, q ≠ 9 → am_fR s22 q 1000 = am_fR s7 q 1000 := fun q hq => by rw [e22, rR_g hq, e19, rR_n (by decide)]
  have r09 : am_fR s22 9 1000 = some v := by rw [e22]; exact rR_same
  have i8 : ∀ q c, am_fI s22 q c = am_fI s7 q c := fun q c => by rw [e22, e19]
  have vv : 2070 - (2070 - v) = v := by omega
  have L22 : VwD s22 v W.1 W.2.1 W.2.2.1 ov7 := V7.eqc (fun j hj => ec _ (by omega) (by omega))
  have O22 : VwD s22 (2070 - v) (d_lok D).2.1 (d_lok D).2.2 (d_lok D).1 ov := L7.eqc (fun j hj => ec _ (by omega) (by omega))
  have J22 : WkJ s22 w (2070 - v) := by
    obtain ⟨-, -, ⟨k1, k2, k3, ⟨⟨a1, a2, a3, a4, a5, a6⟩, a7⟩, e13, ka⟩, W27, h207⟩ := J7
    refine ⟨by omega, hO, ⟨by rw [kd22.1]; exact k1, r82, O22.1, ⟨⟨(r8 _ (by decide)).trans a1, (r8 _ (by decide)).trans a2, (r8 _ (by decide)).trans a3, (r8 _ (by decide)).trans a4, (r8 _ (by decide)).trans a5, (r8 _ (by decide)).trans a6⟩, by rw [kd22.1]; exact a7⟩, (r8 _ (by decide)).trans e13, by rw [kd22.1]; exact ka⟩, ?_, (r8 _ (by decide)).trans h207⟩
    obtain ⟨k1, k2, ⟨v1, ⟨v2, v3, v4, v5⟩, v6⟩, ⟨⟨a1, a2, a3, a4, a5, a6⟩, a7⟩, e13, ka⟩ := W27
    have e9 := ec 1009 (by decide) (by decide)
    have e10 := ec 1010 (by decide) (by decide)
    exact ⟨by rw [kd22.1]; exact k1, e9.fR.trans k2, ⟨by rw [kd22.1]; exact v1, ⟨e10.fR.trans v2, e10.fR.trans v3, e10.fR.trans v4, e10.fR.trans v5⟩, by rw [kd22.1]; exact v6⟩, ⟨⟨e9.fR.trans a1, e9.fR.trans a2, e9.fR.trans a3, e9.fR.trans a4, e9.fR.trans a5, e9.fR.trans a6⟩, by rw [kd22.1]; exact a7⟩, e9.fR.trans e13, by rw [kd22.1]; exact ka⟩
  have n22 : ∀ q : Nat × Nat, q.1 ≠ 2 → ¬ (q = (2, 1008) ∨ q = (2, 1000)) := fun q hq z => by
    rcases z with z | z <;> (rw [z] at hq; exact hq rfl)
  have hb2 : b ≠ 2 := by omega
  have fr2 : ∀ b2, (1189 ≤ b2 ∨ b2 = 1039) → ∀ j, Fr σ w s22 w (b2, j) := fun b2 h2 j => by
    have x1 : Fr σ w s7 w (b2, j) := E7.bk (fun z => by
      have : b2 = 2 := z.1
      omega) (by omega)
    exact x1.trans (E22.bk (n22 _ (by show b2 ≠ 2; omega)) (by omega))
  have frT : ∀ c, c < 1008 → c ≠ 1000 → Fr σ w s22 w (2, c) := fun c h1 h2 => (E7.2 (2, c) (nse c (Or.inl h1)) (by simp)).trans (E22.2 (2, c) (fun z => by
    rcases z with z | z
    · have : c = 1008 := congrArg Prod.snd z
      omega
    · exact h2 (congrArg Prod.snd z)) (by simp))
  have B22 : BookR s22 w b (d_off D) gl nu := B7.fr (fun j => E22.bk (n22 _ hb2) (by omega))
  have St22 := St7.eff E22 (fun q hq z => by
    rcases hq with h | h
    · exact n22 q (by rw [h.1]; decide) z
    · rw [h] at z
      rcases z with z | z
      · exact absurd (congrArg Prod.snd z) (by decide)
      · exact absurd (congrArg Prod.snd z) (by decide))
  have Rd22 := rdl_eff Rd7 E22 (fun c c1 c2 z => by
    rcases z with z | z
    · have : c = 1008 := congrArg Prod.snd z
      omega
    · have : c = 1000 := congrArg Prod.snd z
      omega) (fun z => n22 (1, 5) (by decide) z)
  have fin : DskC τ s22 w (2070 - v) X b sp g gl nu (d_setLok (d_setFnd D (d_fnd D + Int32.ofNat W.2.2.2.2)) (W.2.2.1, W.1, W.2.1)) := by
    refine ⟨?_, hb, ?_, T.fr (frT 1001 (by omega) (by omega)), ⟨tx, Tx.fr (frT 1003 (by omega) (by omega))⟩, S.fr (frT 1005 (by omega) (by omega)), ⟨⟨ov7, ?_⟩, hlen.1⟩, ⟨⟨⟨E22.1, by rw [kd22.2.1]; exact n7⟩, St22, Rd22, J22⟩, B22, Rm7.eq ⟨rfl, rfl, rfl, rfl⟩ kd22.2⟩, ?_, fun b2 h2 => ⟨(hsp b2 h2).1, (hsp b2 h2).2.1, (hsp b2 h2).2.2.fr (fr2 b2 (hsp b2 h2).1)⟩, (hrf.eff E7 (fun z => absurd z.1 (by decide))).eff E22 (n22 _ (by decide))⟩
    · obtain ⟨⟨c1, c2⟩, ⟨c3, c4, c5, c6⟩, ⟨c7, c8, c9⟩, c10, c11, c12, c13, c14⟩ := C7
      exact ⟨⟨c1, by rw [kd22.1]; exact c2⟩, ⟨(r0 _ (by decide)).trans c3, (r0 _ (by decide)).trans c4, (r0 _ (by decide)).trans c5, (r0 _ (by decide)).trans c6⟩, ⟨(r0 _ (by decide)).trans c7, (r0 _ (by decide)).trans c8, (r0 _ (by decide)).trans c9⟩, (r0 _ (by decide)).trans c10, (r0 _ (by decide)).trans c11, by rw [r09, vv], c13, by rw [kd22.1]; exact c14⟩
    · rw [i8, e1000.fI]
      exact ht
    · rw [vv]
      exact L22
    · rw [i8, f7, hf]
      rfl
  have K' := K s22 (2070 - v) fin
  rw [r09, Option.getD_some, L22.2.2.2.1]
  refine ⟨is_mk L22.1.1, fun h0 => vw_total (d := d + 413) L22 hlen.1 (fun _ => ?_), fun h0 => ?_⟩
  · have e : (if W.2.2.1 = 0 then m_total W.1 else d_no) = m_total W.1 := if_pos h0
    rw [← e]
    exact K'
  · have e : (if W.2.2.1 = 0 then m_total W.1 else d_no) = d_no := if_neg h0
    have K' : F (if W.2.2.1 = 0 then m_total W.1 else d_no) s22 := K'
    rw [e] at K'
    exact K'
end
