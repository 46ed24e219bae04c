/-! THE CLASS: a fact -/
section
variable {nl : Bool} {Ln : Nat} {xs : Nat → Int32} {d : Nat} {σ : am_S} {w : ow_T} {b v gl nu D o len n i cc : Nat} {X : Stx} {M : mOff} {V : Nat × Nat × Nat × Nat × Nat} {Cc : Nat × Nat} {fnd : Int32} {a : mArg} {x : mCase} {it : Int64}
/-- clauses that can be asked -/
def ClsOk (T : List mTell) : Prop := ∀ p at', ∀ c ∈ m_cls T p at', WfCl c ∧ ∀ f, c.2.2 = some f → hgt f ≤ 400 ∧ ndep f ≤ 64
theorem bk_doFact {F : Int32 → am_S → Prop} (hb : 1189 ≤ b ∨ b = 1039) (hV : Vok V) (hne : ne M ≤ 4860) (hw : WfO M) (hT : ClsOk (o_tel M)) (h12 : 12 ≤ n) (h19 : n ≤ 19) (hD : DdR σ D o len n a) (hDo : DdO σ w b D) (hf : am_fI σ 2001 1008 = fnd) (A : Bks σ w v X b M gl nu V Cc)
    (K : ∀ r, r = m_fact M fnd n a → ∀ σ' w' X', Bks σ' w' v X' b r.2.1 gl nu V Cc → Eff (bkK b v) σ w σ' w' → am_fI σ' 2001 1008 = r.2.2 → F r.1 σ') : k_Bk_doFact nl Ln xs (d + 415) b (some D) (Int32.ofNat o) σ F := by
  obtain ⟨Ev, B, R⟩ := id A
  obtain ⟨hBD, hN, hH, ⟨lg, lg1, lg2⟩, ns, m1, m2⟩ := id B
  obtain ⟨hK, hNm, hP, hL, hC, hTt⟩ := id hBD
  obtain ⟨wb, kb, hb1, ⟨f0, f1, f2⟩, a4, a5, a6, a7, a8, a9⟩ := id hK
  obtain ⟨hv, hO, W1, W2, h20⟩ := Ev.2.2.2
  have hc100 := hw.1.c100
  obtain ⟨r, hr⟩ : ∃ r, r = m_fact M fnd n a := ⟨_, rfl⟩
  have K' := K r hr
  have stay : ∀ z : Int32, r = (z, M, fnd) → F z σ := fun z e => by rw [e] at K'; exact K' σ w X A (Eff.rf Ev.1.1) hf
  unfold m_fact m_factC at hr
  refine w_Bk_doFact ⟨hD.s0, ?_⟩
  rw [Option.getD_some, hD.h0, act32 (by omega), hD.h1]
  rintro v2 rfl
  have hday : ∀ x : Int64, (¬ (x < 0) ∧ ¬ (10949 < x)) ↔ m_rg x 0 10949 := fun x => by
    rw [i64lt, i64lt, z64i, show (10949 : Int64).toInt = 10949 by decide]
    unfold m_rg
    omega
  refine ⟨hD.s1, is_mk kb, bk_caseAt (d := d + 413) hBD hc100 (fun hn _ => ⟨fun _ => stay _ (by rw [hr, if_pos (m_dec_eq.mpr (Or.inl hn))]), fun z => absurd rfl z⟩) (fun cc x hrg hi hcc hR _ => ⟨fun z => absurd z (by simp), fun _ => ?_⟩)⟩
  rw [hD.h2]
  have hgd : (o_cas M).getD (m_ix (a 0)) mCase0 = x := getD_of mCase0 hi
  rw [hgd] at hr
  refine ⟨hD.s2, w_Co_isDay (fun _ => ⟨fun hdy => ?_, fun hdy => stay _ (by rw [hr, if_pos (m_dec_eq.mpr (Or.inr (Or.inl (fun z => hdy (decide_eq_true ((hday _).mpr z))))))])⟩)⟩
  have g2 := (hday _).mp (of_decide_eq_true hdy)
  refine bk_isAsTold (d := d + 412) h12 h19 hBD hw.1 hi hcc hD (fun bo hbo _ => ⟨fun hq => ?_, fun hq => stay _ (by rw [hr, if_pos (m_dec_eq.mpr (Or.inr (Or.inr (fun z => hq (hbo.mpr z)))))])⟩)
  have g3 := hbo.mp hq
  have hcond : ¬ (m_dec (¬ (0 ≤ (a 0).toInt ∧ (a 0).toInt < (o_cas M).length) ∨ ¬ m_rg (a 1) 0 10949 ∨ ¬ m_good n a (m_items (o_los M) (m_base (o_los M) x.2.2.1)).length) = true) := by
    rw [m_dec_eq]
    rintro (q | q | q)
    · exact q hrg
    · exact q g2
    · exact q g3
  rw [if_neg hcond] at hr
  obtain ⟨k, hk⟩ : ∃ k, k = m_ix (a 0) := ⟨_, rfl⟩
  rw [← hk] at hi hcc hR hr
  have hx := hw.1.c hi
  have hF := hx.2.2.2.2.1
  have hF40 := hF.1
  have d1 : (a 1).toInt32.toInt = (a 1).toInt := t32 (by have := g2.1; omega) (by have := g2.2; omega)
  rw [Option.getD_some, hN.2.2.2.2.1]
  refine ⟨is_mk hR.1.2.1, cs_isOpen (d := d + 411) hR.1 hF (fun _ => ?_)⟩
  have en15 : (Int32.ofNat n = 15) ↔ n = 15 := by rw [show (15 : Int32) = Int32.ofNat 15 from rfl, n32i (by omega) (by omega)]
  have en13 : (Int32.ofNat n = 13) ↔ n = 13 := by rw [show (13 : Int32) = Int32.ofNat 13 from rfl, n32i (by omega) (by omega)]
  have en19 : (Int32.ofNat n = 19) ↔ n = 19 := by rw [show (19 : Int32) = Int32.ofNat 19 from rfl, n32i (by omega) (by omega)]
  have eop : ((if m_open x.2.2.2.2.2 10949 (o_now M) = true then (1 : Int32) else 0) = (if Int32.ofNat n = 15 then 1 else 0)) ↔ m_open x.2.2.2.2.2 10949 (o_now M) = decide (n = 15) := by
    by_cases h15 : n = 15
    · rw [if_pos (en15.mpr h15)]
      cases m_open x.2.2.2.2.2 10949 (o_now M) <;> simp [h15]
    · rw [if_neg (fun q => h15 (en15.mp q))]
      cases m_open x.2.2.2.2.2 10949 (o_now M) <;> simp [h15]
  refine w_Bk_doFact_69 ?_
  rw [eop]
  refine ⟨fun hop => stay _ (by rw [hr, if_pos hop]), fun hop => ?_⟩
  rw [if_neg hop] at hr
  -- the fact is kept
  have keep : ∀ {s1 : am_S} {it : Int64} {fnd1 : Int32}, Bks s1 w v X b M gl nu V Cc → Eff (bkK b v) σ w s1 w → DdR s1 D o len n a → DdO s1 w b D → am_aR s1 (bA s1 b 6006) k = some cc → am_fI s1 2001 1008 = fnd1 → r = (if x.2.2.2.2.2.length = 40 then (-7, M, fnd1) else (1, m_keep M n a it, fnd1)) → c_Bk_doFact_234 nl Ln xs (d + 415) b (some D) (Int32.ofNat o) (Int32.ofNat n) (some cc) (a 1).toInt32 (m_cOf n a) it s1 F := by
    intro s1 it fnd1 A1 E1 D1 O1 cc1 f1 er
    refine bk_keep (d := d + 412) hb hV hne hw.1.p100 hw.1.l200 hc100 h19 hk.symm hi cc1 hF40 D1 O1 A1 (fun h40 => ?_) (fun h40 s2 w2 X2 A2 E2 f2 => ?_)
    · rw [if_pos h40] at er
      rw [er] at K'
      exact K' s1 w X A1 E1 f1
    · rw [if_neg h40] at er
      rw [er] at K'
      exact K' s2 w2 X2 A2 (E1.trans E2) (f2.trans f1)
  have rest : r = (if n = 13 then (if ¬ fnd < 2500 then ((-7 : Int32), M, fnd) else (match m_paying M k (a 1).toInt32 (a 2) with
      | none => ((-6 : Int32), M, fnd + m_metBy M k (a 1).toInt32)
      | some it => if x.2.2.2.2.2.length = 40 then ((-7 : Int32), M, fnd + m_metBy M k (a 1).toInt32) else ((1 : Int32), m_keep M n a it, fnd + m_metBy M k (a 1).toInt32)))
      else if n = 19 ∧ m_paidOf x.2.2.2.2.2 (o_now M) < m_recOf x.2.2.2.2.2 (o_now M) + a 2 then ((-6 : Int32), M, fnd)
      else if x.2.2.2.2.2.length = 40 then ((-7 : Int32), M, fnd) else ((1 : Int32), m_keep M n a 0, fnd)) → ¬ (a 1).toInt < (m_lastDay x).toInt → c_Bk_doFact_122 nl Ln xs (d + 415) b (some D) (Int32.ofNat o) (Int32.ofNat n) (some cc) (a 1).toInt32 σ F := by
    intro er hld
    refine w_Bk_doFact_122 (bk_centsIn (d := d + 413) h12 h19 hD (fun _ => ⟨fun h13 => ?_, fun h13 => ?_⟩))
    · have h13 := en13.mp h13
      rw [if_pos h13] at er
      have ecs : m_cOf n a = a 2 := by rw [h13]; rfl
      rw [f0, Option.getD_some, hf, hN.2.2.2.2.1]
      refine ⟨is_mk kb, is_mk W1.1, fun hlt => ?_, fun hlt => stay _ (by rw [er, if_pos hlt])⟩
      rw [if_neg (fun q => q hlt)] at er
      have hdy0 : x.2.2.2.1.toInt ≤ (a 1).toInt32.toInt := by
        rw [d1]
        have : x.2.2.2.1.toInt ≤ (m_lastDay x).toInt := by
          unfold m_lastDay
          cases hgl : x.2.2.2.2.2.getLast? with
          | none => exact Int.le_refl _
          | some f => exact hx.2.2.2.2.2.1 f (List.mem_of_getLast? hgl)
        omega
      refine low (fun hL => ?_)
      refine wk_settle (d := d) hw.1 (fun p => hT p _) ⟨⟨Or.inl ⟨rfl, rfl⟩, Or.inr hv⟩, hL, W1.1, W1.2.1, W1.2.2.1, hBD, hO, W1.2.2.2⟩ ⟨⟨Or.inr ⟨rfl, rfl⟩, Or.inl rfl⟩, hL, W2.1, W2.2.1, W2.2.2.1, hBD, hO, W2.2.2.2⟩ h20 hv hi hcc hdy0 (by rw [d1]; exact g2.2) (fun W hW s7 S7 f7 r7 _ => ?_)
      obtain ⟨A7, E7⟩ := Bks.se hb A r7
      obtain ⟨Ev7, B7, R7⟩ := id A7
      have nsb : ¬ seE v (b, 2) := fun z => by
        have : b = 2 := z.1
        omega
      have eb := (E7.2 (b, 2) nsb (by simp) b wb).2
      have e66 : bA s7 b 6006 = bA σ b 6006 := by unfold bA; rw [eb.fR]
      have e68 : bA s7 b 6008 = bA σ b 6008 := by unfold bA; rw [eb.fR]
      have ec := (E7.2 (b, 2) nsb (by simp) _ a6.2.1).2
      have cc7 : am_aR s7 (bA s7 b 6006) k = some cc := by rw [e66, ec.aR]; exact hcc
      have O7 : DdO s7 w b D := hDo.imp id (fun h => by rw [e68]; exact h)
      have D7 : DdR s7 D o len n a := by
        rcases hDo with h | h
        · exact hD.eq (E7.2 (2, 1007) (fun z => by
            have z2 := z.2
            simp only at z2
            omega) (by simp) D h).2
        · exact hD.eq (E7.2 (b, 2) nsb (by simp) D (by rw [h]; exact a8.2.1)).2
      have E7' : Eff (bkK b v) σ w s7 w := E7.mono seE_bk
      have W17 := Ev7.2.2.2.2.2.1
      have fn7 : am_fI s7 2001 1008 = fnd + m_metBy M k (a 1).toInt32 := by
        unfold m_metBy
        rw [f7, hf, hW]
      have hpay : m_paying M k (a 1).toInt32 (a 2) = (if W.2.2.1 ≠ 0 ∨ m_total W.1 < a 2 then none else (fun it : Int64 => match m_cover (o_pol M) (o_tel M) x (o_now M) with
          | none => none
          | some p => if m_told (m_cls (o_tel M) p (o_now M)) 4 ≠ -1 ∧ m_told (m_cls (o_tel M) p (o_now M)) 4 - m_usedL (o_pol M) (o_tel M) (o_los M) (m_year (m_ld (o_los M) x)) (o_now M) p (o_cas M) < a 2 - it then none else some it) (itOf (a 2) W x)) := by
        unfold m_paying itOf
        rw [getD_of mCase0 hi, ← hW]
        rfl
      rw [ecs]
      refine bk_interestIn (d := d + 412) (cents := a 2) hw B7.1 B7.2.1 hi cc7 W17.1 W17.2.1 hW S7 (fun it hit _ => ?_)
      have no : m_paying M k (a 1).toInt32 (a 2) = none → F (-6) s7 := fun hp => by
        rw [hp] at er
        rw [er] at K'
        exact K' s7 w X A7 E7' fn7
      have yes : m_paying M k (a 1).toInt32 (a 2) = some it → c_Bk_doFact_196 nl Ln xs (d + 415) b (some D) (Int32.ofNat o) (Int32.ofNat n) (some cc) (a 1).toInt32 (a 2) it s7 F := fun hp => by
        rw [hp] at er
        refine w_Bk_doFact_196 ⟨fun h => ?_, fun _ => ?_⟩
        · have := en19.mp h
          omega
        · rw [← ecs]
          exact keep A7 E7' D7 O7 cc7 fn7 er
      refine bk_isTooMuch (d := d + 409) (cents := a 2) (it := it) hw (fun p c hc => (hT p _ c hc).1) B7.1 B7.2.1 hi cc7 W17.1 W17.2.1 hW S7 (fun h1 _ => ⟨fun _ => no (by rw [hpay, if_pos h1]), fun z => absurd rfl z⟩) (fun p h0 hnl hm bo hbo2 _ => ?_)
      rw [if_neg (by rintro (q | q); exact q h0; exact hnl q), hm, ← hit h0] at hpay
      simp only [] at hpay
      refine ⟨fun h => no (by rw [hpay, if_pos (hbo2.mp h)]), fun h => yes (by rw [hpay, if_neg (fun z => h (hbo2.mpr z))])⟩
    · rw [if_neg (fun q => h13 (en13.mpr q))] at er
      refine w_Bk_doFact_196 ⟨fun h19' => ?_, fun h19' => ?_⟩
      · have h19' := en19.mp h19'
        have ecs : m_cOf n a = a 2 := by rw [h19']; rfl
        rw [Option.getD_some, hN.2.2.2.2.1, h19']
        refine ⟨is_mk kb, is_mk hR.1.2.1, cs_rec (d := d + 413) hR.1 hF (fun _ => ?_)⟩
        rw [hN.2.2.2.2.1]
        refine cs_paidOfWorth (d := d + 412) hR.1 hF (fun _ => ?_)
        rw [← h19', ecs]
        refine ⟨fun hlt => stay _ (by rw [er, if_pos ⟨h19', hlt⟩]), fun hlt => ?_⟩
        rw [if_neg (fun q => hlt q.2)] at er
        rw [← ecs]
        exact keep A (Eff.rf Ev.1.1) hD hDo hcc hf er
      · rw [if_neg (fun q => h19' (en19.mpr q.1))] at er
        exact keep A (Eff.rf Ev.1.1) hD hDo hcc hf er
  rw [Option.getD_some, hD.h2]
  refine ⟨hD.s2, ?_⟩
  rintro v3 rfl
  refine ⟨is_mk hR.1.2.1, cs_earliestDay (d := d + 413) hR (fun _ => ?_)⟩
  rw [i32lt, d1]
  refine ⟨fun hlt => stay _ (by rw [hr, if_pos hlt]), fun hlt => ?_⟩
  rw [if_neg hlt] at hr
  refine ⟨fun h15 => ?_, fun h15 => ?_⟩
  · have h15 := en15.mp h15
    have hg3 : m_rg (a 2) 0 2 := by rw [h15] at g3; exact g3
    have e2 : (a 2).toInt32.toInt = (a 2).toInt := t32 (by have := hg3.1; omega) (by have := hg3.2; omega)
    have z0 : ((a 2).toInt32 = 0) ↔ a 2 = 0 := by
      rw [← Int32.toInt_inj, ← Int64.toInt_inj, e2]; rfl
    have z1 : ((a 2).toInt32 = 1) ↔ a 2 = 1 := by
      rw [← Int32.toInt_inj, ← Int64.toInt_inj, e2]; rfl
    have hop' : m_open x.2.2.2.2.2 10949 (o_now M) = false := by
      rw [h15] at hop
      simpa using hop
    rw [hD.h3]
    refine ⟨hD.s3, is_mk kb, bk_isLate (d := d + 411) hBD hw hN hi hcc hop' (by rw [d1]; exact g2) (fun bo hbo2 _ => ?_)⟩
    have elate : bo = true ↔ (n = 15 ∧ m_late x.2.2.2.2.2 (a 1).toInt32 (a 2)) := by
      rw [hbo2, z0, z1]
      unfold m_late
      exact ⟨fun z => ⟨h15, z⟩, fun z => z.2⟩
    refine ⟨fun q => stay _ (by rw [hr, if_pos (m_dec_eq.mpr (elate.mp q))]), fun q => rest (by rw [hr, if_neg (fun z => q (elate.mpr (m_dec_eq.mp z)))]; cases m_paying M k (a 1).toInt32 (a 2) <;> rfl) hlt⟩
  · exact rest (by rw [hr, if_neg (fun z => h15 (en15.mpr (m_dec_eq.mp z).1))]; cases m_paying M k (a 1).toInt32 (a 2) <;> rfl) hlt
end
