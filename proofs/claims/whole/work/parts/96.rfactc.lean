/-! FACTS, by the reference: the fact -/
def faF : List Nat := [13000, 13067] ++ wF false
def faA : List Nat := 52 :: (keF ++ wA)
def ofF : List Nat := [13000, 13001, 13002, 13006, 13010, 13015, 13020, 13024, 13031, 13035, 13045, 13060, 13061, 13062, 13063]
section
variable {nl : Bool} {Ln : Nat} {xs : Nat → Int32} {d : Nat} {σ : am_S} {o : Nat} {M : mOff} {c : mCase} {fnd : Int32}
theorem OfX.rc {fs as : List Nat} {σ1 : am_S} (h : OfX σ o M) (hr : Rc o fs as [] σ σ1) (hd : (ofF.all (fun x => ! fs.contains x) && (List.range 52).all (fun x => ! as.contains x)) = true) : OfX σ1 o M := by
  rw [Bool.and_eq_true] at hd
  obtain ⟨d1, d2⟩ := hd
  obtain ⟨hK, hN, hP, hRk, hPl, hPe, hRu, hSe, hLs, hC, hH⟩ := h
  have lo := hK.lo
  have go : ∀ {fl al : List Nat}, fl.all (fun x => ofF.contains x) = true → al.all (fun x => (List.range 52).contains x) = true → (fl.all (fun x => ! fs.contains x) && (al.all (fun x => ! as.contains x) && ([] : List Nat).all (fun x => decide (x < 1063)))) = true := by
    intro fl al h1 h2
    rw [Bool.and_eq_true, Bool.and_eq_true]
    exact ⟨sub_all d1 h1, sub_all d2 h2, rfl⟩
  exact ⟨hK.rc hr, kNum.rc hN hr lo (go (by decide) (by decide)), kPol.rc hP hr lo (go (by decide) (by decide)), kRnk.rc hRk hr lo (go (by decide) (by decide)), kPla.rc hPl hr lo (go (by decide) (by decide)), kPer.rc hPe hr lo (go (by decide) (by decide)), kRul.rc hRu hr lo (go (by decide) (by decide)), kSet.rc hSe hr lo (go (by decide) (by decide)), kLos.rc hLs hr lo (go (by decide) (by decide)), kCas.rc hC hr lo (go (by decide) (by decide)), kHel.rc hH hr lo (go (by decide) (by decide))⟩
theorem open_all {fs : List mFact} {at' : Int32} (h : ∀ f ∈ fs, f.2.1.toInt ≤ 10949) : m_open fs 10950 at' = m_open fs 10949 at' := by
  have a : (10950 : Int32).toInt = 10950 := by decide
  have b : (10949 : Int32).toInt = 10949 := by decide
  unfold m_open
  refine m_last_congr _ _ _ _ _ (fun f hf => ?_)
  have := h f hf
  have e : m_counts f 10950 at' = m_counts f 10949 at' := by
    unfold m_counts
    congr 1
    apply decide_eq_decide.mpr
    rw [i32lt, i32lt, a, b]
    omega
  rw [e]
theorem m_dec_eq {p : Prop} : m_dec p = true ↔ p := by unfold m_dec; exact @decide_eq_true_iff p (Classical.propDecidable p)
theorem r_fact {m n : Nat} {a : mArg} {L : List Int32} {F : Int32 → am_S → Prop} (w : WfD (o_pol M) (o_tel M) (o_los M) (o_cas M)) (hH : WfH (o_tel M)) (X : OfX σ o M) (hM : ModK σ) (hLg : LogR σ o L) (hl : L.length ≤ 440000) (hA : ArgR σ m a) (hm : m = 1060 ∨ m = o + 61) (h1 : 12 ≤ n) (h2 : n ≤ 19) (hn : am_fI σ 12006 1053 = fnd)
    (K : ∀ r, r = m_fact M fnd n a → ∀ σ', OfX σ' o r.2.1 → LogR σ' o (if r.1 = 1 then L ++ m_note n a [] else L) → am_fI σ' 12006 1053 = r.2.2 → Rc o faF faA [] σ σ' → F r.1 σ') : k_Ro_fact nl Ln xs (d + 420) o (Int32.ofNat n) (some m) σ F := by
  obtain ⟨r, hr⟩ : ∃ r, r = m_fact M fnd n a := ⟨_, rfl⟩
  have K' := K r hr
  have D := X.dat hM
  have hK := D.k
  have lo := hK.lo
  have h100 := w.c100
  have hnow : am_fI σ 13000 o = o_now M := X.2.1.1
  have stay : ∀ z : Int32, z ≠ 1 → r = (z, M, fnd) → F z σ := by
    intro z hz e
    rw [e] at K'
    exact K' σ X (by rw [if_neg hz]; exact hLg) hn Rc.rf
  unfold m_fact m_factC at hr
  refine w_Ro_fact ⟨is_mk hK.2.1, ?_⟩
  refine (r_numbers (M := M) (d := d + 416) w D hA h1 h2 (fun hg _ => ⟨fun _ => ?_, fun q => absurd rfl q⟩) (fun hg _ => ⟨fun q => absurd q (by decide), fun _ => stay _ (by decide) ?_⟩))
  · have hcond : ¬ (m_dec (¬ (0 ≤ (a 0).toInt ∧ (a 0).toInt < (o_cas M).length) ∨ ¬ m_rg (a 1) 0 10949 ∨ ¬ m_good n a (m_items (o_los M) (m_base (o_los M) ((o_cas M).getD (m_ix (a 0)) mCase0).2.2.1)).length) = true) := by
      rw [m_dec_eq]
      rintro (q | q | q)
      · exact q hg.1
      · exact q hg.2.1
      · exact q hg.2.2
    rw [if_neg hcond] at hr
    obtain ⟨g1, g2, g3⟩ := hg
    obtain ⟨i1, i2, i3, i4⟩ := ixI g1.1 g1.2 (by omega)
    obtain ⟨k, hk⟩ : ∃ k, k = m_ix (a 0) := ⟨_, rfl⟩
    obtain ⟨c, hi⟩ := get_ex (show k < (o_cas M).length by rw [hk]; exact i2)
    have hgd : (o_cas M).getD (m_ix (a 0)) mCase0 = c := by rw [← hk]; exact getD_of mCase0 hi
    rw [hgd, ← hk] at hr
    have hw := w.c hi
    have hF := hw.2.2.2.2.1
    have hF40 := hF.1
    have v0 : am_aL σ ((some m).getD 0) (0 : Int32).toNatClampNeg = a 0 := hA.2 0 (by decide)
    have v1 : am_aL σ ((some m).getD 0) (1 : Int32).toNatClampNeg = a 1 := hA.2 1 (by decide)
    have v2 : am_aL σ ((some m).getD 0) (2 : Int32).toNatClampNeg = a 2 := hA.2 2 (by decide)
    have bk : 0 ≤ (Int32.ofNat k).toInt ∧ (Int32.ofNat k).toInt < 100 := by have := lt_of_get hi; rw [n32 (by omega)]; omega
    have d1 : (a 1).toInt32.toInt = (a 1).toInt := t32 (by omega) (by omega)
    rw [v0, i1, ← hk, hnow]
    refine ⟨ar_mk hA.1 (by decide) (by decide), ?_⟩
    rintro v6 rfl
    refine (r_isOpen (d := d + 417) hK D.cas h100 hi hF40 (fun _ => ?_))
    rw [open_all (fun f hf => (hF.2.1 f hf).2.2.2.1)]
    have en15 : (Int32.ofNat n = 15) ↔ n = 15 := by rw [show (15 : Int32) = Int32.ofNat 15 from rfl, n32i (by omega) (by omega)]
    have en13 : (Int32.ofNat n = 13) ↔ n = 13 := by rw [show (13 : Int32) = Int32.ofNat 13 from rfl, n32i (by omega) (by omega)]
    have en19 : (Int32.ofNat n = 19) ↔ n = 19 := by rw [show (19 : Int32) = Int32.ofNat 19 from rfl, n32i (by omega) (by omega)]
    refine w_Ro_fact_47 ?_
    have eop : ((if m_open c.2.2.2.2.2 10949 (o_now M) = true then (1 : Int32) else 0) = (if Int32.ofNat n = 15 then 1 else 0)) ↔ m_open c.2.2.2.2.2 10949 (o_now M) = decide (n = 15) := by
      by_cases h15 : n = 15
      · rw [if_pos (en15.mpr h15)]
        cases m_open c.2.2.2.2.2 10949 (o_now M) <;> simp [h15]
      · rw [if_neg (fun q => h15 (en15.mp q))]
        cases m_open c.2.2.2.2.2 10949 (o_now M) <;> simp [h15]
    rw [eop]
    refine ⟨fun hop => stay _ (by decide) (by rw [hr, if_pos hop]), fun hop => ?_⟩
    rw [if_neg hop] at hr
    -- the fact is kept
    have keep : ∀ {s1 : am_S} {it : Int64} {fnd1 x3 x5 : Int32}, Rc o (wF false) wA [] σ s1 → am_fI s1 12006 1053 = fnd1 → r = (if c.2.2.2.2.2.length = 40 then (-7, M, fnd1) else (1, m_keep M n a it, fnd1)) → c_Ro_fact_183 nl Ln xs (d + 420) o (Int32.ofNat n) (some m) x3 (Int32.ofNat k) x5 it s1 F := by
      intro s1 it fnd1 x3 x5 r1 f1 er
      have X1 := X.rc r1 (by decide)
      have L1 := hLg.rc r1 lo (by simp) (by decide) (by decide)
      have A1 := hA.rc hm lo r1 (by decide) (by decide) (by simp)
      have hK1 := X1.1
      have hC1 : rCas s1 o (o_cas M) := X1.2.2.2.2.2.2.2.2.2.1
      have vn : am_aI s1 (o + 41) k = Int32.ofNat c.2.2.2.2.2.length := hC1.2.2.2.2.2.2.1 k _ hi
      have hkl := lt_of_get hi
      refine w_Ro_fact_183 ⟨is_mk hK1.2.1, oA_13051 hK1 bk.1 bk.2, ?_⟩
      rw [oG_13051 hK1, n32c (by omega), vn, show (40 : Int32) = Int32.ofNat 40 from rfl, n32i (by omega) (by omega)]
      refine ⟨fun h40 => ?_, fun h40 => ?_⟩
      · rw [if_pos h40] at er
        rw [er] at K'
        exact K' s1 X1 L1 f1 (r1.mono (by decide) (by decide) (by simp))
      · rw [if_neg h40] at er
        rw [er] at K'
        refine (r_keep (d := d + 418) (k := k) hK1 hC1 h100 ((r1.fI (by decide)).trans hnow) A1 hm h1 h2 hk.symm g1.1 hi (by omega) (fun j c' hc' => (w.c hc').2.2.2.2.1.1) (fun s4 C4 r4 _ => ?_))
        have A4 := A1.rc hm lo r4 (by decide) (by decide) (by simp)
        refine (r_done (d := d + 416) (t := []) (hK1.rc r4) (L1.rc r4 lo (by simp) (by decide) (by decide)) A4 (by omega) (by omega) hm (fun q => by omega) (by have := note_le n a; omega) (fun s6 f6 L6 r6 _ => ?_))
        refine K' s6 ?_ (by rw [if_pos rfl]; exact L6) ((r6.fI (by decide)).trans ((r4.fI (by simp)).trans f1)) ((r1.mono (by decide) (by decide) (by simp)).trans ((r4.mono (by simp) (by decide) (by simp)).trans (r6.mono (by decide) (by decide) (by simp))))
        obtain ⟨-, hN, hP, hRk, hPl, hPe, hRu, hSe, hLs, -, hHe⟩ := X1
        have r46 : Rc o [13000, 13067] (52 :: keF) [] s1 s6 := (r4.mono (by simp) (by decide) (by simp)).trans (r6.mono (by decide) (by decide) (by simp))
        exact ⟨hK1.rc r46, ⟨by rw [f6, r4.fI (by simp), hN.1]; rfl, (r46.fI (by decide)).trans hN.2.1, (r46.fI (by decide)).trans hN.2.2.1, (r46.fI (by decide)).trans hN.2.2.2.1, (r46.fI (by decide)).trans hN.2.2.2.2⟩, kPol.rc hP r46 lo (by decide), kRnk.rc hRk r46 lo (by decide), kPla.rc hPl r46 lo (by decide), kPer.rc hPe r46 lo (by decide), kRul.rc hRu r46 lo (by decide), kSet.rc hSe r46 lo (by decide), kLos.rc hLs r46 lo (by decide), by rw [hk] at C4; exact kCas.rc C4 r6 lo (by decide), kHel.rc hHe r46 lo (by decide)⟩
    have rest : ∀ {x3 x5 : Int32}, r = (if n = 13 then (if ¬ fnd < 2500 then ((-7 : Int32), M, fnd) else (match m_paying M k (a 1).toInt32 (a 2) with
      | none => ((-6 : Int32), M, fnd + m_metBy M k (a 1).toInt32)
      | some it => if c.2.2.2.2.2.length = 40 then ((-7 : Int32), M, fnd + m_metBy M k (a 1).toInt32) else ((1 : Int32), m_keep M n a it, fnd + m_metBy M k (a 1).toInt32)))
      else if n = 19 ∧ m_paidOf c.2.2.2.2.2 (o_now M) < m_recOf c.2.2.2.2.2 (o_now M) + a 2 then ((-6 : Int32), M, fnd)
      else if c.2.2.2.2.2.length = 40 then ((-7 : Int32), M, fnd) else ((1 : Int32), m_keep M n a 0, fnd)) → ¬ (a 1).toInt < (m_lastDay c).toInt → c_Ro_fact_96 nl Ln xs (d + 420) o (Int32.ofNat n) (some m) x3 (Int32.ofNat k) x5 σ F := by
      intro x3 x5 er hld
      have hm1 : am_fR σ 13099 o = some 1053 := hK.2.2.1
      refine w_Ro_fact_96 ⟨fun h13 => ?_, fun h13 => ?_⟩
      · have h13 := en13.mp h13
        rw [if_pos h13] at er
        rw [hm1, Option.getD_some, hn, v1, v2]
        refine ⟨is_mk hK.2.1, is_mk D.m.1, fun hlt => ?_, fun hlt => stay _ (by decide) (by rw [er, if_pos hlt])⟩
        rw [if_neg (fun q => q hlt)] at er
        refine ⟨ar_mk hA.1 (by decide) (by decide), ar_mk hA.1 (by decide) (by decide), ?_⟩
        have hg3 : m_rg (a 2) 1 1000000000000 := by rw [h13] at g3; exact g3
        have hday : c.2.2.2.1.toInt ≤ (a 1).toInt32.toInt := by
          rw [d1]
          have : c.2.2.2.1.toInt ≤ (m_lastDay c).toInt := by
            unfold m_lastDay
            cases hgl : c.2.2.2.2.2.getLast? with
            | none => exact Int.le_refl _
            | some f => exact hw.2.2.2.2.2.1 f (List.mem_of_getLast? hgl)
          omega
        refine (r_paying (d := d) w hH X hM hi hday (by rw [d1]; exact g2.2) hn (fun s7 f7 r7 _ => ?_))
        cases hp : m_paying M k (a 1).toInt32 (a 2) with
        | none =>
          rw [hp] at er
          refine ⟨fun _ => ?_, fun q => absurd (show (-1 : Int64) < 0 by decide) q⟩
          rw [er] at K'
          exact K' s7 (X.rc r7 (by decide)) (by rw [if_neg (by show ¬ (-6 : Int32) = 1; decide)]; exact hLg.rc r7 lo (by simp) (by decide) (by decide)) f7 (r7.mono (by decide) (by decide) (by simp))
        | some it =>
          rw [hp] at er
          have hit := pay_nn w hi (by omega) hp
          refine ⟨fun q => ?_, fun _ => ?_⟩
          · have q : it < 0 := q
            rw [i64lt, show (0 : Int64).toInt = 0 by decide] at q
            omega
          · refine w_Ro_fact_146 ⟨fun h19 => ?_, fun _ => keep r7 f7 er⟩
            have := en19.mp h19
            omega
      · rw [if_neg (fun q => h13 (en13.mpr q))] at er
        refine w_Ro_fact_146 ⟨fun h19 => ?_, fun h19 => ?_⟩
        · have h19 := en19.mp h19
          rw [hnow]
          refine ⟨is_mk hK.2.1, ?_⟩
          refine (r_recourseOf (d := d + 418) hK D.cas h100 hi hF40 (fun _ => ⟨ar_mk hA.1 (by decide) (by decide), ?_⟩))
          rw [hnow, v2]
          refine (r_paidOf (d := d + 418) hK D.cas h100 hi hF40 (fun _ => ⟨fun hlt => stay _ (by decide) (by rw [er, if_pos ⟨h19, hlt⟩]), fun hlt => ?_⟩))
          rw [if_neg (fun q => hlt q.2)] at er
          exact keep Rc.rf hn er
        · rw [if_neg (fun q => h19 (en19.mpr q.1))] at er
          exact keep Rc.rf hn er
    refine ⟨ar_mk hA.1 (by decide) (by decide), is_mk hK.2.1, ?_⟩
    refine (r_lastDay (d := d + 418) hK D.cas h100 hi hF40 (fun _ => ?_))
    rw [v1, v2, i64lt, t64]
    refine ⟨fun hlt => stay _ (by decide) (by rw [hr, if_pos hlt]), fun hlt => ?_⟩
    rw [if_neg hlt] at hr
    refine ⟨fun h15 => ⟨ar_mk hA.1 (by decide) (by decide), ar_mk hA.1 (by decide) (by decide), ?_⟩, fun h15 => ?_⟩
    · have h15 := en15.mp h15
      refine (r_isLate (d := d + 418) hK D.cas h100 hi hF40 (fun _ => ?_))
      have hg3 : m_rg (a 2) 0 2 := by rw [h15] at g3; exact g3
      have hcl : 0 ≤ (m_closed c.2.2.2.2.2).toInt ∧ (m_closed c.2.2.2.2.2).toInt ≤ 10949 := by
        unfold m_closed
        exact m_last_mem _ _ (fun v : Int32 => 0 ≤ v.toInt ∧ v.toInt ≤ 10949) _ _ ⟨by decide, by decide⟩ (fun f hf => ⟨(hF.2.1 f hf).2.2.1, (hF.2.1 f hf).2.2.2.1⟩)
      have e2 : (a 2).toInt32.toInt = (a 2).toInt := t32 (by omega) (by omega)
      have es : ((a 1).toInt32 - m_closed c.2.2.2.2.2).toInt = (a 1).toInt - (m_closed c.2.2.2.2.2).toInt := by rw [i32sub (by omega) (by omega), d1]
      have z0 : ((a 2).toInt32 = 0) ↔ a 2 = 0 := by
        rw [← Int32.toInt_inj, ← Int64.toInt_inj, e2]; rfl
      have z1 : ((a 2).toInt32 = 1) ↔ a 2 = 1 := by
        rw [← Int32.toInt_inj, ← Int64.toInt_inj, e2]; rfl
      have elate : (decide (((a 2).toInt32 = 0 ∧ (30 : Int32) < (a 1).toInt32 - m_closed c.2.2.2.2.2) ∨ (¬ (a 2).toInt32 = 0 ∧ ((a 2).toInt32 = 1 ∧ (365 : Int32) < (a 1).toInt32 - m_closed c.2.2.2.2.2))) = true) ↔ (n = 15 ∧ m_late c.2.2.2.2.2 (a 1).toInt32 (a 2)) := by
        rw [decide_eq_true_eq, i32lt, i32lt, es, z0, z1, show (30 : Int32).toInt = 30 by decide, show (365 : Int32).toInt = 365 by decide]
        unfold m_late
        rw [d1]
        constructor
        · rintro (q | q)
          · exact ⟨h15, Or.inl q⟩
          · exact ⟨h15, Or.inr q.2⟩
        · rintro ⟨-, q | q⟩
          · exact Or.inl q
          · exact Or.inr ⟨by rw [q.1]; decide, q⟩
      rw [elate]
      refine ⟨fun q => stay _ (by decide) (by rw [hr, if_pos (m_dec_eq.mpr q)]), fun q => rest (by rw [hr, if_neg (fun z => q (m_dec_eq.mp z))]; cases m_paying M k (a 1).toInt32 (a 2) <;> rfl) hlt⟩
    · exact rest (by rw [hr, if_neg (fun z => h15 (en15.mpr (m_dec_eq.mp z).1))]; cases m_paying M k (a 1).toInt32 (a 2) <;> rfl) hlt
  · rw [hr, if_pos]
    rw [m_dec_eq]
    apply Classical.byContradiction
    intro q
    apply hg
    refine ⟨?_, ?_, ?_⟩
    · exact Classical.byContradiction (fun z => q (Or.inl z))
    · exact Classical.byContradiction (fun z => q (Or.inr (Or.inl z)))
    · exact Classical.byContradiction (fun z => q (Or.inr (Or.inr z)))
end
