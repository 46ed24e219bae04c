/-! ACTS of the reference: all of them -/
/-- well-formed offices: what acts ask for -/
def WfX (M : mOff) : Prop := WfO M ∧ (0 ≤ (o_per M).toInt ∧ (o_per M).toInt ≤ 100) ∧ (o_hel M).length ≤ 60 ∧ ∀ q ∈ o_hel M, 12 ≤ q.1 ∧ q.1 ≤ 19
section
variable {nl : Bool} {Ln : Nat} {xs : Nat → Int32} {d : Nat} {σ : am_S} {o : Nat} {M : mOff} {fnd : Int32}
theorem und_fi (R : OffR σ o M) : am_fI σ 13062 o = b2i (o_und M) := R.2.1.2.2.2.2
theorem act_fact {n : Nat} {a : mArg} {t : List Int32} (h : 12 ≤ n ∧ n ≤ 19) (hu : o_und M = false) : m_act M fnd n a t = ((m_fact M fnd n a).1, (if (m_fact M fnd n a).1 = 1 then ((m_fact M fnd n a).2.1.1, (m_fact M fnd n a).2.1.2.1, (m_fact M fnd n a).2.1.2.2.1, (m_fact M fnd n a).2.1.2.2.2.1, (m_fact M fnd n a).2.1.2.2.2.2.1, (m_fact M fnd n a).2.1.2.2.2.2.2.1, o_log M ++ m_note n a []) else (m_fact M fnd n a).2.1), (m_fact M fnd n a).2.2) := by
  unfold m_act
  rw [if_pos h, if_neg (by rw [hu]; decide)]
theorem act_hold {n : Nat} {a : mArg} {t : List Int32} (h : 12 ≤ n ∧ n ≤ 19) (hu : o_und M = true) : m_act M fnd n a t = (if (o_hel M).length = 60 then (-7, M, fnd) else (-8, m_setHel M (o_hel M ++ [(n, a)]), fnd)) := by
  unfold m_act
  rw [if_pos h, if_pos hu]
theorem act_state {n : Nat} {a : mArg} {t : List Int32} (h : ¬ (12 ≤ n ∧ n ≤ 19)) (hu : o_und M ≠ decide (n = 21 ∨ n = 22)) : m_act M fnd n a t = (-3, M, fnd) := by
  unfold m_act
  rw [if_neg h, if_pos hu]
theorem r_act {m n : Nat} {a : mArg} {t : List Int32} {F : Int32 → am_S → Prop} (w : WfX M) (R : OffR σ o M) (hM : ModK σ) (hw : KwR σ) (hl : (m_rlog M).length ≤ 430000) (hnow : (o_now M).toInt ≤ 2000000000) (hA : ArgR σ m a) (hm : m = 1060 ∨ m = o + 61) (hn : am_fI σ 12006 1053 = fnd) (h1 : 1 ≤ n) (h2 : n ≤ 22)
    (ht : n = 6 → rwI σ (o + 62) t (fun b => b) ∧ t.length ≤ 400 ∧ (∀ b ∈ t, 0 ≤ b.toInt) ∧ a 1 = Int64.ofNat t.length)
    (K : ∀ r, r = m_act M fnd n a t → ∀ σ', OffR σ' o r.2.1 → am_fI σ' 12006 1053 = r.2.2 → Rc o reF raA [] σ σ' → F r.1 σ') : k_Ro_act nl Ln xs (d + 423) o (Int32.ofNat n) (some m) σ F := by
  obtain ⟨wo, ⟨wp0, wp1⟩, w60, whel⟩ := w
  have hK := R.1
  have h62 := und_fi R
  have h100 := wo.1.1.1
  have h200 := wo.1.2.2.1.1
  have hc100 := wo.1.c100
  have hWL := wo.1.2.2.1.2.1
  have hcnt : (tlA (o_tel M) 2).length ≤ 60 ∧ (tlA (o_tel M) 4).length ≤ 200 ∧ (tlA (o_tel M) 5).length ≤ 300 ∧ (tlA (o_tel M) 6).length ≤ 150 ∧ (tlA (o_tel M) 7).length ≤ 150 ∧ ∀ t ∈ o_tel M, WfTell t := wo.1.2.1.2.2.2
  -- the shape of the acts that know nothing of what was met
  have Kx : ∀ {r : mAns} {σ' : am_S}, r = m_act M fnd n a t → r.2.2 = fnd → OffR σ' o r.2.1 → Rc o raF raA [] σ σ' → F r.1 σ' := fun hr hf hR hc => K _ hr _ hR ((hc.fI (by decide)).trans (hn.trans hf.symm)) hc.re
  have Ks : m_act M fnd n a t = (-3, M, fnd) → F (-3) σ := fun e => Kx (r := (-3, M, fnd)) e.symm rfl R Rc.rf
  refine w_Ro_act ?_
  have ef : (if ¬ (Int32.ofNat n < 12) ∧ (¬ ((19 : Int32) < Int32.ofNat n)) then (1 : Int32) else 0) = if 12 ≤ n ∧ n ≤ 19 then 1 else 0 := by
    have l1 : Int32.ofNat n < 12 ↔ n < 12 := n32lt (b := 12) (by omega) (by omega)
    have l2 : (19 : Int32) < Int32.ofNat n ↔ 19 < n := n32lt (a := 19) (by omega) (by omega)
    by_cases h : 12 ≤ n ∧ n ≤ 19
    · rw [if_pos h, if_pos (by rw [l1, l2]; omega)]
    · rw [if_neg h, if_neg (by rw [l1, l2]; omega)]
  rw [ef]
  have en : ∀ k : Nat, k < 100 → (Int32.ofNat n = Int32.ofNat k ↔ n = k) := fun k hk => n32i (by omega) (by omega)
  have ent : (Int32.ofNat n).toInt = n := n32 (by omega)
  by_cases hf : 12 ≤ n ∧ n ≤ 19
  · rw [if_pos hf]
    by_cases hu : o_und M = true
    · have e62 : am_fI σ 13062 o = 1 := by rw [h62, hu]; rfl
      refine w_Ro_act_17 ⟨is_mk hK.2.1, fun q => absurd (e62.symm.trans q) (by decide), fun _ => ⟨fun q => absurd q (by decide), fun _ => ?_⟩⟩
      have ea := act_hold (fnd := fnd) (a := a) (t := t) hf hu
      refine r_hold R hu w60 (by omega) hA hm hf.1 hf.2 (fun q _ => ?_) (fun q σ' R' c' _ => ?_)
      · exact Kx (r := (-7, M, fnd)) (by rw [ea, if_pos q]) rfl R Rc.rf
      · exact Kx (r := (-8, m_setHel M (o_hel M ++ [(n, a)]), fnd)) (by rw [ea, if_neg q]) rfl R' c'
    · have hu : o_und M = false := by cases h : o_und M <;> simp_all
      have e62 : am_fI σ 13062 o = 0 := by rw [h62, hu]; rfl
      refine w_Ro_act_17 ⟨is_mk hK.2.1, fun _ => w_Ro_act_36 ⟨is_mk hK.2.1, fun _ => w_Ro_act_58 ⟨fun q => absurd q (by decide), fun _ => ⟨is_mk hK.2.1, ?_⟩⟩, fun q => absurd e62 q⟩, fun q => absurd e62 q⟩
      obtain ⟨X, hG⟩ := R.x
      rw [m_rlog0 hu] at hG hl
      refine (r_fact (d := d + 2) wo.1 wo.2.1 X hM hG (by omega) hA hm hf.1 hf.2 hn (fun r hr σ' X' L' f' c' _ => ?_))
      have ea := act_fact (fnd := fnd) (a := a) (t := t) hf hu
      rw [← hr] at ea
      have hwf := fact_wf (a := a) (fnd := fnd) wo hf.1 hf.2 (by omega)
      rw [← hr] at hwf
      have hcr : Rc o reF raA [] σ σ' := c'.alle (by decide)
      rcases hwf with ⟨u1, u2⟩ | ⟨it, u1, u2, u3, u4⟩
      · have h1 : r.1 ≠ 1 := fun z => by rw [z] at u2; exact absurd u2 (by decide)
        rw [if_neg h1] at L' ea
        refine K _ ea.symm σ' ?_ f' hcr
        show OffR σ' o r.2.1
        refine OfX.r X' ?_
        rw [u1, m_rlog0 hu]; exact L'
      · rw [if_pos u2] at L' ea
        refine K _ ea.symm σ' ?_ f' hcr
        rw [u1] at X' ⊢
        refine OfX.r X' ?_
        rw [m_rlog0 (M := ((m_keep M n a it).1, (m_keep M n a it).2.1, (m_keep M n a it).2.2.1, (m_keep M n a it).2.2.2.1, (m_keep M n a it).2.2.2.2.1, (m_keep M n a it).2.2.2.2.2.1, o_log M ++ m_note n a [])) hu]
        exact L'
  rw [if_neg hf]
  by_cases hu : o_und M = true
  · have e62 : am_fI σ 13062 o = 1 := by rw [h62, hu]; rfl
    have n62 : ¬ am_fI σ 13062 o = 0 := fun q => absurd (e62.symm.trans q) (by decide)
    refine w_Ro_act_17 ⟨is_mk hK.2.1, fun q => absurd q n62, fun _ => ⟨fun _ => ?_, fun q => absurd rfl q⟩⟩
    refine w_Ro_act_36 ⟨is_mk hK.2.1, fun q => absurd q n62, fun _ => ⟨fun q => ?_, fun q21 => ⟨fun q => ?_, fun q22 => ?_⟩⟩⟩
    · have hn21 : n = 21 := (en 21 (by decide)).mp q
      subst hn21
      refine w_Ro_act_58 ⟨fun _ => ⟨fun q => absurd q (by decide), fun q => absurd q (by decide), fun q => absurd q (by decide), fun q => absurd q (by decide), fun q => absurd q (by decide), fun q => absurd q (by decide), fun q => absurd q (by decide), fun q => absurd q (by decide), fun q => absurd q (by decide), fun q => absurd q (by decide), fun q => absurd q (by decide), fun q => absurd q (by decide), fun _ => w_Ro_act_240 ⟨is_mk hK.2.1, ?_⟩, fun q => absurd q (by decide)⟩, fun q => absurd rfl q⟩
      refine (r_end (d := d) wo R hM hu w60 whel hl hnow hA hm hn (fun r hr σ' R' f' c' _ => K r ?_ σ' R' f' c'))
      rw [hr]; unfold m_act
      rw [if_neg hf, if_neg (by rw [hu]; decide)]
      simp
    · have hn22 : n = 22 := (en 22 (by decide)).mp q
      subst hn22
      refine w_Ro_act_58 ⟨fun _ => ⟨fun q => absurd q (by decide), fun q => absurd q (by decide), fun q => absurd q (by decide), fun q => absurd q (by decide), fun q => absurd q (by decide), fun q => absurd q (by decide), fun q => absurd q (by decide), fun q => absurd q (by decide), fun q => absurd q (by decide), fun q => absurd q (by decide), fun q => absurd q (by decide), fun q => absurd q (by decide), fun q => absurd q (by decide), fun _ => w_Ro_act_246 ⟨is_mk hK.2.1, ?_⟩⟩, fun q => absurd rfl q⟩
      refine r_undo R hu (by omega) hA hm (fun σ' R' c' _ => Kx (r := (Int32.ofNat (o_hel M).length, m_over M (o_now M) (o_cas M) 22, fnd)) ?_ rfl R' c')
      unfold m_act
      rw [if_neg hf, if_neg (by rw [hu]; decide)]
      simp
    · refine Ks (act_state hf ?_)
      rw [hu]
      have a21 : n ≠ 21 := fun h => q21 (by rw [h]; rfl)
      have a22 : n ≠ 22 := fun h => q22 (by rw [h]; rfl)
      rw [decide_eq_false (by omega)]
      decide
  have hu : o_und M = false := by cases h : o_und M <;> simp_all
  have e62 : am_fI σ 13062 o = 0 := by rw [h62, hu]; rfl
  rw [m_rlog0 hu] at hl
  have hl4 : (o_log M).length ≤ 440000 := by omega
  refine w_Ro_act_17 ⟨is_mk hK.2.1, fun _ => w_Ro_act_36 ⟨is_mk hK.2.1, fun _ => w_Ro_act_58 ⟨fun _ => ?_, fun q => absurd rfl q⟩, fun q => absurd e62 q⟩, fun q => absurd e62 q⟩
  have ma : n ≠ 21 → n ≠ 22 → ¬ (o_und M ≠ decide (n = 21 ∨ n = 22)) := fun p q => by rw [hu, decide_eq_false (by omega)]; decide
  refine ⟨fun q => ?_, fun q => ?_, fun q => ?_, fun q => ?_, fun q => ?_, fun q => ?_, fun q => ?_, fun q => ?_, fun q => ?_, fun q => ?_, fun q => ?_, fun q => ?_, fun q => ?_, fun q => ?_⟩
  · have hnn : n = 1 := (en 1 (by decide)).mp q
    subst hnn
    have ea : m_act M fnd 1 a t = (if o_per M = 100 then (-7, M, fnd) else (o_per M, m_done (m_setPer M (o_per M + 1)) 1 a [], fnd)) := by
      unfold m_act
      rw [if_neg hf, if_neg (ma (by decide) (by decide)), if_pos rfl]
    refine w_Ro_act_168 ⟨is_mk hK.2.1, r_person R hu hA hm hl4 (fun h _ => Kx (r := (-7, M, fnd)) (by rw [ea, if_pos h]) rfl R Rc.rf) (fun h σ' R' c' _ => Kx (r := (o_per M, m_done (m_setPer M (o_per M + 1)) 1 a [], fnd)) (by rw [ea, if_neg h]) rfl R' c')⟩
  · have hnn : n = 2 := (en 2 (by decide)).mp q
    subst hnn
    refine w_Ro_act_174 ⟨is_mk hK.2.1, r_rank (fnd := fnd) R hu hA hm hl4 hcnt.1 (fun σ' r hr R' c' _ => Kx (r := r) ?_ ?_ R' c')⟩
    · rw [hr]; unfold m_act
      rw [if_neg hf, if_neg (ma (by decide) (by decide))]
      simp only [Nat.reduceEqDiff, if_true, if_false]
    · rw [hr]
      split; rfl; unfold m_tellA; split <;> rfl
  · have hnn : n = 3 := (en 3 (by decide)).mp q
    subst hnn
    refine w_Ro_act_180 ⟨is_mk hK.2.1, r_policy (fnd := fnd) R hu hA hm hl4 h100 wp0 wp1 (fun σ' r hr R' c' _ => Kx (r := r) ?_ ?_ R' c')⟩
    · rw [hr]; unfold m_act
      rw [if_neg hf, if_neg (ma (by decide) (by decide))]
      simp only [Nat.reduceEqDiff, if_true, if_false]
    · rw [hr]
      split; rfl; split <;> rfl
  · have hnn : n = 4 := (en 4 (by decide)).mp q
    subst hnn
    refine w_Ro_act_186 ⟨is_mk hK.2.1, r_bundle (d := d + 318) (fnd := fnd) R hu hA hm hl4 wo.1 (fun σ' r hr R' c' _ => Kx (r := r) ?_ ?_ R' c')⟩
    · rw [hr]; unfold m_act
      rw [if_neg hf, if_neg (ma (by decide) (by decide))]
      simp only [Nat.reduceEqDiff, if_true, if_false]
    · rw [hr]
      split; rfl; split; rfl; unfold m_tellA; split <;> rfl
  · have hnn : n = 5 := (en 5 (by decide)).mp q
    subst hnn
    refine w_Ro_act_192 ⟨is_mk hK.2.1, r_period (fnd := fnd) R hu hA hm hl4 hcnt.2.2.1 h100 (fun σ' r hr R' c' _ => Kx (r := r) ?_ ?_ R' c')⟩
    · rw [hr]; unfold m_act
      rw [if_neg hf, if_neg (ma (by decide) (by decide))]
      simp only [Nat.reduceEqDiff, if_true, if_false]
    · rw [hr]
      split; rfl; unfold m_tellA; split <;> rfl
  · have hnn : n = 6 := (en 6 (by decide)).mp q
    subst hnn
    obtain ⟨t1, t2, t3, t4⟩ := ht rfl
    refine w_Ro_act_198 ⟨is_mk hK.2.1, (r_clauses (d := d + 347) (fnd := fnd) (t := t) R hu hA hm hl4 hcnt.2.2.2.1 h100 (fun q hq => (hcnt.2.2.2.2.2 q hq).2.1) hM hw t1 t2 t3 t4 (fun σ' r hr R' c' _ => Kx (r := r) ?_ ?_ R' c'))⟩
    · rw [hr]; unfold m_act
      rw [if_neg hf, if_neg (ma (by decide) (by decide))]
      simp only [Nat.reduceEqDiff, if_true, if_false]
      generalize m_parse t = X
      cases X <;> rfl
    · rw [hr]
      split
      · rfl
      · split
        · rfl
        · split
          · rfl
          · unfold m_tellA; split <;> rfl
  · have hnn : n = 7 := (en 7 (by decide)).mp q
    subst hnn
    refine w_Ro_act_204 ⟨is_mk hK.2.1, r_rule (fnd := fnd) R hu hA hm hl4 hcnt.2.2.2.2.1 h100 (fun σ' r hr R' c' _ => Kx (r := r) ?_ ?_ R' c')⟩
    · rw [hr]; unfold m_act
      rw [if_neg hf, if_neg (ma (by decide) (by decide))]
      simp only [Nat.reduceEqDiff, if_true, if_false]
    · rw [hr]
      split; rfl; unfold m_tellA; split <;> rfl
  · have hnn : n = 8 := (en 8 (by decide)).mp q
    subst hnn
    refine w_Ro_act_210 ⟨is_mk hK.2.1, r_loss (fnd := fnd) R hu hA hm hl4 h200 (fun σ' r hr R' c' _ => Kx (r := r) ?_ ?_ R' c')⟩
    · rw [hr]; unfold m_act
      rw [if_neg hf, if_neg (ma (by decide) (by decide))]
      simp only [Nat.reduceEqDiff, if_true, if_false]
    · rw [hr]
      split; rfl; unfold m_addLoss; split <;> rfl
  · have hnn : n = 9 := (en 9 (by decide)).mp q
    subst hnn
    refine w_Ro_act_216 ⟨is_mk hK.2.1, r_part (fnd := fnd) R hu hA hm hl4 h200 hWL (fun σ' r hr R' c' _ => Kx (r := r) ?_ ?_ R' c')⟩
    · rw [hr]; unfold m_act
      rw [if_neg hf, if_neg (ma (by decide) (by decide))]
      simp only [Nat.reduceEqDiff, if_true, if_false]
    · rw [hr]
      split; rfl; split; rfl; unfold m_addLoss; split <;> rfl
  · have hnn : n = 10 := (en 10 (by decide)).mp q
    subst hnn
    refine w_Ro_act_222 ⟨is_mk hK.2.1, r_item (fnd := fnd) R hu hA hm hl4 h200 hWL (fun σ' r hr R' c' _ => Kx (r := r) ?_ ?_ R' c')⟩
    · rw [hr]; unfold m_act
      rw [if_neg hf, if_neg (ma (by decide) (by decide))]
      simp only [Nat.reduceEqDiff, if_true, if_false]
    · rw [hr]
      split; rfl; split; rfl; split <;> rfl
  · have hnn : n = 11 := (en 11 (by decide)).mp q
    subst hnn
    have ma11 : ∀ {x : mAns}, (if ¬ (m_isPol (o_pol M) (a 0) ∧ (if ((o_pol M).getD (m_ix (a 0)) mPol0).1 = 6 then m_rg (a 1) 0 3 else a 1 = -1) ∧ (0 ≤ (a 2).toInt ∧ (a 2).toInt < (o_los M).length) ∧ m_rg (a 3) 0 10949) then (-2, M, fnd)
        else if (a 3).toInt < ((o_los M).getD (m_ix (a 2)) mLoss0).2.1.toInt ∨ ((o_cas M) ≠ [] ∧ (a 3).toInt < ((o_cas M).getD ((o_cas M).length - 1) mCase0).2.2.2.1.toInt) then (-4, M, fnd)
        else if (o_cas M).length = 100 then (-7, M, fnd)
        else (Int32.ofNat (o_cas M).length, m_done (m_caseM M a) 11 a [], fnd)) = x → x = m_act M fnd 11 a t := by
      intro x hx
      rw [← hx]
      unfold m_act
      rw [if_neg hf, if_neg (ma (by decide) (by decide))]
      simp only [Nat.reduceEqDiff, if_true, if_false]
      rfl
    refine w_Ro_act_228 ⟨is_mk hK.2.1, r_notify R hu hA hm hl4 h100 h200 hc100 hWL (fun g _ => Kx (r := (-2, M, fnd)) (ma11 (if_pos g)) rfl R Rc.rf) (fun g g2 _ => Kx (r := (-4, M, fnd)) (ma11 ((if_neg (fun z => z g)).trans (if_pos g2))) rfl R Rc.rf) (fun g g2 g3 _ => Kx (r := (-7, M, fnd)) (ma11 ((if_neg (fun z => z g)).trans ((if_neg g2).trans (if_pos g3)))) rfl R Rc.rf) (fun g g2 g3 σ' R' c' _ => Kx (r := (Int32.ofNat (o_cas M).length, m_done (m_caseM M a) 11 a [], fnd)) (ma11 ((if_neg (fun z => z g)).trans ((if_neg g2).trans (if_neg g3)))) rfl R' c')⟩
  · have hnn : n = 20 := (en 20 (by decide)).mp q
    subst hnn
    refine w_Ro_act_234 ⟨is_mk hK.2.1, r_batch R hu hl4 hA hm (fun σ' R' c' _ => Kx (r := (o_bat M + 1, ((o_per M, o_now M, o_bat M + 1, o_tri M, true), o_pol M, o_tel M, o_los M, o_cas M, [], o_log M), fnd)) ?_ rfl R' c')⟩
    unfold m_act
    rw [if_neg hf, if_neg (ma (by decide) (by decide))]
    simp only [Nat.reduceEqDiff, if_true, if_false]
  · have hnn : n = 21 := (en 21 (by decide)).mp q
    refine w_Ro_act_240 ⟨is_mk hK.2.1, w_Ro_end ⟨is_mk hK.2.1, fun _ _ => Ks (act_state hf (by rw [hu, hnn]; decide)), fun q => absurd e62 q⟩⟩
  · have hnn : n = 22 := by
      rcases q with (q | q) | q | q | q | q | q | q | q | q
      · have : (1 : Int32).toInt = 1 := by decide
        omega
      · have : (21 : Int32).toInt = 21 := by decide
        omega
      · exact absurd ((en 12 (by decide)).mp q) (by omega)
      · exact absurd ((en 13 (by decide)).mp q) (by omega)
      · exact absurd ((en 14 (by decide)).mp q) (by omega)
      · exact absurd ((en 15 (by decide)).mp q) (by omega)
      · exact absurd ((en 16 (by decide)).mp q) (by omega)
      · exact absurd ((en 17 (by decide)).mp q) (by omega)
      · exact absurd ((en 18 (by decide)).mp q) (by omega)
      · exact absurd ((en 19 (by decide)).mp q) (by omega)
    refine w_Ro_act_246 ⟨is_mk hK.2.1, w_Ro_undo ⟨is_mk hK.2.1, fun _ _ => Ks (act_state hf (by rw [hu, hnn]; decide)), fun q => absurd e62 q⟩⟩
end
