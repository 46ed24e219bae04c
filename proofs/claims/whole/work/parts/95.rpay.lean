/-! FACTS, by the reference: paying -/
section
variable {nl : Bool} {Ln : Nat} {xs : Nat → Int32} {d : Nat} {σ : am_S} {o : Nat} {M : mOff} {i : Nat} {c : mCase} {day nf : Int32} {cents : Int64}
theorem sumf_rng {q : mFact → Bool} {v : mFact → Int64} : ∀ (l : List mFact), (∀ f ∈ l, 0 ≤ (v f).toInt ∧ (v f).toInt ≤ 1000000000000) → l.length ≤ 40 → 0 ≤ (m_sumf q v l).toInt ∧ (m_sumf q v l).toInt ≤ 1000000000000 * l.length
  | [], _, _ => by rw [m_sumf]; exact ⟨by decide, by decide⟩
  | f :: l, h, hl => by
    rw [List.length_cons] at hl
    have := h f List.mem_cons_self
    have ih := sumf_rng (q := q) l (fun g hg => h g (List.mem_cons_of_mem _ hg)) (by omega)
    have hx : 0 ≤ (if q f = true then v f else 0).toInt ∧ (if q f = true then v f else 0).toInt ≤ 1000000000000 := by
      split
      · omega
      · exact ⟨by decide, by decide⟩
    rw [m_sumf, List.length_cons]
    rw [i64add (by omega) (by omega)]
    omega
theorem pay_nn (w : WfD (o_pol M) (o_tel M) (o_los M) (o_cas M)) (hi : (o_cas M)[i]? = some c) (hc : 0 ≤ cents.toInt) {it : Int64} (h : m_paying M i day cents = some it) : 0 ≤ it.toInt ∧ it.toInt ≤ cents.toInt := by
  have z64 : (0 : Int64).toInt = 0 := by decide
  have hgd : (o_cas M).getD i mCase0 = c := getD_of mCase0 hi
  unfold m_paying at h
  rw [hgd] at h
  simp only [] at h
  obtain ⟨it0, e0⟩ : ∃ it0, it0 = m_least cents (if m_sumf (fun f => decide (f.1 = 13)) m_fi c.2.2.2.2.2 < (m_work (o_pol M) (o_tel M) (o_los M) (o_cas M) i day (o_now M)).2.2.2.1 then (m_work (o_pol M) (o_tel M) (o_los M) (o_cas M) i day (o_now M)).2.2.2.1 - m_sumf (fun f => decide (f.1 = 13)) m_fi c.2.2.2.2.2 else 0) := ⟨_, rfl⟩
  rw [← e0] at h
  split at h
  · cases h
  · have hF := (w.c hi).2.2.2.2.1
    have hs := sumf_rng (q := fun f => decide (f.1 = 13)) (v := m_fi) c.2.2.2.2.2 (fun f hf => by
      obtain ⟨-, -, k3, k4, k5, k6, k7, k8, -⟩ := hF.2.1 f hf
      omega) hF.1
    cases hcv : m_cover (o_pol M) (o_tel M) c (o_now M) with
    | none => rw [hcv] at h; cases h
    | some p =>
      rw [hcv] at h
      simp only [] at h
      split at h
      · cases h
      · cases h
        rw [e0, least_int]
        have hr := r64 (m_work (o_pol M) (o_tel M) (o_los M) (o_cas M) i day (o_now M)).2.2.2.1
        have hy : 0 ≤ (if m_sumf (fun f => decide (f.1 = 13)) m_fi c.2.2.2.2.2 < (m_work (o_pol M) (o_tel M) (o_los M) (o_cas M) i day (o_now M)).2.2.2.1 then (m_work (o_pol M) (o_tel M) (o_los M) (o_cas M) i day (o_now M)).2.2.2.1 - m_sumf (fun f => decide (f.1 = 13)) m_fi c.2.2.2.2.2 else 0).toInt := by
          split
          · rename_i hlt
            rw [i64lt] at hlt
            rw [i64sub (by omega) (by omega)]
            omega
          · rw [z64]; omega
        omega
theorem r_paying {F : Int64 → am_S → Prop} (w : WfD (o_pol M) (o_tel M) (o_los M) (o_cas M)) (hH : WfH (o_tel M)) (X : OfX σ o M) (hM : ModK σ) (hi : (o_cas M)[i]? = some c) (hd0 : c.2.2.2.1.toInt ≤ day.toInt) (hd1 : day.toInt ≤ 10949) (hn : am_fI σ 12006 1053 = nf)
    (K : ∀ σ', am_fI σ' 12006 1053 = nf + m_metBy M i day → Rc o (wF false) wA [] σ σ' → F ((m_paying M i day cents).getD (-1)) σ') : k_Ro_paying nl Ln xs (d + 419) o (Int32.ofNat i) day cents σ F := by
  have D := X.dat hM
  have hnow : am_fI σ 13000 o = o_now M := X.2.1.1
  have h100 := w.c100
  have hp100 := w.p100
  have hlt := lt_of_get hi
  have h40 := (w.c hi).2.2.2.2.1.1
  have hgd : (o_cas M).getD i mCase0 = c := getD_of mCase0 hi
  refine w_Ro_paying ⟨is_mk D.k.2.1, ?_⟩
  rw [hnow]
  refine (r_work (lk := false) (d := d) w hH hi hd0 hd1 D (fun q => by cases q) hn (fun W hW s2 p st ends s' w' S2 z2 _ hcv r2 _ => ?_))
  have r2 : Rc o (wF false) wA [] σ s2 := r2
  have D2 := S2.1.1
  have hK2 := D2.k
  have hC2 := D2.cas
  have now2 : am_fI s2 13000 o = o_now M := (r2.fI (by decide)).trans hnow
  have K' := K s2 (by unfold m_metBy; rw [← hW]; exact S2.2.2.2.1) r2
  have hpay : m_paying M i day cents = (if W.2.2.1 ≠ 0 ∨ m_total W.1 < cents then none else (fun it : Int64 => match m_cover (o_pol M) (o_tel M) c (o_now M) with
      | none => none
      | some p => if m_told (m_cls (o_tel M) p (o_now M)) 4 ≠ -1 ∧ m_told (m_cls (o_tel M) p (o_now M)) 4 - m_usedL (o_pol M) (o_tel M) (o_los M) (m_year (m_ld (o_los M) c)) (o_now M) p (o_cas M) < cents - it then none else some it)
    (m_least cents (if m_sumf (fun f => decide (f.1 = 13)) m_fi c.2.2.2.2.2 < W.2.2.2.1 then W.2.2.2.1 - m_sumf (fun f => decide (f.1 = 13)) m_fi c.2.2.2.2.2 else 0))) := by
    unfold m_paying
    rw [hgd, ← hW]
    rfl
  rw [S2.2.2.2.2.1, S2.2.2.2.2.2.2.2.2]
  refine ⟨fun h0 => ⟨fun hlt' => ?_, fun hnl => ?_⟩, fun h0 => ?_⟩
  · rw [hpay, if_pos (Or.inr hlt')] at K'
    exact K'
  · rw [i40']
    rintro v6 rfl
    obtain ⟨cv, hp, hst⟩ := hcv h0
    have hset := m_set_cls (o_tel M) p (o_now M)
    have eC : m_cls (o_tel M) p (o_now M) = clOf (o_tel M) st := by rw [hset.1, hst]; rfl
    have hst' : ∀ j, st = some j → j < (tlA (o_tel M) 6).length := by rw [hst]; exact hset.2
    rw [if_neg (by rintro (q | q); exact q h0; exact hnl q), cv] at hpay
    simp only [] at hpay
    rw [eC] at hpay
    have b : 0 ≤ (Int32.ofNat i).toInt ∧ (Int32.ofNat i).toInt < 100 := by rw [n32 (by omega)]; omega
    have vn : am_aI s2 (o + 41) i = Int32.ofNat c.2.2.2.2.2.length := hC2.2.2.2.2.2.2.1 i _ hi
    have fac := hC2.2.2.2.2.2.2.2 i c hi
    have loop : ∀ (j k : Nat) (acc : Int64), k + j = c.2.2.2.2.2.length → acc + m_sumf (fun f => decide (f.1 = 13)) m_fi (c.2.2.2.2.2.drop k) = m_sumf (fun f => decide (f.1 = 13)) m_fi c.2.2.2.2.2 → c_Ro_paying_40 nl Ln xs (d + 419) o (Int32.ofNat i) day cents acc (Int32.ofNat (40 * i + k)) s2 F := by
      intro j
      induction j with
      | zero =>
        intro k acc hk e
        rw [List.drop_eq_nil_of_le (by omega), m_sumf, Int64.add_zero] at e
        refine w_Ro_paying_40 ?_
        rw [oG_13051 hK2, n32c (by omega), vn, i40, n32lt (by omega) (by omega), z2, e]
        refine ⟨is_mk hK2.2.1, oA_13051 hK2 b.1 b.2, fun q => absurd q (by omega), fun _ w14 e14 => ?_⟩
        refine w_Ro_paying_111 (fun w3 e3 => ?_)
        have e3 : w3 = m_least cents (if m_sumf (fun f => decide (f.1 = 13)) m_fi c.2.2.2.2.2 < W.2.2.2.1 then W.2.2.2.1 - m_sumf (fun f => decide (f.1 = 13)) m_fi c.2.2.2.2.2 else 0) := by rw [e3, e14]; rfl
        rw [← e3] at hpay
        refine w_Ro_paying_126 ⟨is_mk hK2.2.1, r_toldE w hst' S2 (fun _ => ⟨fun h4 => ?_, fun h4 => ?_⟩)⟩
        · rw [hpay, if_neg (fun q => q.1 h4)] at K'
          exact K'
        · refine r_lossYear D2 w hi (fun _ => ?_)
          rw [S2.2.1, now2]
          refine (r_used (d := d + 415) D2 w (by omega) (fun _ => ⟨fun hu => ?_, fun hu => ?_⟩))
          · rw [hpay, if_pos ⟨h4, hu⟩] at K'
            exact K'
          · rw [hpay, if_neg (fun q => hu q.2)] at K'
            exact K'
      | succ j ih =>
        intro k acc hk e
        obtain ⟨f, hg⟩ := get_ex (show k < c.2.2.2.2.2.length by omega)
        have bk : 0 ≤ (Int32.ofNat (40 * i + k)).toInt ∧ (Int32.ofNat (40 * i + k)).toInt < 4000 := by rw [n32 (by omega)]; omega
        have nk : (Int32.ofNat (40 * i + k)).toNatClampNeg = 40 * i + k := n32c (by omega)
        obtain ⟨f1, f2, f3, f4, f5, f6, f7, f8⟩ := fac k _ hg
        refine w_Ro_paying_40 ?_
        rw [oG_13051 hK2, n32c (show i < 2147483648 by omega), vn, i40, n32lt (by omega) (by omega), oG_13052 hK2, oG_13059 hK2, nk, f1, f8]
        refine ⟨is_mk hK2.2.1, oA_13051 hK2 b.1 b.2, fun _ => ⟨oA_13052 hK2 bk.1 bk.2, fun _ => oA_13059 hK2 bk.1 bk.2, ?_⟩, fun q => absurd (by omega) q⟩
        intro w8 e8 v10 e10
        rw [n32s]
        refine ih (k + 1) v10 (by omega) ?_
        rw [drop_get hg, m_sumf] at e
        rw [← e, e10, e8, Int64.add_assoc]
        by_cases h : f.1 = 13 <;> simp [h, m_fi]
    exact loop c.2.2.2.2.2.length 0 0 (by omega) (by rw [Int64.zero_add, List.drop_zero])
  · rw [hpay, if_pos (Or.inl h0)] at K'
    exact K'
end
