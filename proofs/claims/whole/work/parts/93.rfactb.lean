/-! FACTS, by the reference -/
/-- the office without its log -/
def OfX (σ : am_S) (o : Nat) (M : mOff) : Prop := OffK σ o ∧ rNum σ o M.1 ∧ rPol σ o (o_pol M) ∧ rRnk σ o (tlA (o_tel M) 2) ∧ rPla σ o (tlA (o_tel M) 4) ∧ rPer σ o (tlA (o_tel M) 5) ∧ rRul σ o (tlA (o_tel M) 7) ∧ rSet σ o (tlA (o_tel M) 6) ∧ rLos σ o (o_los M) ∧ rCas σ o (o_cas M) ∧ rHel σ o (o_hel M)
/-- the numbers of a fact are good -/
def m_nums (M : mOff) (n : Nat) (a : mArg) : Prop := (0 ≤ (a 0).toInt ∧ (a 0).toInt < (o_cas M).length) ∧ m_rg (a 1) 0 10949 ∧ m_good n a (m_items (o_los M) (m_base (o_los M) ((o_cas M).getD (m_ix (a 0)) mCase0).2.2.1)).length
section
variable {nl : Bool} {Ln : Nat} {xs : Nat → Int32} {d : Nat} {σ : am_S} {o : Nat} {M : mOff}
theorem OfX.dat (h : OfX σ o M) (hM : ModK σ) : Dat σ o (o_pol M) (o_tel M) (o_los M) (o_cas M) := by
  obtain ⟨hK, hN, hP, hRk, hPl, hPe, hRu, hSe, hLs, hC, hH⟩ := h
  exact ⟨hK, hM, hP, hRk, hPl, hPe, hRu, hSe, hLs, hC⟩
theorem r_inW {v lo hi : Int64} {F : Int32 → am_S → Prop} (h1 : lo.toInt ≤ v.toInt → v.toInt ≤ hi.toInt → F 0 σ) (h2 : ¬ (lo.toInt ≤ v.toInt ∧ v.toInt ≤ hi.toInt) → F (-2) σ) : k_Rm_in nl Ln xs (d + 1) v lo hi σ (fun a s => am_ext σ s → ∀ w : Int32, w = (if a = true then 0 else -2) → F w s) := by
  refine w_Rm_in (fun _ w hw => ?_)
  by_cases h : lo.toInt ≤ v.toInt ∧ v.toInt ≤ hi.toInt
  · rw [if_pos (decide_eq_true (by rw [i64lt, i64lt]; omega))] at hw
    rw [hw]
    exact h1 h.1 h.2
  · rw [if_neg (fun q => by have := of_decide_eq_true q; rw [i64lt, i64lt] at this; omega)] at hw
    rw [hw]
    exact h2 h
theorem r_numbers {m n : Nat} {a : mArg} {F : Int32 → am_S → Prop} (w : WfD (o_pol M) (o_tel M) (o_los M) (o_cas M)) (D : Dat σ o (o_pol M) (o_tel M) (o_los M) (o_cas M)) (hA : ArgR σ m a) (h1 : 12 ≤ n) (h2 : n ≤ 19)
    (Kg : m_nums M n a → F 0 σ) (Kb : ¬ m_nums M n a → F (-2) σ) : k_Ro_numbers nl Ln xs (d + 3) o (Int32.ofNat n) (some m) σ F := by
  have hK := D.k
  have h100 := w.c100
  have h200 := w.l200
  have z0 : (0 : Int64).toInt = 0 := by decide
  have z1 : (1 : Int64).toInt = 1 := by decide
  have z2 : (2 : Int64).toInt = 2 := by decide
  have z5 : (5 : Int64).toInt = 5 := by decide
  have zt : (1000000000000 : Int64).toInt = 1000000000000 := by decide
  have zd : (10949 : Int64).toInt = 10949 := by decide
  have v0 : am_aL σ ((some m).getD 0) (0 : Int32).toNatClampNeg = a 0 := hA.2 0 (by decide)
  have v1 : am_aL σ ((some m).getD 0) (1 : Int32).toNatClampNeg = a 1 := hA.2 1 (by decide)
  have v2 : am_aL σ ((some m).getD 0) (2 : Int32).toNatClampNeg = a 2 := hA.2 2 (by decide)
  have v3 : am_aL σ ((some m).getD 0) (3 : Int32).toNatClampNeg = a 3 := hA.2 3 (by decide)
  have v4 : am_aL σ ((some m).getD 0) (4 : Int32).toNatClampNeg = a 4 := hA.2 4 (by decide)
  have v5 : am_aL σ ((some m).getD 0) (5 : Int32).toNatClampNeg = a 5 := hA.2 5 (by decide)
  refine w_Ro_numbers ⟨ar_mk hA.1 (by decide) (by decide), is_mk hK.2.1, ?_⟩
  rw [v0]
  refine r_isCase hK D.cas h100 (fun _ => ⟨fun hc => ⟨ar_mk hA.1 (by decide) (by decide), ?_⟩, fun hc => Kb (fun q => hc (decide_eq_true q.1))⟩)
  have hc := of_decide_eq_true hc
  rw [v1]
  refine r_in (fun c1 c2 => ?_) (fun c => Kb (fun q => c (by rw [z0, zd]; exact q.2.1)))
  rw [z0] at c1
  rw [zd] at c2
  have hd : m_rg (a 1) 0 10949 := ⟨c1, c2⟩
  have six : (0 ≤ (a 0).toInt ∧ (a 0).toInt < (o_cas M).length) → m_rg (a 1) 0 10949 → n = 16 → (am_ar σ 1001 (some m) 2) ∧ (am_ar σ 1001 (some m) 0) ∧ (am_ar σ 1000 (am_fR σ 13048 o) ((am_aL σ ((some m).getD 0) (0 : Int32).toNatClampNeg).toInt32)) ∧ k_Ro_root nl Ln xs (d + 2) o (am_aI σ ((am_fR σ 13048 o).getD 0) ((am_aL σ ((some m).getD 0) (0 : Int32).toNatClampNeg).toInt32).toNatClampNeg) σ (fun a47 σ46 => am_ext σ σ46 → (am_ar σ46 1000 (am_fR σ 13040 o) a47) ∧ k_Rm_in nl Ln xs (d + 2) (am_aL σ ((some m).getD 0) (2 : Int32).toNatClampNeg) 0 (((am_aI σ46 ((am_fR σ 13040 o).getD 0) a47.toNatClampNeg) - 1).toInt64) σ46 (fun a50 σ49 => am_ext σ46 σ49 → (a50 = true → (am_ar σ49 1001 (some m) 3) ∧ k_Rm_in nl Ln xs (d + 2) (am_aL σ49 ((some m).getD 0) (3 : Int32).toNatClampNeg) 0 1 σ49 (fun a54 σ53 => am_ext σ49 σ53 → (a54 = true → (am_ar σ53 1001 (some m) 4) ∧ k_Rm_in nl Ln xs (d + 2) (am_aL σ53 ((some m).getD 0) (4 : Int32).toNatClampNeg) 0 1000000000000 σ53 (fun a58 σ57 => am_ext σ53 σ57 → (a58 = true → (am_ar σ57 1001 (some m) 5) ∧ k_Rm_in nl Ln xs (d + 2) (am_aL σ57 ((some m).getD 0) (5 : Int32).toNatClampNeg) 0 10949 σ57 (fun a62 σ61 => am_ext σ57 σ61 → ∀ w69 : Int32, w69 = (if a62 = true then 0 else -2) → F w69 σ61)) ∧ (¬ (a58 = true) → ∀ w73 : Int32, w73 = (if (0 : Int32) = 0 then -2 else 0) → F w73 σ57))) ∧ (¬ (a54 = true) → ∀ w77 : Int32, w77 = (if (0 : Int32) = 0 then -2 else 0) → F w77 σ53))) ∧ (¬ (a50 = true) → ∀ w81 : Int32, w81 = (if (0 : Int32) = 0 then -2 else 0) → F w81 σ49))) := by
    intro hc hd hn
    subst hn
    obtain ⟨i1, i2, i3, i4⟩ := ixI hc.1 hc.2 (by omega)
    have hg := getD_some mCase0 i2
    have hw := w.c hg
    have hl := hw.2.1
    have hb := root_lt w.l 4 ((o_cas M).getD (m_ix (a 0)) mCase0).2.2.1 hl
    have hb2 : m_base (o_los M) ((o_cas M).getD (m_ix (a 0)) mCase0).2.2.1 < (o_los M).length := by unfold m_base; omega
    have h6 := (w.l _ _ (getD_some mLoss0 hb2)).2.2.2
    have bl : 0 ≤ (Int32.ofNat (m_base (o_los M) ((o_cas M).getD (m_ix (a 0)) mCase0).2.2.1)).toInt ∧ (Int32.ofNat (m_base (o_los M) ((o_cas M).getD (m_ix (a 0)) mCase0).2.2.1)).toInt < 200 := by rw [n32 (by omega)]; omega
    have v38 : am_aI σ (o + 38) (m_ix (a 0)) = Int32.ofNat ((o_cas M).getD (m_ix (a 0)) mCase0).2.2.1 := D.cas.2.2.2.1 _ _ hg
    have v31 : am_aI σ (o + 31) (m_base (o_los M) ((o_cas M).getD (m_ix (a 0)) mCase0).2.2.1) = Int32.ofNat (m_items (o_los M) (m_base (o_los M) ((o_cas M).getD (m_ix (a 0)) mCase0).2.2.1)).length := D.los.2.2.2.2.2.1 _ _ (getD_some mLoss0 hb2)
    rw [v0, v2, oG_13048 hK, i4, v38]
    refine ⟨ar_mk hA.1 (by decide) (by decide), ar_mk hA.1 (by decide) (by decide), oA_13048 hK (by omega) (by omega), ?_⟩
    refine r_root hK D.los w.l h200 hl (fun _ => ⟨oA_13040 hK bl.1 bl.2, ?_⟩)
    rw [oG_13040 hK, n32c (by omega), v31]
    have hlm : ((Int32.ofNat (m_items (o_los M) (m_base (o_los M) ((o_cas M).getD (m_ix (a 0)) mCase0).2.2.1)).length - 1).toInt64).toInt = ((m_items (o_los M) (m_base (o_los M) ((o_cas M).getD (m_ix (a 0)) mCase0).2.2.1)).length : Int) - 1 := by rw [t64, lenm1 (by have : (m_items (o_los M) (m_base (o_los M) ((o_cas M).getD (m_ix (a 0)) mCase0).2.2.1)).length ≤ 6 := h6; omega)]
    refine r_in (fun c3 c4 => ⟨ar_mk hA.1 (by decide) (by decide), ?_⟩) (fun c w e => by rw [e]; exact Kb (fun q => c (by have := q.2.2.1; rw [z0, hlm]; omega)))
    rw [v3]
    refine r_in (fun c5 c6 => ⟨ar_mk hA.1 (by decide) (by decide), ?_⟩) (fun c w e => by rw [e]; exact Kb (fun q => c (by rw [z0, z1]; exact q.2.2.2.1)))
    rw [v4]
    refine r_in (fun c7 c8 => ⟨ar_mk hA.1 (by decide) (by decide), ?_⟩) (fun c w e => by rw [e]; exact Kb (fun q => c (by rw [z0, zt]; exact q.2.2.2.2.1)))
    rw [v5]
    refine r_inW (fun c9 c10 => Kg ⟨hc, hd, ?_⟩) (fun c => Kb (fun q => c (by rw [z0, zd]; exact q.2.2.2.2.2)))
    rw [z0] at c3 c5 c7 c9
    rw [hlm] at c4
    rw [z1] at c6
    rw [zt] at c8
    rw [zd] at c10
    exact ⟨⟨c3, by omega⟩, ⟨c5, c6⟩, ⟨c7, c8⟩, ⟨c9, c10⟩⟩
  have hcases : n = 12 ∨ n = 13 ∨ n = 14 ∨ n = 15 ∨ n = 16 ∨ n = 17 ∨ n = 18 ∨ n = 19 := by omega
  rcases hcases with hn | hn | hn | hn | hn | hn | hn | hn
  · subst hn
    refine ⟨fun _ => ?_, fun h => absurd h (by decide), fun h => absurd h (by decide), fun h => absurd h (by decide), fun h => absurd h (by decide), fun h => absurd h (by decide), fun h => absurd h (by decide)⟩
    refine ⟨ar_mk hA.1 (by decide) (by decide), ?_⟩
    rw [v2]
    refine r_in (fun c1 c2 => ⟨ar_mk hA.1 (by decide) (by decide), ?_⟩) (fun c w27 e27 => by rw [e27]; exact Kb (fun q => c (by rw [z0, z2]; exact q.2.2.1)))
    rw [v3]
    rw [z0] at c1
    rw [z2] at c2
    exact r_inW (fun c3 c4 => Kg ⟨hc, hd, ⟨c1, c2⟩, by rw [z0] at c3; exact c3, by rw [zt] at c4; exact c4⟩) (fun c => Kb (fun q => c (by rw [z0, zt]; exact q.2.2.2)))
  · subst hn
    refine ⟨fun h => absurd h (by decide), fun _ => ?_, fun h => absurd h (by decide), fun h => absurd h (by decide), fun h => absurd h (by decide), fun h => absurd h (by decide), fun h => absurd h (by decide)⟩
    refine ⟨ar_mk hA.1 (by decide) (by decide), ?_⟩
    rw [v2]
    exact r_inW (fun c1 c2 => Kg ⟨hc, hd, by rw [z1] at c1; exact c1, by rw [zt] at c2; exact c2⟩) (fun c => Kb (fun q => c (by rw [z1, zt]; exact q.2.2)))
  · subst hn
    refine ⟨fun h => absurd h (by decide), fun h => absurd h (by decide), fun h => absurd h (by decide), fun h => absurd h (by decide), fun h => absurd h (by decide), fun h => absurd h (by decide), fun _ => ?_⟩
    intro w h
    rw [h]
    exact Kg ⟨hc, hd, trivial⟩
  · subst hn
    refine ⟨fun h => absurd h (by decide), fun h => absurd h (by decide), fun _ => ?_, fun h => absurd h (by decide), fun h => absurd h (by decide), fun h => absurd h (by decide), fun h => absurd h (by decide)⟩
    refine ⟨ar_mk hA.1 (by decide) (by decide), ?_⟩
    rw [v2]
    exact r_inW (fun c1 c2 => Kg ⟨hc, hd, by rw [z0] at c1; exact c1, by rw [z2] at c2; exact c2⟩) (fun c => Kb (fun q => c (by rw [z0, z2]; exact q.2.2)))
  · subst hn
    refine ⟨fun h => absurd h (by decide), fun h => absurd h (by decide), fun h => absurd h (by decide), fun _ => ?_, fun h => absurd h (by decide), fun h => absurd h (by decide), fun h => absurd h (by decide)⟩
    exact six hc hd rfl
  · subst hn
    refine ⟨fun h => absurd h (by decide), fun h => absurd h (by decide), fun h => absurd h (by decide), fun h => absurd h (by decide), fun _ => ?_, fun h => absurd h (by decide), fun h => absurd h (by decide)⟩
    refine ⟨ar_mk hA.1 (by decide) (by decide), ?_⟩
    rw [v2]
    refine r_in (fun c1 c2 => ⟨ar_mk hA.1 (by decide) (by decide), ?_⟩) (fun c w27 e27 => by rw [e27]; exact Kb (fun q => c (by rw [z1, z5]; exact q.2.2.1)))
    rw [v3]
    rw [z1] at c1
    rw [z5] at c2
    exact r_inW (fun c3 c4 => Kg ⟨hc, hd, ⟨c1, c2⟩, by rw [z0] at c3; exact c3, by rw [zt] at c4; exact c4⟩) (fun c => Kb (fun q => c (by rw [z0, zt]; exact q.2.2.2)))
  · subst hn
    refine ⟨fun h => absurd h (by decide), fun h => absurd h (by decide), fun h => absurd h (by decide), fun h => absurd h (by decide), fun h => absurd h (by decide), fun _ => ?_, fun h => absurd h (by decide)⟩
    refine ⟨ar_mk hA.1 (by decide) (by decide), ?_⟩
    rw [v2]
    exact r_inW (fun c1 c2 => Kg ⟨hc, hd, by rw [z0] at c1; exact c1, by rw [zt] at c2; exact c2⟩) (fun c => Kb (fun q => c (by rw [z0, zt]; exact q.2.2)))
  · subst hn
    refine ⟨fun h => absurd h (by decide), fun h => absurd h (by decide), fun h => absurd h (by decide), fun h => absurd h (by decide), fun h => absurd h (by decide), fun _ => ?_, fun h => absurd h (by decide)⟩
    refine ⟨ar_mk hA.1 (by decide) (by decide), ?_⟩
    rw [v2]
    exact r_inW (fun c1 c2 => Kg ⟨hc, hd, by rw [z0] at c1; exact c1, by rw [zt] at c2; exact c2⟩) (fun c => Kb (fun q => c (by rw [z0, zt]; exact q.2.2)))
end
