/-! THE CLASS: COVERS, WAITS, AVERAGES, SELF -/
section
variable {nl : Bool} {Ln : Nat} {xs : Nat → Int32} {d : Nat} {w : ow_T} {wk ab v b : Nat} {P : List mPol} {T : List mTell} {Ls : List mLoss} {Cs : List mCase} {l0 lc : Nat} {rows : List mRow} {fnd : Int32} {ov : Bool} {σ : am_S} {tr : List Int32} {F : Int64 → am_S → Prop}
theorem AsE.hl (E : AsE σ w wk ab v b P T Ls Cs l0 lc rows tr fnd ov) : Ls[l0]? = some (Ls.getD l0 mLoss0) := getD_some mLoss0 E.2.2.2.2.2.2.2.2.2
theorem AsE.hc (E : AsE σ w wk ab v b P T Ls Cs l0 lc rows tr fnd ov) : am_aR σ (bA σ b 6005) l0 = some lc := E.2.2.2.2.2.2.2.2.1
theorem AsE.ap {t u : List Int32} (E : AsE σ w wk ab v b P T Ls Cs l0 lc rows (tr ++ t ++ u) fnd ov) : AsE σ w wk ab v b P T Ls Cs l0 lc rows (tr ++ (t ++ u)) fnd ov := by rw [← List.append_assoc]; exact E
/-- an answer with its trace -/
def AnK (wk ab v b : Nat) (w : ow_T) (P : List mPol) (T : List mTell) (Ls : List mLoss) (Cs : List mCase) (l0 lc : Nat) (rows : List mRow) (fnd : Int32) (ov : Bool) (σ : am_S) (tr : List Int32) (x : Int64) (t : List Int32) (F : Int64 → am_S → Prop) : Prop := ∀ σ', AsE σ' w wk ab v b P T Ls Cs l0 lc rows (tr ++ t) fnd ov → AsC wk ab v σ σ' → F x σ'
theorem as_cov1 {act depth : Nat} (wl : WfLL Ls) (hd : depth ≤ 15) (E : AsE σ w wk ab v b P T Ls Cs l0 lc rows tr fnd ov) (ha : act = 0 ∨ act = 3) (K : AnK wk ab v b w P T Ls Cs l0 lc rows fnd ov σ tr 0 [Int32.ofNat (10 + act)] F) : k_Wk_ask nl Ln xs (d + 1) wk (Int32.ofNat act) 1 (some lc) 0 (Int32.ofNat depth) σ F := by
  rcases ha with h | h <;> subst h
  · refine as_ask (act := 0) (asker := 1) (owner := 1) (d := d) (by decide +kernel) (by decide) (by decide) (by decide) (by omega) E wl E.hl E.hc (fun s1 y0 E1 r1 hy => ?_)
    refine w_Wk_ask_129 ⟨fun q => ?_, fun q => ?_, fun q => ?_, fun q => ?_, fun q => ?_, fun q => ?_, fun q => ?_, fun q => ?_, fun q => ?_, fun q => ?_, fun q => ?_, fun q => ?_, fun q => ?_, fun q => ?_, fun q => ?_, fun q => ?_, fun q => ?_, fun q => ?_, fun q => ?_, fun q => ?_, fun q => ?_⟩ <;> first | exact absurd q (by decide) | skip
    exact K s1 E1 r1
  · refine as_ask (act := 3) (asker := 1) (owner := 1) (d := d) (by decide +kernel) (by decide) (by decide) (by decide) (by omega) E wl E.hl E.hc (fun s1 y0 E1 r1 hy => ?_)
    refine w_Wk_ask_129 ⟨fun q => ?_, fun q => ?_, fun q => ?_, fun q => ?_, fun q => ?_, fun q => ?_, fun q => ?_, fun q => ?_, fun q => ?_, fun q => ?_, fun q => ?_, fun q => ?_, fun q => ?_, fun q => ?_, fun q => ?_, fun q => ?_, fun q => ?_, fun q => ?_, fun q => ?_, fun q => ?_, fun q => ?_⟩ <;> first | exact absurd q (by decide) | skip
    exact K s1 E1 r1
theorem as_cov2 {depth : Nat} (wl : WfLL Ls) (hd : depth ≤ 14) (E : AsE σ w wk ab v b P T Ls Cs l0 lc rows tr fnd ov) (K : AnK wk ab v b w P T Ls Cs l0 lc rows fnd ov σ tr (if (m_cov2 (m_lis Ls l0)).1 = true then 1 else 0) (m_cov2 (m_lis Ls l0)).2 F) : k_Wk_ask nl Ln xs (d + 9) wk 0 2 (some lc) 0 (Int32.ofNat depth) σ F := by
  refine as_ask (act := 0) (asker := 2) (owner := 2) (d := d + 8) (by decide +kernel) (by decide) (by decide) (by decide) (by omega) E wl E.hl E.hc (fun s1 y0 E1 r1 hy => ?_)
  refine w_Wk_ask_129 ⟨fun q => ?_, fun q => ?_, fun q => ?_, fun q => ?_, fun q => ?_, fun q => ?_, fun q => ?_, fun q => ?_, fun q => ?_, fun q => ?_, fun q => ?_, fun q => ?_, fun q => ?_, fun q => ?_, fun q => ?_, fun q => ?_, fun q => ?_, fun q => ?_, fun q => ?_, fun q => ?_, fun q => ?_⟩ <;> first | exact absurd q (by decide) | skip
  unfold m_cov2 m_tr m_or m_cov1 at K
  refine w_Wk_ask_316 ⟨is_mk E1.2.2.1, (as_lossIs (d := d) wl (by omega) E1 (fun s2 E2 r2 _ => ⟨fun g => ?_, fun g => ?_⟩))⟩
  · simp only [g, if_true] at K
    exact K s2 E2.ap (r1.trans r2)
  · simp only [g, if_false] at K
    refine as_cov1 (act := 0) (d := d + 7) wl (by omega) E2 (Or.inl rfl) (fun s3 E3 r3 _ => K s3 ?_ ((r1.trans r2).trans r3))
    simp only [List.append_assoc] at E3 ⊢
    exact E3
theorem as_cov3 {depth : Nat} (wl : WfLL Ls) (hd : depth ≤ 13) (E : AsE σ w wk ab v b P T Ls Cs l0 lc rows tr fnd ov) (K : AnK wk ab v b w P T Ls Cs l0 lc rows fnd ov σ tr (if (m_cov3 (m_lis Ls l0)).1 = true then 1 else 0) (m_cov3 (m_lis Ls l0)).2 F) : k_Wk_ask nl Ln xs (d + 10) wk 0 3 (some lc) 0 (Int32.ofNat depth) σ F := by
  refine as_ask (act := 0) (asker := 3) (owner := 3) (d := d + 9) (by decide +kernel) (by decide) (by decide) (by decide) (by omega) E wl E.hl E.hc (fun s1 y0 E1 r1 hy => ?_)
  refine w_Wk_ask_129 ⟨fun q => ?_, fun q => ?_, fun q => ?_, fun q => ?_, fun q => ?_, fun q => ?_, fun q => ?_, fun q => ?_, fun q => ?_, fun q => ?_, fun q => ?_, fun q => ?_, fun q => ?_, fun q => ?_, fun q => ?_, fun q => ?_, fun q => ?_, fun q => ?_, fun q => ?_, fun q => ?_, fun q => ?_⟩ <;> first | exact absurd q (by decide) | skip
  unfold m_cov3 m_tr m_or at K
  refine w_Wk_ask_341 ⟨is_mk E1.2.2.1, (as_lossIs (d := d + 1) wl (by omega) E1 (fun s2 E2 r2 _ => ⟨fun g => ?_, fun g => ?_⟩))⟩
  · simp only [g, if_true] at K
    exact K s2 E2.ap (r1.trans r2)
  · simp only [g, if_false] at K
    refine (as_lossIs (d := d + 1) wl (by omega) E2 (fun s3 E3 r3 _ => ⟨fun g2 => ?_, fun g2 => ?_⟩))
    · simp only [g2, if_true] at K
      refine K s3 ?_ ((r1.trans r2).trans r3)
      simp only [List.append_assoc] at E3 ⊢
      exact E3
    · simp only [g2, if_false] at K
      refine as_cov2 (d := d) wl (by omega) E3 (fun s4 E4 r4 _ => K s4 ?_ (((r1.trans r2).trans r3).trans r4))
      simp only [List.append_assoc] at E4 ⊢
      exact E4
theorem as_cov4 {depth : Nat} (wl : WfLL Ls) (hd : depth ≤ 12) (E : AsE σ w wk ab v b P T Ls Cs l0 lc rows tr fnd ov) (K : AnK wk ab v b w P T Ls Cs l0 lc rows fnd ov σ tr (if (m_cov4 (m_lis Ls l0)).1 = true then 1 else 0) (m_cov4 (m_lis Ls l0)).2 F) : k_Wk_ask nl Ln xs (d + 11) wk 0 4 (some lc) 0 (Int32.ofNat depth) σ F := by
  refine as_ask (act := 0) (asker := 4) (owner := 4) (d := d + 10) (by decide +kernel) (by decide) (by decide) (by decide) (by omega) E wl E.hl E.hc (fun s1 y0 E1 r1 hy => ?_)
  refine w_Wk_ask_129 ⟨fun q => ?_, fun q => ?_, fun q => ?_, fun q => ?_, fun q => ?_, fun q => ?_, fun q => ?_, fun q => ?_, fun q => ?_, fun q => ?_, fun q => ?_, fun q => ?_, fun q => ?_, fun q => ?_, fun q => ?_, fun q => ?_, fun q => ?_, fun q => ?_, fun q => ?_, fun q => ?_, fun q => ?_⟩ <;> first | exact absurd q (by decide) | skip
  unfold m_cov4 m_tr m_or at K
  refine w_Wk_ask_376 ⟨is_mk E1.2.2.1, (as_lossIs (d := d + 2) wl (by omega) E1 (fun s2 E2 r2 _ => ⟨fun g => ?_, fun g => ?_⟩))⟩
  · simp only [g, if_true] at K
    exact K s2 E2.ap (r1.trans r2)
  · simp only [g, if_false] at K
    refine as_cov3 (d := d) wl (by omega) E2 (fun s4 E4 r4 _ => K s4 ?_ ((r1.trans r2).trans r4))
    simp only [List.append_assoc] at E4 ⊢
    exact E4
theorem as_cov6 {depth : Nat} (wl : WfLL Ls) (hd : depth ≤ 12) (E : AsE σ w wk ab v b P T Ls Cs l0 lc rows tr fnd ov) (K : AnK wk ab v b w P T Ls Cs l0 lc rows fnd ov σ tr (if (m_cov6 (m_lis Ls l0)).1 = true then 1 else 0) (m_cov6 (m_lis Ls l0)).2 F) : k_Wk_ask nl Ln xs (d + 10) wk 0 6 (some lc) 0 (Int32.ofNat depth) σ F := by
  refine as_ask (act := 0) (asker := 6) (owner := 6) (d := d + 9) (by decide +kernel) (by decide) (by decide) (by decide) (by omega) E wl E.hl E.hc (fun s1 y0 E1 r1 hy => ?_)
  refine w_Wk_ask_129 ⟨fun q => ?_, fun q => ?_, fun q => ?_, fun q => ?_, fun q => ?_, fun q => ?_, fun q => ?_, fun q => ?_, fun q => ?_, fun q => ?_, fun q => ?_, fun q => ?_, fun q => ?_, fun q => ?_, fun q => ?_, fun q => ?_, fun q => ?_, fun q => ?_, fun q => ?_, fun q => ?_, fun q => ?_⟩ <;> first | exact absurd q (by decide) | skip
  unfold m_cov6 m_tr m_or m_cov1 at K
  refine w_Wk_ask_417 ⟨is_mk E1.2.2.1, (as_lossIs (d := d + 1) wl (by omega) E1 (fun s2 E2 r2 _ => ⟨fun g => ?_, fun g => ?_⟩))⟩
  · simp only [g, if_true] at K
    exact K s2 E2.ap (r1.trans r2)
  · simp only [g, if_false] at K
    refine (as_lossIs (d := d + 1) wl (by omega) E2 (fun s3 E3 r3 _ => ⟨fun g2 => ?_, fun g2 => ?_⟩))
    · simp only [g2, if_true] at K
      refine K s3 ?_ ((r1.trans r2).trans r3)
      simp only [List.append_assoc] at E3 ⊢
      exact E3
    · simp only [g2, if_false] at K
      refine (as_lossIs (d := d + 1) wl (by omega) E3 (fun s4 E4 r4 _ => ⟨fun g3 => ?_, fun g3 => ?_⟩))
      · simp only [g3, if_true] at K
        refine K s4 ?_ (((r1.trans r2).trans r3).trans r4)
        simp only [List.append_assoc] at E4 ⊢
        exact E4
      · simp only [g3, if_false] at K
        refine as_cov1 (act := 0) (d := d + 8) wl (by omega) E4 (Or.inl rfl) (fun s5 E5 r5 _ => K s5 ?_ ((((r1.trans r2).trans r3).trans r4).trans r5))
        simp only [List.append_assoc] at E5 ⊢
        exact E5
theorem as_cov7 {depth : Nat} (wl : WfLL Ls) (hd : depth ≤ 11) (E : AsE σ w wk ab v b P T Ls Cs l0 lc rows tr fnd ov) (K : AnK wk ab v b w P T Ls Cs l0 lc rows fnd ov σ tr (if (m_cov7 (m_lis Ls l0)).1 = true then 1 else 0) (m_cov7 (m_lis Ls l0)).2 F) : k_Wk_ask nl Ln xs (d + 11) wk 0 7 (some lc) 0 (Int32.ofNat depth) σ F := by
  refine as_ask (act := 0) (asker := 7) (owner := 7) (d := d + 10) (by decide +kernel) (by decide) (by decide) (by decide) (by omega) E wl E.hl E.hc (fun s1 y0 E1 r1 hy => ?_)
  refine w_Wk_ask_129 ⟨fun q => ?_, fun q => ?_, fun q => ?_, fun q => ?_, fun q => ?_, fun q => ?_, fun q => ?_, fun q => ?_, fun q => ?_, fun q => ?_, fun q => ?_, fun q => ?_, fun q => ?_, fun q => ?_, fun q => ?_, fun q => ?_, fun q => ?_, fun q => ?_, fun q => ?_, fun q => ?_, fun q => ?_⟩ <;> first | exact absurd q (by decide) | skip
  unfold m_cov7 m_tr m_or at K
  refine w_Wk_ask_462 ⟨is_mk E1.2.2.1, (as_lossIs (d := d + 2) wl (by omega) E1 (fun s2 E2 r2 _ => ⟨fun g => ?_, fun g => ?_⟩))⟩
  · simp only [g, if_true] at K
    exact K s2 E2.ap (r1.trans r2)
  · simp only [g, if_false] at K
    refine (as_lossIs (d := d + 2) wl (by omega) E2 (fun s3 E3 r3 _ => ⟨fun g2 => ?_, fun g2 => ?_⟩))
    · simp only [g2, if_true] at K
      refine K s3 ?_ ((r1.trans r2).trans r3)
      simp only [List.append_assoc] at E3 ⊢
      exact E3
    · simp only [g2, if_false] at K
      refine as_cov6 (d := d) wl (by omega) E3 (fun s4 E4 r4 _ => K s4 ?_ (((r1.trans r2).trans r3).trans r4))
      simp only [List.append_assoc] at E4 ⊢
      exact E4
end
