/-! THE CLASS: bodies by the kind of the policy -/
def askP (k : Int32) : Int32 := (dd_sr.getD 5 []).getD k.toInt.toNat 0
section
variable {nl : Bool} {Ln : Nat} {xs : Nat → Int32} {d : Nat} {w : ow_T} {wk ab v b : Nat} {P : List mPol} {T : List mTell} {Ls : List mLoss} {Cs : List mCase} {l0 lc : Nat} {rows : List mRow} {fnd : Int32} {ov : Bool} {σ : am_S} {tr : List Int32} {F : Int64 → am_S → Prop}
theorem pk_cases {k : Int32} (h0 : 0 ≤ k.toInt) (h5 : k.toInt ≤ 5) : k = 0 ∨ k = 1 ∨ k = 2 ∨ k = 3 ∨ k = 4 ∨ k = 5 := by
  have hk : k.toInt = 0 ∨ k.toInt = 1 ∨ k.toInt = 2 ∨ k.toInt = 3 ∨ k.toInt = 4 ∨ k.toInt = 5 := by omega
  rcases hk with q | q | q | q | q | q
  · exact Or.inl (by rw [i32e, q]; decide)
  · exact Or.inr (Or.inl (by rw [i32e, q]; decide))
  · exact Or.inr (Or.inr (Or.inl (by rw [i32e, q]; decide)))
  · exact Or.inr (Or.inr (Or.inr (Or.inl (by rw [i32e, q]; decide))))
  · exact Or.inr (Or.inr (Or.inr (Or.inr (Or.inl (by rw [i32e, q]; decide)))))
  · exact Or.inr (Or.inr (Or.inr (Or.inr (Or.inr (by rw [i32e, q]; decide)))))
theorem ask_p : askP 0 = Int32.ofNat 3 ∧ askP 1 = Int32.ofNat 4 ∧ askP 2 = Int32.ofNat 6 ∧ askP 3 = Int32.ofNat 8 ∧ askP 4 = Int32.ofNat 5 ∧ askP 5 = Int32.ofNat 7 := by decide +kernel
theorem as_covers {k : Int32} (wl : WfLL Ls) (h0 : 0 ≤ k.toInt) (h5 : k.toInt ≤ 5) (E : AsE σ w wk ab v b P T Ls Cs l0 lc rows tr fnd ov) (h3 : k = 3 → (Ls.getD l0 mLoss0).1 = 4) (K : AnK wk ab v b w P T Ls Cs l0 lc rows fnd ov σ tr (if (m_covers (m_lis Ls l0) (decide ((Ls.getD l0 mLoss0).1 = 4)) (m_items Ls l0).length k).1 = true then 1 else 0) (m_covers (m_lis Ls l0) (decide ((Ls.getD l0 mLoss0).1 = 4)) (m_items Ls l0).length k).2 F) : k_Wk_ask nl Ln xs (d + 12) wk 0 (askP k) (some lc) 0 0 σ F := by
  obtain ⟨p0, p1, p2, p3, p4, p5⟩ := ask_p
  unfold m_covers at K
  rcases pk_cases h0 h5 with q | q | q | q | q | q <;> subst q
  · rw [p0]
    exact as_cov3 (d := d + 2) (depth := 0) wl (by omega) E K
  · rw [p1]
    exact as_cov4 (d := d + 1) (depth := 0) wl (by omega) E K
  · rw [p2]
    exact as_cov6 (d := d + 2) (depth := 0) wl (by omega) E K
  · rw [p3]
    refine as_ask (act := 0) (asker := 8) (owner := 8) (depth := 0) (d := d + 11) (by decide +kernel) (by decide) (by decide) (by decide) (by omega) E wl E.hl E.hc (fun s1 y0 E1 r1 hy => ?_)
    refine w_Wk_ask_129 ⟨fun q => ?_, fun q => ?_, fun q => ?_, fun q => ?_, fun q => ?_, fun q => ?_, fun q => ?_, fun q => ?_, fun q => ?_, fun q => ?_, fun q => ?_, fun q => ?_, fun q => ?_, fun q => ?_, fun q => ?_, fun q => ?_, fun q => ?_, fun q => ?_, fun q => ?_, fun q => ?_, fun q => ?_⟩ <;> first | exact absurd q (by decide) | skip
    obtain ⟨c', c1, c2, -, -⟩ := E1.bk.loss E1.hl
    have ec : c' = lc := Option.some.inj (c1.symm.trans E1.hc)
    subst ec
    have h4 := h3 rfl
    refine w_Wk_ask_502 ⟨is_mk c2.2.1, ?_⟩
    rw [Option.getD_some, c2.2.2.2.2.1, c2.2.2.2.2.2.2.2.1, h4]
    refine ⟨fun _ => ?_, fun q => absurd rfl q⟩
    rintro w6 rfl
    rw [if_pos rfl]
    have hlen := (wl.2.1 l0 _ E1.hl).2.2.2
    have e0 : (0 : Int32) < Int32.ofNat (m_items Ls l0).length ↔ 0 < (m_items Ls l0).length := n32lt (a := 0) (by decide) (by show (Ls.getD l0 mLoss0).2.2.2.2.2.length < _; omega)
    have this : F (if (decide ((Ls.getD l0 mLoss0).1 = 4) && decide (0 < (m_items Ls l0).length)) = true then 1 else 0) s1 := K s1 E1 r1
    rw [decide_eq_true h4, Bool.true_and] at this
    show F (if (0 : Int32) < Int32.ofNat (m_items Ls l0).length then 1 else 0) s1
    by_cases hp : 0 < (m_items Ls l0).length
    · rw [if_pos (e0.mpr hp)]
      rw [decide_eq_true hp] at this
      exact this
    · rw [if_neg (fun z => hp (e0.mp z))]
      rw [decide_eq_false hp] at this
      exact this
  · rw [p4]
    refine as_ask (act := 0) (asker := 5) (owner := 5) (depth := 0) (d := d + 11) (by decide +kernel) (by decide) (by decide) (by decide) (by omega) E wl E.hl E.hc (fun s1 y0 E1 r1 hy => ?_)
    refine w_Wk_ask_129 ⟨fun q => ?_, fun q => ?_, fun q => ?_, fun q => ?_, fun q => ?_, fun q => ?_, fun q => ?_, fun q => ?_, fun q => ?_, fun q => ?_, fun q => ?_, fun q => ?_, fun q => ?_, fun q => ?_, fun q => ?_, fun q => ?_, fun q => ?_, fun q => ?_, fun q => ?_, fun q => ?_, fun q => ?_⟩ <;> first | exact absurd q (by decide) | skip
    refine w_Wk_ask_401 ⟨is_mk E1.2.2.1, (as_lossIs (d := d + 3) wl (by omega) E1 (fun s2 E2 r2 _ => ?_))⟩
    rintro w6 rfl
    exact K s2 E2.ap (r1.trans r2)
  · rw [p5]
    exact as_cov7 (d := d + 1) (depth := 0) wl (by omega) E K
/-- the liability body met what it is not told of -/
theorem as_cov80 (wl : WfLL Ls) (E : AsE σ w wk ab v b P T Ls Cs l0 lc rows tr fnd ov) (h4 : (Ls.getD l0 mLoss0).1 ≠ 4) (K : ∀ σ', AsE σ' w wk ab v b P T Ls Cs l0 lc rows (tr ++ [80]) 2 true → Wc wk ab v [] [] [3005, 3006, 3007] [4] σ σ' → F 0 σ') : k_Wk_ask nl Ln xs (d + 12) wk 0 (askP 3) (some lc) 0 0 σ F := by
  rw [ask_p.2.2.2.1]
  refine as_ask (act := 0) (asker := 8) (owner := 8) (depth := 0) (d := d + 11) (by decide +kernel) (by decide) (by decide) (by decide) (by omega) E wl E.hl E.hc (fun s1 y0 E1 r1 hy => ?_)
  refine w_Wk_ask_129 ⟨fun q => ?_, fun q => ?_, fun q => ?_, fun q => ?_, fun q => ?_, fun q => ?_, fun q => ?_, fun q => ?_, fun q => ?_, fun q => ?_, fun q => ?_, fun q => ?_, fun q => ?_, fun q => ?_, fun q => ?_, fun q => ?_, fun q => ?_, fun q => ?_, fun q => ?_, fun q => ?_, fun q => ?_⟩ <;> first | exact absurd q (by decide) | skip
  obtain ⟨c', c1, c2, -, -⟩ := E1.bk.loss E1.hl
  have ec : c' = lc := Option.some.inj (c1.symm.trans E1.hc)
  subst ec
  obtain ⟨hv, hk, k1, k2, hV, hB, hO, e5, e6, e7⟩ := id E1
  refine w_Wk_ask_502 ⟨is_mk c2.2.1, ?_⟩
  rw [Option.getD_some, c2.2.2.2.2.1]
  refine ⟨fun q => absurd q h4, fun _ => ⟨is_mk k1, ?_⟩⟩
  rw [k2, Option.getD_some]
  refine ⟨is_mk hV.1.1, ?_⟩
  intro s10 q10
  have g10 : am_fR s10 2002 wk = some v := by rw [q10]; exact k2
  rw [g10, Option.getD_some]
  refine ⟨is_mk (by rw [q10]; exact hV.1.1), ?_⟩
  intro s14 q14
  have r14 : Wc wk ab v [] [] [3006, 3007] [] s1 s14 := by rw [q14, q10]; exact (Wc.vfI (by decide)).trans (Wc.vfI (by decide))
  have f := r14.frB hv (by simp) (by simp) hO hB.1.2.2.1
  have e14 : am_fI s14 10001 c' = (Ls.getD l0 mLoss0).1 := (r14.fI (by simp) (by decide)).trans c2.2.2.2.2.1
  rw [e14]
  rintro w20 rfl
  rw [if_neg h4]
  refine K s14 ⟨hv, by unfold LowK; rw [r14.kd]; exact hk, by rw [r14.kd]; exact k1, (r14.fR (by simp) (by decide)).trans k2, ⟨VwK.wc hV.1 r14 (by decide), ⟨(r14.fI (by simp) (by decide)).trans hV.2.1.1, hV.2.1.2.1.eq fun i => r14.wI hv (by decide) (by simp) (by simp), hV.2.1.2.2.1.eq fun i => r14.wI hv (by decide) (by simp) (by simp), hV.2.1.2.2.2.eq fun i => r14.wL hv (by decide) (by simp) (by simp)⟩, ⟨(r14.fI (by simp) (by decide)).trans hV.2.2.1.1, fun i hi x hx => (r14.wI hv (by decide) (by simp) (by simp)).trans (hV.2.2.1.2 i hi x hx)⟩, by rw [q14, rI_g (by decide), q10]; exact rI_same, by rw [q14]; exact rI_same⟩, hB.fr f, hO, (r14.fR (by simp) (by decide)).trans e5, ?_, e7⟩ ((r1.mono (by simp) (by simp) (by decide) (by simp)).trans (r14.mono (by simp) (by simp) (by decide) (by simp)))
  rw [bA.fr hB.1.1 (f 2), (f 2 _ hB.1.2.2.2.2.2.1.2.1).2.aR]
  exact e6
theorem as_waits {k : Int32} (wl : WfLL Ls) (h0 : 0 ≤ k.toInt) (h5 : k.toInt ≤ 5) (E : AsE σ w wk ab v b P T Ls Cs l0 lc rows tr fnd ov) (K : AnK wk ab v b w P T Ls Cs l0 lc rows fnd ov σ tr (m_waits (m_lis Ls l0) k).1.toInt64 (m_waits (m_lis Ls l0) k).2 F) : k_Wk_ask nl Ln xs (d + 12) wk 1 (askP k) (some lc) 0 0 σ F := by
  obtain ⟨p0, p1, p2, p3, p4, p5⟩ := ask_p
  unfold m_waits m_tr at K
  rcases pk_cases h0 h5 with q | q | q | q | q | q <;> subst q
  · rw [p0]
    refine as_ask (act := 1) (asker := 3) (owner := 0) (depth := 0) (d := d + 11) (by decide +kernel) (by decide) (by decide) (by decide) (by omega) E wl E.hl E.hc (fun s1 y0 E1 r1 hy => ?_)
    refine w_Wk_ask_129 ⟨fun q => ?_, fun q => ?_, fun q => ?_, fun q => ?_, fun q => ?_, fun q => ?_, fun q => ?_, fun q => ?_, fun q => ?_, fun q => ?_, fun q => ?_, fun q => ?_, fun q => ?_, fun q => ?_, fun q => ?_, fun q => ?_, fun q => ?_, fun q => ?_, fun q => ?_, fun q => ?_, fun q => ?_⟩ <;> first | exact absurd q (by decide) | skip
    exact K s1 E1 r1
  · rw [p1]
    refine as_ask (act := 1) (asker := 4) (owner := 4) (depth := 0) (d := d + 11) (by decide +kernel) (by decide) (by decide) (by decide) (by omega) E wl E.hl E.hc (fun s1 y0 E1 r1 hy => ?_)
    refine w_Wk_ask_129 ⟨fun q => ?_, fun q => ?_, fun q => ?_, fun q => ?_, fun q => ?_, fun q => ?_, fun q => ?_, fun q => ?_, fun q => ?_, fun q => ?_, fun q => ?_, fun q => ?_, fun q => ?_, fun q => ?_, fun q => ?_, fun q => ?_, fun q => ?_, fun q => ?_, fun q => ?_, fun q => ?_, fun q => ?_⟩ <;> first | exact absurd q (by decide) | skip
    refine w_Wk_ask_547 ⟨is_mk E1.2.2.1, (as_lossIs (d := d + 3) wl (by omega) E1 (fun s2 E2 r2 _ => ?_))⟩
    rintro w6 rfl
    have := K s2 E2.ap (r1.trans r2)
    cases hb : (m_lis Ls l0 2).1 <;> rw [hb] at this <;> exact this
  · rw [p2]
    refine as_ask (act := 1) (asker := 6) (owner := 0) (depth := 0) (d := d + 11) (by decide +kernel) (by decide) (by decide) (by decide) (by omega) E wl E.hl E.hc (fun s1 y0 E1 r1 hy => ?_)
    refine w_Wk_ask_129 ⟨fun q => ?_, fun q => ?_, fun q => ?_, fun q => ?_, fun q => ?_, fun q => ?_, fun q => ?_, fun q => ?_, fun q => ?_, fun q => ?_, fun q => ?_, fun q => ?_, fun q => ?_, fun q => ?_, fun q => ?_, fun q => ?_, fun q => ?_, fun q => ?_, fun q => ?_, fun q => ?_, fun q => ?_⟩ <;> first | exact absurd q (by decide) | skip
    exact K s1 E1 r1
  · rw [p3]
    refine as_ask (act := 1) (asker := 8) (owner := 0) (depth := 0) (d := d + 11) (by decide +kernel) (by decide) (by decide) (by decide) (by omega) E wl E.hl E.hc (fun s1 y0 E1 r1 hy => ?_)
    refine w_Wk_ask_129 ⟨fun q => ?_, fun q => ?_, fun q => ?_, fun q => ?_, fun q => ?_, fun q => ?_, fun q => ?_, fun q => ?_, fun q => ?_, fun q => ?_, fun q => ?_, fun q => ?_, fun q => ?_, fun q => ?_, fun q => ?_, fun q => ?_, fun q => ?_, fun q => ?_, fun q => ?_, fun q => ?_, fun q => ?_⟩ <;> first | exact absurd q (by decide) | skip
    exact K s1 E1 r1
  · rw [p4]
    refine as_ask (act := 1) (asker := 5) (owner := 5) (depth := 0) (d := d + 11) (by decide +kernel) (by decide) (by decide) (by decide) (by omega) E wl E.hl E.hc (fun s1 y0 E1 r1 hy => ?_)
    refine w_Wk_ask_129 ⟨fun q => ?_, fun q => ?_, fun q => ?_, fun q => ?_, fun q => ?_, fun q => ?_, fun q => ?_, fun q => ?_, fun q => ?_, fun q => ?_, fun q => ?_, fun q => ?_, fun q => ?_, fun q => ?_, fun q => ?_, fun q => ?_, fun q => ?_, fun q => ?_, fun q => ?_, fun q => ?_, fun q => ?_⟩ <;> first | exact absurd q (by decide) | skip
    exact K s1 E1 r1
  · rw [p5]
    refine as_ask (act := 1) (asker := 7) (owner := 7) (depth := 0) (d := d + 11) (by decide +kernel) (by decide) (by decide) (by decide) (by omega) E wl E.hl E.hc (fun s1 y0 E1 r1 hy => ?_)
    refine w_Wk_ask_129 ⟨fun q => ?_, fun q => ?_, fun q => ?_, fun q => ?_, fun q => ?_, fun q => ?_, fun q => ?_, fun q => ?_, fun q => ?_, fun q => ?_, fun q => ?_, fun q => ?_, fun q => ?_, fun q => ?_, fun q => ?_, fun q => ?_, fun q => ?_, fun q => ?_, fun q => ?_, fun q => ?_, fun q => ?_⟩ <;> first | exact absurd q (by decide) | skip
    refine w_Wk_ask_569 ⟨is_mk E1.2.2.1, (as_lossIs (d := d + 3) wl (by omega) E1 (fun s2 E2 r2 _ => ?_))⟩
    rintro w6 rfl
    have := K s2 E2.ap (r1.trans r2)
    cases hb : (m_lis Ls l0 1).1 <;> rw [hb] at this <;> exact this
theorem as_averages {k : Int32} (wl : WfLL Ls) (h0 : 0 ≤ k.toInt) (h5 : k.toInt ≤ 5) (E : AsE σ w wk ab v b P T Ls Cs l0 lc rows tr fnd ov) (K : AnK wk ab v b w P T Ls Cs l0 lc rows fnd ov σ tr (if (m_averages (m_lis Ls l0) k).1 = true then 1 else 0) (m_averages (m_lis Ls l0) k).2 F) : k_Wk_ask nl Ln xs (d + 12) wk 2 (askP k) (some lc) 0 0 σ F := by
  obtain ⟨p0, p1, p2, p3, p4, p5⟩ := ask_p
  unfold m_averages m_tr at K
  rcases pk_cases h0 h5 with q | q | q | q | q | q <;> subst q
  · rw [p0]
    refine as_ask (act := 2) (asker := 3) (owner := 2) (depth := 0) (d := d + 11) (by decide +kernel) (by decide) (by decide) (by decide) (by omega) E wl E.hl E.hc (fun s1 y0 E1 r1 hy => ?_)
    refine w_Wk_ask_129 ⟨fun q => ?_, fun q => ?_, fun q => ?_, fun q => ?_, fun q => ?_, fun q => ?_, fun q => ?_, fun q => ?_, fun q => ?_, fun q => ?_, fun q => ?_, fun q => ?_, fun q => ?_, fun q => ?_, fun q => ?_, fun q => ?_, fun q => ?_, fun q => ?_, fun q => ?_, fun q => ?_, fun q => ?_⟩ <;> first | exact absurd q (by decide) | skip
    exact K s1 E1 r1
  · rw [p1]
    refine as_ask (act := 2) (asker := 4) (owner := 4) (depth := 0) (d := d + 11) (by decide +kernel) (by decide) (by decide) (by decide) (by omega) E wl E.hl E.hc (fun s1 y0 E1 r1 hy => ?_)
    refine w_Wk_ask_129 ⟨fun q => ?_, fun q => ?_, fun q => ?_, fun q => ?_, fun q => ?_, fun q => ?_, fun q => ?_, fun q => ?_, fun q => ?_, fun q => ?_, fun q => ?_, fun q => ?_, fun q => ?_, fun q => ?_, fun q => ?_, fun q => ?_, fun q => ?_, fun q => ?_, fun q => ?_, fun q => ?_, fun q => ?_⟩ <;> first | exact absurd q (by decide) | skip
    refine w_Wk_ask_589 ⟨is_mk E1.2.2.1, (as_lossIs (d := d + 3) wl (by omega) E1 (fun s2 E2 r2 _ => ⟨fun g => ?_, fun g => ?_⟩))⟩
    · have := K s2
      simp [g] at this
      exact this (by have := E2.ap; exact this) (r1.trans r2)
    · refine as_ask (act := 2) (asker := 2) (owner := 2) (depth := 1) (d := d + 10) (by decide +kernel) (by decide) (by decide) (by decide) (by omega) E2 wl E2.hl E2.hc (fun s3 y0 E3 r3 hy => ?_)
      refine w_Wk_ask_129 ⟨fun q => ?_, fun q => ?_, fun q => ?_, fun q => ?_, fun q => ?_, fun q => ?_, fun q => ?_, fun q => ?_, fun q => ?_, fun q => ?_, fun q => ?_, fun q => ?_, fun q => ?_, fun q => ?_, fun q => ?_, fun q => ?_, fun q => ?_, fun q => ?_, fun q => ?_, fun q => ?_, fun q => ?_⟩ <;> first | exact absurd q (by decide) | skip
      intro _
      have := K s3
      simp [g] at this
      refine this ?_ ((r1.trans r2).trans r3)
      simp only [List.append_assoc] at E3
      exact E3
  · rw [p2]
    refine as_ask (act := 2) (asker := 6) (owner := 0) (depth := 0) (d := d + 11) (by decide +kernel) (by decide) (by decide) (by decide) (by omega) E wl E.hl E.hc (fun s1 y0 E1 r1 hy => ?_)
    refine w_Wk_ask_129 ⟨fun q => ?_, fun q => ?_, fun q => ?_, fun q => ?_, fun q => ?_, fun q => ?_, fun q => ?_, fun q => ?_, fun q => ?_, fun q => ?_, fun q => ?_, fun q => ?_, fun q => ?_, fun q => ?_, fun q => ?_, fun q => ?_, fun q => ?_, fun q => ?_, fun q => ?_, fun q => ?_, fun q => ?_⟩ <;> first | exact absurd q (by decide) | skip
    exact K s1 E1 r1
  · rw [p3]
    refine as_ask (act := 2) (asker := 8) (owner := 0) (depth := 0) (d := d + 11) (by decide +kernel) (by decide) (by decide) (by decide) (by omega) E wl E.hl E.hc (fun s1 y0 E1 r1 hy => ?_)
    refine w_Wk_ask_129 ⟨fun q => ?_, fun q => ?_, fun q => ?_, fun q => ?_, fun q => ?_, fun q => ?_, fun q => ?_, fun q => ?_, fun q => ?_, fun q => ?_, fun q => ?_, fun q => ?_, fun q => ?_, fun q => ?_, fun q => ?_, fun q => ?_, fun q => ?_, fun q => ?_, fun q => ?_, fun q => ?_, fun q => ?_⟩ <;> first | exact absurd q (by decide) | skip
    exact K s1 E1 r1
  · rw [p4]
    refine as_ask (act := 2) (asker := 5) (owner := 5) (depth := 0) (d := d + 11) (by decide +kernel) (by decide) (by decide) (by decide) (by omega) E wl E.hl E.hc (fun s1 y0 E1 r1 hy => ?_)
    refine w_Wk_ask_129 ⟨fun q => ?_, fun q => ?_, fun q => ?_, fun q => ?_, fun q => ?_, fun q => ?_, fun q => ?_, fun q => ?_, fun q => ?_, fun q => ?_, fun q => ?_, fun q => ?_, fun q => ?_, fun q => ?_, fun q => ?_, fun q => ?_, fun q => ?_, fun q => ?_, fun q => ?_, fun q => ?_, fun q => ?_⟩ <;> first | exact absurd q (by decide) | skip
    exact K s1 E1 r1
  · rw [p5]
    refine as_ask (act := 2) (asker := 7) (owner := 0) (depth := 0) (d := d + 11) (by decide +kernel) (by decide) (by decide) (by decide) (by omega) E wl E.hl E.hc (fun s1 y0 E1 r1 hy => ?_)
    refine w_Wk_ask_129 ⟨fun q => ?_, fun q => ?_, fun q => ?_, fun q => ?_, fun q => ?_, fun q => ?_, fun q => ?_, fun q => ?_, fun q => ?_, fun q => ?_, fun q => ?_, fun q => ?_, fun q => ?_, fun q => ?_, fun q => ?_, fun q => ?_, fun q => ?_, fun q => ?_, fun q => ?_, fun q => ?_, fun q => ?_⟩ <;> first | exact absurd q (by decide) | skip
    exact K s1 E1 r1
theorem as_self63 {depth : Nat} (wl : WfLL Ls) (hd : depth ≤ 12) (E : AsE σ w wk ab v b P T Ls Cs l0 lc rows tr fnd ov) (K : AnK wk ab v b w P T Ls Cs l0 lc rows fnd ov σ tr (if (m_lis Ls l0 2).1 = true then 10 else 0) (63 :: ((m_lis Ls l0 2).2 ++ (if (m_lis Ls l0 2).1 = true then [] else [13]))) F) : k_Wk_ask nl Ln xs (d + 10) wk 3 6 (some lc) 0 (Int32.ofNat depth) σ F := by
  refine as_ask (act := 3) (asker := 6) (owner := 6) (d := d + 9) (by decide +kernel) (by decide) (by decide) (by decide) (by omega) E wl E.hl E.hc (fun s1 y0 E1 r1 hy => ?_)
  refine w_Wk_ask_129 ⟨fun q => ?_, fun q => ?_, fun q => ?_, fun q => ?_, fun q => ?_, fun q => ?_, fun q => ?_, fun q => ?_, fun q => ?_, fun q => ?_, fun q => ?_, fun q => ?_, fun q => ?_, fun q => ?_, fun q => ?_, fun q => ?_, fun q => ?_, fun q => ?_, fun q => ?_, fun q => ?_, fun q => ?_⟩ <;> first | exact absurd q (by decide) | skip
  refine w_Wk_ask_614 ⟨is_mk E1.2.2.1, (as_lossIs (d := d + 1) wl (by omega) E1 (fun s2 E2 r2 _ => ⟨fun g => ?_, fun g => ?_⟩))⟩
  · have := K s2
    simp only [g, if_true, List.append_nil] at this
    exact this E2.ap (r1.trans r2)
  · refine as_cov1 (act := 3) (d := d + 8) wl (by omega) E2 (Or.inr rfl) (fun s3 E3 r3 _ => ?_)
    have := K s3
    simp only [g, if_false] at this
    refine this ?_ ((r1.trans r2).trans r3)
    simp only [List.append_assoc] at E3
    exact E3
theorem as_self {k : Int32} (wl : WfLL Ls) (h0 : 0 ≤ k.toInt) (h5 : k.toInt ≤ 5) (E : AsE σ w wk ab v b P T Ls Cs l0 lc rows tr fnd ov) (K : AnK wk ab v b w P T Ls Cs l0 lc rows fnd ov σ tr (m_self (m_lis Ls l0) k).1.toInt64 (m_self (m_lis Ls l0) k).2 F) : k_Wk_ask nl Ln xs (d + 12) wk 3 (askP k) (some lc) 0 0 σ F := by
  obtain ⟨p0, p1, p2, p3, p4, p5⟩ := ask_p
  unfold m_self m_tr at K
  rcases pk_cases h0 h5 with q | q | q | q | q | q <;> subst q
  · rw [p0]
    refine as_ask (act := 3) (asker := 3) (owner := 1) (depth := 0) (d := d + 11) (by decide +kernel) (by decide) (by decide) (by decide) (by omega) E wl E.hl E.hc (fun s1 y0 E1 r1 hy => ?_)
    refine w_Wk_ask_129 ⟨fun q => ?_, fun q => ?_, fun q => ?_, fun q => ?_, fun q => ?_, fun q => ?_, fun q => ?_, fun q => ?_, fun q => ?_, fun q => ?_, fun q => ?_, fun q => ?_, fun q => ?_, fun q => ?_, fun q => ?_, fun q => ?_, fun q => ?_, fun q => ?_, fun q => ?_, fun q => ?_, fun q => ?_⟩ <;> first | exact absurd q (by decide) | skip
    exact K s1 E1 r1
  · rw [p1]
    refine as_ask (act := 3) (asker := 4) (owner := 1) (depth := 0) (d := d + 11) (by decide +kernel) (by decide) (by decide) (by decide) (by omega) E wl E.hl E.hc (fun s1 y0 E1 r1 hy => ?_)
    refine w_Wk_ask_129 ⟨fun q => ?_, fun q => ?_, fun q => ?_, fun q => ?_, fun q => ?_, fun q => ?_, fun q => ?_, fun q => ?_, fun q => ?_, fun q => ?_, fun q => ?_, fun q => ?_, fun q => ?_, fun q => ?_, fun q => ?_, fun q => ?_, fun q => ?_, fun q => ?_, fun q => ?_, fun q => ?_, fun q => ?_⟩ <;> first | exact absurd q (by decide) | skip
    exact K s1 E1 r1
  · rw [p2]
    refine as_self63 (d := d + 2) (depth := 0) wl (by omega) E (fun s3 E3 r3 => ?_)
    have := K s3
    cases hb : (m_lis Ls l0 2).1
    · rw [hb] at E3 this
      exact this (by simpa using E3) r3
    · rw [hb] at E3 this
      exact this (by simpa using E3) r3
  · rw [p3]
    refine as_ask (act := 3) (asker := 8) (owner := 1) (depth := 0) (d := d + 11) (by decide +kernel) (by decide) (by decide) (by decide) (by omega) E wl E.hl E.hc (fun s1 y0 E1 r1 hy => ?_)
    refine w_Wk_ask_129 ⟨fun q => ?_, fun q => ?_, fun q => ?_, fun q => ?_, fun q => ?_, fun q => ?_, fun q => ?_, fun q => ?_, fun q => ?_, fun q => ?_, fun q => ?_, fun q => ?_, fun q => ?_, fun q => ?_, fun q => ?_, fun q => ?_, fun q => ?_, fun q => ?_, fun q => ?_, fun q => ?_, fun q => ?_⟩ <;> first | exact absurd q (by decide) | skip
    exact K s1 E1 r1
  · rw [p4]
    refine as_ask (act := 3) (asker := 5) (owner := 1) (depth := 0) (d := d + 11) (by decide +kernel) (by decide) (by decide) (by decide) (by omega) E wl E.hl E.hc (fun s1 y0 E1 r1 hy => ?_)
    refine w_Wk_ask_129 ⟨fun q => ?_, fun q => ?_, fun q => ?_, fun q => ?_, fun q => ?_, fun q => ?_, fun q => ?_, fun q => ?_, fun q => ?_, fun q => ?_, fun q => ?_, fun q => ?_, fun q => ?_, fun q => ?_, fun q => ?_, fun q => ?_, fun q => ?_, fun q => ?_, fun q => ?_, fun q => ?_, fun q => ?_⟩ <;> first | exact absurd q (by decide) | skip
    exact K s1 E1 r1
  · rw [p5]
    refine as_ask (act := 3) (asker := 7) (owner := 7) (depth := 0) (d := d + 11) (by decide +kernel) (by decide) (by decide) (by decide) (by omega) E wl E.hl E.hc (fun s1 y0 E1 r1 hy => ?_)
    refine w_Wk_ask_129 ⟨fun q => ?_, fun q => ?_, fun q => ?_, fun q => ?_, fun q => ?_, fun q => ?_, fun q => ?_, fun q => ?_, fun q => ?_, fun q => ?_, fun q => ?_, fun q => ?_, fun q => ?_, fun q => ?_, fun q => ?_, fun q => ?_, fun q => ?_, fun q => ?_, fun q => ?_, fun q => ?_, fun q => ?_⟩ <;> first | exact absurd q (by decide) | skip
    refine w_Wk_ask_641 ⟨is_mk E1.2.2.1, ?_⟩
    refine as_self63 (d := d + 1) (depth := 1) wl (by omega) E1 (fun s3 E3 r3 _ => ?_)
    have := K s3
    cases hb : (m_lis Ls l0 2).1
    · rw [hb] at E3 this
      exact this (by simpa using E3) (r1.trans r3)
    · rw [hb] at E3 this
      exact this (by simpa using E3) (r1.trans r3)
end
