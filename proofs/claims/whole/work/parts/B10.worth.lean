/-! THE CLASS: WORTH -/
theorem root_5 {Ls : List mLoss} : ∀ (f l : Nat), m_parts5 Ls (f + 1) l ≤ f → m_root Ls (f + 1) l = m_root Ls f l
  | 0, l, h => by
    rw [m_parts5] at h
    cases hw : (Ls.getD l mLoss0).2.2.1 with
    | none =>
      show (match (Ls.getD l mLoss0).2.2.1 with
        | none => l
        | some u => m_root Ls 0 u) = l
      rw [hw]
    | some u => rw [hw] at h; simp at h
  | f + 1, l, h => by
    rw [m_parts5] at h
    rw [m_root, m_root]
    cases hw : (Ls.getD l mLoss0).2.2.1 with
    | none => rfl
    | some u =>
      rw [hw] at h
      exact root_5 f u (by simp only [] at h; omega)
/-- amounts and values, by the class's working -/
def MnR (σ : am_S) (wk ab : Nat) (amt : Nat → Int32 → Int64) (n : Nat) : Prop := am_fR σ 2013 wk = some ab ∧ am_kd σ ab = (1001, 12) ∧ (∀ i, i < n → am_aL σ ab (2 * i) = amt i 0 ∧ am_aL σ ab (2 * i + 1) = amt i 1) ∧ ∀ i, n ≤ i → i < 6 → am_aL σ ab (2 * i) = 0 ∧ am_aL σ ab (2 * i + 1) = 0
section
variable {nl : Bool} {Ln : Nat} {xs : Nat → Int32} {d : Nat} {w : ow_T} {wk ab v b : Nat} {P : List mPol} {T : List mTell} {Ls : List mLoss} {Cs : List mCase} {l0 lc : Nat} {rows : List mRow} {fnd : Int32} {ov : Bool} {amt : Nat → Int32 → Int64}
theorem MnR.wc {σ σ1 : am_S} {fs as vs va : List Nat} {n : Nat} (h : MnR σ wk ab amt n) (hv : WkV wk ab v) (r : Wc wk ab v fs as vs va σ σ1) (h1 : 2013 ∉ fs) (h2 : 2013 ∉ vs) (h3 : 0 ∉ as) (h4 : ∀ j ∈ va, 1 ≤ j ∧ j ≤ 4) : MnR σ1 wk ab amt n := by
  obtain ⟨a1, a2, a3, a4⟩ := h
  have e : ∀ i, am_aL σ1 ab i = am_aL σ ab i := fun i => r.aL (k := 0) hv (by decide) h3 h4
  exact ⟨(r.fR h1 h2).trans a1, by rw [r.kd]; exact a2, fun i hi => ⟨(e _).trans (a3 i hi).1, (e _).trans (a3 i hi).2⟩, fun i hi hj => ⟨(e _).trans (a4 i hi hj).1, (e _).trans (a4 i hi hj).2⟩⟩
/-- the least of what items have, summed -/
theorem as_sum {σ : am_S} {owner n : Nat} {third : Bool} {x1 x2 x6 x8 x9 : Int32} {x3 : Option Nat} {number : Int64} {F : Int64 → am_S → Prop} (hw : owner = 9 ∧ third = true ∨ owner = 10 ∧ third = false) (kk : am_kd σ wk = (3, 0)) (hn : n ≤ 6) (h : MnR σ wk ab amt n) (h0 : 0 ≤ number.toInt) (K : F (m_worthN amt third number n) σ) : c_Wk_ask_663 nl Ln xs (d + 1) wk x1 x2 x3 number x6 (Int32.ofNat owner) x8 x9 0 0 none none σ F := by
  obtain ⟨a1, a2, a3, a4⟩ := h
  have z : (0 : Int64).toInt = 0 := by decide
  have e10 : Int32.ofNat owner = 10 ↔ third = false := by
    rcases hw with ⟨h1, h2⟩ | ⟨h1, h2⟩ <;> rw [h1, h2] <;> decide
  -- one item
  have one : ∀ (i : Nat) (acc : Int64) (x13 x14 : Option Value) (add : Int64), i < 6 → (add = if i < n then m_least (m_least (amt i 0) (if third then amt i 0 else amt i 1)) number else 0) → (∀ x13 x14, c_Wk_ask_663 nl Ln xs (d + 1) wk x1 x2 x3 number x6 (Int32.ofNat owner) x8 x9 (acc + add) (Int32.ofNat (2 * (i + 1))) x13 x14 σ F) → c_Wk_ask_663 nl Ln xs (d + 1) wk x1 x2 x3 number x6 (Int32.ofNat owner) x8 x9 acc (Int32.ofNat (2 * i)) x13 x14 σ F := by
    intro i acc x13 x14 add hi hadd Kn
    obtain ⟨m0, hm0⟩ : ∃ m0, m0 = am_aL σ ab (2 * i) := ⟨_, rfl⟩
    obtain ⟨m1, hm1⟩ : ∃ m1, m1 = am_aL σ ab (2 * i + 1) := ⟨_, rfl⟩
    have hval : add = (if third = false ∧ m1 < (if m0 < number then m0 else number) then m1 else (if m0 < number then m0 else number)) := by
      by_cases hin : i < n
      · obtain ⟨b0, b1⟩ := a3 i hin
        rw [hadd, if_pos hin, hm0, hm1, b0, b1]
        unfold m_least
        cases third
        · simp only [Bool.false_eq_true, if_false, true_and]
          by_cases g1 : amt i 0 < number <;> by_cases g2 : amt i 0 < amt i 1 <;> by_cases g3 : amt i 1 < number
          all_goals simp only [g1, g2, g3, if_true, if_false]
          all_goals (try simp only [i64lt] at g1 g2 g3)
          all_goals (try (by_cases g4 : amt i 1 < amt i 0))
          all_goals (try simp only [g4, if_true, if_false])
          all_goals (try (simp only [i64lt] at g4))
          all_goals (try omega)
          all_goals (try (rw [i64e]; omega))
        · simp only [if_true]
          by_cases g1 : amt i 0 < number <;> simp [g1]
      · obtain ⟨b0, b1⟩ := a4 i (by omega) hi
        rw [hadd, if_neg hin, hm0, hm1, b0, b1]
        by_cases g1 : (0 : Int64) < number
        · simp [g1]
        · have : number = 0 := by rw [i64lt, z] at g1; rw [i64e, z]; omega
          simp [this]
    refine w_Wk_ask_663 ⟨is_mk kk, ⟨ab, a1, by rw [a2]⟩, ?_⟩
    rw [a1, Option.getD_some, a2, n32c (by omega), ← hm0]
    have ar0 : am_ar σ 1001 (some ab) (Int32.ofNat (2 * i)) := ar_mk a2 (by rw [n32 (by omega)]; omega) (by rw [n32 (by omega)]; omega)
    have ar1 : am_ar σ 1001 (some ab) (Int32.ofNat (2 * i) + 1) := by rw [n32s]; exact ar_mk a2 (by rw [n32 (by omega)]; omega) (by rw [n32 (by omega)]; omega)
    refine ⟨fun _ => ⟨ar0, fun _ => ar0, ?_⟩, fun q => absurd (show Int32.ofNat (2 * i) < Int32.ofNat 12 by rw [n32lt (by omega) (by omega)]; omega) q⟩
    rintro w8 rfl
    refine w_Wk_ask_698 ?_
    rw [a1, Option.getD_some]
    refine ⟨fun _ => is_mk kk, fun _ => ar1, fun _ _ => is_mk kk, fun _ _ => ar1, ?_⟩
    rw [n32s, n32c (by omega), ← hm1]
    rintro w8 e8 v10 rfl
    have ew : w8 = add := by
      rw [e8, hval]
      generalize (if m0 < number then m0 else number) = lv
      by_cases ht : third = false
      · rw [if_pos (e10.mpr ht)]
        by_cases g : m1 < lv
        · rw [if_pos g, if_pos ⟨ht, g⟩]
        · rw [if_neg g, if_neg (fun y => g y.2)]
      · rw [if_neg (fun y => ht (e10.mp y)), if_neg (fun y => ht y.1)]
    rw [ew, show Int32.ofNat (2 * i) + 2 = Int32.ofNat (2 * (i + 1)) from n32a (2 * i) 2]
    exact Kn _ _
  have fin : ∀ (acc : Int64) (x13 x14 : Option Value), F acc σ → c_Wk_ask_663 nl Ln xs (d + 1) wk x1 x2 x3 number x6 (Int32.ofNat owner) x8 x9 acc (Int32.ofNat 12) x13 x14 σ F := by
    intro acc x13 x14 hF
    refine w_Wk_ask_663 ⟨is_mk kk, ⟨ab, a1, by rw [a2]⟩, ?_⟩
    rw [a1, Option.getD_some, a2]
    exact ⟨fun q => absurd q (by decide), fun _ => hF⟩
  have loop : ∀ (m i : Nat) (acc : Int64) (x13 x14 : Option Value), i + m = 6 → (i ≤ n → acc = m_worthN amt third number i) → (n ≤ i → acc = m_worthN amt third number n) → c_Wk_ask_663 nl Ln xs (d + 1) wk x1 x2 x3 number x6 (Int32.ofNat owner) x8 x9 acc (Int32.ofNat (2 * i)) x13 x14 σ F := by
    intro m
    induction m with
    | zero =>
      intro i acc x13 x14 hi h1 h2
      rw [show 2 * i = 12 by omega]
      refine fin acc _ _ ?_
      rw [h2 (by omega)]
      exact K
    | succ m ih =>
      intro i acc x13 x14 hi h1 h2
      refine one i acc x13 x14 _ (by omega) rfl (fun x13 x14 => ih (i + 1) _ _ _ (by omega) (fun q => ?_) (fun q => ?_))
      · rw [if_pos (by omega), h1 (by omega)]
        rfl
      · by_cases hin : i < n
        · rw [if_pos hin, h1 (by omega), show n = i + 1 by omega]
          rfl
        · rw [if_neg hin, Int64.add_zero]
          exact h2 (by omega)
  exact loop 6 0 0 none none (by omega) (fun _ => rfl) (fun q => by rw [show n = 0 by omega]; rfl)
theorem as_worth {number : Int64} {bs : Nat} (wl : WfLL Ls) (h0 : 0 ≤ number.toInt) (h6 : (m_items Ls bs).length ≤ 6) : ∀ (f l depth : Nat) (ll : mLoss) (c : Nat) (σ : am_S) (tr : List Int32) (F : Int64 → am_S → Prop), Ls[l]? = some ll → am_aR σ (bA σ b 6005) l = some c → m_parts5 Ls f l < f → m_root Ls f l = bs → depth + f ≤ 19 → AsE σ w wk ab v b P T Ls Cs l0 lc rows tr fnd ov → MnR σ wk ab amt (m_items Ls bs).length → (∀ σ', AsE σ' w wk ab v b P T Ls Cs l0 lc rows (tr ++ (m_worth Ls amt number f l).2) fnd ov → AsC wk ab v σ σ' → F (m_worth Ls amt number f l).1 σ') → k_Wk_ask nl Ln xs (d + f + 2) wk 4 (askL ll) (some c) number (Int32.ofNat depth) σ F := by
  intro f
  induction f with
  | zero => intro l depth ll c σ tr F _ _ h; omega
  | succ f ih =>
    intro l depth ll c σ tr F hl hc hp hr hd E hM K
    have hgd : Ls.getD l mLoss0 = ll := getD_of mLoss0 hl
    have hwl := wl.2.1 l ll hl
    have hwf := wl.2.2 ll (List.mem_of_getElem? hl)
    have hv := E.1
    have mn : ∀ {s : am_S}, AsC wk ab v σ s → MnR s wk ab amt (m_items Ls bs).length := fun r => hM.wc hv r (by simp) (by decide) (by simp) (by decide)
    unfold m_worth at K
    rw [hgd] at K
    rw [m_parts5, hgd] at hp
    rw [m_root, hgd] at hr
    cases hwh : ll.2.2.1 with
    | some u =>
      rw [hwh] at K hp hr
      have h5 : ll.1 = 5 := hwl.1.mpr (by rw [hwh]; simp)
      have hu := hwl.2.1 u hwh
      have hul := getD_some mLoss0 (show u < Ls.length from Nat.lt_trans hu (lt_of_get hl))
      have ea : askL ll = Int32.ofNat 14 := by unfold askL; rw [h5]; decide +kernel
      rw [ea]
      refine as_ask (act := 4) (owner := 14) (d := d + f + 2) (by decide +kernel) (by decide) (by decide) (by decide) (by omega) E wl hl hc (fun s1 y0 E1 r1 hy => ?_)
      refine w_Wk_ask_129 ⟨fun q => ?_, fun q => ?_, fun q => ?_, fun q => ?_, fun q => ?_, fun q => ?_, fun q => ?_, fun q => ?_, fun q => ?_, fun q => ?_, fun q => ?_, fun q => ?_, fun q => ?_, fun q => ?_, fun q => ?_, fun q => ?_, fun q => ?_, fun q => ?_, fun q => ?_, fun q => ?_, fun q => ?_⟩ <;> first | exact absurd q (by decide) | skip
      obtain ⟨c', c1, c2, -, c4⟩ := E1.bk.loss hl
      have ec : c' = c := Option.some.inj (c1.symm.trans (AsC.cell (tr' := tr) E r1 hc))
      subst ec
      obtain ⟨uc, u1, u2, -, -⟩ := E1.bk.loss hul
      refine w_Wk_ask_771 ⟨is_mk c2.2.1, is_mk E1.2.2.1, ?_⟩
      rw [Option.getD_some, c4 u hwh, u1, hy u hwh]
      refine (ih u (depth + 1) _ uc s1 _ _ hul u1 (by simp only [] at hp; omega) hr (by omega) E1 (mn r1) (fun s2 E2 r2 _ => ?_))
      obtain ⟨c3, d1, d2, -, -⟩ := E2.bk.loss hl
      have ec : c3 = c' := Option.some.inj (d1.symm.trans (AsC.cell (tr' := tr) E1 r2 c1))
      subst ec
      rw [d2.2.2.2.2.2.2.1]
      refine K s2 ?_ (r1.trans r2)
      show AsE s2 w wk ab v b P T Ls Cs l0 lc rows (tr ++ (144 :: (m_worth Ls amt number f u).2)) fnd ov
      rw [List.append_assoc] at E2
      exact E2
    | none =>
      rw [hwh] at K hr
      have hr : l = bs := hr
      subst hr
      have h5 : ll.1 ≠ 5 := fun q => absurd hwh (hwl.1.mp q)
      have damage : ∀ (a depth : Nat) (s : am_S) (tr1 : List Int32) (G : Int64 → am_S → Prop), rsv 4 4 a = 10 → a < 15 → depth ≤ 20 → AsE s w wk ab v b P T Ls Cs l0 lc rows tr1 fnd ov → AsC wk ab v σ s → (∀ s', AsE s' w wk ab v b P T Ls Cs l0 lc rows (tr1 ++ [104]) fnd ov → AsC wk ab v σ s' → G (m_worthN amt false number (m_items Ls l).length) s') → k_Wk_ask nl Ln xs (d + f + 2) wk 4 (Int32.ofNat a) (some c) number (Int32.ofNat depth) s G := by
        intro a depth s tr1 G hres ha hd1 Es rs KG
        refine as_ask (act := 4) (owner := 10) (d := d + f + 1) hres (by decide) (by decide) ha hd1 Es wl hl (AsC.cell (tr' := tr) E rs hc) (fun s1 y0 E1 r1 hy => ?_)
        refine w_Wk_ask_129 ⟨fun q => ?_, fun q => ?_, fun q => ?_, fun q => ?_, fun q => ?_, fun q => ?_, fun q => ?_, fun q => ?_, fun q => ?_, fun q => ?_, fun q => ?_, fun q => ?_, fun q => ?_, fun q => ?_, fun q => ?_, fun q => ?_, fun q => ?_, fun q => ?_, fun q => ?_, fun q => ?_, fun q => ?_⟩ <;> first | exact absurd q (by decide) | skip
        exact as_sum (Or.inr ⟨rfl, rfl⟩) E1.2.2.1 h6 (mn (rs.trans r1)) h0 (KG s1 E1 (rs.trans r1))
      have damage1 : ∀ a : Nat, askL ll = Int32.ofNat a → rsv 4 4 a = 10 → a < 15 → ll.1 ≠ 2 → ll.1 ≠ 4 → k_Wk_ask nl Ln xs (d + (f + 1) + 2) wk 4 (askL ll) (some c) number (Int32.ofNat depth) σ F := by
        intro a ea hres ha h2 h4
        simp only [if_neg h2, if_neg h4] at K
        rw [ea]
        refine as_ask (act := 4) (owner := 10) (d := d + (f + 1) + 1) hres (by decide) (by decide) ha (by omega) E wl hl hc (fun s1 y0 E1 r1 hy => ?_)
        refine w_Wk_ask_129 ⟨fun q => ?_, fun q => ?_, fun q => ?_, fun q => ?_, fun q => ?_, fun q => ?_, fun q => ?_, fun q => ?_, fun q => ?_, fun q => ?_, fun q => ?_, fun q => ?_, fun q => ?_, fun q => ?_, fun q => ?_, fun q => ?_, fun q => ?_, fun q => ?_, fun q => ?_, fun q => ?_, fun q => ?_⟩ <;> first | exact absurd q (by decide) | skip
        exact as_sum (Or.inr ⟨rfl, rfl⟩) E1.2.2.1 h6 (mn r1) h0 (K s1 E1 r1)
      rcases kd_cases hwf with q | q | q | q | q | q
      · exact damage1 10 (by unfold askL; rw [q]; decide +kernel) (by decide +kernel) (by decide) (by rw [q]; decide) (by rw [q]; decide)
      · exact damage1 10 (by unfold askL; rw [q]; decide +kernel) (by decide +kernel) (by decide) (by rw [q]; decide) (by rw [q]; decide)
      · -- a theft
        have ea : askL ll = Int32.ofNat 11 := by unfold askL; rw [q]; decide +kernel
        simp only [if_pos q] at K
        rw [ea]
        refine as_ask (act := 4) (owner := 11) (d := d + (f + 1) + 1) (by decide +kernel) (by decide) (by decide) (by decide) (by omega) E wl hl hc (fun s1 y0 E1 r1 hy => ?_)
        refine w_Wk_ask_129 ⟨fun q => ?_, fun q => ?_, fun q => ?_, fun q => ?_, fun q => ?_, fun q => ?_, fun q => ?_, fun q => ?_, fun q => ?_, fun q => ?_, fun q => ?_, fun q => ?_, fun q => ?_, fun q => ?_, fun q => ?_, fun q => ?_, fun q => ?_, fun q => ?_, fun q => ?_, fun q => ?_, fun q => ?_⟩ <;> first | exact absurd q (by decide) | skip
        refine w_Wk_ask_750 ⟨is_mk E1.2.2.1, ?_⟩
        refine damage 10 (depth + 1) s1 _ _ (by decide +kernel) (by decide) (by omega) E1 r1 (fun s2 E2 r2 _ => ?_)
        refine K s2 ?_ r2
        rw [List.append_assoc] at E2
        exact E2
      · exact damage1 12 (by unfold askL; rw [q]; decide +kernel) (by decide +kernel) (by decide) (by rw [q]; decide) (by rw [q]; decide)
      · have ea : askL ll = Int32.ofNat 13 := by unfold askL; rw [q]; decide +kernel
        simp only [if_neg (show ll.1 ≠ 2 by rw [q]; decide), if_pos q] at K
        rw [ea]
        refine as_ask (act := 4) (owner := 9) (d := d + (f + 1) + 1) (by decide +kernel) (by decide) (by decide) (by decide) (by omega) E wl hl hc (fun s1 y0 E1 r1 hy => ?_)
        refine w_Wk_ask_129 ⟨fun q => ?_, fun q => ?_, fun q => ?_, fun q => ?_, fun q => ?_, fun q => ?_, fun q => ?_, fun q => ?_, fun q => ?_, fun q => ?_, fun q => ?_, fun q => ?_, fun q => ?_, fun q => ?_, fun q => ?_, fun q => ?_, fun q => ?_, fun q => ?_, fun q => ?_, fun q => ?_, fun q => ?_⟩ <;> first | exact absurd q (by decide) | skip
        exact as_sum (Or.inl ⟨rfl, rfl⟩) E1.2.2.1 h6 (mn r1) h0 (K s1 E1 r1)
      · exact absurd q h5
end
