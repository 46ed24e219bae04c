/-! ACTS of the reference: parts, items, cases -/
theorem LogR_rlog {s : am_S} {o : Nat} {M : mOff} (hu : o_und M = false) (h : LogR s o (o_log M)) : LogR s o (m_rlog M) := by rw [m_rlog0 hu]; exact h
/-- losses: a part comes of one before it, four at most -/
def WfL (Ls : List mLoss) : Prop := ∀ i l, Ls[i]? = some l → (l.1 = 5 ↔ l.2.2.1 ≠ none) ∧ (∀ u, l.2.2.1 = some u → u < i) ∧ m_parts5 Ls 5 i ≤ 4 ∧ l.2.2.2.2.2.length ≤ 6
theorem getD_of {α : Type} {l : List α} {i : Nat} {x : α} (z : α) (h : l[i]? = some x) : l.getD i z = x := by simp [List.getD, h]
theorem lt_of_get {α : Type} {l : List α} {i : Nat} {x : α} (h : l[i]? = some x) : i < l.length := by
  rcases Nat.lt_or_ge i l.length with q | q
  · exact q
  · rw [List.getElem?_eq_none q] at h
    cases h
section
variable {α : Type} {σ σ1 : am_S} {c i : Nat} {l : List α} {g : α → α}
theorem get_mod {j : Nat} {x : α} (h : (l.modify i g)[j]? = some x) : (j = i ∧ ∃ y, l[i]? = some y ∧ x = g y) ∨ (j ≠ i ∧ l[j]? = some x) := by
  rw [List.getElem?_modify] at h
  by_cases hj : i = j
  · subst hj
    simp only [if_true] at h
    cases hy : l[i]? with
    | none => rw [hy] at h; cases h
    | some y => rw [hy] at h; cases h; exact Or.inl ⟨rfl, y, rfl, rfl⟩
  · simp only [hj, if_false] at h
    cases hy : l[j]? with
    | none => rw [hy] at h; cases h
    | some y => rw [hy] at h; cases h; exact Or.inr ⟨fun e => hj e.symm, rfl⟩
theorem rwI.modS {f : α → Int32} (h : rwI σ c l f) (hg : ∀ x, f (g x) = f x) : rwI σ c (l.modify i g) f := by
  intro j x hx
  rcases get_mod hx with ⟨q1, y, q2, q3⟩ | ⟨q1, q2⟩
  · rw [q3, hg, q1]; exact h i y q2
  · exact h j x q2
theorem rwI.mod {f : α → Int32} (z : α) (h : rwI σ c l f) (e : ∀ j, am_aI σ1 c j = if j = i then f (g (l.getD i z)) else am_aI σ c j) : rwI σ1 c (l.modify i g) f := by
  intro j x hx
  rw [e]
  rcases get_mod hx with ⟨q1, y, q2, q3⟩ | ⟨q1, q2⟩
  · rw [if_pos q1, q3, getD_of z q2]
  · rw [if_neg q1]; exact h j x q2
end
theorem root_end {Ls : List mLoss} : ∀ (f i : Nat), m_parts5 Ls (f + 1) i ≤ f → (Ls.getD (m_root Ls f i) mLoss0).2.2.1 = none := by
  intro f
  induction f with
  | zero =>
    intro i h
    unfold m_parts5 at h
    unfold m_root
    split at h
    · assumption
    · omega
  | succ f ih =>
    intro i h
    unfold m_parts5 at h
    unfold m_root
    split at h
    · rename_i hq
      rw [hq]
      exact hq
    · rename_i u hq
      rw [hq]
      exact ih u (by omega)
theorem root_lt {Ls : List mLoss} (hw : WfL Ls) : ∀ (f i : Nat), i < Ls.length → m_root Ls f i ≤ i := by
  intro f
  induction f with
  | zero => intro i _; exact Nat.le_refl _
  | succ f ih =>
    intro i hi
    unfold m_root
    split
    · exact Nat.le_refl _
    · rename_i u hq
      have h1 := (hw i _ (getD_some mLoss0 hi)).2.1 u hq
      exact Nat.le_trans (ih u (by omega)) (by omega)
section
variable {nl : Bool} {Ln : Nat} {xs : Nat → Int32} {d : Nat} {σ : am_S} {o : Nat}
theorem r_rootL {Ls : List mLoss} {x1 : Int32} {F : Int32 → am_S → Prop} (hK : OffK σ o) (hL : rLos σ o Ls) (hw : WfL Ls) (h200 : Ls.length ≤ 200) : ∀ (f i : Nat), i < Ls.length → m_parts5 Ls (f + 1) i ≤ f → F (Int32.ofNat (m_root Ls f i)) σ → c_Ro_root_2 nl Ln xs (d + 1) o x1 (Int32.ofNat i) σ F := by
  intro f
  induction f with
  | zero =>
    intro i hi h K
    have hg := getD_some mLoss0 hi
    have b : 0 ≤ (Int32.ofNat i).toInt ∧ (Int32.ofNat i).toInt < 200 := by rw [n32 (by omega)]; omega
    refine w_Ro_root_2 ⟨is_mk hK.2.1, oA_13036 hK b.1 b.2, ?_⟩
    rw [oG_13036 hK, n32c (by omega), hL.2.1 i _ hg]
    have hn := root_end 0 i h
    refine ⟨fun q => absurd hn ((hw i _ hg).1.mp q), fun _ => K⟩
  | succ f ih =>
    intro i hi h K
    have hg := getD_some mLoss0 hi
    have b : 0 ≤ (Int32.ofNat i).toInt ∧ (Int32.ofNat i).toInt < 200 := by rw [n32 (by omega)]; omega
    refine w_Ro_root_2 ⟨is_mk hK.2.1, oA_13036 hK b.1 b.2, ?_⟩
    rw [oG_13036 hK, n32c (by omega), hL.2.1 i _ hg]
    unfold m_parts5 at h
    unfold m_root at K
    split at h
    · rename_i hq
      rw [hq] at K
      exact ⟨fun q => absurd hq ((hw i _ hg).1.mp q), fun _ => K⟩
    · rename_i u hq
      rw [hq] at K
      refine ⟨fun _ => ⟨oA_13038 hK b.1 b.2, ?_⟩, fun q => absurd ((hw i _ hg).1.mpr (by rw [hq]; simp)) q⟩
      rw [oG_13038 hK, show am_aI σ (o + 29) i = ixO (Ls.getD i mLoss0).2.2.1 from hL.2.2.2.1 i _ hg, hq]
      rintro v5 rfl
      have hu := (hw i _ hg).2.1 u hq
      exact ih u (by omega) (by omega) K
theorem r_root {Ls : List mLoss} {l : Nat} {F : Int32 → am_S → Prop} (hK : OffK σ o) (hL : rLos σ o Ls) (hw : WfL Ls) (h200 : Ls.length ≤ 200) (hl : l < Ls.length) (K : F (Int32.ofNat (m_base Ls l)) σ) : k_Ro_root nl Ln xs (d + 1) o (Int32.ofNat l) σ F :=
  w_Ro_root (r_rootL hK hL hw h200 4 l hl (hw l _ (getD_some mLoss0 hl)).2.2.1 K)
theorem parts4 {Ls : List mLoss} : ∀ (f i : Nat), m_parts5 Ls (f + 1) i ≤ f → m_parts5 Ls f i = m_parts5 Ls (f + 1) i := by
  intro f
  induction f with
  | zero => intro i h; unfold m_parts5 at h ⊢; split at h <;> omega
  | succ f ih =>
    intro i h
    unfold m_parts5 at h
    rw [m_parts5.eq_def, m_parts5.eq_def Ls (f + 1 + 1)]
    simp only
    split at h
    · rfl
    · rename_i u hq
      rw [ih u (by omega)]
theorem r_part {m : Nat} {a : mArg} {M : mOff} {fnd : Int32} {F : Int32 → am_S → Prop} (hR : OffR σ o M) (hu : o_und M = false) (hA : ArgR σ m a) (hm : m = 1060 ∨ m = o + 61) (hl : (o_log M).length ≤ 440000) (h200 : (o_los M).length ≤ 200) (hw : WfL (o_los M))
    (K : ∀ σ' r, r = (if ¬ ((0 ≤ (a 0).toInt ∧ (a 0).toInt < (o_los M).length) ∧ m_rg (a 1) 1 100) then (-2, M, fnd) else if m_parts5 (o_los M) 4 (m_ix (a 0)) = 4 then (-3, M, fnd) else m_addLoss M fnd 9 a 5 ((o_los M).getD (m_ix (a 0)) mLoss0).2.1 (some (m_ix (a 0))) (a 1).toInt32) → OffR σ' o r.2.1 → Rc o raF raA [] σ σ' → F r.1 σ') : k_Ro_part nl Ln xs (d + 5) o (some m) σ F := by
  have hR0 := hR
  obtain ⟨hK, hN, hP, hRk, hPl, hPe, hRu, hSe, hLs, hC, hH, hG⟩ := hR
  have lo := hK.lo
  have hn := note_le 9 a
  rw [m_rlog0 hu] at hG
  have a0 := hA.2 0 (by decide)
  have a1 := hA.2 1 (by decide)
  have a2 := hA.2 2 (by decide)
  have a3 := hA.2 3 (by decide)
  have e0 : (0 : Int64).toInt = 0 := by decide
  have e1 : (1 : Int64).toInt = 1 := by decide
  have ed : (100 : Int64).toInt = 100 := by decide
  have el : (Int32.ofNat (o_los M).length - 1).toInt = (o_los M).length - 1 := by
    have : (1 : Int32).toInt = 1 := by decide
    rw [i32sub] <;> rw [n32 (by omega)] <;> omega
  have bad : ¬ ((0 ≤ (a 0).toInt ∧ (a 0).toInt < (o_los M).length) ∧ m_rg (a 1) 1 100) → F (-2) σ := fun h => K σ _ (by rw [if_pos h]) hR0 Rc.rf
  refine w_Ro_part ⟨ar_mk hA.1 (by decide) (by decide), is_mk hK.2.1, ?_⟩
  simp only [Option.getD_some, z0, z1, a0, hLs.1]
  refine r_in (fun c1 c2 => ⟨ar_mk hA.1 (by decide) (by decide), ?_⟩) (fun c => bad (fun q => c (by rw [e0, t64, el]; have := q.1; omega)))
  rw [t64, el] at c2
  simp only [a1]
  refine r_in (fun c3 c4 => ⟨ar_mk hA.1 (by decide) (by decide), ?_⟩) (fun c => bad (fun q => c (by rw [e1, ed]; exact q.2)))
  rw [a0]
  rintro v11 e11
  have hcond : (0 ≤ (a 0).toInt ∧ (a 0).toInt < (o_los M).length) ∧ m_rg (a 1) 1 100 := ⟨⟨by omega, by omega⟩, by omega, by omega⟩
  obtain ⟨i1, i2, i3, i4⟩ := ixI hcond.1.1 hcond.1.2 (by omega)
  rw [i1] at e11
  rw [e11]
  have hg := getD_some mLoss0 i2
  have hd := (hw _ _ hg).2.2.1
  have h45 : m_parts5 (o_los M) 4 (m_ix (a 0)) = m_parts5 (o_los M) 5 (m_ix (a 0)) := parts4 4 _ hd
  have loop : ∀ (f i k : Nat), i < (o_los M).length → m_parts5 (o_los M) (f + 1) i ≤ f → k + m_parts5 (o_los M) (f + 1) i = 1 + m_parts5 (o_los M) 5 (m_ix (a 0)) → c_Ro_part_40 nl Ln xs (d + 5) o (some m) (Int32.ofNat k) (Int32.ofNat i) σ F := by
    intro f
    induction f with
    | zero =>
      intro i k hi h hk
      have hgi := getD_some mLoss0 hi
      have b : 0 ≤ (Int32.ofNat i).toInt ∧ (Int32.ofNat i).toInt < 200 := by rw [n32 (by omega)]; omega
      refine w_Ro_part_40 ⟨is_mk hK.2.1, oA_13036 hK b.1 b.2, ?_⟩
      rw [oG_13036 hK, n32c (by omega), hLs.2.1 i _ hgi]
      have hn := root_end 0 i h
      refine ⟨fun q => absurd hn ((hw i _ hgi).1.mp q), fun _ => ?_⟩
      have hk2 : k = 1 + m_parts5 (o_los M) 5 (m_ix (a 0)) := by omega
      rw [show (4 : Int32) = Int32.ofNat 4 from rfl, n32lt (by decide) (by omega)]
      refine ⟨fun q => ?_, fun q => ?_⟩
      · refine K σ (-3, M, fnd) ?_ hR0 Rc.rf
        rw [if_neg (fun q => q hcond), if_pos (by omega)]
      · have hne : ¬ m_parts5 (o_los M) 4 (m_ix (a 0)) = 4 := by omega
        refine ⟨fun h => ?_, fun h => ?_⟩
        · refine K σ (-7, M, fnd) ?_ hR0 Rc.rf
          rw [if_neg (fun q => q hcond), if_neg hne]
          unfold m_addLoss
          rw [if_pos]
          rw [hLs.1] at h
          exact (n32i (b := 200) (Nat.lt_of_le_of_lt h200 (by decide)) (by decide)).mp h
        · have hq : (o_los M).length ≠ 200 := fun q => h (by rw [hLs.1, q]; rfl)
          simp only [Option.getD_some, z0, z1, a0, a1, i1, oG_13037 hK, n32c (show m_ix (a 0) < 2147483648 by omega), hLs.2.2.1 _ _ hg]
          refine ⟨ar_mk hA.1 (by decide) (by decide), oA_13037 hK (by rw [n32 (by omega)]; omega) (by rw [n32 (by omega)]; omega), ar_mk hA.1 (by decide) (by decide), ar_mk hA.1 (by decide) (by decide), ?_⟩
          refine r_newLoss (n := 9) (whole := some (m_ix (a 0))) hR0 hu hA hm hl (by omega) (by decide) (by decide) (by decide) rfl ?_
          intro s' hR' hr' _
          refine K s' (Int32.ofNat (o_los M).length, m_done (m_setLos M (o_los M ++ [(5, ((o_los M).getD (m_ix (a 0)) mLoss0).2.1, some (m_ix (a 0)), (a 1).toInt32, false, [])])) 9 a [], fnd) ?_ hR' hr'
          rw [if_neg (fun q => q hcond), if_neg hne]
          unfold m_addLoss
          rw [if_neg hq]
    | succ f ih =>
      intro i k hi h hk
      have hgi := getD_some mLoss0 hi
      have b : 0 ≤ (Int32.ofNat i).toInt ∧ (Int32.ofNat i).toInt < 200 := by rw [n32 (by omega)]; omega
      by_cases hn : ((o_los M).getD i mLoss0).2.2.1 = none
      · refine ih i k hi ?_ ?_
        · unfold m_parts5; rw [hn]; exact Nat.zero_le _
        · have e5 : m_parts5 (o_los M) (f + 1 + 1) i = 0 := by rw [m_parts5.eq_def]; simp only [hn]
          have e6 : m_parts5 (o_los M) (f + 1) i = 0 := by rw [m_parts5.eq_def]; simp only [hn]
          omega
      · refine w_Ro_part_40 ⟨is_mk hK.2.1, oA_13036 hK b.1 b.2, ?_⟩
        rw [oG_13036 hK, n32c (by omega), hLs.2.1 i _ hgi]
        refine ⟨fun _ => ⟨oA_13038 hK b.1 b.2, ?_⟩, fun q => absurd ((hw i _ hgi).1.mpr hn) q⟩
        obtain ⟨u, hq⟩ := Option.ne_none_iff_exists'.mp hn
        have hu' := (hw i _ hgi).2.1 u hq
        rw [oG_13038 hK, show am_aI σ (o + 29) i = ixO ((o_los M).getD i mLoss0).2.2.1 from hLs.2.2.2.1 i _ hgi, hq]
        rintro v5 rfl
        have e5 : m_parts5 (o_los M) (f + 1 + 1) i = m_parts5 (o_los M) (f + 1) u + 1 := by rw [m_parts5.eq_def]; simp only [hq]
        rw [e5] at h hk
        rw [n32s]
        exact ih u (k + 1) (by omega) (by omega) (by omega)
  exact loop 4 (m_ix (a 0)) 1 i2 hd rfl
theorem r_item {m : Nat} {a : mArg} {M : mOff} {fnd : Int32} {F : Int32 → am_S → Prop} (hR : OffR σ o M) (hu : o_und M = false) (hA : ArgR σ m a) (hm : m = 1060 ∨ m = o + 61) (hl : (o_log M).length ≤ 440000) (h200 : (o_los M).length ≤ 200) (hw : WfL (o_los M))
    (K : ∀ σ' r, r = (if ¬ ((0 ≤ (a 0).toInt ∧ (a 0).toInt < (o_los M).length) ∧ ((o_los M).getD (m_ix (a 0)) mLoss0).1 ≠ 5 ∧ m_rg (a 1) 0 9 ∧ m_rg (a 2) 0 1000000000000 ∧ m_rg (a 3) 0 1000000000000) then (-2, M, fnd)
    else if ((o_los M).getD (m_ix (a 0)) mLoss0).2.2.2.2.1 = true then (-3, M, fnd)
    else if (m_items (o_los M) (m_ix (a 0))).length = 6 then (-7, M, fnd)
    else (Int32.ofNat ((m_items (o_los M) (m_ix (a 0))).length + 1), m_done (m_setLos M ((o_los M).modify (m_ix (a 0)) (fun l => (l.1, l.2.1, l.2.2.1, l.2.2.2.1, l.2.2.2.2.1, l.2.2.2.2.2 ++ [((a 1).toInt32, a 2, a 3)])))) 10 a [], fnd)) → OffR σ' o r.2.1 → Rc o raF raA [] σ σ' → F r.1 σ') : k_Ro_item nl Ln xs (d + 4) o (some m) σ F := by
  have hR0 := hR
  obtain ⟨hK, hN, hP, hRk, hPl, hPe, hRu, hSe, hLs, hC, hH, hG⟩ := hR
  have lo := hK.lo
  have hn := note_le 10 a
  rw [m_rlog0 hu] at hG
  have a0 := hA.2 0 (by decide)
  have a1 := hA.2 1 (by decide)
  have a2 := hA.2 2 (by decide)
  have a3 := hA.2 3 (by decide)
  have e0 : (0 : Int64).toInt = 0 := by decide
  have e9 : (9 : Int64).toInt = 9 := by decide
  have ec : (1000000000000 : Int64).toInt = 1000000000000 := by decide
  have el : (Int32.ofNat (o_los M).length - 1).toInt = (o_los M).length - 1 := by
    have : (1 : Int32).toInt = 1 := by decide
    rw [i32sub] <;> rw [n32 (by omega)] <;> omega
  have bad : ¬ ((0 ≤ (a 0).toInt ∧ (a 0).toInt < (o_los M).length) ∧ ((o_los M).getD (m_ix (a 0)) mLoss0).1 ≠ 5 ∧ m_rg (a 1) 0 9 ∧ m_rg (a 2) 0 1000000000000 ∧ m_rg (a 3) 0 1000000000000) → F (-2) σ := fun h => K σ _ (by rw [if_pos h]) hR0 Rc.rf
  refine w_Ro_item ⟨ar_mk hA.1 (by decide) (by decide), is_mk hK.2.1, ?_⟩
  simp only [Option.getD_some, z0, z1, z2, z3, a0, hLs.1]
  refine r_in (fun c1 c2 => ⟨ar_mk hA.1 (by decide) (by decide), ?_⟩) (fun c => bad (fun q => c (by rw [e0, t64, el]; have := q.1; omega)))
  rw [t64, el] at c2
  obtain ⟨i1, i2, i3, i4⟩ := ixI (n := (o_los M).length) (v := a 0) (by omega) (by omega) (by omega)
  have hg := getD_some mLoss0 i2
  have b : 0 ≤ (Int32.ofNat (m_ix (a 0))).toInt ∧ (Int32.ofNat (m_ix (a 0))).toInt < 200 := by rw [n32 (by omega)]; omega
  have nc : (Int32.ofNat (m_ix (a 0))).toNatClampNeg = m_ix (a 0) := n32c (by omega)
  have k0 : am_aI σ (o + 27) (m_ix (a 0)) = ((o_los M).getD (m_ix (a 0)) mLoss0).1 := hLs.2.1 _ _ hg
  simp only [a0, i1, oG_13036 hK, nc, k0]
  refine ⟨oA_13036 hK b.1 b.2, fun c5 => bad (fun q => q.2.1 c5), fun c5 => ⟨ar_mk hA.1 (by decide) (by decide), ?_⟩⟩
  simp only [a1]
  refine r_in (fun c6 c7 => ⟨ar_mk hA.1 (by decide) (by decide), ?_⟩) (fun c => bad (fun q => c (by rw [e0, e9]; exact q.2.2.1)))
  simp only [a2]
  refine r_in (fun c8 c9 => ⟨ar_mk hA.1 (by decide) (by decide), ?_⟩) (fun c => bad (fun q => c (by rw [e0, ec]; exact q.2.2.2.1)))
  simp only [a3]
  refine r_in (fun c10 c11 => ⟨ar_mk hA.1 (by decide) (by decide), ?_⟩) (fun c => bad (fun q => c (by rw [e0, ec]; exact q.2.2.2.2)))
  have hcond : (0 ≤ (a 0).toInt ∧ (a 0).toInt < (o_los M).length) ∧ ((o_los M).getD (m_ix (a 0)) mLoss0).1 ≠ 5 ∧ m_rg (a 1) 0 9 ∧ m_rg (a 2) 0 1000000000000 ∧ m_rg (a 3) 0 1000000000000 := ⟨⟨by omega, by omega⟩, c5, ⟨by omega, by omega⟩, ⟨by omega, by omega⟩, by omega, by omega⟩
  rw [a0, i1]
  rintro v22 rfl
  have hit := (hw _ _ hg).2.2.2
  have k6 : am_aI σ (o + 32) (m_ix (a 0)) = b2i ((o_los M).getD (m_ix (a 0)) mLoss0).2.2.2.2.1 := hLs.2.2.2.2.2.2.1 _ _ hg
  have k5 : am_aI σ (o + 31) (m_ix (a 0)) = Int32.ofNat (m_items (o_los M) (m_ix (a 0))).length := hLs.2.2.2.2.2.1 _ _ hg
  have hit2 : (m_items (o_los M) (m_ix (a 0))).length ≤ 6 := hit
  simp only [oG_13041 hK, nc, k6]
  refine ⟨oA_13041 hK b.1 b.2, fun h0 => ⟨oA_13040 hK b.1 b.2, ?_, ?_⟩, fun h0 => ?_⟩
  · rw [oG_13040 hK, k5]
    intro h6
    refine K σ (-7, M, fnd) ?_ hR0 Rc.rf
    rw [if_neg (fun q => q hcond), if_neg, if_pos]
    · exact (n32i (b := 6) (by omega) (by decide)).mp h6
    · intro q; rw [q] at h0; exact absurd h0 (by decide)
  · rw [oG_13040 hK, k5]
    intro h6
    have hq : (m_items (o_los M) (m_ix (a 0))).length ≠ 6 := fun q => h6 (by rw [q]; rfl)
    refine ⟨oA_13040 hK b.1 b.2, ?_⟩
    rintro v29 e29
    have e29' : v29 = Int32.ofNat (6 * m_ix (a 0) + (m_items (o_los M) (m_ix (a 0))).length) := by
      rw [e29, show (6 : Int32) = Int32.ofNat 6 from rfl, ← Int32.ofNat_mul, n32a]
    rw [e29']
    have b29 : 0 ≤ (Int32.ofNat (6 * m_ix (a 0) + (m_items (o_los M) (m_ix (a 0))).length)).toInt ∧ (Int32.ofNat (6 * m_ix (a 0) + (m_items (o_los M) (m_ix (a 0))).length)).toInt < 1200 := by rw [n32 (by omega)]; omega
    have n29 : (Int32.ofNat (6 * m_ix (a 0) + (m_items (o_los M) (m_ix (a 0))).length)).toNatClampNeg = 6 * m_ix (a 0) + (m_items (o_los M) (m_ix (a 0))).length := n32c (by omega)
    have k1 := hLs.1
    have r0 : Rc o [] [31, 33, 34, 35] [] σ σ := Rc.rf
    simp only [oG_13042 hK, n29, a1]
    refine ⟨ar_mk hA.1 (by decide) (by decide), oA_13042 hK b29.1 b29.2, ?_⟩
    rintro s1 e1
    have r1 : Rc o [] [31, 33, 34, 35] [] σ s1 := r0.trans (by rw [e1]; exact Rc.saI (by decide))
    have hK1 := hK.rc r1
    have hA1 := hA.rc hm lo r1 (by decide) (by decide) (by simp)
    have f1 := (r1.fI (g := 13035) (c := o) (by decide)).trans k1
    simp only [oG_13043 hK1, n29, hA1.2 2 (by decide)]
    refine ⟨ar_mk hA1.1 (by decide) (by decide), oA_13043 hK1 b29.1 b29.2, ?_⟩
    rintro s2 e2
    have r2 : Rc o [] [31, 33, 34, 35] [] σ s2 := r1.trans (by rw [e2]; exact Rc.saL (by decide))
    have hK2 := hK.rc r2
    have hA2 := hA.rc hm lo r2 (by decide) (by decide) (by simp)
    have f2 := (r2.fI (g := 13035) (c := o) (by decide)).trans k1
    simp only [oG_13044 hK2, n29, hA2.2 3 (by decide)]
    refine ⟨ar_mk hA2.1 (by decide) (by decide), oA_13044 hK2 b29.1 b29.2, ?_⟩
    rintro s3 e3
    have r3 : Rc o [] [31, 33, 34, 35] [] σ s3 := r2.trans (by rw [e3]; exact Rc.saL (by decide))
    have hK3 := hK.rc r3
    have hA3 := hA.rc hm lo r3 (by decide) (by decide) (by simp)
    have f3 := (r3.fI (g := 13035) (c := o) (by decide)).trans k1
    have k53 : am_aI s3 (o + 31) (m_ix (a 0)) = Int32.ofNat (m_items (o_los M) (m_ix (a 0))).length := by
      rw [e3, e2, e1]
      show am_up (am_aI σ) (o + 33) _ _ (o + 31) _ = _
      rw [am_up_ne1 (by omega)]
      exact k5
    simp only [oG_13040 hK3, nc, k53, n32s]
    refine ⟨oA_13040 hK3 b.1 b.2, oA_13040 hK3 b.1 b.2, ?_⟩
    rintro s25 e25
    have r25 : Rc o [] [31, 33, 34, 35] [] σ s25 := r3.trans (by rw [e25]; exact Rc.saI (by decide))
    have hK25 := hK.rc r25
    have hA25 := hA.rc hm lo r25 (by decide) (by decide) (by simp)
    have f25 := (r25.fI (g := 13035) (c := o) (by decide)).trans k1
    have ea : ∀ k i, am_aI s25 (o + k) i = am_up (am_up (am_aI σ) (o + 33) (6 * m_ix (a 0) + (m_items (o_los M) (m_ix (a 0))).length) (a 1).toInt32) (o + 31) (m_ix (a 0)) (Int32.ofNat ((m_items (o_los M) (m_ix (a 0))).length + 1)) (o + k) i := by intro k i; rw [e25, e3, e2, e1]
    have eL : ∀ k i, am_aL s25 (o + k) i = am_up (am_up (am_aL σ) (o + 34) (6 * m_ix (a 0) + (m_items (o_los M) (m_ix (a 0))).length) (a 2)) (o + 35) (6 * m_ix (a 0) + (m_items (o_los M) (m_ix (a 0))).length) (a 3) (o + k) i := by intro k i; rw [e25, e3, e2, e1]
    obtain ⟨g1, g2, g3, g4, g5, g6, g7, g8⟩ := hLs
    have keepA : ∀ k, k ∉ [31, 33, 34, 35] → ∀ i, am_aI s25 (o + k) i = am_aI σ (o + k) i := fun k hk i => r25.aI lo (by simp) hk
    have R3 : OffR s25 o (m_setLos M ((o_los M).modify (m_ix (a 0)) (fun l => (l.1, l.2.1, l.2.2.1, l.2.2.2.1, l.2.2.2.2.1, l.2.2.2.2.2 ++ [((a 1).toInt32, a 2, a 3)])))) := by
      refine ⟨hK25, ⟨(r25.fI (by decide)).trans hN.1, (r25.fI (by decide)).trans hN.2.1, (r25.fI (by decide)).trans hN.2.2.1, (r25.fI (by decide)).trans hN.2.2.2.1, (r25.fI (by decide)).trans hN.2.2.2.2⟩, kPol.rc hP r25 lo (by decide), kRnk.rc hRk r25 lo (by decide), kPla.rc hPl r25 lo (by decide), kPer.rc hPe r25 lo (by decide), kRul.rc hRu r25 lo (by decide), kSet.rc hSe r25 lo (by decide), ⟨?_, (g2.eq (keepA 27 (by decide))).modS (fun x => rfl), (g3.eq (keepA 28 (by decide))).modS (fun x => rfl), (g4.eq (keepA 29 (by decide))).modS (fun x => rfl), (g5.eq (keepA 30 (by decide))).modS (fun x => rfl), g6.mod mLoss0 (fun j => ?_), (g7.eq (keepA 32 (by decide))).modS (fun x => rfl), ?_⟩, kCas.rc hC r25 lo (by decide), kHel.rc hH r25 lo (by decide), ?_⟩
      · show am_fI s25 13035 o = Int32.ofNat ((o_los M).modify _ _).length
        rw [f25, List.length_modify]
      · rw [ea]
        by_cases hj : j = m_ix (a 0)
        · rw [if_pos hj, hj]
          simp [am_up, m_items]
        · rw [if_neg hj, am_up_ne2 hj, am_up_ne1 (by omega)]
      · intro i l hl' j x hx
        rw [ea, eL, eL]
        rcases get_mod hl' with ⟨q1, y, q2, q3⟩ | ⟨q1, q2⟩
        · subst q1
          have hy : y = (o_los M).getD (m_ix (a 0)) mLoss0 := by rw [getD_of mLoss0 q2]
          subst q3
          rcases get_push hx with ⟨p1, p2⟩ | ⟨p1, p2⟩
          · have p1' : j = (m_items (o_los M) (m_ix (a 0))).length := by rw [p1, hy]; rfl
            subst p2
            rw [p1']
            simp [am_up]
          · have p1' : j < (m_items (o_los M) (m_ix (a 0))).length := by rw [hy] at p1; exact p1
            have := g8 _ y q2 j x p2
            have hne : 6 * m_ix (a 0) + j ≠ 6 * m_ix (a 0) + (m_items (o_los M) (m_ix (a 0))).length := by omega
            simp only [am_up, if_neg hne]
            simpa using this
        · have h6' := (hw i l q2).2.2.2
          have hj := lt_of_get hx
          have := g8 i l q2 j x hx
          have hne : 6 * i + j ≠ 6 * m_ix (a 0) + (m_items (o_los M) (m_ix (a 0))).length := by omega
          simp only [am_up, if_neg hne]
          simpa using this
      · exact LogR_rlog hu (kLog.rc hG r25 lo (by decide))
    have k525 : am_aI s25 (o + 31) (m_ix (a 0)) = Int32.ofNat ((m_items (o_los M) (m_ix (a 0))).length + 1) := by rw [ea]; simp [am_up]
    simp only [oG_13040 hK25, nc, k525]
    refine ⟨oA_13040 hK25 b.1 b.2, ?_⟩
    refine r_done (t := []) (n := 10) hK25 (kLog.rc hG r25 lo (by decide)) (hA.rc hm lo r25 (by decide) (by decide) (by simp)) (by decide) (by decide) hm (fun h => absurd h (by decide)) (by omega) ?_
    intro s' h0' hL' hc' _
    refine K s' (Int32.ofNat ((m_items (o_los M) (m_ix (a 0))).length + 1), m_done (m_setLos M ((o_los M).modify (m_ix (a 0)) (fun l => (l.1, l.2.1, l.2.2.1, l.2.2.2.1, l.2.2.2.2.1, l.2.2.2.2.2 ++ [((a 1).toInt32, a 2, a 3)])))) 10 a [], fnd) ?_ (OffR.done (fs := []) (as := []) hu R3 (by rw [h0', R3.2.1.1]) hL' hc') ((r25.all (by decide)).trans (hc'.all (by decide)))
    rw [if_neg (fun q => q hcond), if_neg, if_neg hq]
    intro q
    rw [q] at h0
    exact absurd h0 (by decide)
  · refine K σ (-3, M, fnd) ?_ hR0 Rc.rf
    rw [if_neg (fun q => q hcond), if_pos]
    cases hb : ((o_los M).getD (m_ix (a 0)) mLoss0).2.2.2.2.1
    · rw [hb] at h0; exact absurd rfl h0
    · rfl
end
