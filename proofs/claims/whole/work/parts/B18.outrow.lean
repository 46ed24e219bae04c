/-! THE CLASS: the row of OUT, all of it -/
section
variable {nl : Bool} {Ln : Nat} {xs : Nat → Int32} {d : Nat} {σ σ1 : am_S} {w : ow_T} {wk ab v b : Nat} {P : List mPol} {T : List mTell} {Ls : List mLoss} {Cs : List mCase} {i : Nat} {x : mCase} {cc lc : Nat} {day at' : Int32} {C : List mCl} {p pc : Nat} {q : mPol} {hd : Option Nat} {sum worth s : Int64} {rows : List mRow} {tr : List Int32} {fnd : Int32} {ov : Bool} {fs as vs va : List Nat}
theorem wk_outRow {F : am_S → Prop} (hw : WfD P T Ls Cs) (hC : ∀ c ∈ C, WfCl c ∧ ∀ f, c.2.2 = some f → hgt f ≤ 400 ∧ ndep f ≤ 64) (h13 : rows.length < 13) (X : WkX σ w wk ab v b P T Ls Cs i x cc lc day at' C p pc q hd sum worth s rows tr 0 false)
    (K1 : (m_ld Ls x < q.2.1 ∨ q.2.2 < m_ld Ls x) → ∀ σ', WkX σ' w wk ab v b P T Ls Cs i x cc lc day at' C p pc q hd sum worth 0 (rows ++ [(1, -2, -s)]) tr 0 true → WkC wk ab v σ σ' → F σ')
    (K2 : ¬ (m_ld Ls x < q.2.1 ∨ q.2.2 < m_ld Ls x) → (q.1 = 3 ∧ (Ls.getD x.2.2.1 mLoss0).1 ≠ 4) → ∀ σ', WkX σ' w wk ab v b P T Ls Cs i x cc lc day at' C p pc q hd sum worth s rows (tr ++ [80]) 2 true → WkC wk ab v σ σ' → F σ')
    (K3 : ¬ (m_ld Ls x < q.2.1 ∨ q.2.2 < m_ld Ls x) → ¬ (q.1 = 3 ∧ (Ls.getD x.2.2.1 mLoss0).1 ≠ 4) → ∀ (ou : mTr (Bool × Int32)), ou = m_outs Ls x day at' C (m_covers (m_lis Ls x.2.2.1) (decide ((Ls.getD x.2.2.1 mLoss0).1 = 4)) (m_items Ls x.2.2.1).length q.1) → ∀ σ', (if ou.1.1 = false then WkX σ' w wk ab v b P T Ls Cs i x cc lc day at' C p pc q hd sum worth 0 (rows ++ [(1, ou.1.2, -s)]) (tr ++ ou.2) 0 true else WkX σ' w wk ab v b P T Ls Cs i x cc lc day at' C p pc q hd sum worth s rows (tr ++ ou.2) 0 false) → WkC wk ab v σ σ' → F σ') : k_Wk_outRow nl Ln xs (d + 412) wk σ F := by
  have hp := X.pol
  have hl := X.los
  have hk := polK hw X.2.1.2.1 X.2.1.2.2.2.1
  have out : (m_ld Ls x < q.2.1 ∨ q.2.2 < m_ld Ls x) → c_Wk_outRow_34 nl Ln xs (d + 412) wk σ F := fun z => w_Wk_outRow_34 ⟨is_mk X.1.1.2.2.1, wk_endWith X.1 h13 (fun s2 B2 r2 _ => K1 z s2 (X.rw B2 r2) r2)⟩
  have sub : ∀ {s1 : am_S}, AsC wk ab v σ s1 → WkC wk ab v σ s1 := fun r => Wc.mono r (by simp) (by simp) (by decide) (by decide)
  refine w_Wk_outRow ⟨is_mk X.1.1.2.2.1, ?_⟩
  rw [X.1.1.2.2.2.2.2.2.2.1, X.2.1.1, Option.getD_some, Option.getD_some, hl.2.2.2.2.2.1, hp.2.2.2.2.1, hp.2.2.2.2.2.1, hp.2.2.2.2.2.2.1, (askPv hk.1 hk.2.1).1]
  refine ⟨is_mk hl.2.1, is_mk hp.2.1, fun z => out (Or.inl z), fun z => ⟨fun z2 => out (Or.inr z2), fun z2 => ⟨X.1.1.2.1 505 (by decide), hk.1, (askPv hk.1 hk.2.1).2, ?_⟩⟩⟩
  have hin : ¬ (m_ld Ls x < q.2.1 ∨ q.2.2 < m_ld Ls x) := fun y => y.elim z z2
  by_cases h8 : q.1 = 3 ∧ (Ls.getD x.2.2.1 mLoss0).1 ≠ 4
  · rw [h8.1]
    refine as_cov80 (d := d + 399) hw.2.2.1 X.1.1 h8.2 (fun s1 E1 r1 _ => ?_)
    have rr : WkC wk ab v σ s1 := r1.mono (by simp) (by simp) (by decide) (by decide)
    rw [E1.2.2.2.1, Option.getD_some, E1.2.2.2.2.1.2.2.2.2]
    refine ⟨is_mk E1.2.2.2.2.1.1.1, fun y => absurd y (by decide), fun _ => K2 hin h8 s1 (X.wc rr (by decide) (by simp) (by simp) (by decide) E1.2.2.2.2.1 ((r1.fL (by simp) (by decide)).trans X.1.2.2.2.1.2.2) ((r1.fL (by simp) (by decide)).trans X.2.2.2.2)) rr⟩
  · refine as_covers (d := d + 399) hw.2.2.1 hk.1 hk.2.1 X.1.1 (fun z3 => ?_) (fun s1 E1 r1 _ => ?_)
    · by_cases z4 : (Ls.getD x.2.2.1 mLoss0).1 = 4
      · exact z4
      · exact absurd ⟨z3, z4⟩ h8
    · have X1 := X.ask E1 r1
      rw [E1.2.2.2.1, Option.getD_some, E1.2.2.2.2.1.2.2.2.2, X1.2.1.2.2.2.2.1]
      refine ⟨is_mk E1.2.2.2.2.1.1.1, fun _ => ?_, fun y => absurd rfl y⟩
      rintro v17 rfl
      have K3' := K3 hin h8 _ rfl
      generalize hcov : m_covers (m_lis Ls x.2.2.1) (decide ((Ls.getD x.2.2.1 mLoss0).1 = 4)) (m_items Ls x.2.2.1).length q.1 = cov at X1 K3' ⊢
      have eb : (if (if cov.1 = true then (1 : Int64) else 0) = 1 then (1 : Int32) else 0) = b2i cov.1 := by cases cov.1 <;> rfl
      rw [eb]
      refine wk_outL (d := d) hw C 0 cov.1 (-1) _ none s1 (tr ++ cov.2) hC X1.2.1.2.2.2.2.2 X1 (fun s2 X2 r2 k' x5 => ?_)
      have ra := sub (Wc.trans r1 r2)
      rw [List.append_assoc] at X2
      have eo : m_outs Ls x day at' C cov = ((m_outL (m_lis Ls x.2.2.1) (m_hold Ls x day at') cov.1 (-1) 0 C).1, cov.2 ++ (m_outL (m_lis Ls x.2.2.1) (m_hold Ls x day at') cov.1 (-1) 0 C).2) := rfl
      rw [eo] at K3'
      refine w_Wk_outRow_96 ⟨fun _ => ⟨fun y => ⟨is_mk X2.1.1.2.2.1, wk_endWith X2.1 h13 (fun s4 B4 r4 _ => K3' s4 ?_ (ra.trans r4))⟩, fun y => K3' s2 ?_ ra⟩, fun y => absurd rfl y⟩
      · rw [if_pos (b2i0.mp y)]
        exact X2.rw B4 r4
      · rw [if_neg (fun z => y (b2i0.mpr z))]
        exact X2
end
