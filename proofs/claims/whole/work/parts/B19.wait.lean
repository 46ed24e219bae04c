/-! THE CLASS: the rows of WAIT and AVERAGE -/
theorem told_rng2 {C : List mCl} (hC : ∀ c ∈ C, WfCl c) (code : Int32) : m_told C code = -1 ∨ (0 ≤ (m_told C code).toInt ∧ (m_told C code).toInt < 1000000000) := by
  unfold m_told
  refine m_last_mem _ _ (fun v : Int64 => v = -1 ∨ (0 ≤ v.toInt ∧ v.toInt < 1000000000)) _ _ (Or.inl rfl) ?_
  intro cl hcl
  have := hC cl hcl
  right
  rw [t64]
  exact ⟨this.2.2.1, this.2.2.2.1⟩
theorem allOf_rng2 {f : Nat → Int64} (h : ∀ k, 0 ≤ (f k).toInt ∧ (f k).toInt ≤ 1000000000000) : ∀ n : Nat, n ≤ 6 → 0 ≤ (m_allOf f n).toInt ∧ (m_allOf f n).toInt ≤ 1000000000000 * n
  | 0, _ => by
    show 0 ≤ (0 : Int64).toInt ∧ (0 : Int64).toInt ≤ _
    rw [show (0 : Int64).toInt = 0 by decide]
    omega
  | n + 1, hn => by
    have h1 := allOf_rng2 h n (by omega)
    have h2 := h n
    show 0 ≤ (m_allOf f n + f n).toInt ∧ (m_allOf f n + f n).toInt ≤ _
    rw [i64add (by omega) (by omega)]
    omega
theorem max_less {s z : Int64} (h0 : 0 ≤ s.toInt) (h1 : s.toInt ≤ 10000000000000) (hz : 0 ≤ z.toInt) : (if s - z < 0 then 0 else s - z) = (if z < s then s - z else 0) := by
  have zl : z.toInt ≤ 9223372036854775807 := Int64.toInt_le z
  have hs : (s - z).toInt = s.toInt - z.toInt := i64sub (by omega) (by omega)
  have z0 : (0 : Int64).toInt = 0 := by decide
  by_cases h : z < s
  · have h' := i64lt.mp h
    rw [if_pos h, if_neg (by rw [i64lt, hs, z0]; omega)]
  · have h' : ¬ z.toInt < s.toInt := fun q => h (i64lt.mpr q)
    rw [if_neg h]
    by_cases h2 : s - z < 0
    · rw [if_pos h2]
    · rw [if_neg h2]
      rw [i64lt, hs, z0] at h2
      rw [i64e, hs, z0]
      omega
section
variable {nl : Bool} {Ln : Nat} {xs : Nat → Int32} {d : Nat} {σ σ1 : am_S} {w : ow_T} {wk ab v b : Nat} {P : List mPol} {T : List mTell} {Ls : List mLoss} {Cs : List mCase} {i : Nat} {x : mCase} {cc lc : Nat} {day at' : Int32} {C : List mCl} {p pc : Nat} {q : mPol} {hd : Option Nat} {sum worth s : Int64} {rows : List mRow} {tr : List Int32} {fnd : Int32} {ov : Bool} {fs as vs va : List Nat}
theorem sub_as {wk ab v : Nat} {σ s1 : am_S} (r : AsC wk ab v σ s1) : WkC wk ab v σ s1 := Wc.mono r (by simp) (by simp) (by decide) (by decide)
theorem wk_waitRow {F : am_S → Prop} (hw : WfD P T Ls Cs) (hC : ∀ c ∈ C, WfCl c) (h13 : rows.length < 13) (X : WkX σ w wk ab v b P T Ls Cs i x cc lc day at' C p pc q hd sum worth s rows tr 0 false)
    (K : ∀ wt : mTr Int32, wt = m_waits (m_lis Ls x.2.2.1) q.1 → ∀ σ', (if (m_ld Ls x).toInt < q.2.1.toInt + (m_days C wt.1).toInt then WkX σ' w wk ab v b P T Ls Cs i x cc lc day at' C p pc q hd sum worth 0 (rows ++ [(2, (m_days C wt.1).toInt32, -s)]) (tr ++ wt.2) 0 true else WkX σ' w wk ab v b P T Ls Cs i x cc lc day at' C p pc q hd sum worth s rows (tr ++ wt.2) 0 false) → WkC wk ab v σ σ' → F σ') : k_Wk_waitRow nl Ln xs (d + 13) wk σ F := by
  have hp := X.pol
  have hk := polK hw X.2.1.2.1 X.2.1.2.2.2.1
  refine w_Wk_waitRow ⟨is_mk X.1.1.2.2.1, ?_⟩
  rw [X.1.1.2.2.2.2.2.2.2.1, X.2.1.1, Option.getD_some, hp.2.2.2.2.1, (askPv hk.1 hk.2.1).1]
  refine ⟨is_mk hp.2.1, X.1.1.2.1 505 (by decide), hk.1, (askPv hk.1 hk.2.1).2, as_waits (d := d) hw.2.2.1 hk.1 hk.2.1 X.1.1 (fun s1 E1 r1 _ => ?_)⟩
  have X1 := X.ask E1 r1
  have K' := K _ rfl
  have h1 := waits_rng (m_lis Ls x.2.2.1) q.1
  generalize m_waits (m_lis Ls x.2.2.1) q.1 = wt at X1 K' h1 ⊢
  refine wk_numberOf (d := d + 10) (code := 7) X1.1.1.2.2.1 X1.2.1.2.2.2.2.1 X1.2.1.2.2.2.2.2 hC (op_ok (a := 6) (c := 7) (by decide) (by decide)) (by simp) (fun _ => w_Math_max ?_)
  have h2 := told_rng2 hC 7
  have hm1 : (-1 : Int64).toInt = -1 := by decide
  have z0 : (0 : Int64).toInt = 0 := by decide
  have ed : (if wt.1.toInt64 < (if m_told C 7 = -1 then 0 else m_told C 7) then (if m_told C 7 = -1 then 0 else m_told C 7) else wt.1.toInt64) = m_days C wt.1 := by
    unfold m_days
    by_cases h : m_told C 7 = -1
    · rw [if_pos h, if_neg (by rw [i64lt, t64, z0]; omega), if_neg (by rw [h, i64lt, t64, hm1]; omega)]
    · rw [if_neg h]
  rw [ed]
  rintro w3 rfl
  intro _
  have hr0 : 0 ≤ (m_days C wt.1).toInt ∧ (m_days C wt.1).toInt < 1000000000 := by
    unfold m_days
    by_cases h : wt.1.toInt64 < m_told C 7
    · rw [if_pos h]
      rw [i64lt, t64] at h
      rcases h2 with h2 | h2
      · rw [h2, hm1] at h; omega
      · exact h2
    · rw [if_neg h, t64]; omega
  rintro v12 rfl
  have hp1 := X1.pol
  have hl1 := X1.los
  have e32 : (m_days C wt.1).toInt32.toInt = (m_days C wt.1).toInt := t32 (by omega) (by omega)
  rw [X1.1.1.2.2.2.2.2.2.2.1, X1.2.1.1, Option.getD_some, Option.getD_some, hl1.2.2.2.2.2.1, hp1.2.2.2.2.2.1]
  have ec : (Ls.getD x.2.2.1 mLoss0).2.1 < q.2.1 + (m_days C wt.1).toInt32 ↔ (m_ld Ls x).toInt < q.2.1.toInt + (m_days C wt.1).toInt := by
    rw [i32lt, i32add (by rw [e32]; omega) (by rw [e32]; omega), e32]
  refine ⟨is_mk hl1.2.1, is_mk hp1.2.1, fun h => wk_endWith X1.1 h13 (fun s2 B2 r2 _ => ?_), fun h => ?_⟩
  · exact K' s2 (by rw [if_pos (ec.mp h)]; exact X1.rw B2 r2) ((sub_as r1).trans r2)
  · exact K' s1 (by rw [if_neg (fun z => h (ec.mpr z))]; exact X1) (sub_as r1)
theorem wk_averageRow {F : am_S → Prop} (hw : WfD P T Ls Cs) (hC : ∀ c ∈ C, WfCl c) (h13 : rows.length < 13) (hs0 : 0 ≤ s.toInt) (hs1 : s.toInt ≤ 6000000000000) (hsum : 0 ≤ sum.toInt) (X : WkX σ w wk ab v b P T Ls Cs i x cc lc day at' C p pc q hd sum worth s rows tr 0 false)
    (K : ∀ av : mTr Bool, av = m_averages (m_lis Ls x.2.2.1) q.1 → ∀ σ', (if av.1 = false ∧ m_told C 8 = -1 then WkX σ' w wk ab v b P T Ls Cs i x cc lc day at' C p pc q hd sum worth s rows (tr ++ av.2) 0 false else if m_great s sum = true then WkX σ' w wk ab v b P T Ls Cs i x cc lc day at' C p pc q hd sum worth s rows (tr ++ av.2) 5 true else if m_all Ls x day at' 1 = 0 then WkX σ' w wk ab v b P T Ls Cs i x cc lc day at' C p pc q hd sum worth s rows (tr ++ av.2) 4 true else WkX σ' w wk ab v b P T Ls Cs i x cc lc day at' C p pc q hd sum worth (m_less (rows, s) 3 0 (if s * sum / m_all Ls x day at' 1 < s then s - s * sum / m_all Ls x day at' 1 else 0)).2 (m_less (rows, s) 3 0 (if s * sum / m_all Ls x day at' 1 < s then s - s * sum / m_all Ls x day at' 1 else 0)).1 (tr ++ av.2) 0 false) → WkC wk ab v σ σ' → F σ') : k_Wk_averageRow nl Ln xs (d + 13) wk σ F := by
  have hp := X.pol
  have hk := polK hw X.2.1.2.1 X.2.1.2.2.2.1
  have hbl : m_base Ls x.2.2.1 < Ls.length := by have hlt := X.1.1.2.2.2.2.2.2.2.2.2; have := root_lt hw.2.2.1.2.1 4 x.2.2.1 hlt; unfold m_base; omega
  have h6 : (m_items Ls (m_base Ls x.2.2.1)).length ≤ 6 := (hw.2.2.1.2.1 _ _ (getD_some mLoss0 hbl)).2.2.2
  have hV : 0 ≤ (m_all Ls x day at' 1).toInt ∧ (m_all Ls x day at' 1).toInt ≤ 1000000000000 * (m_items Ls (m_base Ls x.2.2.1)).length := allOf_rng2 (fun k => amt_rng hw X.1.2.2.1.2.1 k 1) _ h6
  refine w_Wk_averageRow ⟨is_mk X.1.1.2.2.1, ?_⟩
  rw [X.1.1.2.2.2.2.2.2.2.1, X.2.1.1, Option.getD_some, hp.2.2.2.2.1, (askPv hk.1 hk.2.1).1]
  refine ⟨is_mk hp.2.1, X.1.1.2.1 505 (by decide), hk.1, (askPv hk.1 hk.2.1).2, as_averages (d := d) hw.2.2.1 hk.1 hk.2.1 X.1.1 (fun s1 E1 r1 _ => ?_)⟩
  have X1 := X.ask E1 r1
  have K' := K _ rfl
  generalize m_averages (m_lis Ls x.2.2.1) q.1 = av at X1 K' ⊢
  have eb : (if (if av.1 = true then (1 : Int64) else 0) = 1 then (1 : Int32) else 0) = b2i av.1 := by cases av.1 <;> rfl
  rw [eb]
  have z0 : (0 : Int64).toInt = 0 := by decide
  have main : ∀ y0 : Int32, ¬ (av.1 = false ∧ m_told C 8 = -1) → c_Wk_averageRow_50 nl Ln xs (d + 13) wk y0 s1 F := by
    intro y0 hn
    refine w_Wk_averageRow_50 ⟨is_mk X1.1.1.2.2.1, ?_⟩
    rw [X1.1.2.2.2.1.2.2, X1.2.2.2.1]
    refine wk_times (d := d + 11) X1.1 hs0 hsum (fun hg s2 B2 r2 _ => ?_) (fun hg _ => ?_)
    · have X2 := X1.wc r2 (by decide) (by simp) (by simp) (by simp) B2.1.2.2.2.2.1 B2.2.2.2.1.2.2 ((r2.fL (by simp) (by decide)).trans X1.2.2.2.2)
      have r2' : WkC wk ab v s1 s2 := r2.mono (by simp) (by simp) (by decide) (by simp)
      refine wk_sumOfMoney (d := d + 11) (what := 1) X2.1.1.2.2.1 h6 (Or.inr rfl) X2.2.2.1 (fun _ => ?_)
      have V2 := X2.1.1.2.2.2.2.1
      rw [X2.1.1.2.2.2.1, Option.getD_some, V2.2.2.2.2]
      refine ⟨is_mk V2.1.1, fun y => absurd y (by decide), fun _ => w_Wk_averageRow_95 ⟨is_mk X2.1.1.2.2.1, ?_⟩⟩
      rw [X2.1.1.2.2.2.1, Option.getD_some, V2.2.2.2.2]
      refine ⟨is_mk V2.1.1, fun y => absurd y (by decide), fun _ => K' s2 ?_ ((sub_as r1).trans r2')⟩
      rw [if_neg hn, if_pos hg]
      exact X2
    · have hg' : ¬ m_great s sum = true := fun y => by rw [hg] at y; exact absurd y (by decide)
      have V1 := X1.1.1.2.2.2.2.1
      refine wk_sumOfMoney (d := d + 11) (what := 1) X1.1.1.2.2.1 h6 (Or.inr rfl) X1.2.2.1 (fun _ => ?_)
      have ea : m_allOf (fun i => m_amt Ls x day at' i (Int32.ofNat 1)) (m_items Ls (m_base Ls x.2.2.1)).length = m_all Ls x day at' 1 := rfl
      rw [ea, X1.1.1.2.2.2.1, Option.getD_some, V1.2.2.2.2]
      refine ⟨is_mk V1.1.1, fun _ => ⟨fun h0 => vw_fail (d := d + 11) V1 X1.1.1.1 (fun s3 V3 r3 _ => ?_), fun h0 => ?_⟩, fun y => absurd rfl y⟩
      · have X3 := X1.wc r3 (by decide) (by simp) (by simp) (by simp) V3 ((r3.fL (by simp) (by decide)).trans X1.1.2.2.2.1.2.2) ((r3.fL (by simp) (by decide)).trans X1.2.2.2.2)
        have r3' : WkC wk ab v s1 s3 := r3.mono (by simp) (by simp) (by decide) (by simp)
        refine w_Wk_averageRow_95 ⟨is_mk X3.1.1.2.2.1, ?_⟩
        rw [X3.1.1.2.2.2.1, Option.getD_some, V3.2.2.2.2]
        refine ⟨is_mk V3.1.1, fun y => absurd y (by decide), fun _ => K' s3 ?_ ((sub_as r1).trans r3')⟩
        rw [if_neg hn, if_neg hg', if_pos h0]
        exact X3
      · refine w_Wk_averageRow_95 ⟨is_mk X1.1.1.2.2.1, ?_⟩
        rw [X1.1.1.2.2.2.1, Option.getD_some, V1.2.2.2.2, X1.1.2.2.2.1.2.2]
        have hpr : (s * sum).toInt = s.toInt * sum.toInt := by
          have hng : ¬ 4611686018427387904 < s.toInt * sum.toInt := fun y => hg' (decide_eq_true y)
          have := Int.mul_nonneg hs0 hsum
          exact i64mul (by omega) (by omega)
        have hvp : 0 < (m_all Ls x day at' 1).toInt := by
          have : (m_all Ls x day at' 1).toInt ≠ 0 := fun y => h0 (by rw [i64e, y, z0])
          omega
        have hq0 : 0 ≤ (s * sum / m_all Ls x day at' 1).toInt := by
          have := Int.mul_nonneg hs0 hsum
          rw [i64div (by rw [hpr]; exact this) hvp, hpr]
          exact Int.ediv_nonneg this (by omega)
        refine ⟨is_mk V1.1.1, fun _ => ⟨h0, w_Math_max ?_⟩, fun y => absurd rfl y⟩
        rw [max_less hs0 (by omega) hq0]
        rintro w3 rfl
        intro _
        refine wk_less X1.1 h13 (by decide) (fun s7 B7 r7 _ => K' s7 ?_ ((sub_as r1).trans r7))
        rw [if_neg hn, if_neg hg', if_neg h0]
        exact X1.rw B7 r7
  have h8 : opOk (Int32.ofNat 7) (Int32.ofNat 8) := op_ok (by decide) (by decide)
  have ef := told_find hC h8
  have te := told_eq C 8
  refine w_Wk_averageRow_32 ⟨fun y => ⟨is_mk X1.1.1.2.2.1, ?_⟩, fun y => main _ (fun z => y (b2i0.mpr z.1))⟩
  rw [X1.2.1.2.2.2.2.1]
  refine nd_lastOf (d := d + 11) (op := 7) X1.2.1.2.2.2.2.2 (fun g _ => ⟨fun _ => K' s1 ?_ (sub_as r1), fun z => absurd rfl z⟩) (fun c e g hn _ => ⟨fun z => absurd z (by simp), fun _ => main _ (fun z => ?_)⟩)
  · have g' : C.reverse.find? (fun c => decide (c.1 = 8)) = none := ef.symm.trans g
    rw [g'] at te
    rw [if_pos ⟨b2i0.mp y, te⟩]
    exact X1
  · have g' : C.reverse.find? (fun c => decide (c.1 = 8)) = some c := ef.symm.trans g
    rw [g'] at te
    have := (hC c (List.mem_reverse.mp (List.mem_of_find?_eq_some g))).2.2.1
    have t2 : m_told C 8 = c.2.1.toInt64 := te
    have z2 := z.2
    rw [t2, i64e, t64, show (-1 : Int64).toInt = -1 by decide] at z2
    omega
end
