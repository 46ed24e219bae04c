/-! THE CLASS: from the row of SELF on -/
theorem t3264 (a : Int32) : a.toInt64.toInt32 = a := by simp
theorem own_eq {C : List mCl} {s : Int64} (h0 : 0 ≤ s.toInt) : m_least (if m_told C 5 = -1 then 0 else m_told C 5) s = m_own C s := by
  unfold m_own
  by_cases h : m_told C 5 = -1
  · rw [if_pos h, if_pos h]
    unfold m_least
    have z0 : (0 : Int64).toInt = 0 := by decide
    by_cases h1 : (0 : Int64) < s
    · rw [if_pos h1]
    · rw [if_neg h1]
      rw [i64lt, z0] at h1
      rw [i64e, z0]
      omega
  · rw [if_neg h, if_neg h]
theorem lim_eq {C : List mCl} {s : Int64} (hC : ∀ c ∈ C, WfCl c) (h0 : 0 ≤ s.toInt) (h1 : s.toInt ≤ 6000000000000) : (if s - (if m_told C 3 = -1 then 6000000000000 else m_told C 3) < 0 then 0 else s - (if m_told C 3 = -1 then 6000000000000 else m_told C 3)) = m_lim C s := by
  have t6 : (6000000000000 : Int64).toInt = 6000000000000 := by decide
  have hr := told_rng2 hC 3
  unfold m_lim
  by_cases h : m_told C 3 = -1
  · rw [if_pos h, max_less h0 (by omega) (by rw [t6]; omega), if_neg (by rw [i64lt, t6]; omega), if_neg (fun z => z.1 h)]
  · rw [if_neg h]
    have hz : 0 ≤ (m_told C 3).toInt := by
      rcases hr with q | q
      · exact absurd q h
      · exact q.1
    rw [max_less h0 (by omega) hz]
    by_cases h2 : m_told C 3 < s
    · rw [if_pos h2, if_pos ⟨h, h2⟩]
    · rw [if_neg h2, if_neg (fun z => h2 z.2)]
theorem own_rng {C : List mCl} {s : Int64} (hC : ∀ c ∈ C, WfCl c) (h0 : 0 ≤ s.toInt) : 0 ≤ (m_own C s).toInt ∧ (m_own C s).toInt ≤ s.toInt := by
  have z0 : (0 : Int64).toInt = 0 := by decide
  unfold m_own
  by_cases h : m_told C 5 = -1
  · rw [if_pos h, z0]; omega
  · rw [if_neg h, least_int]
    rcases told_rng2 hC 5 with q | q
    · exact absurd q h
    · omega
theorem lim_rng {C : List mCl} {s : Int64} (hC : ∀ c ∈ C, WfCl c) (h0 : 0 ≤ s.toInt) : 0 ≤ (m_lim C s).toInt ∧ (m_lim C s).toInt ≤ s.toInt := by
  have z0 : (0 : Int64).toInt = 0 := by decide
  unfold m_lim
  by_cases h : m_told C 3 ≠ -1 ∧ m_told C 3 < s
  · rw [if_pos h]
    have h2 := i64lt.mp h.2
    rcases told_rng2 hC 3 with q | q
    · exact absurd q h.1
    · have sl : s.toInt ≤ 9223372036854775807 := Int64.toInt_le s
      rw [i64sub (by omega) (by omega)]; omega
  · rw [if_neg h, z0]; omega
theorem self_part {s : Int64} {f : Int32} (h0 : 0 ≤ s.toInt) (h1 : s.toInt ≤ 6000000000000) (hf0 : 0 ≤ f.toInt) (hf1 : f.toInt ≤ 15) : 0 ≤ (s * f.toInt64 / 100).toInt ∧ (s * f.toInt64 / 100).toInt ≤ s.toInt := by
  have t1 : (100 : Int64).toInt = 100 := by decide
  have hm0 : 0 ≤ s.toInt * f.toInt := Int.mul_nonneg h0 hf0
  have hm1 : s.toInt * f.toInt ≤ s.toInt * 15 := Int.mul_le_mul_of_nonneg_left hf1 h0
  have hm : (s * f.toInt64).toInt = s.toInt * f.toInt := by rw [i64mul (by rw [t64]; omega) (by rw [t64]; omega), t64]
  rw [i64div (by rw [hm]; exact hm0) (by rw [t1]; omega), hm, t1]
  omega
section
variable {nl : Bool} {Ln : Nat} {xs : Nat → Int32} {d : Nat} {σ σ1 : am_S} {w : ow_T} {wk ab v b : Nat} {P : List mPol} {T : List mTell} {Ls : List mLoss} {Cs : List mCase} {i : Nat} {x : mCase} {cc lc : Nat} {day at' : Int32} {C : List mCl} {p pc : Nat} {q : mPol} {hd : Option Nat} {sum worth s : Int64} {rows : List mRow} {tr : List Int32} {fnd : Int32} {ov : Bool}
abbrev WoC (wk ab v : Nat) (σ σ' : am_S) : Prop := Wc wk ab v [2003, 2004, 2005, 2006, 2007, 2008, 2009, 2010, 2011, 2012] [0, 1, 4, 5, 6] [3004, 3005, 3006, 3007] [1, 2, 3, 4] σ σ'
theorem wo_k {wk ab v : Nat} {σ σ' : am_S} (r : WkC wk ab v σ σ') : WoC wk ab v σ σ' := Wc.mono r (by decide) (by simp) (by decide) (by decide)
theorem wo_a {wk ab v : Nat} {σ σ' : am_S} (r : AlC wk ab v σ σ') : WoC wk ab v σ σ' := Wc.mono r (by simp) (by decide) (by simp) (by simp)
theorem wo_f {wk ab v : Nat} {σ σ' : am_S} (r : ShF wk ab v σ σ') : WoC wk ab v σ σ' := Wc.mono r (by decide) (by decide) (by decide) (by decide)
theorem wk_num {op code : Nat} {other : Int64} {F : Int64 → am_S → Prop} (hC : ∀ c ∈ C, WfCl c) (X : WkX σ w wk ab v b P T Ls Cs i x cc lc day at' C p pc q hd sum worth s rows tr fnd ov) (ho : (op, code) ∈ [(4, 4), (33, 6), (32, 5), (3, 3), (2, 2), (6, 7), (7, 8), (8, 9)]) (hcode : Int32.ofNat code = 4 ∨ Int32.ofNat code = 6 ∨ Int32.ofNat code = 5 ∨ Int32.ofNat code = 3 ∨ Int32.ofNat code = 2 ∨ Int32.ofNat code = 7 ∨ Int32.ofNat code = 8 ∨ Int32.ofNat code = 9) (h100 : code < 100) (K : F (if m_told C (Int32.ofNat code) = -1 then other else m_told C (Int32.ofNat code)) σ) : k_Wk_numberOf nl Ln xs (d + 2) wk (Int32.ofNat op) other σ F :=
  wk_numberOf X.1.1.2.2.1 X.2.1.2.2.2.2.1 X.2.1.2.2.2.2.2 hC (op_ok ho h100) hcode K
/-- the result of working -/
def WkR (σ : am_S) (w : ow_T) (wk ab v b : Nat) (P : List mPol) (T : List mTell) (Ls : List mLoss) (Cs : List mCase) (i : Nat) (x : mCase) (cc lc : Nat) (day at' : Int32) (r : mRes) : Prop := ∃ s' ov', WkB σ w wk ab v b P T Ls Cs i x cc lc day at' s' r.1 r.2.1 r.2.2.1 ov' ∧ (r.2.2.1 ≠ 0 → ov' = true) ∧ (r.2.2.1 = 0 → ov' = r.2.2.2.1 ∧ s' = r.2.2.2.2 ∧ ∃ p pc q hd sum worth, m_cover P T x at' = some p ∧ WkX σ w wk ab v b P T Ls Cs i x cc lc day at' (m_cls T p at') p pc q hd sum worth s' r.1 r.2.1 0 ov')
theorem wk_tail {x1 x2 : Option Nat} {x3 x4 : Int32} {F : am_S → Prop} (hw : WfD P T Ls Cs) (hm : m_cover P T x at' = some p) (hC : ∀ c ∈ m_cls T p at', WfCl c) (h13 : rows.length < 9) (hs0 : 0 ≤ s.toInt) (hs1 : s.toInt ≤ 6000000000000) (hw0 : 0 ≤ worth.toInt) (X : WkX σ w wk ab v b P T Ls Cs i x cc lc day at' (m_cls T p at') p pc q hd sum worth s rows tr 0 false)
    (K : ∀ σ', WkR σ' w wk ab v b P T Ls Cs i x cc lc day at' (m_sF T x day at' p (m_cls T p at') worth (rows, s) tr (m_self (m_lis Ls x.2.2.1) q.1)) → WoC wk ab v σ σ' → F σ') : c_Wk_work_135 nl Ln xs (d + 14) wk x1 x2 x3 x4 σ F := by
  have hp := X.pol
  have hk := polK hw X.2.1.2.1 X.2.1.2.2.2.1
  have V := X.1.1.2.2.2.2.1
  have hi := X.1.2.2.1.2.1
  refine w_Wk_work_135 ⟨is_mk X.1.1.2.2.1, ?_⟩
  rw [X.1.1.2.2.2.1, Option.getD_some, V.2.2.2.2, X.1.1.2.2.2.2.2.2.2.1, X.2.1.1, Option.getD_some, hp.2.2.2.2.1, (askPv hk.1 hk.2.1).1]
  refine ⟨is_mk V.1.1, fun _ => ⟨is_mk hp.2.1, X.1.1.2.1 505 (by decide), hk.1, (askPv hk.1 hk.2.1).2, as_self (d := d + 1) hw.2.2.1 hk.1 hk.2.1 X.1.1 (fun s1 E1 r1 _ => ?_)⟩, fun y => absurd rfl y⟩
  have X1 := X.ask E1 r1
  have hsf := self_rng (m_lis Ls x.2.2.1) q.1
  unfold m_sF at K
  generalize m_self (m_lis Ls x.2.2.1) q.1 = sf at X1 K hsf ⊢
  dsimp only at K
  rintro v10 rfl
  rw [t3264, X1.1.2.2.2.1.2.2]
  have hsp := self_part hs0 hs1 hsf.1 hsf.2
  have hr1 := less_rng (rs := (rows, s)) (code := 4) (arg := sf.1) hs0 hs1 hsp.1 hsp.2
  have hl1 := less_len (rs := (rows, s)) (code := 4) (arg := sf.1) (cents := s * sf.1.toInt64 / 100)
  refine wk_less (d := d + 11) X1.1 (by omega) (by decide) (fun s2 B2 r2 _ => ?_)
  have X2 := X1.rw B2 r2
  generalize m_less (rows, s) 4 sf.1 (s * sf.1.toInt64 / 100) = l1 at X2 K hr1 hl1
  refine wk_num (d := d + 11) (op := 32) (code := 5) hC X2 (by decide) (by decide) (by decide) (fun _ => w_Math_min ?_)
  rw [min_least, X2.1.2.2.2.1.2.2, show Int32.ofNat 5 = 5 from rfl, own_eq hr1.1]
  rintro w3 rfl
  intro _
  have hor := own_rng hC hr1.1
  have hr2 := less_rng (rs := l1) (code := 5) (arg := 0) hr1.1 hr1.2 hor.1 hor.2
  have hl2 := less_len (rs := l1) (code := 5) (arg := 0) (cents := m_own (m_cls T p at') l1.2)
  have hl1' : l1.1.length < 10 := by have : l1.1.length ≤ rows.length + 1 := hl1; omega
  refine wk_less (d := d + 11) X2.1 (by omega) (by decide) (fun s3 B3 r3 _ => ?_)
  have X3 := X2.rw B3 r3
  rw [show ((l1.1, l1.2) : List mRow × Int64) = l1 from rfl] at X3
  generalize m_less l1 5 0 (m_own (m_cls T p at') l1.2) = l2 at X3 K hr2 hl2
  refine wk_num (d := d + 11) (op := 3) (code := 3) hC X3 (by decide) (by decide) (by decide) (fun _ => w_Math_max ?_)
  rw [X3.1.2.2.2.1.2.2, show Int32.ofNat 3 = 3 from rfl, lim_eq hC hr2.1 hr2.2]
  rintro w3 rfl
  intro _
  have hlr := lim_rng hC hr2.1
  have hr3 := less_rng (rs := l2) (code := 6) (arg := 0) hr2.1 hr2.2 hlr.1 hlr.2
  have hl3 := less_len (rs := l2) (code := 6) (arg := 0) (cents := m_lim (m_cls T p at') l2.2)
  refine wk_less (d := d + 11) X3.1 (by omega) (by decide) (fun s4 B4 r4 _ => ?_)
  have X4 := X3.rw B4 r4
  rw [show ((l2.1, l2.2) : List mRow × Int64) = l2 from rfl] at X4
  generalize m_less l2 6 0 (m_lim (m_cls T p at') l2.2) = l3 at X4 K hr3 hl3
  refine wk_takeAlone (d := d + 10) hw hr3.1 X4 (fun s5 X5 S5 G5 r5 _ => ?_)
  have r0 : WoC wk ab v σ s5 := ((((wo_k (sub_as r1)).trans (wo_k r2)).trans (wo_k r3)).trans (wo_k r4)).trans (wo_a r5)
  have hz : 0 ∈ m_ord (RkM T at') (m_al x.2.2.2.2.2 day at' l3.2) 6 := ord_zero (RkM T at') rfl 5
  refine wk_sharedRow (d := d + 8) (by omega) (ord_nodup _ _ 6) (List.length_pos_of_mem hz) hz (fun y => al_rng hw hi hr3.1 (by omega) y) hw0 X5 S5 G5 (fun sh hsh s6 X6 r6 _ => ?_)
  refine K s6 ?_ (r0.trans (wo_f r6))
  unfold m_sG
  rw [← hsh]
  by_cases h1 : (m_ord (RkM T at') (m_al x.2.2.2.2.2 day at' l3.2) 6).length = 1
  · rw [if_pos h1] at X6
    rw [if_pos h1]
    exact ⟨_, _, X6.1, fun y => absurd rfl y, fun _ => ⟨rfl, rfl, p, pc, q, hd, sum, worth, hm, X6⟩⟩
  · rw [if_neg h1] at X6
    rw [if_neg h1]
    by_cases h2 : sh.1 = 0
    · rw [if_pos h2] at X6 ⊢
      exact ⟨_, _, X6.1, fun y => absurd rfl y, fun _ => ⟨rfl, rfl, p, pc, q, hd, sum, worth, hm, X6⟩⟩
    · rw [if_neg h2] at X6 ⊢
      exact ⟨_, _, X6.1, fun _ => rfl, fun y => absurd y h2⟩
end
