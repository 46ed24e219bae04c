/-! THE CLASS: settle -/
def SeR (σ : am_S) (w : ow_T) (v b : Nat) (P : List mPol) (T : List mTell) (x : mCase) (at' : Int32) (rows : List mRow) (tr : List Int32) (fnd : Int32) : Prop := (∃ ov, VwD σ v rows tr fnd ov) ∧ (fnd = 0 → ∃ p pc q hd, m_cover P T x at' = some p ∧ WkP σ w 1008 b P (m_cls T p at') p pc q hd)
theorem summed_nn {P : List mPol} {T : List mTell} {Ls : List mLoss} {Cs : List mCase} {i : Nat} {c : mCase} {day at' : Int32} {act : Int32} (w : WfD P T Ls Cs) (hi : Cs[i]? = some c) : 0 ≤ (m_summed c.2.2.2.2.2 act day at').toInt ∧ (m_summed c.2.2.2.2.2 act day at').toInt ≤ 40000000000000 := by
  have hF := (w.c hi).2.2.2.2.1
  have : ∀ l : List mFact, (∀ f ∈ l, f ∈ c.2.2.2.2.2) → l.length ≤ 40 → 0 ≤ (m_sumf (fun f => decide (f.1 = act) && m_counts f day at') m_fc l).toInt ∧ (m_sumf (fun f => decide (f.1 = act) && m_counts f day at') m_fc l).toInt ≤ 1000000000000 * l.length := by
    intro l
    induction l with
    | nil => intro _ _; rw [m_sumf]; exact ⟨by decide, by decide⟩
    | cons f l ih =>
      intro hm hl
      rw [List.length_cons] at hl
      obtain ⟨-, -, k3, k4, k5, k6, k7, k8, -⟩ := hF.2.1 f (hm f List.mem_cons_self)
      have := ih (fun g hg => hm g (List.mem_cons_of_mem _ hg)) (by omega)
      have hx : 0 ≤ (if (decide (f.1 = act) && m_counts f day at') = true then m_fc f else 0).toInt ∧ (if (decide (f.1 = act) && m_counts f day at') = true then m_fc f else 0).toInt ≤ 1000000000000 := by
        split
        · omega
        · exact ⟨by decide, by decide⟩
      rw [m_sumf, List.length_cons]
      rw [i64add (by omega) (by omega)]
      omega
  have h40 := hF.1
  have := this _ (fun f hf => hf) hF.1
  unfold m_summed
  omega
theorem told_id (t : Int64) : (if t = -1 then -1 else t) = t := by
  by_cases h : t = -1
  · rw [if_pos h, h]
  · rw [if_neg h]
theorem less_fst {rows : List mRow} {s c : Int64} {code arg : Int32} : (m_less (rows, s) code arg c).1 = if c = 0 then rows else rows ++ [(code, arg, -c)] := by
  unfold m_less
  split <;> rfl
theorem less_snd {rs : List mRow × Int64} {c : Int64} {code arg : Int32} (h0 : 0 ≤ c.toInt) (h1 : c.toInt ≤ rs.2.toInt) : (m_less rs code arg c).2.toInt = rs.2.toInt - c.toInt := by
  have z0 : (0 : Int64).toInt = 0 := by decide
  have := r64 rs.2
  unfold m_less
  split
  · rename_i h
    rw [h, z0]
    omega
  · exact i64sub (by omega) (by omega)
theorem less_z {rs : List mRow × Int64} {code arg : Int32} : m_less rs code arg 0 = rs := by
  unfold m_less
  exact if_pos rfl
section
variable {nl : Bool} {Ln : Nat} {xs : Nat → Int32} {d : Nat} {σ σ1 : am_S} {w : ow_T} {v b : Nat} {P : List mPol} {T : List mTell} {Ls : List mLoss} {Cs : List mCase} {i : Nat} {x : mCase} {cc lc : Nat} {day at' : Int32} {C : List mCl} {p pc : Nat} {q : mPol} {hd : Option Nat} {sum worth s : Int64} {rows : List mRow} {tr : List Int32} {fnd : Int32} {ov : Bool}
variable {y1 y2 : Option Nat} {y3 y4 : Int32} {x5 x6 x7 x8 x9 x10 x11 x12 x13 x14 x15 x16 x17 x18 x19 x20 x21 : Option Value}
theorem se_400 {F : am_S → Prop} (B : WkB σ w 1008 1027 v b P T Ls Cs i x cc lc day at' s rows tr fnd ov) (hP : fnd = 0 → ∃ p pc q hd, m_cover P T x at' = some p ∧ WkP σ w 1008 b P (m_cls T p at') p pc q hd) (K : ∀ σ', SeR σ' w v b P T x at' rows tr fnd → am_fI σ' 2001 1008 = am_fI σ 2001 1008 + (if fnd = 0 then 0 else 1) → SeC v σ σ' → F σ') : c_Wk_settle_400 nl Ln xs (d + 1) 1008 y1 y2 y3 y4 x5 x6 x7 x8 x9 x10 x11 x12 x13 x14 x15 x16 x17 x18 x19 x20 x21 σ F := by
  have V := B.1.2.2.2.2.1
  refine w_Wk_settle_400 ⟨is_mk B.1.2.2.1, ?_⟩
  rw [B.1.2.2.2.1, Option.getD_some, V.2.2.2.1]
  refine ⟨is_mk V.1.1, ?_⟩
  intro s7 q7
  have r7 : Wc 1008 1027 v [2001] [] [] [] σ s7 := by rw [q7]; exact Wc.sfI (by decide)
  refine K s7 ⟨⟨ov, V.wc r7 B.1.1 (by decide) (by simp)⟩, fun h => ?_⟩ ?_ (SeC.of1 r7 (by decide) (by simp) (by simp) (by simp))
  · obtain ⟨p, pc, q, hd, h1, h2⟩ := hP h
    exact ⟨p, pc, q, hd, h1, h2.wc B r7 (by decide) (by simp) (by simp)⟩
  · rw [q7, rI_same]
    by_cases h : fnd = 0
    · rw [if_neg (fun t => t h), if_pos h]
    · rw [if_pos h, if_neg h]
theorem se_over365 {F : am_S → Prop} (B : WkB σ w 1008 1027 v b P T Ls Cs i x cc lc day at' s rows tr fnd true) (hP : fnd = 0 → ∃ p pc q hd, m_cover P T x at' = some p ∧ WkP σ w 1008 b P (m_cls T p at') p pc q hd) (K : ∀ σ', SeR σ' w v b P T x at' rows tr fnd → am_fI σ' 2001 1008 = am_fI σ 2001 1008 + (if fnd = 0 then 0 else 1) → SeC v σ σ' → F σ') : c_Wk_settle_365 nl Ln xs (d + 1) 1008 y1 y2 y3 y4 x5 x6 x7 x8 x9 x10 x11 x12 x13 x14 x15 x16 x17 x18 x19 x20 x21 σ F := by
  have V := B.1.2.2.2.2.1
  refine w_Wk_settle_365 ⟨is_mk B.1.2.2.1, ?_⟩
  rw [B.1.2.2.2.1, Option.getD_some, V.2.2.2.2]
  exact ⟨is_mk V.1.1, fun h => absurd h (by decide), fun _ => se_400 B hP K⟩
theorem se_365 {F : am_S → Prop} (hm : m_cover P T x at' = some p) (h13 : rows.length < 13) (X : WkX σ w 1008 1027 v b P T Ls Cs i x cc lc day at' (m_cls T p at') p pc q hd sum worth s rows tr 0 false) (K : ∀ σ', SeR σ' w v b P T x at' (if m_summed x.2.2.2.2.2 13 day at' = 0 then rows else rows ++ [(12, 0, -m_summed x.2.2.2.2.2 13 day at')]) tr 0 → am_fI σ' 2001 1008 = am_fI σ 2001 1008 → SeC v σ σ' → F σ') : c_Wk_settle_365 nl Ln xs (d + 3) 1008 y1 y2 y3 y4 x5 x6 x7 x8 x9 x10 x11 x12 x13 x14 x15 x16 x17 x18 x19 x20 x21 σ F := by
  have V := X.1.1.2.2.2.2.1
  refine w_Wk_settle_365 ⟨is_mk X.1.1.2.2.1, ?_⟩
  rw [X.1.1.2.2.2.1, Option.getD_some, V.2.2.2.2, X.1.2.2.1.1, Option.getD_some, X.1.2.2.2.1.1, X.1.2.2.2.1.2.1]
  refine ⟨is_mk V.1.1, fun _ => ⟨is_mk X.cas.1.2.1, cs_sumOf (d := d + 1) X.cas.1 (fun _ => wk_less (d := d) X.1 h13 (by decide) (fun s7 B7 r7 _ => ?_))⟩, fun h => absurd rfl h⟩
  have X7 := X.rw B7 r7
  refine se_400 (d := d + 2) X7.1 (fun _ => ⟨p, pc, q, hd, hm, X7.2.1⟩) (fun σ' R e r => K σ' ?_ ?_ ((SeC.of1 r7 (by decide) (by simp) (by decide) (by decide)).trans r))
  · rw [less_fst] at R
    exact R
  · rw [e, if_pos rfl, Int32.add_zero]
    exact r7.fI (by decide) (by decide)
theorem se_309 {n : Nat} {m0 : Int32} {g1 g2 z5 z7 : Int64} {z9 z14 : Int32} {F : am_S → Prop} (hw : WfD P T Ls Cs) (hC : ∀ c ∈ m_cls T p at', WfCl c) (hm : m_cover P T x at' = some p) (h8 : rows.length ≤ 8) (hs0 : 0 ≤ s.toInt) (hs1 : s.toInt ≤ 6000000000000) (hd0 : x.2.2.2.1.toInt ≤ day.toInt) (hd1 : day.toInt ≤ 10949) (hg : 0 ≤ g1.toInt ∧ 0 ≤ g2.toInt ∧ g1.toInt + g2.toInt ≤ s.toInt) (X : WkX σ w 1008 1027 v b P T Ls Cs i x cc lc day at' (m_cls T p at') p pc q hd sum worth s rows tr 0 false) (h01 : am_fI σ 2001 1008 = m0 + Int32.ofNat n)
    (K : ∀ B, B = m_behind x day at' (m_cls T p at') (m_less (m_less (rows, s) 8 0 g1) 9 0 g2) tr n → ∀ σ', SeR σ' w v b P T x at' B.1 B.2.1 B.2.2.1 → am_fI σ' 2001 1008 = m0 + Int32.ofNat B.2.2.2.2 → SeC v σ σ' → F σ') : c_Wk_settle_309 nl Ln xs (d + 5) 1008 y1 y2 y3 y4 z5 z7 z9 g1 g2 z14 x15 x16 x17 x18 x19 x20 x21 σ F := by
  have hi := X.1.2.2.1.2.1
  have hr1 := less_rng (rs := (rows, s)) (code := 8) (arg := 0) hs0 hs1 hg.1 (by show g1.toInt ≤ s.toInt; omega)
  have hl1 := less_len (rs := (rows, s)) (code := 8) (arg := 0) (cents := g1)
  have hv1 := less_snd (rs := (rows, s)) (code := 8) (arg := 0) hg.1 (by show g1.toInt ≤ s.toInt; omega)
  have hl1 : (m_less (rows, s) 8 0 g1).1.length ≤ rows.length + 1 := hl1
  have hv1 : (m_less (rows, s) 8 0 g1).2.toInt = s.toInt - g1.toInt := hv1
  refine w_Wk_settle_309 ⟨is_mk X.1.1.2.2.1, wk_less (d := d + 2) X.1 (by omega) (by decide) (fun s2 B2 r2 _ => ?_)⟩
  have X2 := X.rw B2 r2
  generalize m_less (rows, s) 8 0 g1 = l1 at X2 K hr1 hl1 hv1
  have hr2 := less_rng (rs := l1) (code := 9) (arg := 0) hr1.1 hr1.2 hg.2.1 (by omega)
  have hl2 := less_len (rs := l1) (code := 9) (arg := 0) (cents := g2)
  refine wk_less (d := d + 2) X2.1 (by omega) (by decide) (fun s4 B4 r4 _ => ?_)
  have X4 := X2.rw B4 r4
  rw [show ((l1.1, l1.2) : List mRow × Int64) = l1 from rfl] at X4
  generalize m_less l1 9 0 g2 = l2 at X4 K hr2 hl2
  rw [X4.1.2.2.1.1, Option.getD_some, X4.1.2.2.2.1.1, X4.1.2.2.2.1.2.1]
  refine ⟨is_mk X4.cas.1.2.1, cs_sumOf (d := d + 3) X4.cas.1 (fun _ => w_Math_min ?_)⟩
  rw [min_least, X4.1.2.2.2.1.2.2]
  intro a10 e10 _
  have e10 : a10 = m_least (m_summed x.2.2.2.2.2 18 day at') l2.2 := e10
  have hsum := summed_nn (day := day) (at' := at') (act := 18) hw hi
  have h10 : 0 ≤ a10.toInt ∧ a10.toInt ≤ l2.2.toInt := by rw [e10, least_int]; omega
  obtain ⟨B, hB⟩ : ∃ B, B = m_behind x day at' (m_cls T p at') l2 tr n := ⟨_, rfl⟩
  have K' := K B hB
  have hr3 := less_rng (rs := l2) (code := 10) (arg := 0) hr2.1 hr2.2 h10.1 h10.2
  have hl3 := less_len (rs := l2) (code := 10) (arg := 0) (cents := a10)
  refine wk_less (d := d + 2) X4.1 (by omega) (by decide) (fun s11 B11 r11 _ => ?_)
  have X11 := X4.rw B11 r11
  rw [show ((l2.1, l2.2) : List mRow × Int64) = l2 from rfl] at X11
  unfold m_behind at hB
  rw [← e10] at hB
  generalize m_less l2 10 0 a10 = l3 at X11 hB hr3 hl3
  dsimp only at hB
  have hF := (hw.c hi).2.2.2.2.1
  have hdr := days2_rng (at' := at') hw hi hr3.1 hr3.2 hd1 x.2.2.2.2.2 0 x.2.2.2.1 (fun f hf => hf) hF.2.2 hF.1 (fun f hf _ => by have := (hw.c hi).2.2.2.2.2.1 f hf; omega) hd0 (by
        have h1 := (hw.c hi).2.2.1
        have h2 : 0 ≤ (m_ld Ls x).toInt := (hw.ls _ (List.mem_of_getElem? (getD_some mLoss0 (hw.c hi).2.1))).2.2.1
        omega) (by decide) (by show (0 : Int64).toInt ≤ _; rw [show (0 : Int64).toInt = 0 by decide]; have := hF.1; omega)
  have t11 : SeC v σ s11 := (((SeC.of1 r2 (by decide) (by simp) (by decide) (by decide))).trans (SeC.of1 r4 (by decide) (by simp) (by decide) (by decide))).trans (SeC.of1 r11 (by decide) (by simp) (by decide) (by decide))
  have m11 : am_fI s11 2001 1008 = m0 + Int32.ofNat n := (((r11.fI (by decide) (by decide)).trans (r4.fI (by decide) (by decide))).trans (r2.fI (by decide) (by decide))).trans h01
  refine wk_interestRow (d := d) hw hC (by omega) hr3.1 (by omega) hdr.1 X11 (fun hq s13 X13 r13 _ => ?_) (fun hq it hit s13 X13 r13 _ => ?_)
  · rw [if_pos hq] at hB
    refine se_over365 (d := d + 4) X13.1 (fun h => absurd h (by decide)) (fun σ' R e r => K' σ' ?_ ?_ ((t11.trans (SeC.of1 r13 (by decide) (by simp) (by decide) (by decide))).trans r))
    · rw [hB]
      exact R
    · rw [hB, e, if_neg (by decide), r13.fI (by decide) (by decide), m11, Int32.add_assoc, n32s]
  · rw [if_neg hq, ← hit] at hB
    have h11 : (if it = 0 then l3.1 else l3.1 ++ [((11 : Int32), (0 : Int32), it)]).length < 13 := by
      by_cases hz : it = 0
      · rw [if_pos hz]; omega
      · rw [if_neg hz, List.length_append, List.length_singleton]; omega
    refine se_365 (d := d + 2) hm h11 X13 (fun σ' R e r => K' σ' ?_ ?_ ((t11.trans (SeC.of1 r13 (by decide) (by simp) (by decide) (by decide))).trans r))
    · rw [hB]
      exact R
    · rw [hB, e, r13.fI (by decide) (by decide), m11]
end
section
variable {nl : Bool} {Ln : Nat} {xs : Nat → Int32} {d : Nat} {σ σ1 : am_S} {w : ow_T} {v b : Nat} {P : List mPol} {T : List mTell} {Ls : List mLoss} {Cs : List mCase} {i : Nat} {x : mCase} {cc lc : Nat} {day at' : Int32} {C : List mCl} {p pc : Nat} {q : mPol} {hd : Option Nat} {sum worth s : Int64} {rows : List mRow} {tr : List Int32} {fnd : Int32} {ov : Bool}
theorem wk_settle {F : am_S → Prop} (hw : WfD P T Ls Cs) (hT : ∀ p, ∀ c ∈ m_cls T p at', WfCl c ∧ ∀ f, c.2.2 = some f → hgt f ≤ 400 ∧ ndep f ≤ 64) (I1 : WkI σ w 1008 1027 v b P T Ls Cs) (I2 : WkI σ w 1009 1015 1010 b P T Ls Cs) (h20 : am_fR σ 2000 1008 = some 1009) (hv : v = 1022 ∨ v = 1048) (hi : Cs[i]? = some x) (hc : am_aR σ (bA σ b 6006) i = some cc) (hd0 : x.2.2.2.1.toInt ≤ day.toInt) (hd1 : day.toInt ≤ 10949)
    (K : ∀ W, W = m_work P T Ls Cs i day at' → ∀ σ', SeR σ' w v b P T x at' W.1 W.2.1 W.2.2.1 → am_fI σ' 2001 1008 = am_fI σ 2001 1008 + Int32.ofNat W.2.2.2.2 → SeC v σ σ' → F σ') : k_Wk_settle nl Ln xs (d + 414) 1008 (some b) (some cc) day at' σ F := by
  have gx : Cs.getD i mCase0 = x := getD_of mCase0 hi
  have h100 := hw.c100
  refine w_Wk_settle ⟨is_mk I1.2.2.1, wk_work (d := d) hw hT I1 hi hc (fun s2 lc R r2 _ => ?_)⟩
  have q2 : SeC v σ s2 := SeC.of1 r2 (by decide) (by decide) (by decide) (by decide)
  have J2 := I2.se q2 hv
  have g20 := (q2.fR (by decide) (by decide)).trans h20
  have hrg := begin_rng (day := day) (at' := at') hw hi
  have m2 : am_fI s2 2001 1008 = am_fI σ 2001 1008 := r2.fI (by decide) (by decide)
  obtain ⟨W, hW⟩ : ∃ W, W = m_work P T Ls Cs i day at' := ⟨_, rfl⟩
  have K' := K W hW
  unfold m_work at hW
  rw [gx] at hW
  dsimp only at hW
  generalize m_begin P T Ls x day at' = r at R hW hrg
  obtain ⟨s', ov', B, z1, z2⟩ := R
  have V := B.1.2.2.2.2.1
  rw [B.1.2.2.2.1, Option.getD_some, V.2.2.2.2]
  by_cases h0 : r.2.2.1 = 0
  · obtain ⟨o1, o2, p, pc, q, hd, sum, worth, hm, X⟩ := z2 h0
    rw [if_neg (fun t => t h0)] at hW
    cases hov : ov' with
    | true =>
      rw [hov] at X o1
      rw [if_pos o1.symm] at hW
      refine ⟨is_mk V.1.1, fun h => absurd h (by decide), fun _ => se_over365 X.1 (fun _ => ⟨p, pc, q, hd, hm, X.2.1⟩) (fun σ' R e r' => K' σ' ?_ ?_ (q2.trans r'))⟩
      · rw [hW]
        exact R
      · rw [hW, e, if_pos rfl, m2]
        rfl
    | false =>
      rw [hov] at X o1
      rw [if_neg (by rw [← o1]; decide), hm] at hW
      dsimp only at hW
      have hC : ∀ c ∈ m_cls T p at', WfCl c := fun c hc => (hT p c hc).1
      obtain ⟨C, hCe⟩ : ∃ C, C = m_cls T p at' := ⟨_, rfl⟩
      have hs : 0 ≤ s'.toInt ∧ s'.toInt ≤ 6000000000000 := by rw [o2]; exact ⟨hrg.1, hrg.2.1⟩
      have hl6 := hrg.2.2
      unfold m_after at hW
      rw [← o2] at hW
      have r6 := told_rng2 hC 6
      have r4 := told_rng2 hC 4
      have z0 : (0 : Int64).toInt = 0 := by decide
      -- the cases that are laid
      have go : ∀ (σ1 : am_S) (ord : List Nat) (key : Nat → Int32), WkX σ1 w 1008 1027 v b P T Ls Cs i x cc lc day at' (m_cls T p at') p pc q hd sum worth s' r.1 r.2.1 0 false → LyW σ1 1027 key ord → SeC v s2 σ1 → am_fI σ1 2001 1008 = am_fI s2 2001 1008 → (∀ y ∈ ord, y < Cs.length) → ord.length ≤ 100 → W = (fun z : Int64 × Int64 => m_behind x day at' (m_cls T p at') (m_less (m_less (r.1, s') 8 0 z.1) 9 0 z.2) r.2.1 (m_met P T Ls Cs day at' i ord)) (m_laid (m_brings P T Ls Cs day at' i s') i (decide (m_told (m_cls T p at') 4 ≠ -1)) (if m_told (m_cls T p at') 6 = -1 then 0 else m_told (m_cls T p at') 6) (m_told (m_cls T p at') 4) (0, 0) ord) → c_Wk_settle_66 nl Ln xs (d + 414) 1008 (some b) (some cc) day at' (m_told (m_cls T p at') 6) (m_told (m_cls T p at') 4) (Int32.ofNat ord.length) σ1 F := by
        intro σ1 ord key X1 L1 t1 e1 ho hl hWo
        refine w_Wk_settle_66 (w_Math_max ?_)
        intro a2 e2 _ w5 e5
        have e2 : a2 = if m_told (m_cls T p at') 6 = -1 then 0 else m_told (m_cls T p at') 6 := by
          rw [e2]
          rcases r6 with h | h
          · rw [h]; decide
          · rw [if_neg (by rw [i64lt, z0]; omega), if_neg (by rw [i64e, show (-1 : Int64).toInt = -1 by decide]; omega)]
        have ha2 : 0 ≤ a2.toInt := by
          rw [e2]
          rcases r6 with h | h
          · rw [if_pos h]; decide
          · rw [if_neg (by rw [i64e, show (-1 : Int64).toInt = -1 by decide]; omega)]; exact h.1
        have hY : decide (m_told (m_cls T p at') 4 ≠ -1) = true → 0 ≤ (m_told (m_cls T p at') 4).toInt := fun h => by
          rcases r4 with h4 | h4
          · exact absurd h4 (of_decide_eq_true h)
          · exact h4.1
        have R0 : RsR (decide (m_told (m_cls T p at') 4 ≠ -1)) (m_told (m_cls T p at') 4) w5 0 := by
          refine ⟨fun h => ⟨?_, hY h⟩, fun h => ?_⟩
          · rw [e5, if_neg (of_decide_eq_true h)]
          · have h4 : m_told (m_cls T p at') 4 = -1 := Classical.byContradiction (fun t => of_decide_eq_false h t)
            rw [e5, if_pos h4]
            decide
        rw [← e2] at hWo
        have hlr := laid_rng (m_brings P T Ls Cs day at' i s') i (decide (m_told (m_cls T p at') 4 ≠ -1)) ord a2 (m_told (m_cls T p at') 4) (0, 0) (fun y hy => by
          unfold m_brings
          by_cases h : y = i
          · rw [if_pos h]; exact hs
          · rw [if_neg h]
            have := begin_rng (day := day) (at' := at') hw (getD_some mCase0 (ho y hy))
            exact ⟨this.1, this.2.1⟩) ha2 hY (by
          show 0 ≤ (0 : Int64).toInt ∧ 0 ≤ (0 : Int64).toInt ∧ (0 : Int64).toInt + (0 : Int64).toInt ≤ _
          unfold m_brings
          rw [if_pos rfl, z0]
          omega)
        have em : m_brings P T Ls Cs day at' i s' i = s' := by unfold m_brings; rw [if_pos rfl]
        rw [em] at hlr
        refine se_loop (d := d) (isY := decide (m_told (m_cls T p at') 4 ≠ -1)) hw hT hs ho hl hv ord 0 a2 w5 (m_told (m_cls T p at') 4) (0, 0) σ1 _ _ _ _ _ _ _ rfl (by omega) X1 (J2.se t1 hv) ((t1.fR (by decide) (by decide)).trans g20) L1 ha2 R0 (fun σ' own' rest' k' y15 y16 y17 y18 y19 y20 y21 X' m' t' => ?_)
        refine se_309 (d := d + 409) (m0 := am_fI σ 2001 1008) (n := m_met P T Ls Cs day at' i ord) hw hC hm (by omega) hs.1 hs.2 hd0 hd1 hlr X' (by rw [m', e1, m2]) (fun B hB σ'' R e r'' => K' σ'' ?_ ?_ (((q2.trans t1).trans t').trans r''))
        · rw [hWo]
          dsimp only
          rw [← hB]
          exact R
        · rw [hWo]
          dsimp only
          rw [← hB]
          exact e
      refine ⟨is_mk V.1.1, fun _ => wk_num (d := d + 411) (op := 33) (code := 6) hC X (by decide) (by decide) (by decide) (fun _ => wk_num (d := d + 411) (op := 4) (code := 4) hC X (by decide) (by decide) (by decide) (fun _ => ?_)), fun h => absurd rfl h⟩
      rw [show Int32.ofNat 6 = 6 from rfl, show Int32.ofNat 4 = 4 from rfl, told_id, told_id]
      have at62 : ¬ (m_told (m_cls T p at') 6 = -1 ∧ m_told (m_cls T p at') 4 = -1) → c_Wk_settle_62 nl Ln xs (d + 414) 1008 (some b) (some cc) day at' (m_told (m_cls T p at') 6) (m_told (m_cls T p at') 4) s2 F := by
        intro hn
        rw [if_neg hn] at hW
        refine w_Wk_settle_62 ⟨is_mk X.1.1.2.2.1, wk_putInOrder (d := d + 409) hw hC X (fun s5 r5 L5 _ => ?_)⟩
        refine go s5 _ _ (X.la r5) L5 (SeC.of1 r5 (by simp) (by decide) (by simp) (by simp)) (r5.fI (by simp) (by simp)) (fun y hy => (lay_lt _ _ _ y hy).1) ?_ hW
        have := lay_len (fun k => decide (¬ day < (Cs.getD k mCase0).2.2.2.1) && m_of P T Ls (m_year (m_ld Ls x)) at' p (Cs.getD k mCase0)) (fun k => m_key Ls day at' (decide (m_by (m_cls T p at') = 11)) (Cs.getD k mCase0)) Cs.length
        exact Nat.le_trans this h100
      refine ⟨fun h6 => ⟨fun h4 => ?_, fun h4 => at62 (fun t => h4 t.2)⟩, fun h6 => at62 (fun t => h6 t.1)⟩
      rw [if_pos ⟨h6, h4⟩] at hW
      refine go s2 [] (fun _ => 0) X (fun k y hk => absurd hk (by simp)) SeC.rf rfl (by simp) (by simp) ?_
      rw [hW, m_laid]
      dsimp only
      rw [less_z, less_z]
      rfl
  · have hov := z1 h0
    rw [if_pos h0] at hW
    rw [hov] at B ⊢
    refine ⟨is_mk V.1.1, fun h => absurd h (by decide), fun _ => se_over365 B (fun t => absurd t h0) (fun σ' R e r' => K' σ' ?_ ?_ (q2.trans r'))⟩
    · rw [hW]
      exact R
    · rw [hW, e, if_neg h0, m2]
      rfl
end
