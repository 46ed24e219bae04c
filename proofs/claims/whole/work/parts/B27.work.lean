/-! THE CLASS: working, up to the row of SHARED -/
theorem i640a (a : Int64) : 0 + a = a := by grind
def WkI (σ : am_S) (w : ow_T) (wk ab v b : Nat) (P : List mPol) (T : List mTell) (Ls : List mLoss) (Cs : List mCase) : Prop := WkV wk ab v ∧ LowK σ ∧ am_kd σ wk = (3, 0) ∧ am_fR σ 2002 wk = some v ∧ VwK σ v ∧ BkD σ w b P T Ls Cs ∧ (∀ c, fixW c → w c = (2, c)) ∧ WkA σ wk ab ∧ am_fR σ 2013 wk = some ab ∧ am_kd σ ab = (1001, 12)
section
variable {nl : Bool} {Ln : Nat} {xs : Nat → Int32} {d : Nat} {σ σ1 : am_S} {w : ow_T} {wk ab v b : Nat} {P : List mPol} {T : List mTell} {Ls : List mLoss} {Cs : List mCase} {i : Nat} {x : mCase} {cc lc : Nat} {day at' : Int32} {C : List mCl} {p pc : Nat} {q : mPol} {hd : Option Nat} {sum worth s : Int64} {rows : List mRow} {tr : List Int32} {fnd : Int32} {ov : Bool}
theorem WkA.wcA (h : WkA σ wk ab) (r : WoC wk ab v σ σ1) : WkA σ1 wk ab := by
  obtain ⟨⟨a1, a2, a3, a4, a5, a6⟩, a7⟩ := h
  refine ⟨⟨?_, ?_, ?_, ?_, ?_, ?_⟩, by rw [r.kd]; exact a7⟩
  · exact (r.fR (by decide) (by decide)).trans a1
  · exact (r.fR (by decide) (by decide)).trans a2
  · exact (r.fR (by decide) (by decide)).trans a3
  · exact (r.fR (by decide) (by decide)).trans a4
  · exact (r.fR (by decide) (by decide)).trans a5
  · exact (r.fR (by decide) (by decide)).trans a6
theorem av_rng {s z : Int64} (h0 : 0 ≤ s.toInt) (h1 : s.toInt ≤ 6000000000000) (hz : 0 ≤ z.toInt) : 0 ≤ (if z < s then s - z else 0).toInt ∧ (if z < s then s - z else 0).toInt ≤ s.toInt := by
  have z0 : (0 : Int64).toInt = 0 := by decide
  by_cases h : z < s
  · rw [if_pos h]
    rw [i64lt] at h
    rw [i64sub (by omega) (by omega)]
    omega
  · rw [if_neg h, z0]
    omega
theorem sum_rng2 (hw : WfD P T Ls Cs) {y : Int32} (h : m_sum T p y at' = some sum) : 0 ≤ sum.toInt ∧ sum.toInt ≤ 1000000000000 := by
  rw [sum_look] at h
  cases hf : (tlP T p).reverse.find? (qT 5 y at') with
  | none => rw [hf] at h; exact absurd h (by simp)
  | some t =>
    rw [hf] at h
    have e : tVal t = sum := Option.some.inj h
    have hm := List.mem_reverse.mp (List.mem_of_find?_eq_some hf)
    have hT : t ∈ T := (List.mem_filter.mp hm).1
    have h5 : t.1 = 5 := by
      have := List.find?_some hf
      unfold qT at this
      rw [Bool.and_eq_true] at this
      exact of_decide_eq_true this.1
    rw [← e]
    exact (hw.2.1.2.2.2.2.2.2.2.2 t hT).2.2.1 h5
theorem wk_over135 {x1 x2 : Option Nat} {x3 x4 : Int32} {F : am_S → Prop} (B : WkB σ w wk ab v b P T Ls Cs i x cc lc day at' s rows tr fnd true) (K : F σ) : c_Wk_work_135 nl Ln xs (d + 1) wk x1 x2 x3 x4 σ F := by
  have V := B.1.2.2.2.2.1
  refine w_Wk_work_135 ⟨is_mk B.1.2.2.1, ?_⟩
  rw [B.1.2.2.2.1, Option.getD_some, V.2.2.2.2]
  exact ⟨is_mk V.1.1, fun y => absurd y (by decide), fun _ => K⟩
theorem wk_over121 {x1 x2 : Option Nat} {x3 x4 : Int32} {F : am_S → Prop} (B : WkB σ w wk ab v b P T Ls Cs i x cc lc day at' s rows tr fnd true) (K : F σ) : c_Wk_work_121 nl Ln xs (d + 1) wk x1 x2 x3 x4 σ F := by
  have V := B.1.2.2.2.2.1
  refine w_Wk_work_121 ⟨is_mk B.1.2.2.1, ?_⟩
  rw [B.1.2.2.2.1, Option.getD_some, V.2.2.2.2]
  exact ⟨is_mk V.1.1, fun y => absurd y (by decide), fun _ => wk_over135 B K⟩
theorem wk_work {F : am_S → Prop} (hw : WfD P T Ls Cs) (hT : ∀ p, ∀ c ∈ m_cls T p at', WfCl c ∧ ∀ f, c.2.2 = some f → hgt f ≤ 400 ∧ ndep f ≤ 64) (I : WkI σ w wk ab v b P T Ls Cs) (hi : Cs[i]? = some x) (hc : am_aR σ (bA σ b 6006) i = some cc)
    (K : ∀ σ' lc, WkR σ' w wk ab v b P T Ls Cs i x cc lc day at' (m_begin P T Ls x day at') → WoC wk ab v σ σ' → F σ') : k_Wk_work nl Ln xs (d + 413) wk (some b) (some cc) day at' σ F := by
  obtain ⟨hv, hk, k1, k2, hVK, hB, hO, hA, e13, ka⟩ := I
  obtain ⟨cc', pc0, lc, p0, l0, z1, z2, -, -, -, -, z3, z4, z5, z6, z7, wc⟩ := hB.case hw hi
  have ecc : cc' = cc := Option.some.inj (z1.symm.trans hc)
  subst ecc
  have hlt : x.2.2.1 < Ls.length := wc.2.1
  have fz : ∀ {s1 : am_S}, WoC wk ab v σ s1 → FrB σ w s1 w b := fun r => r.frB hv (by decide) (by decide) hO hB.1.2.2.1
  refine w_Wk_work ⟨is_mk k1, ?_⟩
  intro s2 q2 s5 q5
  have r2 : Wc wk ab v [2003, 2004, 2005, 2008, 2009, 2011] [] [] [] σ s2 := by rw [q2]; exact Wc.sfR (by decide)
  have r5 : Wc wk ab v [2003, 2004, 2005, 2008, 2009, 2011] [] [] [] σ s5 := r2.trans (by rw [q5]; exact Wc.sfR (by decide))
  rw [Option.getD_some, (r5.fR (by decide) (by simp)).trans z3]
  refine ⟨is_mk (by rw [r5.kd]; exact z2.1.2.1), ?_⟩
  intro s9 q9 s12 q12 s15 q15 s18 q18
  have r18 : Wc wk ab v [2003, 2004, 2005, 2008, 2009, 2011] [] [] [] σ s18 := (((r5.trans (by rw [q9]; exact Wc.sfR (by decide) : Wc wk ab v [2003, 2004, 2005, 2008, 2009, 2011] [] [] [] s5 s9)).trans (by rw [q12]; exact Wc.sfI (by decide) : Wc wk ab v [2003, 2004, 2005, 2008, 2009, 2011] [] [] [] s9 s12)).trans (by rw [q15]; exact Wc.sfI (by decide) : Wc wk ab v [2003, 2004, 2005, 2008, 2009, 2011] [] [] [] s12 s15)).trans (by rw [q18]; exact Wc.sfL (by decide) : Wc wk ab v [2003, 2004, 2005, 2008, 2009, 2011] [] [] [] s15 s18)
  have g5 : am_fR s18 2005 wk = some lc := by
    rw [q18]
    show am_fR s15 2005 wk = _
    rw [q15]
    show am_fR s12 2005 wk = _
    rw [q12]
    show am_fR s9 2005 wk = _
    rw [q9]
    exact rR_same
  have g4 : am_fR s18 2004 wk = some cc' := by
    rw [q18]
    show am_fR s15 2004 wk = _
    rw [q15]
    show am_fR s12 2004 wk = _
    rw [q12]
    show am_fR s9 2004 wk = _
    rw [q9, rR_g (by decide), q5]
    exact rR_same
  have g3 : am_fR s18 2003 wk = some b := by
    rw [q18]
    show am_fR s15 2003 wk = _
    rw [q15]
    show am_fR s12 2003 wk = _
    rw [q12]
    show am_fR s9 2003 wk = _
    rw [q9, rR_g (by decide), q5, rR_g (by decide), q2]
    exact rR_same
  have g8 : am_fI s18 2008 wk = day := by
    rw [q18]
    show am_fI s15 2008 wk = _
    rw [q15, rI_g (by decide), q12]
    exact rI_same
  have g9 : am_fI s18 2009 wk = at' := by
    rw [q18]
    show am_fI s15 2009 wk = _
    rw [q15]
    exact rI_same
  have g11 : am_fL s18 2011 wk = 0 := by rw [q18]; exact rL_same
  have V18 := hVK.wc r18 (by decide)
  rw [(r18.fR (by decide) (by simp)).trans k2, Option.getD_some]
  refine ⟨is_mk V18.1, vw_clear (d := d + 411) V18 hv (fun s22 V22 r22 _ => ?_)⟩
  have ra : WoC wk ab v σ s22 := (r18.mono (by decide) (by simp) (by simp) (by simp)).trans (r22.mono (by simp) (by simp) (by decide) (by simp))
  have f22 := fz ra
  have B22 : WkB s22 w wk ab v b P T Ls Cs i x cc' lc day at' 0 [] [] 0 false := by
    refine ⟨⟨hv, by unfold LowK; rw [ra.kd]; exact hk, by rw [ra.kd]; exact k1, (ra.fR (by decide) (by decide)).trans k2, V22, hB.fr f22, hO, (r22.fR (by simp) (by decide)).trans g5, ?_, hlt⟩, (r22.fR (by simp) (by decide)).trans g3, ⟨(r22.fR (by simp) (by decide)).trans g4, hi, ?_⟩, ⟨(r22.fI (by simp) (by decide)).trans g8, (r22.fI (by simp) (by decide)).trans g9, (r22.fL (by simp) (by decide)).trans g11⟩, hA.wcA ra⟩
    · rw [bA.fr hB.1.1 (f22 2), (f22 2 _ hB.1.2.2.2.2.2.1.2.1).2.aR]
      exact z4
    · rw [bA.fr hB.1.1 (f22 2), (f22 2 _ hB.1.2.2.2.2.2.2.1.2.1).2.aR]
      exact hc
  have e13' := (ra.fR (by decide) (by decide)).trans e13
  have hld : m_ld Ls x = (Ls.getD x.2.2.1 mLoss0).2.1 := rfl
  refine wk_findCover (d := d + 409) hw B22 (fun s24 n hn B24 r24 _ => ?_) (fun s24 p pc q hd sum hm hy hs B24 Q24 hsum r24 _ => ?_)
  · have V24 := B24.1.2.2.2.2.1
    rw [B24.1.2.2.2.1, Option.getD_some, V24.2.2.2.2]
    refine ⟨is_mk V24.1.1, fun y => absurd y (by decide), fun _ => K s24 lc ?_ (ra.trans (r24.mono (by decide) (by simp) (by decide) (by simp)))⟩
    have eb : m_begin P T Ls x day at' = ([], [], n, false, 0) ∧ n ≠ 0 := by
      unfold m_begin
      rcases hn with ⟨h1, h2⟩ | ⟨p, h1, ⟨h2, h3⟩ | ⟨h2, h3, h4⟩⟩
      · rw [h1, h2]
        exact ⟨rfl, by decide⟩
      · rw [h1, h3]
        dsimp only
        rw [if_pos h2]
        exact ⟨rfl, by decide⟩
      · rw [h1, h4]
        dsimp only
        rw [if_neg h2, h3]
        exact ⟨rfl, by decide⟩
    rw [eb.1]
    exact ⟨_, _, B24, fun _ => rfl, fun y => absurd y eb.2⟩
  · have V24 := B24.1.2.2.2.2.1
    have hsr := sum_rng2 hw hs
    have hk' := polK hw Q24.2.1 Q24.2.2.2.1
    have gp := hk'.2.2.2.2
    have rb : WoC wk ab v σ s24 := ra.trans (r24.mono (by decide) (by simp) (by decide) (by simp))
    have hC : ∀ c ∈ m_cls T p at', WfCl c := fun c hc => (hT p c hc).1
    have eb : m_begin P T Ls x day at' = m_sB P T Ls x day at' p (m_cls T p at') sum (m_worth Ls (m_amt Ls x day at') (m_most (m_cls T p at')) 5 x.2.2.1) := by
      unfold m_begin
      rw [hm]
      dsimp only
      rw [if_neg hy, hs]
      rfl
    rw [eb] at K
    rw [B24.1.2.2.2.1, Option.getD_some, V24.2.2.2.2]
    refine ⟨is_mk V24.1.1, fun _ => ?_, fun y => absurd rfl y⟩
    refine wk_takeCorrections (d := d + 410) hw B24 ((r24.fR (by decide) (by decide)).trans e13') (by rw [rb.kd]; exact ka) (fun s28 B28 M28 r28 _ => ?_)
    have Q28 := Q24.wc B24 r28 (by decide) (by decide) (by simp)
    have rc : WoC wk ab v σ s28 := rb.trans (r28.mono (by simp) (by decide) (by simp) (by simp))
    have X28 : WkX s28 w wk ab v b P T Ls Cs i x cc' lc day at' (m_cls T p at') p pc q hd sum (am_fL s28 2012 wk) 0 [] [] 0 false := ⟨B28, Q28, M28, (r28.fL (by simp) (by simp)).trans hsum, rfl⟩
    have L28 := X28.los
    have hg := getD_some mLoss0 hlt
    have hwl := hw.2.2.1.2.1 _ _ hg
    have hwf := hw.2.2.1.2.2 _ (List.mem_of_getElem? hg)
    have hbl : m_base Ls x.2.2.1 < Ls.length := by have := root_lt hw.2.2.1.2.1 4 x.2.2.1 hlt; unfold m_base; omega
    have h6 : (m_items Ls (m_base Ls x.2.2.1)).length ≤ 6 := (hw.2.2.1.2.1 _ _ (getD_some mLoss0 hbl)).2.2.2
    rw [X28.1.1.2.2.2.2.2.2.2.1, Option.getD_some, L28.2.2.2.2.1]
    refine ⟨is_mk L28.2.1, X28.1.1.2.1 502 (by decide), hwf.1, ?_, ?_⟩
    · rw [show (502 : Nat) = 500 + 2 from rfl, sr_rl (by decide), show (dd_sr.getD 2 []).length = 6 by decide +kernel]
      have := hwf.2.1
      omega
    rw [ix_n hwf.1, show (502 : Nat) = 500 + 2 from rfl, sr_rv (by decide)]
    refine wk_num (d := d + 410) (op := 2) (code := 2) hC X28 (by decide) (by decide) (by decide) (fun _ => ?_)
    have hmost : (if m_told (m_cls T p at') (Int32.ofNat 2) = -1 then (1000000000000 : Int64) else m_told (m_cls T p at') (Int32.ofNat 2)) = m_most (m_cls T p at') := rfl
    have hmr : 0 ≤ (m_most (m_cls T p at')).toInt := by
      unfold m_most
      by_cases h : m_told (m_cls T p at') 2 = -1
      · rw [if_pos h]; decide
      · rw [if_neg h]
        rcases told_rng2 hC 2 with y | y
        · exact absurd y h
        · exact y.1
    rw [hmost]
    have hwr := worth_rng (day := day) (at' := at') hw hi hmr 5 x.2.2.1 hlt
    refine as_worth (d := d + 405) (bs := m_base Ls x.2.2.1) (amt := m_amt Ls x day at') hw.2.2.1 hmr h6 5 x.2.2.1 0 _ lc s28 [] _ hg X28.1.1.2.2.2.2.2.2.2.2.1 (by have := hwl.2.2.1; omega) (root_5 4 x.2.2.1 (by have := hwl.2.2.1; omega)) (by decide) X28.1.1 M28 (fun s36 E36 r36 _ => ?_)
    have X36 := X28.ask E36 r36
    rw [List.nil_append] at X36
    generalize m_worth Ls (m_amt Ls x day at') (m_most (m_cls T p at')) 5 x.2.2.1 = wo at X36 K hwr ⊢
    intro s38 q38
    have r38 : Wc wk ab v [2012] [] [] [] s36 s38 := by rw [q38]; exact Wc.sfL (by decide)
    have e38 : am_fL s38 2012 wk = wo.1 := by rw [q38]; exact rL_same
    have X38 := X36.wc (worth' := wo.1) r38 (by decide) (by simp) (by simp) (by simp) (X36.1.1.2.2.2.2.1.wc r38 hv (by decide) (by simp)) ((r38.fL (by decide) (by simp)).trans X36.1.2.2.2.1.2.2) e38
    rw [e38]
    refine wk_addRow (d := d + 410) X38.1 (by decide) (fun s41 B41 r41 _ => ?_)
    have X41 := X38.rw B41 r41
    rw [if_neg (fun y => absurd y.2 (by decide)), List.nil_append, i640a] at X41
    have rd : WoC wk ab v σ s41 := ((rc.trans (wo_k (sub_as r36))).trans (r38.mono (by decide) (by simp) (by simp) (by simp))).trans (wo_k r41)
    unfold m_sB at K
    rw [gp] at K
    refine wk_outRow (d := d) hw (hT p) (by simp) X41 (fun ho s43 X43 r43 _ => ?_) (fun ho h8 s43 X43 r43 _ => ?_) (fun ho h8 ou hou s43 X43 r43 _ => ?_)
    · have V43 := X43.1.1.2.2.2.2.1
      rw [X43.1.1.2.2.2.1, Option.getD_some, V43.2.2.2.2]
      refine ⟨is_mk V43.1.1, fun y => absurd y (by decide), fun _ => wk_over121 X43.1 (K s43 lc ?_ (rd.trans (wo_k r43)))⟩
      rw [if_pos ho]
      exact ⟨_, _, X43.1, fun y => absurd rfl y, fun _ => ⟨rfl, rfl, p, pc, q, hd, sum, wo.1, hm, X43⟩⟩
    · have V43 := X43.1.1.2.2.2.2.1
      rw [X43.1.1.2.2.2.1, Option.getD_some, V43.2.2.2.2]
      refine ⟨is_mk V43.1.1, fun y => absurd y (by decide), fun _ => wk_over121 X43.1 (K s43 lc ?_ (rd.trans (wo_k r43)))⟩
      rw [if_neg ho, if_pos h8]
      exact ⟨_, _, X43.1, fun _ => rfl, fun y => absurd y (show ¬ (2 : Int32) = 0 by decide)⟩
    · rw [if_neg ho, if_neg h8, ← hou] at K
      have V43' : ∀ {o' : Bool} {s' : Int64} {r' : List mRow} {t' : List Int32}, WkX s43 w wk ab v b P T Ls Cs i x cc' lc day at' (m_cls T p at') p pc q hd sum wo.1 s' r' t' 0 o' → am_fR s43 2002 wk = some v ∧ am_is s43 (some v) 3 ∧ am_fI s43 3007 v = b2i o' := fun X => ⟨X.1.1.2.2.2.1, is_mk X.1.1.2.2.2.2.1.1.1, X.1.1.2.2.2.2.1.2.2.2.2⟩
      unfold m_sC at K
      by_cases h1 : ou.1.1 = false
      · rw [if_pos h1] at X43 K
        obtain ⟨u1, u2, u3⟩ := V43' X43
        rw [u1, Option.getD_some, u3]
        exact ⟨u2, fun y => absurd y (by decide), fun _ => wk_over121 X43.1 (K s43 lc ⟨_, _, X43.1, fun y => absurd rfl y, fun _ => ⟨rfl, rfl, p, pc, q, hd, sum, wo.1, hm, X43⟩⟩ (rd.trans (wo_k r43)))⟩
      · rw [if_neg h1] at X43 K
        obtain ⟨u1, u2, u3⟩ := V43' X43
        rw [u1, Option.getD_some, u3]
        refine ⟨u2, fun _ => wk_waitRow (d := d + 399) hw hC (by simp) X43 (fun wt hwt s47 X47 r47 _ => ?_), fun y => absurd rfl y⟩
        unfold m_sD at K
        rw [gp, ← hwt] at K
        have re : WoC wk ab v σ s47 := (rd.trans (wo_k r43)).trans (wo_k r47)
        by_cases h2 : (m_ld Ls x).toInt < q.2.1.toInt + (m_days (m_cls T p at') wt.1).toInt
        · rw [if_pos h2] at X47 K
          exact wk_over121 X47.1 (K s47 lc ⟨_, _, X47.1, fun y => absurd rfl y, fun _ => ⟨rfl, rfl, p, pc, q, hd, sum, wo.1, hm, X47⟩⟩ re)
        · rw [if_neg h2] at X47 K
          have V47 := X47.1.1.2.2.2.2.1
          refine w_Wk_work_121 ⟨is_mk X47.1.1.2.2.1, ?_⟩
          rw [X47.1.1.2.2.2.1, Option.getD_some, V47.2.2.2.2]
          refine ⟨is_mk V47.1.1, fun _ => wk_averageRow (d := d + 399) hw hC (by simp) hwr.1 hwr.2 hsr.1 X47 (fun av hav s4 X4 r4 _ => ?_), fun y => absurd rfl y⟩
          unfold m_sE at K
          rw [gp, ← hav] at K
          have rf : WoC wk ab v σ s4 := re.trans (wo_k r4)
          by_cases h3 : av.1 = false ∧ m_told (m_cls T p at') 8 = -1
          · rw [if_pos h3] at X4 K
            exact wk_tail (d := d + 399) hw hm hC (by simp) hwr.1 hwr.2 hwr.1 X4 (fun s' R r' => K s' lc R (rf.trans r'))
          · rw [if_neg h3] at X4 K
            by_cases h4 : m_great wo.1 sum = true
            · rw [if_pos h4] at X4 K
              exact wk_over135 X4.1 (K s4 lc ⟨_, _, X4.1, fun _ => rfl, fun y => absurd y (show ¬ (5 : Int32) = 0 by decide)⟩ rf)
            · rw [if_neg h4] at X4 K
              by_cases h5 : m_all Ls x day at' 1 = 0
              · rw [if_pos h5] at X4 K
                exact wk_over135 X4.1 (K s4 lc ⟨_, _, X4.1, fun _ => rfl, fun y => absurd y (show ¬ (4 : Int32) = 0 by decide)⟩ rf)
              · rw [if_neg h5] at X4 K
                have hV := allOf_rng2 (fun k => amt_rng (day := day) (at' := at') hw hi k 1) _ h6
                have hV0 : 0 ≤ (m_all Ls x day at' 1).toInt := hV.1
                have hVp : 0 < (m_all Ls x day at' 1).toInt := by
                  have : (m_all Ls x day at' 1).toInt ≠ 0 := fun y => h5 (by rw [i64e, y]; rfl)
                  omega
                have hz0 : 0 ≤ (wo.1 * sum / m_all Ls x day at' 1).toInt := by
                  have hng : ¬ 4611686018427387904 < wo.1.toInt * sum.toInt := fun y => h4 (decide_eq_true y)
                  have hmn := Int.mul_nonneg hwr.1 hsr.1
                  have hpr : (wo.1 * sum).toInt = wo.1.toInt * sum.toInt := i64mul (by omega) (by omega)
                  rw [i64div (by rw [hpr]; exact hmn) hVp, hpr]
                  exact Int.ediv_nonneg hmn (by omega)
                have hav := av_rng hwr.1 hwr.2 hz0
                have hr := less_rng (rs := ([(0, 0, wo.1)], wo.1)) (code := 3) (arg := 0) hwr.1 hwr.2 hav.1 hav.2
                have hl := less_len (rs := ([((0 : Int32), (0 : Int32), wo.1)], wo.1)) (code := 3) (arg := 0) (cents := (if wo.1 * sum / m_all Ls x day at' 1 < wo.1 then wo.1 - wo.1 * sum / m_all Ls x day at' 1 else 0))
                exact wk_tail (d := d + 399) hw hm hC (Nat.lt_of_le_of_lt hl (by simp)) hr.1 hr.2 hwr.1 X4 (fun s' R r' => K s' lc R (rf.trans r'))
end
