/-! THE CLASS: the row of OUT -/
def WkX (σ : am_S) (w : ow_T) (wk ab v b : Nat) (P : List mPol) (T : List mTell) (Ls : List mLoss) (Cs : List mCase) (i : Nat) (x : mCase) (cc lc : Nat) (day at' : Int32) (C : List mCl) (p pc : Nat) (q : mPol) (hd : Option Nat) (sum worth s : Int64) (rows : List mRow) (tr : List Int32) (fnd : Int32) (ov : Bool) : Prop := WkB σ w wk ab v b P T Ls Cs i x cc lc day at' s rows tr fnd ov ∧ WkP σ w wk b P C p pc q hd ∧ MnR σ wk ab (m_amt Ls x day at') (m_items Ls (m_base Ls x.2.2.1)).length ∧ am_fL σ 2010 wk = sum ∧ am_fL σ 2012 wk = worth
theorem i32as (a b : Int32) : a + b - b = a := by grind
def wkH : List Nat := [2002, 2003, 2004, 2005, 2006, 2007, 2008, 2009, 2010, 2013, 2014, 2015, 2016, 2017, 2018, 2019]
section
variable {nl : Bool} {Ln : Nat} {xs : Nat → Int32} {d : Nat} {σ σ1 : am_S} {w : ow_T} {wk ab v b : Nat} {P : List mPol} {T : List mTell} {Ls : List mLoss} {Cs : List mCase} {i : Nat} {x : mCase} {cc lc : Nat} {day at' : Int32} {C : List mCl} {p pc : Nat} {q : mPol} {hd : Option Nat} {sum worth s : Int64} {rows : List mRow} {tr : List Int32} {fnd : Int32} {ov : Bool} {fs as vs va : List Nat}
theorem WkX.wc {s' worth' : Int64} {rows' : List mRow} {tr' : List Int32} {fnd' : Int32} {ov' : Bool} (X : WkX σ w wk ab v b P T Ls Cs i x cc lc day at' C p pc q hd sum worth s rows tr fnd ov) (r : Wc wk ab v fs as vs va σ σ1) (h1 : wkH.all (fun x => ! fs.contains x && ! vs.contains x) = true) (h0 : 0 ∉ as) (h2 : ∀ j ∈ as, j ≤ 6) (h3 : ∀ j ∈ va, 1 ≤ j ∧ j ≤ 4) (hV : VwD σ1 v rows' tr' fnd' ov') (hs : am_fL σ1 2011 wk = s') (hwo : am_fL σ1 2012 wk = worth') : WkX σ1 w wk ab v b P T Ls Cs i x cc lc day at' C p pc q hd sum worth' s' rows' tr' fnd' ov' := by
  have qq : ∀ x ∈ wkH, x ∉ fs ∧ x ∉ vs := fun x hx => by have := List.all_eq_true.mp h1 x hx; simpa using this
  have hF : wkF.all (fun x => ! fs.contains x && ! vs.contains x) = true := List.all_eq_true.mpr (fun x hx => List.all_eq_true.mp h1 x ((show ∀ y ∈ wkF, y ∈ wkH by decide) x hx))
  have hG : wkG.all (fun x => ! fs.contains x && ! vs.contains x) = true := List.all_eq_true.mpr (fun x hx => List.all_eq_true.mp h1 x ((show ∀ y ∈ wkG, y ∈ wkH by decide) x hx))
  obtain ⟨B, Q, M, S, W⟩ := X
  exact ⟨B.wc r hF h2 h3 hV hs, Q.wc B r hG h2 h3, M.wc B.1.1 r (qq _ (by decide)).1 (qq _ (by decide)).2 h0 h3, (r.fL (qq _ (by decide)).1 (qq _ (by decide)).2).trans S, hwo⟩
/-- after an act was asked for -/
theorem WkX.ask {tr' : List Int32} (X : WkX σ w wk ab v b P T Ls Cs i x cc lc day at' C p pc q hd sum worth s rows tr fnd ov) (E : AsE σ1 w wk ab v b P T Ls Cs x.2.2.1 lc rows tr' fnd ov) (r : AsC wk ab v σ σ1) : WkX σ1 w wk ab v b P T Ls Cs i x cc lc day at' C p pc q hd sum worth s rows tr' fnd ov :=
  X.wc r (by decide) (by simp) (by simp) (by decide) E.2.2.2.2.1 ((r.fL (by simp) (by decide)).trans X.1.2.2.2.1.2.2) ((r.fL (by simp) (by decide)).trans X.2.2.2.2)
theorem WkX.rw {s' : Int64} {rows' : List mRow} {tr' : List Int32} {fnd' : Int32} {ov' : Bool} (X : WkX σ w wk ab v b P T Ls Cs i x cc lc day at' C p pc q hd sum worth s rows tr fnd ov) (B : WkB σ1 w wk ab v b P T Ls Cs i x cc lc day at' s' rows' tr' fnd' ov') (r : WkC wk ab v σ σ1) : WkX σ1 w wk ab v b P T Ls Cs i x cc lc day at' C p pc q hd sum worth s' rows' tr' fnd' ov' :=
  X.wc r (by decide) (by simp) (by simp) (by decide) B.1.2.2.2.2.1 B.2.2.2.1.2.2 ((r.fL (by decide) (by decide)).trans X.2.2.2.2)
theorem WkX.pol (X : WkX σ w wk ab v b P T Ls Cs i x cc lc day at' C p pc q hd sum worth s rows tr fnd ov) : PoR σ w (b, 100 + p) pc p q (tlP T p) := by
  obtain ⟨c, c1, c2⟩ := X.1.1.2.2.2.2.2.1.2.2.1 p q X.2.1.2.1
  have e : c = pc := Option.some.inj (c1.symm.trans X.2.1.2.2.1)
  subst e
  exact c2
theorem WkX.los (X : WkX σ w wk ab v b P T Ls Cs i x cc lc day at' C p pc q hd sum worth s rows tr fnd ov) : LsR σ w (b, 300 + x.2.2.1) lc x.2.2.1 (Ls.getD x.2.2.1 mLoss0) := by
  obtain ⟨c, c1, c2, -⟩ := X.1.1.2.2.2.2.2.1.2.2.2.1 _ _ (getD_some mLoss0 X.1.1.2.2.2.2.2.2.2.2.2)
  have e : c = lc := Option.some.inj (c1.symm.trans X.1.1.2.2.2.2.2.2.2.2.1)
  subst e
  exact c2
theorem WkX.cas (X : WkX σ w wk ab v b P T Ls Cs i x cc lc day at' C p pc q hd sum worth s rows tr fnd ov) : CsR σ w (b, 600 + i) cc x := by
  obtain ⟨-, -, ⟨-, b3, b4⟩, -⟩ := X.1
  obtain ⟨c, c1, c2, -⟩ := X.1.1.2.2.2.2.2.1.2.2.2.2.1 i x b3
  have e : c = cc := Option.some.inj (c1.symm.trans b4)
  subst e
  exact c2
theorem WkX.hoe (X : WkX σ w wk ab v b P T Ls Cs i x cc lc day at' C p pc q hd sum worth s rows tr fnd ov) : HoE σ wk ab (m_amt Ls x day at') Ls x.2.2.1 x.2.2.2.1 := ⟨X.2.2.1, cc, X.1.2.2.1.1, X.cas.1.2.1, X.cas.2.2.2.1⟩
theorem WkX.frB (X : WkX σ w wk ab v b P T Ls Cs i x cc lc day at' C p pc q hd sum worth s rows tr fnd ov) (r : AsC wk ab v σ σ1) : FrB σ w σ1 w b := Wc.frB r X.1.1.1 (by simp) (by decide) X.1.1.2.2.2.2.2.2.1 X.1.1.2.2.2.2.2.1.1.2.2.1
theorem polK (hw : WfD P T Ls Cs) (hq : P[p]? = some q) (h6 : q.1 ≠ 6) : 0 ≤ q.1.toInt ∧ q.1.toInt ≤ 5 ∧ 0 ≤ q.2.1.toInt ∧ q.2.1.toInt ≤ 10949 ∧ P.getD p mPol0 = q := by
  have := hw.1.2 q (List.mem_of_getElem? hq)
  have h7 : q.1.toInt ≠ 6 := fun z => h6 (by rw [i32e, z]; decide)
  exact ⟨this.1, by omega, this.2.2.1, by omega, getD_of mPol0 hq⟩
/-- the table of owners by the kind of policy -/
theorem askPv {k : Int32} (h0 : 0 ≤ k.toInt) (h5 : k.toInt ≤ 5) : am_rv (am_tz (TT nl Ln xs)) 505 k.toNatClampNeg = askP k ∧ k.toInt < am_rl (am_tz (TT nl Ln xs)) 505 := by
  refine ⟨?_, ?_⟩
  · rw [ix_n h0, show (505 : Nat) = 500 + 5 from rfl, sr_rv (by decide)]
    rfl
  · rw [show (505 : Nat) = 500 + 5 from rfl, sr_rl (by decide), show (dd_sr.getD 5 []).length = 6 by decide +kernel]
    omega
/-- the clauses, one after another -/
theorem wk_outL (hw : WfD P T Ls Cs) {F : am_S → Prop} : ∀ (l : List mCl) (k : Nat) (cov : Bool) (arg : Int32) (h0 : Option Nat) (x5 : Option Value) (σ : am_S) (tr : List Int32), (∀ c ∈ l, WfCl c ∧ ∀ f, c.2.2 = some f → hgt f ≤ 400 ∧ ndep f ≤ 64) → ClN σ w (b, 100 + p) h0 l → WkX σ w wk ab v b P T Ls Cs i x cc lc day at' C p pc q hd sum worth s rows tr fnd ov → (∀ σ', WkX σ' w wk ab v b P T Ls Cs i x cc lc day at' C p pc q hd sum worth s rows (tr ++ (m_outL (m_lis Ls x.2.2.1) (m_hold Ls x day at') cov arg k l).2) fnd ov → AsC wk ab v σ σ' → ∀ k' x5, c_Wk_outRow_96 nl Ln xs (d + 412) wk (b2i (m_outL (m_lis Ls x.2.2.1) (m_hold Ls x day at') cov arg k l).1.1) (m_outL (m_lis Ls x.2.2.1) (m_hold Ls x day at') cov arg k l).1.2 k' none x5 σ' F) → c_Wk_outRow_96 nl Ln xs (d + 412) wk (b2i cov) arg (Int32.ofNat k) h0 x5 σ F := by
  intro l
  induction l with
  | nil =>
    intro k cov arg h0 x5 σ tr _ hc X K
    have hc : h0 = none := hc
    subst hc
    have := K σ (by rw [show (m_outL (m_lis Ls x.2.2.1) (m_hold Ls x day at') cov arg k []).2 = [] from rfl, List.append_nil]; exact X) Wc.rf (Int32.ofNat k) x5
    exact this
  | cons c l ih =>
    intro k cov arg h0 x5 σ tr hl hc X K
    obtain ⟨e, rfl, hn, hc⟩ := hc
    obtain ⟨⟨c0, c11, n0, n1, n5⟩, hF⟩ := hl c List.mem_cons_self
    have hl' : ∀ c ∈ l, WfCl c ∧ ∀ f, c.2.2 = some f → hgt f ≤ 400 ∧ ndep f ≤ 64 := fun g hg => hl g (List.mem_cons_of_mem _ hg)
    have two : (2 : Int32).toInt = 2 := by decide
    have hop : (c_op c.1 = 0 ↔ c.1 = 0) ∧ (c_op c.1 = 1 ↔ c.1 = 1) ∧ (c.1 < 2 ↔ c.1 = 0 ∨ c.1 = 1) := by
      have h12 : ∀ n, n < 12 → (c_op (Int32.ofNat n) = 0 ↔ Int32.ofNat n = 0) ∧ (c_op (Int32.ofNat n) = 1 ↔ Int32.ofNat n = 1) ∧ (Int32.ofNat n < 2 ↔ Int32.ofNat n = 0 ∨ Int32.ofNat n = 1) := by decide +kernel
      have := h12 c.1.toInt.toNat (by omega)
      rw [← n32of c0] at this
      exact this
    -- what goes on behind this clause
    have go : ∀ (cov' : Bool) (arg' : Int32) (t : List Int32) (s1 : am_S) (x5 : Option Value), m_outL (m_lis Ls x.2.2.1) (m_hold Ls x day at') cov arg k (c :: l) = ((m_outL (m_lis Ls x.2.2.1) (m_hold Ls x day at') cov' arg' (k + 1) l).1, t ++ (m_outL (m_lis Ls x.2.2.1) (m_hold Ls x day at') cov' arg' (k + 1) l).2) → WkX s1 w wk ab v b P T Ls Cs i x cc lc day at' C p pc q hd sum worth s rows (tr ++ t) fnd ov → AsC wk ab v σ s1 → c_Wk_outRow_96 nl Ln xs (d + 412) wk (b2i cov') arg' (Int32.ofNat k + 1) (am_fR s1 8003 e) x5 s1 F := by
      intro cov' arg' t s1 x5 em X1 r1
      have f1 := X.frB r1
      rw [n32s, (f1 _ e hn.1.1).2.fR]
      refine ih (k + 1) cov' arg' _ x5 s1 (tr ++ t) hl' (ClN.fr hc (f1 _)) X1 (fun s2 X2 r2 k' x5' => ?_)
      have := K s2 (by rw [em, ← List.append_assoc]; exact X2) (Wc.trans r1 r2) k' x5'
      rw [em] at this
      exact this
    have b0 : b2i (decide (c.1 = 0)) = if c.1 = 0 then 1 else 0 := by by_cases z : c.1 = 0 <;> simp [z, b2i]
    -- named: the condition
    have named : ∀ (t : List Int32) (s1 : am_S) (x5 : Option Value) (y0 : Int32), ¬ y0 = 0 → c.1 < 2 → (c.2.1 = 5 ∨ (m_lis Ls x.2.2.1 c.2.1).1 = true) → t = (if c.2.1 = 5 then [] else (m_lis Ls x.2.2.1 c.2.1).2) → WkX s1 w wk ab v b P T Ls Cs i x cc lc day at' C p pc q hd sum worth s rows (tr ++ t) fnd ov → AsC wk ab v σ s1 → c_Wk_outRow_149 nl Ln xs (d + 412) wk (b2i cov) arg (Int32.ofNat k) (some e) x5 y0 s1 F := by
      intro t s1 x5 y0 hy h2 hnm ht X1 r1
      have f1 := X.frB r1
      have hn1 := NdC.fr hn (f1 _)
      refine w_Wk_outRow_149 ⟨fun z => absurd z hy, fun _ => ⟨is_mk hn1.1.2, ?_⟩⟩
      rw [Option.getD_some]
      cases hf : c.2.2 with
      | none =>
        have h82 : am_fR s1 8002 e = none := by have := hn1.2.2.2; rw [hf] at this; exact this
        rw [h82]
        refine ⟨fun _ => w_Wk_outRow_177 ⟨is_mk hn1.1.2, ?_⟩, fun z => absurd rfl z⟩
        rintro v6 rfl
        rw [Option.getD_some, hn1.2.1]
        have eb : (if c_op c.1 = 0 then (1 : Int32) else 0) = b2i (decide (c.1 = 0)) := by
          rw [b0]
          by_cases z : c.1 = 0
          · rw [if_pos z, if_pos (hop.1.mpr z)]
          · rw [if_neg z, if_neg (fun y => z (hop.1.mp y))]
        rw [eb]
        refine go _ _ t s1 _ ?_ X1 r1
        show (if c.1 < 2 then _ else _) = _
        rw [if_pos h2, if_pos hnm, hf, ht]
      | some f =>
        obtain ⟨r, h82, pf, hS, -⟩ := (show ∃ r, am_fR s1 8002 e = some r ∧ isP f ∧ NdS s1 w (b, 100 + p) f r r ∧ am_fR s1 8003 r = none by have := hn1.2.2.2; rw [hf] at this; exact this)
        have hg := hF f hf
        rw [h82]
        refine ⟨fun z => absurd z (by simp), fun _ => ⟨is_mk X1.1.1.2.2.1, ?_⟩⟩
        have hbl : m_base Ls x.2.2.1 < Ls.length := by have hlt := X.1.1.2.2.2.2.2.2.2.2.2; have := root_lt hw.2.2.1.2.1 4 x.2.2.1 hlt; unfold m_base; omega
        have h6 : (m_items Ls (m_base Ls x.2.2.1)).length ≤ 6 := (hw.2.2.1.2.1 _ _ (getD_some mLoss0 hbl)).2.2.2
        obtain ⟨D, hD⟩ : ∃ D, d + 411 = D + hgt f + 10 := ⟨d + 401 - hgt f, by omega⟩
        rw [hD]
        refine (hld_all (d := D) (notice := x.2.2.2.1) (amt := m_amt Ls x day at') hw.2.2.1 h6 f).1 r 0 s1 (tr ++ t) true _ pf hS (by omega) X1.1.1 X1.hoe (fun s8 E8 r8 _ => ?_)
        have X8 := X1.ask E8 r8
        have ra := Wc.trans r1 r8
        have hn8 := NdC.fr hn (X.frB ra _)
        have eh : cHld (m_amt Ls x day at') Ls x.2.2.1 x.2.2.2.1 f true = m_hold Ls x day at' f := rfl
        rw [eh] at X8 ⊢
        rintro w13 rfl w14 rfl v17 rfl
        rw [hn8.2.1]
        cases hh : (m_hold Ls x day at' f).1 with
        | true =>
          rw [if_pos rfl, if_pos rfl, ← hD]
          refine go cov arg (t ++ (m_hold Ls x day at' f).2) s8 _ ?_ (by rw [← List.append_assoc]; exact X8) ra
          show (if c.1 < 2 then _ else _) = _
          rw [if_pos h2, if_pos hnm, hf, ht]
          dsimp only
          rw [if_pos hh, List.append_assoc]
        | false =>
          have nf : ¬ (false = true) := by decide
          rw [if_neg nf, if_neg nf, ← hD]
          have eb : (if c_op c.1 = 0 then (1 : Int32) else 0) = b2i (decide (c.1 = 0)) := by
            rw [b0]
            by_cases z : c.1 = 0
            · rw [if_pos z, if_pos (hop.1.mpr z)]
            · rw [if_neg z, if_neg (fun y => z (hop.1.mp y))]
          rw [eb]
          refine go _ _ (t ++ (m_hold Ls x day at' f).2) s8 _ ?_ (by rw [← List.append_assoc]; exact X8) ra
          show (if c.1 < 2 then _ else _) = _
          rw [if_pos h2, if_pos hnm, hf, ht]
          dsimp only
          rw [if_neg (by rw [hh]; decide), List.append_assoc]
    have inout : c.1 < 2 → c_Wk_outRow_118 nl Ln xs (d + 412) wk (b2i cov) arg (Int32.ofNat k) (some e) x5 σ F := by
      intro h2
      have h1 : c.1.toInt ≤ 1 := by rw [i32lt, two] at h2; omega
      have enr : c_nr c = c.2.1 + 20 := by unfold c_nr; rw [if_pos h1]
      have hn5 := n5 h1
      have t20 : (20 : Int32).toInt = 20 := by decide
      have e25 : (c_nr c = 25) ↔ c.2.1 = 5 := by
        rw [enr, i32e, i32add (by omega) (by omega), t20, i32e, show (25 : Int32).toInt = 25 by decide, show (5 : Int32).toInt = 5 by decide]
        omega
      refine w_Wk_outRow_118 ⟨is_mk hn.1.2, ?_⟩
      rw [Option.getD_some, hn.2.2.1]
      refine ⟨fun z => w_Wk_outRow_144 ?_, fun z => ⟨is_mk X.1.1.2.2.1, ?_⟩⟩
      · have z5 := e25.mp z
        exact named [] σ x5 1 (by decide) h2 (Or.inl z5) (by rw [if_pos z5]) (by rw [List.append_nil]; exact X) Wc.rf
      · have z5 : ¬ c.2.1 = 5 := fun y => z (e25.mpr y)
        have e20 : c_nr c - 20 = c.2.1 := by rw [enr]; exact i32as _ _
        rw [e20]
        refine as_lossIs (d := d + 403) (depth := 0) hw.2.2.1 (by decide) X.1.1 (fun s1 E1 r1 _ => ?_)
        have X1 := X.ask E1 r1
        cases hm : (m_lis Ls x.2.2.1 c.2.1).1 with
        | true =>
          rw [if_pos rfl]
          exact named _ s1 x5 1 (by decide) h2 (Or.inr hm) (by rw [if_neg z5]) X1 r1
        | false =>
          rw [if_neg (by decide)]
          have hn1 := NdC.fr hn (X.frB r1 _)
          refine w_Wk_outRow_149 ⟨fun _ => ⟨is_mk hn1.1.2, ?_⟩, fun z => absurd rfl z⟩
          rintro v3 rfl
          rw [Option.getD_some]
          refine go cov arg _ s1 _ ?_ X1 r1
          show (if c.1 < 2 then _ else _) = _
          rw [if_pos h2, if_neg (fun y => y.elim z5 (fun y => by rw [hm] at y; exact absurd y (by decide)))]
    refine w_Wk_outRow_96 ⟨fun z => absurd z (by simp), fun _ => ⟨is_mk hn.1.2, ?_⟩⟩
    rw [Option.getD_some, hn.2.1]
    refine ⟨fun z => inout (hop.2.2.mpr (Or.inl (hop.1.mp z))), fun z => ⟨fun z2 => inout (hop.2.2.mpr (Or.inr (hop.2.1.mp z2))), fun z2 => w_Wk_outRow_148 ?_⟩⟩
    refine w_Wk_outRow_149 ⟨fun _ => ⟨is_mk hn.1.2, ?_⟩, fun z => absurd rfl z⟩
    rintro v3 rfl
    rw [Option.getD_some]
    refine go cov arg [] σ _ ?_ (by rw [List.append_nil]; exact X) Wc.rf
    show (if c.1 < 2 then _ else _) = _
    rw [if_neg (fun y => (hop.2.2.mp y).elim (fun y => z (hop.1.mpr y)) (fun y => z2 (hop.2.1.mpr y)))]
    rfl
end
