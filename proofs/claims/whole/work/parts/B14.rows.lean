/-! THE CLASS: clauses' numbers, rows -/
section
variable {nl : Bool} {Ln : Nat} {xs : Nat → Int32} {d : Nat} {σ : am_S} {w : ow_T} {k : Nat × Nat}
theorem nd_lastOf {op : Int32} {hd : Option Nat} {C : List mCl} {F : Option Nat → am_S → Prop} (h : ClN σ w k hd C) (K1 : C.reverse.find? (fun c => decide (c_op c.1 = op)) = none → F none σ) (K2 : ∀ c e, C.reverse.find? (fun c => decide (c_op c.1 = op)) = some c → NdC σ w k e c → F (some e) σ) : k_Nd_lastOf nl Ln xs (d + 1) hd op σ F := by
  have loop : ∀ (l : List mCl) (h0 last : Option Nat), Chn (NdC σ w k) (am_fR σ 8003) h0 l → (l.reverse.find? (fun c => decide (c_op c.1 = op)) = none → F last σ) → (∀ c e, l.reverse.find? (fun c => decide (c_op c.1 = op)) = some c → NdC σ w k e c → F (some e) σ) → c_Nd_lastOf_4 nl Ln xs (d + 1) hd op last h0 σ F := by
    intro l
    induction l with
    | nil =>
      intro h0 last hc K1 _
      have hc : h0 = none := hc
      rw [hc]
      exact w_Nd_lastOf_4 ⟨fun _ => K1 rfl, fun q => absurd rfl q⟩
    | cons x l ih =>
      intro h0 last hc K1 K2
      obtain ⟨c, rfl, hq, hl⟩ := hc
      refine w_Nd_lastOf_4 ⟨fun q => absurd q (by simp), fun _ => ⟨is_mk hq.1.2, ?_⟩⟩
      rw [Option.getD_some, hq.2.1]
      rintro w5 rfl v7 rfl
      rw [List.reverse_cons, List.find?_append] at K1 K2
      refine ih _ _ hl (fun g => ?_) (fun c' e' g => ?_)
      · rw [g] at K1 K2
        by_cases hx : c_op x.1 = op
        · rw [if_pos hx]
          exact K2 x c (by simp [hx]) hq
        · rw [if_neg hx]
          exact K1 (by simp [hx])
      · rw [g] at K2
        exact K2 c' e' rfl
  exact w_Nd_lastOf (loop C hd none h K1 K2)
/-- the class's number of a sort of clause -/
def opOk (op code : Int32) : Prop := ∀ x : Int32, 0 ≤ x.toInt → x.toInt ≤ 11 → (c_op x = op ↔ x = code)
theorem op_12 : ∀ q ∈ [(4, 4), (33, 6), (32, 5), (3, 3), (2, 2), (6, 7), (7, 8), (8, 9)], ∀ n, n < 12 → (c_op (Int32.ofNat n) = Int32.ofNat q.1 ↔ n = q.2) := by decide +kernel
theorem op_ok {a c : Nat} (h : (a, c) ∈ [(4, 4), (33, 6), (32, 5), (3, 3), (2, 2), (6, 7), (7, 8), (8, 9)]) (hc : c < 100) : opOk (Int32.ofNat a) (Int32.ofNat c) := by
  intro x h0 h1
  have e := n32of h0
  have hh := op_12 (a, c) h x.toInt.toNat (by omega)
  rw [← e] at hh
  rw [hh]
  constructor
  · intro z
    have z : x.toInt.toNat = c := z
    rw [e, z]
  · intro z
    show x.toInt.toNat = c
    rw [z, n32 (by omega)]
    omega
theorem told_find {C : List mCl} {op code : Int32} (hw : ∀ c ∈ C, WfCl c) (ho : opOk op code) : C.reverse.find? (fun c => decide (c_op c.1 = op)) = C.reverse.find? (fun c => decide (c.1 = code)) := by
  apply find_congr
  intro c hc
  obtain ⟨h0, h1, -⟩ := hw c (List.mem_reverse.mp hc)
  exact decide_eq_decide.mpr (ho c.1 h0 h1)
theorem told_eq (C : List mCl) (code : Int32) : m_told C code = ((C.reverse.find? (fun c => decide (c.1 = code))).map (fun c => c.2.1.toInt64)).getD (-1) := m_last_map2 _ _ _ _
theorem wk_numberOf {wk : Nat} {op code : Int32} {hd : Option Nat} {C : List mCl} {other : Int64} {F : Int64 → am_S → Prop} (kk : am_kd σ wk = (3, 0)) (h7 : am_fR σ 2007 wk = hd) (h : ClN σ w k hd C) (hw : ∀ c ∈ C, WfCl c) (ho : opOk op code) (hcode : code = 4 ∨ code = 6 ∨ code = 5 ∨ code = 3 ∨ code = 2 ∨ code = 7 ∨ code = 8 ∨ code = 9) (K : F (if m_told C code = -1 then other else m_told C code) σ) : k_Wk_numberOf nl Ln xs (d + 2) wk op other σ F := by
  have ef := told_find hw ho
  rw [told_eq] at K
  refine w_Wk_numberOf ⟨is_mk kk, ?_⟩
  rw [h7]
  refine (nd_lastOf (d := d) h (fun g _ => ⟨fun q => absurd rfl q, ?_⟩) (fun c e g hn _ => ⟨fun _ => is_mk hn.1.2, ?_⟩))
  · rintro w7 rfl
    rw [ef] at g
    rw [g] at K
    exact K
  · rintro w7 rfl
    rw [ef] at g
    rw [g] at K
    have hc : c.1 = code := of_decide_eq_true (List.find?_some (p := fun c : mCl => decide (c.1 = code)) g)
    have hm := hw c (List.mem_reverse.mp (List.mem_of_find?_eq_some g))
    have h2 : ¬ c.1.toInt ≤ 1 := by
      rw [hc]
      rcases hcode with q | q | q | q | q | q | q | q <;> rw [q] <;> decide
    have h10 : ¬ c.1 = 10 := by
      rw [hc]
      rcases hcode with q | q | q | q | q | q | q | q <;> rw [q] <;> decide
    have h11 : ¬ c.1 = 11 := by
      rw [hc]
      rcases hcode with q | q | q | q | q | q | q | q <;> rw [q] <;> decide
    have en : c_nr c = c.2.1 := by unfold c_nr; rw [if_neg h2, if_neg h10, if_neg h11]
    rw [if_neg (by simp), Option.getD_some, hn.2.2.1, en]
    have hne : ¬ c.2.1.toInt64 = -1 := by
      rw [i64e, t64, show (-1 : Int64).toInt = -1 by decide]
      have := hm.2.2.1
      omega
    simp only [Option.map_some, Option.getD_some, if_neg hne] at K
    exact K
end
/-! the state of working -/
def WkA (σ : am_S) (wk ab : Nat) : Prop := (am_fR σ 2014 wk = some (ab + 1) ∧ am_fR σ 2015 wk = some (ab + 2) ∧ am_fR σ 2016 wk = some (ab + 3) ∧ am_fR σ 2017 wk = some (ab + 4) ∧ am_fR σ 2018 wk = some (ab + 5) ∧ am_fR σ 2019 wk = some (ab + 6)) ∧ am_kd σ (ab + 1) = (1000, 12) ∧ am_kd σ (ab + 2) = (1000, 100) ∧ am_kd σ (ab + 3) = (1000, 100) ∧ am_kd σ (ab + 4) = (1001, 6) ∧ am_kd σ (ab + 5) = (1001, 6) ∧ am_kd σ (ab + 6) = (1000, 6)
def WkB (σ : am_S) (w : ow_T) (wk ab v b : Nat) (P : List mPol) (T : List mTell) (Ls : List mLoss) (Cs : List mCase) (i : Nat) (x : mCase) (cc lc : Nat) (day at' : Int32) (s : Int64) (rows : List mRow) (tr : List Int32) (fnd : Int32) (ov : Bool) : Prop := AsE σ w wk ab v b P T Ls Cs x.2.2.1 lc rows tr fnd ov ∧ am_fR σ 2003 wk = some b ∧ (am_fR σ 2004 wk = some cc ∧ Cs[i]? = some x ∧ am_aR σ (bA σ b 6006) i = some cc) ∧ (am_fI σ 2008 wk = day ∧ am_fI σ 2009 wk = at' ∧ am_fL σ 2011 wk = s) ∧ WkA σ wk ab
/-- the cover and its clauses -/
def WkP (σ : am_S) (w : ow_T) (wk b : Nat) (P : List mPol) (C : List mCl) (p pc : Nat) (q : mPol) (hd : Option Nat) : Prop := am_fR σ 2006 wk = some pc ∧ P[p]? = some q ∧ am_aR σ (bA σ b 6004) p = some pc ∧ q.1 ≠ 6 ∧ am_fR σ 2007 wk = hd ∧ ClN σ w (b, 100 + p) hd C
section
variable {nl : Bool} {Ln : Nat} {xs : Nat → Int32} {d : Nat} {σ σ1 : am_S} {w : ow_T} {wk ab v b : Nat} {P : List mPol} {T : List mTell} {Ls : List mLoss} {Cs : List mCase} {i : Nat} {x : mCase} {cc lc : Nat} {day at' : Int32} {s : Int64} {rows : List mRow} {tr : List Int32} {fnd : Int32} {ov : Bool} {fs as vs va : List Nat}
def wkF : List Nat := [2002, 2003, 2004, 2005, 2008, 2009, 2014, 2015, 2016, 2017, 2018, 2019]
def wkG : List Nat := [2006, 2007]
theorem WkA.wc (h : WkA σ wk ab) (r : Wc wk ab v fs as vs va σ σ1) (h1 : wkF.all (fun x => ! fs.contains x && ! vs.contains x) = true) : WkA σ1 wk ab := by
  have q : ∀ x ∈ wkF, x ∉ fs ∧ x ∉ vs := fun x hx => by have := List.all_eq_true.mp h1 x hx; simpa using this
  obtain ⟨⟨a1, a2, a3, a4, a5, a6⟩, a7⟩ := h
  refine ⟨⟨?_, ?_, ?_, ?_, ?_, ?_⟩, by rw [r.kd]; exact a7⟩
  · exact (r.fR (q _ (by decide)).1 (q _ (by decide)).2).trans a1
  · exact (r.fR (q _ (by decide)).1 (q _ (by decide)).2).trans a2
  · exact (r.fR (q _ (by decide)).1 (q _ (by decide)).2).trans a3
  · exact (r.fR (q _ (by decide)).1 (q _ (by decide)).2).trans a4
  · exact (r.fR (q _ (by decide)).1 (q _ (by decide)).2).trans a5
  · exact (r.fR (q _ (by decide)).1 (q _ (by decide)).2).trans a6
/-- working stands, but for what may have changed; the view and s as told -/
theorem WkB.wc {s' : Int64} {rows' : List mRow} {tr' : List Int32} {fnd' : Int32} {ov' : Bool} (B : WkB σ w wk ab v b P T Ls Cs i x cc lc day at' s rows tr fnd ov) (r : Wc wk ab v fs as vs va σ σ1) (h1 : wkF.all (fun x => ! fs.contains x && ! vs.contains x) = true) (h2 : ∀ j ∈ as, j ≤ 6) (h3 : ∀ j ∈ va, 1 ≤ j ∧ j ≤ 4) (hV : VwD σ1 v rows' tr' fnd' ov') (hs : am_fL σ1 2011 wk = s') : WkB σ1 w wk ab v b P T Ls Cs i x cc lc day at' s' rows' tr' fnd' ov' := by
  have q : ∀ x ∈ wkF, x ∉ fs ∧ x ∉ vs := fun x hx => by have := List.all_eq_true.mp h1 x hx; simpa using this
  obtain ⟨⟨hv, hk, k1, k2, -, hB, hO, e5, e6, e7⟩, b1, ⟨b2, b3, b4⟩, ⟨b5, b6, -⟩, b8⟩ := B
  have f := r.frB hv h2 h3 hO hB.1.2.2.1
  refine ⟨⟨hv, by unfold LowK; rw [r.kd]; exact hk, by rw [r.kd]; exact k1, (r.fR (q _ (by decide)).1 (q _ (by decide)).2).trans k2, hV, hB.fr f, hO, (r.fR (q _ (by decide)).1 (q _ (by decide)).2).trans e5, ?_, e7⟩, (r.fR (q _ (by decide)).1 (q _ (by decide)).2).trans b1, ⟨(r.fR (q _ (by decide)).1 (q _ (by decide)).2).trans b2, b3, ?_⟩, ⟨(r.fI (q _ (by decide)).1 (q _ (by decide)).2).trans b5, (r.fI (q _ (by decide)).1 (q _ (by decide)).2).trans b6, hs⟩, b8.wc r h1⟩
  · rw [bA.fr hB.1.1 (f 2), (f 2 _ hB.1.2.2.2.2.2.1.2.1).2.aR]
    exact e6
  · rw [bA.fr hB.1.1 (f 2), (f 2 _ hB.1.2.2.2.2.2.2.1.2.1).2.aR]
    exact b4
theorem WkP.wc {C : List mCl} {p pc : Nat} {q : mPol} {hd : Option Nat} (Q : WkP σ w wk b P C p pc q hd) (B : WkB σ w wk ab v b P T Ls Cs i x cc lc day at' s rows tr fnd ov) (r : Wc wk ab v fs as vs va σ σ1) (h1 : wkG.all (fun x => ! fs.contains x && ! vs.contains x) = true) (h2 : ∀ j ∈ as, j ≤ 6) (h3 : ∀ j ∈ va, 1 ≤ j ∧ j ≤ 4) : WkP σ1 w wk b P C p pc q hd := by
  have qq : ∀ x ∈ wkG, x ∉ fs ∧ x ∉ vs := fun x hx => by have := List.all_eq_true.mp h1 x hx; simpa using this
  obtain ⟨q1, q2, q3, q4, q5, q6⟩ := Q
  obtain ⟨⟨hv, -, -, -, -, hB, hO, -⟩, -⟩ := B
  have f := r.frB hv h2 h3 hO hB.1.2.2.1
  refine ⟨(r.fR (qq _ (by decide)).1 (qq _ (by decide)).2).trans q1, q2, ?_, q4, (r.fR (qq _ (by decide)).1 (qq _ (by decide)).2).trans q5, ClN.fr q6 (f _)⟩
  rw [bA.fr hB.1.1 (f 2), (f 2 _ hB.1.2.2.2.2.1.2.1).2.aR]
  exact q3
/-- what rows may change -/
def rwF : List Nat := [2011]
def rwV : List Nat := [3004, 3005, 3006, 3007]
def rwA : List Nat := [1, 2, 3, 4]
abbrev WkC (wk ab v : Nat) (σ σ' : am_S) : Prop := Wc wk ab v rwF [] rwV rwA σ σ'
theorem wk_addRow {code arg : Int32} {cents : Int64} {F : am_S → Prop} (B : WkB σ w wk ab v b P T Ls Cs i x cc lc day at' s rows tr fnd ov) (hl : rows.length < 13) (K : ∀ σ', WkB σ' w wk ab v b P T Ls Cs i x cc lc day at' (s + cents) (if cents = 0 ∧ 2 < code.toInt then rows else rows ++ [(code, arg, cents)]) tr fnd ov → WkC wk ab v σ σ' → F σ') : k_Wk_addRow nl Ln xs (d + 2) wk code arg cents σ F := by
  obtain ⟨⟨hv, hk, k1, k2, hV, hB, hO, e5, e6, e7⟩, b1, b2, ⟨b5, b6, b7⟩, b8⟩ := id B
  refine w_Wk_addRow ⟨is_mk k1, ?_⟩
  rw [b7]
  intro s2 q2
  have r2 : WkC wk ab v σ s2 := by rw [q2]; exact Wc.sfL (by decide)
  have r2' : Wc wk ab v [2011] [] [] [] σ s2 := by rw [q2]; exact Wc.sfL (by decide)
  have V2 : VwD s2 v rows tr fnd ov := hV.wc r2' hv (by decide) (by simp)
  have s2s : am_fL s2 2011 wk = s + cents := by rw [q2]; exact rL_same
  have B2 := B.wc (s' := s + cents) r2 (by decide) (by simp) (by decide) V2 s2s
  have two : (2 : Int32).toInt = 2 := by decide
  have go : ¬ (cents = 0 ∧ 2 < code.toInt) → c_Wk_addRow_21 nl Ln xs (d + 2) wk code arg cents s2 F := by
    intro hn
    rw [if_neg hn] at K
    refine w_Wk_addRow_21 ⟨is_mk B2.1.2.2.1, by rw [B2.1.2.2.2.1]; exact is_mk V2.1.1, ?_⟩
    rw [B2.1.2.2.2.1, Option.getD_some]
    refine vw_addRow V2 hv hl (fun s3 V3 r3 _ => ?_)
    have r3' : WkC wk ab v s2 s3 := r3.mono (by simp) (by simp) (by decide) (by decide)
    exact K s3 (B2.wc (s' := s + cents) r3' (by decide) (by simp) (by decide) V3 ((r3.fL (by simp) (by decide)).trans s2s)) (r2.trans r3')
  refine ⟨fun g => ⟨fun g2 => ?_, fun g2 => go (fun z => g2 (by rw [i32lt, two]; exact z.2))⟩, fun g => go (fun z => g z.1)⟩
  rw [i32lt, two] at g2
  rw [if_pos ⟨g, g2⟩] at K
  exact K s2 B2 r2
theorem wk_endWith {code arg : Int32} {F : am_S → Prop} (B : WkB σ w wk ab v b P T Ls Cs i x cc lc day at' s rows tr fnd ov) (hl : rows.length < 13) (K : ∀ σ', WkB σ' w wk ab v b P T Ls Cs i x cc lc day at' 0 (rows ++ [(code, arg, -s)]) tr fnd true → WkC wk ab v σ σ' → F σ') : k_Wk_endWith nl Ln xs (d + 2) wk code arg σ F := by
  obtain ⟨⟨hv, hk, k1, k2, hV, hB, hO, e5, e6, e7⟩, b1, b2, ⟨b5, b6, b7⟩, b8⟩ := id B
  refine w_Wk_endWith ⟨is_mk k1, by rw [k2]; exact is_mk hV.1.1, ?_⟩
  rw [k2, Option.getD_some, b7]
  refine vw_addRow hV hv hl (fun s3 V3 r3 _ => ?_)
  have r3' : WkC wk ab v σ s3 := r3.mono (by simp) (by simp) (by decide) (by decide)
  have k23 : am_fR s3 2002 wk = some v := (r3.fR (by simp) (by decide)).trans k2
  rw [k23, Option.getD_some]
  refine ⟨is_mk V3.1.1, ?_⟩
  intro s6 q6 s9 q9
  have r6 : WkC wk ab v s3 s6 := by rw [q6]; exact Wc.vfI (by decide)
  have r9 : WkC wk ab v s6 s9 := by rw [q9]; exact Wc.sfL (by decide)
  have r := (r3'.trans r6).trans r9
  refine K s9 (B.wc (s' := 0) r (by decide) (by simp) (by decide) ?_ (by rw [q9]; exact rL_same)) r
  have r69 : Wc wk ab v [2011] [] [3007] [] s3 s9 := by rw [q9, q6]; exact (Wc.vfI (by decide)).trans (Wc.sfL (by decide))
  obtain ⟨v1, v2, v3, v4, v5⟩ := V3
  exact ⟨v1.wc r69 (by decide), ⟨(r69.fI (by decide) (by decide)).trans v2.1, v2.2.1.eq fun i => r69.wI hv (by decide) (by simp) (by simp), v2.2.2.1.eq fun i => r69.wI hv (by decide) (by simp) (by simp), v2.2.2.2.eq fun i => r69.wL hv (by decide) (by simp) (by simp)⟩, ⟨(r69.fI (by decide) (by decide)).trans v3.1, fun i hi y hy => (r69.wI hv (by decide) (by simp) (by simp)).trans (v3.2 i hi y hy)⟩, (r69.fI (by decide) (by decide)).trans v4, by rw [q9]; show am_fI s6 3007 v = _; rw [q6]; exact rI_same⟩
end
