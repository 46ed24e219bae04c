/-! THE CLASS: what was not paid, summed over the days -/
def c_mx (z : Int64) : Int64 := if z < 0 then 0 else z
def c_un (un : Int32) (f : mFact) : Int32 := if un < f.2.1 + 1 then un else f.2.1 + 1
/-- as the class goes: from the last fact on -/
def c_bd (s : Int64) (notice at' : Int32) : Int64 → Int64 → Int32 → List mFact → Int64
  | tot, paid, un, [] => tot + (un - notice).toInt64 * c_mx (s - paid)
  | tot, paid, un, f :: l => if (decide (f.1 = 13) && m_counts f 10949 at') = true then c_bd s notice at' (tot + (un - c_un un f).toInt64 * c_mx (s - paid)) (paid - (m_fc f - m_fi f)) (c_un un f) l else c_bd s notice at' tot paid un l
section
variable {nl : Bool} {Ln : Nat} {xs : Nat → Int32} {d : Nat} {σ σ1 : am_S} {w : ow_T} {wk ab v b : Nat} {P : List mPol} {T : List mTell} {Ls : List mLoss} {Cs : List mCase} {i : Nat} {x : mCase} {cc lc : Nat} {day at' : Int32} {C : List mCl} {p pc : Nat} {q : mPol} {hd : Option Nat} {sum worth s : Int64} {rows : List mRow} {tr : List Int32} {fnd : Int32} {ov : Bool}
theorem wk_centsByDays {F : Int64 → am_S → Prop} (hw : WfD P T Ls Cs) (X : WkX σ w wk ab v b P T Ls Cs i x cc lc day at' C p pc q hd sum worth s rows tr fnd ov) (K : F (c_bd s x.2.2.2.1 at' 0 (m_paidOf x.2.2.2.2.2 at') day x.2.2.2.2.2.reverse) σ) : k_Wk_centsByDays nl Ln xs (d + 3) wk σ F := by
  have hc := X.cas
  have wc := hw.2.2.2.2 x (List.mem_of_getElem? X.1.2.2.1.2.1)
  have loop : ∀ (l : List mFact) (tot paid : Int64) (un : Int32) (h0 : Option Nat) (x7 : Option Value), ChF σ w (b, 600 + i) h0 l → F (c_bd s x.2.2.2.1 at' tot paid un l) σ → c_Wk_centsByDays_29 nl Ln xs (d + 3) wk tot paid un h0 x7 σ F := by
    intro l
    induction l with
    | nil =>
      intro tot paid un h0 x7 hh K
      have hh : h0 = none := hh
      subst hh
      refine w_Wk_centsByDays_29 ⟨fun _ => ⟨is_mk X.1.1.2.2.1, ?_⟩, fun z => absurd rfl z⟩
      rw [X.1.2.2.1.1, X.1.2.2.2.1.2.2, Option.getD_some, hc.2.2.2.1]
      refine ⟨is_mk hc.1.2.1, w_Math_max ?_⟩
      rintro w3 rfl
      intro _
      exact K
    | cons f l ih =>
      intro tot paid un h0 x7 hh K
      obtain ⟨e, rfl, he, hl⟩ := hh
      unfold c_bd at K
      refine w_Wk_centsByDays_29 ⟨fun z => absurd z (by simp), fun _ => ⟨is_mk X.1.1.2.2.1, ?_⟩⟩
      rw [X.1.2.2.2.1.2.1, Option.getD_some]
      refine ⟨is_mk he.2.1, en_counts (d := d + 1) he (fun _ => ⟨fun hq => ?_, fun hq => ?_⟩)⟩
      · rw [if_pos hq] at K
        rw [he.2.2.2.1]
        refine w_Math_min2 ?_
        rintro w3 rfl
        intro _
        rw [X.1.2.2.2.1.2.2]
        refine w_Math_max ?_
        rintro w4 rfl
        intro _
        rw [he.2.2.2.2.2.2.2.1, he.2.2.2.2.2.2.2.2]
        rintro v15 rfl v17 rfl v19 rfl
        exact ih _ _ _ _ _ hl K
      · rw [if_neg hq] at K
        rintro v21 rfl
        exact ih _ _ _ _ _ hl K
  refine w_Wk_centsByDays ⟨is_mk X.1.1.2.2.1, ?_⟩
  rw [X.1.2.2.1.1, X.1.2.2.2.1.2.1, Option.getD_some]
  refine ⟨is_mk hc.1.2.1, cs_paidOfWorth (d := d) hc.1 wc.2.2.2.2.1 (fun _ => ?_)⟩
  rintro v5 rfl
  rw [X.1.2.2.1.1, Option.getD_some, X.1.2.2.2.1.1]
  refine ⟨is_mk hc.1.2.1, ?_⟩
  rintro v8 rfl
  exact loop _ _ _ _ _ _ hc.1.2.2 K
end
