/-! THE CLASS: what came of settling: totals; the row of interest -/
def m_cOfR (code : Int32) : List mRow → Int64
  | [] => 0
  | r :: l => if r.1 = code then r.2.2 else m_cOfR code l
def CdL (n : Int) (rows : List mRow) : Prop := ∀ r ∈ rows, 0 ≤ r.1.toInt ∧ r.1.toInt ≤ n
theorem cofr_app {code : Int32} : ∀ (l l' : List mRow), (∀ r ∈ l, r.1 ≠ code) → m_cOfR code (l ++ l') = m_cOfR code l'
  | [], l', _ => rfl
  | r :: l, l', h => by
    rw [List.cons_append, m_cOfR, if_neg (h r List.mem_cons_self)]
    exact cofr_app l l' (fun x hx => h x (List.mem_cons_of_mem _ hx))
theorem CdL.mono {n n' : Int} {rows : List mRow} (h : CdL n rows) (hn : n ≤ n') : CdL n' rows := fun r hr => ⟨(h r hr).1, by have := (h r hr).2; omega⟩
theorem CdL.less {n : Int} {rs : List mRow × Int64} {code arg : Int32} {c : Int64} (h : CdL n rs.1) (h0 : 0 ≤ code.toInt) (h1 : code.toInt ≤ n) : CdL n (m_less rs code arg c).1 := by
  unfold m_less
  split
  · exact h
  · intro r hr
    rcases List.mem_append.mp hr with hr | hr
    · exact h r hr
    · rw [List.mem_singleton.mp hr]
      exact ⟨h0, h1⟩
section
variable {P : List mPol} {T : List mTell} {Ls : List mLoss} {Cs : List mCase} {x : mCase} {day at' : Int32} {p : Nat} {C : List mCl}
theorem cd_0 {w : Int64} : CdL 7 [((0 : Int32), (0 : Int32), w)] := fun r hr => by rw [List.mem_singleton.mp hr]; exact ⟨show 0 ≤ (0 : Int32).toInt by decide, show (0 : Int32).toInt ≤ 7 by decide⟩
theorem cd_2 {c a : Int32} {w w' : Int64} (h0 : 0 ≤ c.toInt) (h1 : c.toInt ≤ 7) : CdL 7 [((0 : Int32), (0 : Int32), w), (c, a, w')] := fun r hr => by
  rcases List.mem_cons.mp hr with rfl | hr
  · exact ⟨show 0 ≤ (0 : Int32).toInt by decide, show (0 : Int32).toInt ≤ 7 by decide⟩
  · rw [List.mem_singleton.mp hr]
    exact ⟨h0, h1⟩
theorem cd_nil {n : Int} : CdL n [] := fun r hr => absurd hr (by simp)
theorem cd_G {w : Int64} {rs : List mRow × Int64} {tr : List Int32} {al : Nat → Option Int64} {ord : List Nat} (h : CdL 7 rs.1) : CdL 7 (m_sG T at' p w rs tr al ord).1 := by
  unfold m_sG
  split
  · exact h
  · split
    · exact h.less (by decide) (by decide)
    · exact h
theorem cd_F {w : Int64} {rs : List mRow × Int64} {tr : List Int32} {sf : mTr Int32} (h : CdL 7 rs.1) : CdL 7 (m_sF T x day at' p C w rs tr sf).1 := cd_G (((h.less (by decide) (by decide)).less (by decide) (by decide)).less (by decide) (by decide))
theorem cd_E {sum w : Int64} {tr : List Int32} {av : mTr Bool} : CdL 7 (m_sE P T Ls x day at' p C sum w tr av).1 := by
  unfold m_sE
  split
  · exact cd_F cd_0
  · split
    · exact cd_0
    · split
      · exact cd_0
      · exact cd_F (CdL.less cd_0 (by decide) (by decide))
theorem cd_D {sum w : Int64} {tr : List Int32} {wt : mTr Int32} : CdL 7 (m_sD P T Ls x day at' p C sum w tr wt).1 := by
  unfold m_sD
  split
  · exact cd_2 (by decide) (by decide)
  · exact cd_E
theorem cd_C {sum w : Int64} {tr : List Int32} {o : mTr (Bool × Int32)} : CdL 7 (m_sC P T Ls x day at' p C sum w tr o).1 := by
  unfold m_sC
  split
  · exact cd_2 (by decide) (by decide)
  · exact cd_D
theorem cd_B {sum : Int64} {w : mTr Int64} : CdL 7 (m_sB P T Ls x day at' p C sum w).1 := by
  unfold m_sB
  split
  · exact cd_2 (by decide) (by decide)
  · split
    · exact cd_0
    · exact cd_C
theorem begin_cd : CdL 7 (m_begin P T Ls x day at').1 := by
  unfold m_begin
  split
  · exact cd_nil
  · split
    · exact cd_nil
    · split
      · exact cd_nil
      · exact cd_B
theorem cofr_no {n : Int} {code : Int32} : ∀ {l : List mRow}, CdL n l → n < code.toInt → m_cOfR code l = 0
  | [], _, _ => rfl
  | r :: l, h, hn => by
    rw [m_cOfR, if_neg (fun z => by have := (h r List.mem_cons_self).2; rw [z] at this; omega)]
    exact cofr_no (fun y hy => h y (List.mem_cons_of_mem _ hy)) hn
/-- behind the years: the codes, the interest -/
theorem behind_cd {rs : List mRow × Int64} {tr : List Int32} {n : Nat} (h : CdL 9 rs.1) : CdL 12 (m_behind x day at' C rs tr n).1 ∧ ((m_behind x day at' C rs tr n).2.2.1 = 0 → m_cOfR 11 (m_behind x day at' C rs tr n).1 = (m_behind x day at' C rs tr n).2.2.2.1) := by
  unfold m_behind
  dsimp only
  have h1 : CdL 10 (m_less rs 10 0 (m_least (m_summed x.2.2.2.2.2 18 day at') rs.2)).1 := (h.mono (by decide)).less (by decide) (by decide)
  generalize m_less rs 10 0 (m_least (m_summed x.2.2.2.2.2 18 day at') rs.2) = r1 at h1
  split
  · exact ⟨h1.mono (by decide), fun z => absurd z (show ¬ (5 : Int32) = 0 by decide)⟩
  · obtain ⟨it, hit⟩ : ∃ it, it = (if m_told C 9 = -1 then 0 else m_days2 r1.2 day at' 0 x.2.2.2.1 x.2.2.2.2.2 * m_told C 9 / 3650000) := ⟨_, rfl⟩
    rw [← hit]
    have h11 : ∀ r ∈ r1.1, r.1 ≠ 11 := fun r hr z => by have := (h1 r hr).2; rw [z] at this; exact absurd this (by decide)
    have hr2 : CdL 11 (if it = 0 then r1.1 else r1.1 ++ [((11 : Int32), (0 : Int32), it)]) ∧ m_cOfR 11 (if it = 0 then r1.1 else r1.1 ++ [((11 : Int32), (0 : Int32), it)]) = it := by
      by_cases h0 : it = 0
      · rw [if_pos h0, h0]
        exact ⟨h1.mono (by decide), cofr_no h1 (by decide)⟩
      · rw [if_neg h0]
        refine ⟨fun r hr => ?_, ?_⟩
        · rcases List.mem_append.mp hr with hr | hr
          · exact (h1.mono (by decide)) r hr
          · rw [List.mem_singleton.mp hr]
            exact ⟨show 0 ≤ (11 : Int32).toInt by decide, show (11 : Int32).toInt ≤ 11 by decide⟩
        · rw [cofr_app _ _ h11]
          exact if_pos rfl
    have hz : ∀ l : List mRow, CdL 11 l → m_cOfR 11 (l ++ [((12 : Int32), (0 : Int32), -m_summed x.2.2.2.2.2 13 day at')]) = m_cOfR 11 l := by
      intro l
      induction l with
      | nil => intro _; exact if_neg (show ¬ (12 : Int32) = 11 by decide)
      | cons r l ih =>
        intro hl
        rw [List.cons_append, m_cOfR, m_cOfR, ih (fun y hy => hl y (List.mem_cons_of_mem _ hy))]
    split
    · exact ⟨hr2.1.mono (by decide), fun _ => hr2.2⟩
    · refine ⟨fun r hr => ?_, fun _ => (hz _ hr2.1).trans hr2.2⟩
      rcases List.mem_append.mp hr with hr | hr
      · exact (hr2.1.mono (by decide)) r hr
      · rw [List.mem_singleton.mp hr]
        exact ⟨show 0 ≤ (12 : Int32).toInt by decide, show (12 : Int32).toInt ≤ 12 by decide⟩
theorem work_cd {i : Nat} : CdL 12 (m_work P T Ls Cs i day at').1 ∧ ((m_work P T Ls Cs i day at').2.2.1 = 0 → m_cOfR 11 (m_work P T Ls Cs i day at').1 = (m_work P T Ls Cs i day at').2.2.2.1) := by
  unfold m_work
  dsimp only
  have hb := begin_cd (P := P) (T := T) (Ls := Ls) (x := Cs.getD i mCase0) (day := day) (at' := at')
  split
  · rename_i hf
    exact ⟨hb.mono (by decide), fun z => absurd z hf⟩
  · split
    · exact ⟨hb.mono (by decide), fun _ => cofr_no hb (by decide)⟩
    · split
      · exact ⟨hb.mono (by decide), fun _ => cofr_no hb (by decide)⟩
      · unfold m_after
        split
        · exact behind_cd (hb.mono (by decide))
        · exact behind_cd (((hb.mono (by decide) : CdL 9 _).less (by decide) (by decide)).less (by decide) (by decide))
end
theorem cofr_find (code : Int32) : ∀ l : List mRow, ((l.find? (fun r => decide (r.1 = code))).map (fun r => r.2.2)).getD 0 = m_cOfR code l
  | [] => rfl
  | r :: l => by
    rw [m_cOfR]
    by_cases h : r.1 = code
    · rw [if_pos h, List.find?_cons_of_pos (by simpa using h)]
      rfl
    · rw [if_neg h, List.find?_cons_of_neg (by simpa using h)]
      exact cofr_find code l
