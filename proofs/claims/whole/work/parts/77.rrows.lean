/-! WORKING OUT, by the reference: rows -/
def eF (lk : Bool) : List Nat := (if lk then [12012, 12014] else []) ++ [12006, 13068, 13069, 13070, 13071, 13072, 13073, 13074, 13075, 13076, 13077, 13078, 13084]
def eA : List Nat := [53, 54, 55, 56]
def eM (lk : Bool) : List Nat := if lk then [1056, 1057, 1058, 1059] else []
theorem eM_lt (lk : Bool) : ∀ x ∈ eM lk, x < 1063 := by cases lk <;> simp [eM]
theorem Rc.te {o : Nat} {lk : Bool} {σ σ1 : am_S} (h : Rc o (tF lk) [] (tM lk) σ σ1) : Rc o (eF lk) eA (eM lk) σ σ1 := h.mono (by cases lk <;> simp [tF, eF]) (by simp) (by cases lk <;> simp [tM, eM])
def Es (σ : am_S) (o : Nat) (P : List mPol) (T : List mTell) (Ls : List mLoss) (Cs : List mCase) (i : Nat) (c : mCase) (day at' : Int32) (lk : Bool) (p : Nat) (st : Option Nat) (nf fnd : Int32) (ends : Bool) (s worth : Int64) (rows : List mRow) (tr : List Int32) : Prop := Ev σ o P T Ls Cs i c day at' lk rows tr ∧ am_fI σ 13070 o = Int32.ofNat p ∧ am_fI σ 13071 o = ixO st ∧ am_fI σ 12006 1053 = nf ∧ am_fI σ 13074 o = fnd ∧ am_fI σ 13075 o = b2i ends ∧ am_fL σ 13077 o = s ∧ am_fL σ 13076 o = worth ∧ am_fL σ 13078 o = m_total rows
theorem total_app : ∀ (l : List mRow) (r : mRow), m_total (l ++ [r]) = m_total l + r.2.2
  | [], r => by simp [m_total]
  | x :: l, r => by rw [List.cons_append, m_total, m_total, total_app l r, Int64.add_assoc]
section
variable {nl : Bool} {Ln : Nat} {xs : Nat → Int32} {d : Nat} {σ : am_S} {o : Nat} {P : List mPol} {T : List mTell} {Ls : List mLoss} {Cs : List mCase} {i : Nat} {c : mCase} {day at' : Int32} {lk : Bool} {p : Nat} {st : Option Nat} {nf fnd : Int32} {ends : Bool} {s worth : Int64} {rows : List mRow} {tr : List Int32}
theorem Es.te {σ1 : am_S} {tr1 : List Int32} (S : Es σ o P T Ls Cs i c day at' lk p st nf fnd ends s worth rows tr) (E : Ev σ1 o P T Ls Cs i c day at' lk rows tr1) (hr : Rc o (tF lk) [] (tM lk) σ σ1) : Es σ1 o P T Ls Cs i c day at' lk p st nf fnd ends s worth rows tr1 := by
  obtain ⟨-, e1, e2, e3, e4, e5, e6, e7, e8⟩ := S
  have nfl : ∀ g, g ≠ 12014 → g ∉ tF lk := by intro g hg; cases lk <;> simp [tF, hg]
  exact ⟨E, (hr.fI (nfl _ (by decide))).trans e1, (hr.fI (nfl _ (by decide))).trans e2, (hr.fI (nfl _ (by decide))).trans e3, (hr.fI (nfl _ (by decide))).trans e4, (hr.fI (nfl _ (by decide))).trans e5, (hr.fL (nfl _ (by decide))).trans e6, (hr.fL (nfl _ (by decide))).trans e7, (hr.fL (nfl _ (by decide))).trans e8⟩
theorem b2i0 {b : Bool} : b2i b = 0 ↔ b = false := by cases b <;> simp [b2i]
/-- a write of a field of the working that Ev doesn't have -/
theorem Ev.wr {σ1 : am_S} {fs as ms : List Nat} (E : Ev σ o P T Ls Cs i c day at' lk rows tr) (hr : Rc o fs as ms σ σ1) (hd : (([12012, 12014, 12015, 13068, 13069, 13072, 13073] ++ daF).all (fun x => ! fs.contains x) && ((List.range 50).all (fun x => ! as.contains x) && ([1056, 1057, 1058, 1059].all (fun x => ! ms.contains x) && ms.all (fun x => decide (x < 1063))))) = true) : Ev σ1 o P T Ls Cs i c day at' lk rows tr := by
  simp only [Bool.and_eq_true] at hd
  obtain ⟨d1, d2, d3, d4⟩ := hd
  obtain ⟨D, e1, e2, e3, e4, e5, e6, e7⟩ := E
  have lo := D.k.lo
  have nf : ∀ g ∈ [12012, 12014, 12015, 13068, 13069, 13072, 13073] ++ daF, g ∉ fs := fun g hg => by have := List.all_eq_true.mp d1 g hg; simpa using this
  have nm : ∀ g ∈ [1056, 1057, 1058, 1059], g ∉ ms := fun g hg => by have := List.all_eq_true.mp d3 g hg; simpa using this
  refine ⟨D.rc hr ?_, e1, (hr.fI (nf _ (by decide))).trans e2, (hr.fI (nf _ (by decide))).trans e3, (hr.fI (nf _ (by decide))).trans e4, (hr.fI (nf _ (by decide))).trans e5, (hr.fI (nf _ (by decide))).trans e6, fun hl => ?_⟩
  · simp only [Bool.and_eq_true]
    exact ⟨sub_all d1 (by decide), d2, d4⟩
  · obtain ⟨⟨a1, a2, a3, a4⟩, a5, a6⟩ := e7 hl
    exact ⟨⟨(hr.fI (nf _ (by decide))).trans a1, a2.eq fun i => hr.aIm lo (by decide) (nm _ (by decide)), a3.eq fun i => hr.aIm lo (by decide) (nm _ (by decide)), a4.eq fun i => hr.aLm lo (by decide) (nm _ (by decide))⟩, (hr.fI (nf _ (by decide))).trans a5, fun i hi x hx => (hr.aIm lo (by decide) (nm _ (by decide))).trans (a6 i hi x hx)⟩
theorem r_meets {n : Int32} {F : am_S → Prop} (S : Es σ o P T Ls Cs i c day at' lk p st nf fnd ends s worth rows tr) (K : ∀ σ', Es σ' o P T Ls Cs i c day at' lk p st (nf + 1) n ends s worth rows tr → Rc o (eF lk) eA (eM lk) σ σ' → F σ') : k_Ro_meets nl Ln xs (d + 1) o n σ F := by
  obtain ⟨E, e1, e2, e3, e4, e5, e6, e7, e8⟩ := S
  have hK := E.1.k
  refine w_Ro_meets ⟨is_mk hK.2.1, ?_⟩
  intro s2 q2
  have r2 : Rc o [13074] [] [] σ s2 := by rw [q2]; exact Rc.sfI (by decide) (Or.inl rfl)
  have E2 := E.wr r2 (by decide)
  rw [E2.is1.2]
  refine ⟨E2.is1.1, ?_⟩
  rw [(r2.fI (by decide)).trans e3]
  intro s6 q6
  have r6 : Rc o [13074, 12006] [] [] σ s6 := (r2.mono (by decide) (by decide) (by decide)).trans (by rw [q6]; exact Rc.sfI (by decide) (Or.inr rfl))
  refine K s6 ⟨E.wr r6 (by decide), (r6.fI (by decide)).trans e1, (r6.fI (by decide)).trans e2, by rw [q6]; exact rI_same, ?_, (r6.fI (by decide)).trans e5, (r6.fL (by decide)).trans e6, (r6.fL (by decide)).trans e7, (r6.fL (by decide)).trans e8⟩ (r6.mono (by cases lk <;> decide) (by decide) (by simp))
  rw [q6, q2]
  exact (rI_g (by decide)).trans rI_same
theorem r_row {code arg : Int32} {cents : Int64} {F : am_S → Prop} (S : Es σ o P T Ls Cs i c day at' lk p st nf fnd ends s worth rows tr) (h16 : rows.length < 16) (K : ∀ σ', Es σ' o P T Ls Cs i c day at' lk p st nf fnd ends s worth (rows ++ [(code, arg, cents)]) tr → Rc o (eF lk) eA (eM lk) σ σ' → F σ') : k_Ro_row nl Ln xs (d + 1) o code arg cents σ F := by
  have S0 := S
  obtain ⟨E, e1, e2, e3, e4, e5, e6, e7, e8⟩ := S
  have hK := E.1.k
  have lo := hK.lo
  refine w_Ro_row ⟨is_mk hK.2.1, ?_⟩
  intro s2 q2
  have r2 : Rc o [13078] [] [] σ s2 := by rw [q2]; exact Rc.sfL (by decide) (Or.inl rfl)
  have E2 := E.wr r2 (by decide)
  have t2 : am_fL s2 13078 o = m_total (rows ++ [(code, arg, cents)]) := by rw [q2, total_app, e8]; exact rL_same
  have hM := E2.1.m
  rw [E2.is1.2, E2.2.2.2.2.2.2.1]
  refine ⟨E2.is1.1, fun h => ?_, fun h => ?_⟩
  · have hl := b2i0.mp h
    subst hl
    refine K s2 ⟨?_, (r2.fI (by decide)).trans e1, (r2.fI (by decide)).trans e2, (r2.fI (by decide)).trans e3, (r2.fI (by decide)).trans e4, (r2.fI (by decide)).trans e5, (r2.fL (by decide)).trans e6, (r2.fL (by decide)).trans e7, t2⟩ (r2.mono (by decide) (by decide) (by decide))
    exact ⟨E2.1, E2.2.1, E2.2.2.1, E2.2.2.2.1, E2.2.2.2.2.1, E2.2.2.2.2.2.1, E2.2.2.2.2.2.2.1, fun q => by cases q⟩
  · have hl : lk = true := by
      cases lk
      · exact absurd rfl h
      · rfl
    subst hl
    obtain ⟨⟨a1, a2, a3, a4⟩, a5, a6⟩ := E2.2.2.2.2.2.2.2 rfl
    have b : 0 ≤ (Int32.ofNat rows.length).toInt ∧ (Int32.ofNat rows.length).toInt < 16 := by rw [n32 (by omega)]; omega
    rw [a1, mG_12009 hM, n32c (by omega)]
    refine ⟨mA_12009 hM b.1 b.2, ?_⟩
    intro s8 q8
    have r8 : Rc o [13078] [] [1056] σ s8 := (r2.mono (by decide) (by decide) (by decide)).trans (by rw [q8]; exact Rc.saIm (by decide))
    have hK8 := hK.rc r8
    have hM8 := E.1.m.rc r8
    have f8 : am_fI s8 12012 1053 = Int32.ofNat rows.length := by rw [q8]; exact a1
    rw [hK8.2.2.1, Option.getD_some, f8, mG_12010 hM8, n32c (by omega)]
    refine ⟨is_mk hM8.1, mA_12010 hM8 b.1 b.2, ?_⟩
    intro s13 q13
    have r13 : Rc o [13078] [] [1056, 1057] σ s13 := (r8.mono (by decide) (by decide) (by decide)).trans (by rw [q13]; exact Rc.saIm (by decide))
    have hK13 := hK.rc r13
    have hM13 := E.1.m.rc r13
    have f13 : am_fI s13 12012 1053 = Int32.ofNat rows.length := by rw [q13]; exact f8
    rw [hK13.2.2.1, Option.getD_some, f13, mG_12011 hM13, n32c (by omega)]
    refine ⟨is_mk hM13.1, mA_12011 hM13 b.1 b.2, ?_⟩
    intro s18 q18
    have r18 : Rc o [13078] [] [1056, 1057, 1058] σ s18 := (r13.mono (by decide) (by decide) (by decide)).trans (by rw [q18]; exact Rc.saLm (by decide))
    have hK18 := hK.rc r18
    have hM18 := E.1.m.rc r18
    have f18 : am_fI s18 12012 1053 = Int32.ofNat rows.length := by rw [q18]; exact f13
    rw [hK18.2.2.1, Option.getD_some, f18, n32s]
    refine ⟨is_mk hM18.1, ?_⟩
    intro s22 q22
    have r22 : Rc o [13078, 12012] [] [1056, 1057, 1058] σ s22 := (r18.mono (by decide) (by decide) (by decide)).trans (by rw [q22]; exact Rc.sfI (by decide) (Or.inr rfl))
    have ea : ∀ k i, am_aI s22 k i = am_up (am_up (am_aI s2) 1056 rows.length code) 1057 rows.length arg k i := by intro k i; rw [q22, q18, q13, q8]
    have el : ∀ k i, am_aL s22 k i = am_up (am_aL s2) 1058 rows.length cents k i := by intro k i; rw [q22, q18, q13, q8]
    refine K s22 ⟨⟨E.1.rc r22 (by decide), E.2.1, (r22.fI (by decide)).trans E.2.2.1, (r22.fI (by decide)).trans E.2.2.2.1, (r22.fI (by decide)).trans E.2.2.2.2.1, (r22.fI (by decide)).trans E.2.2.2.2.2.1, (r22.fI (by decide)).trans E.2.2.2.2.2.2.1, fun _ => ⟨⟨by rw [q22, List.length_append]; exact rI_same, a2.push fun i => ?_, a3.push fun i => ?_, a4.push fun i => ?_⟩, (r22.fI (by decide)).trans (E.2.2.2.2.2.2.2 rfl).2.1, fun j hj x hx => (r22.aIm lo (by decide) (by decide)).trans ((E.2.2.2.2.2.2.2 rfl).2.2 j hj x hx)⟩⟩, (r22.fI (by decide)).trans e1, (r22.fI (by decide)).trans e2, (r22.fI (by decide)).trans e3, (r22.fI (by decide)).trans e4, (r22.fI (by decide)).trans e5, (r22.fL (by decide)).trans e6, (r22.fL (by decide)).trans e7, ?_⟩ (r22.mono (by decide) (by decide) (by decide))
    · rw [ea]; simp [am_up]
    · rw [ea]; simp [am_up]
    · rw [el]; simp [am_up]
    · rw [q22, q18, q13, q8]; exact t2
theorem r_less {code arg : Int32} {cents : Int64} {F : am_S → Prop} (S : Es σ o P T Ls Cs i c day at' lk p st nf fnd ends s worth rows tr) (h16 : rows.length < 16) (K : ∀ σ', Es σ' o P T Ls Cs i c day at' lk p st nf fnd ends (m_less (rows, s) code arg cents).2 worth (m_less (rows, s) code arg cents).1 tr → Rc o (eF lk) eA (eM lk) σ σ' → F σ') : k_Ro_less nl Ln xs (d + 2) o code arg cents σ F := by
  refine w_Ro_less ⟨fun h => ?_, fun h => ⟨is_mk S.1.1.k.2.1, r_row S h16 (fun s3 S3 hr3 _ => ?_)⟩⟩
  · unfold m_less at K
    rw [if_pos h] at K
    exact K σ S Rc.rf
  · unfold m_less at K
    rw [if_neg h] at K
    obtain ⟨E, e1, e2, e3, e4, e5, e6, e7, e8⟩ := S3
    rw [e6]
    intro s5 q5
    have r5 : Rc o [13077] [] [] s3 s5 := by rw [q5]; exact Rc.sfL (by decide) (Or.inl rfl)
    exact K s5 ⟨E.wr r5 (by decide), (r5.fI (by decide)).trans e1, (r5.fI (by decide)).trans e2, (r5.fI (by decide)).trans e3, (r5.fI (by decide)).trans e4, (r5.fI (by decide)).trans e5, by rw [q5]; exact rL_same, (r5.fL (by decide)).trans e7, (r5.fL (by decide)).trans e8⟩ (hr3.trans (r5.mono (by cases lk <;> decide) (by decide) (by simp)))
theorem less_len {rs : List mRow × Int64} {code arg : Int32} {cents : Int64} : (m_less rs code arg cents).1.length ≤ rs.1.length + 1 := by
  unfold m_less
  split
  · omega
  · simp
/-- the end of a working by OUT or WAIT -/
theorem r_ends {code arg : Int32} {F : am_S → Prop} (S : Es σ o P T Ls Cs i c day at' lk p st nf fnd ends s worth rows tr) (h16 : rows.length < 16) (K : ∀ σ', Es σ' o P T Ls Cs i c day at' lk p st nf fnd true s worth (rows ++ [(code, arg, -s)]) tr → Rc o (eF lk) eA (eM lk) σ σ' → F σ') : k_Ro_row nl Ln xs (d + 1) o code arg (-(am_fL σ 13077 o)) σ (fun s3 => am_ext σ s3 → ∀ s5, s5 = am_sfI s3 13075 o 1 → F s5) := by
  rw [S.2.2.2.2.2.2.1]
  refine r_row S h16 (fun s3 S3 hr3 _ s5 q5 => ?_)
  obtain ⟨E, e1, e2, e3, e4, e5, e6, e7, e8⟩ := S3
  have r5 : Rc o [13075] [] [] s3 s5 := by rw [q5]; exact Rc.sfI (by decide) (Or.inl rfl)
  exact K s5 ⟨E.wr r5 (by decide), (r5.fI (by decide)).trans e1, (r5.fI (by decide)).trans e2, (r5.fI (by decide)).trans e3, (r5.fI (by decide)).trans e4, by rw [q5]; exact rI_same, (r5.fL (by decide)).trans e6, (r5.fL (by decide)).trans e7, (r5.fL (by decide)).trans e8⟩ (hr3.trans (r5.mono (by cases lk <;> decide) (by decide) (by simp)))
end
