/-! THE DESK of the reference: telling clauses, what is used, what is left -/
def WfZ (T : List mTell) : Prop := ∀ t ∈ T, cszs (tCls t) ≤ 17000
def LkW (l : mLook) : Prop := l.2.1.length ≤ 16 ∧ ∀ r ∈ l.2.1, (0 ≤ r.1.toInt ∧ r.1.toInt ≤ 12) ∧ -9223372036854775808 < r.2.2.toInt
/-- what is asked of the model -/
def DskW (D : mTop) : Prop := WfX (d_off D) ∧ (m_rlog (d_off D)).length ≤ 430000 ∧ (o_now (d_off D)).toInt ≤ 2000000000 ∧ d_tak D ≤ 40 ∧ WfZ (o_tel (d_off D)) ∧ LkW (d_lok D)
section
variable {nl : Bool} {Ln : Nat} {xs : Nat → Int32} {d : Nat} {σ : am_S} {o o' : Nat} {D : mTop}
theorem DskR.dat (R : DskR σ o o' D) : Dat σ o (o_pol (d_off D)) (o_tel (d_off D)) (o_los (d_off D)) (o_cas (d_off D)) := R.2.2.1.1.x.1.dat R.m
theorem DskR.pt (R : DskR σ o o' D) : PtR σ o := ⟨R.m, R.2.2.2.1.2.1, R.k, R.now⟩
/-- the desk stands, but for the letters -/
theorem DskR.let {σ1 : am_S} {L : List Int32} (R : DskR σ o o' D) (hr : Rc o leF [] [1055] σ σ1) (hL : LetR σ1 L) : DskR σ1 o o' (d_setLet D L) := by
  have lo := R.lo
  obtain ⟨R1, R2, R3, R4, R5, R6, R7, R8⟩ := R
  exact ⟨R1, ⟨by rw [hr.fR]; exact R2.1, by rw [hr.fR]; exact R2.2⟩, ⟨R3.1.rm hr (by decide), R3.2.rco hr⟩, ⟨R4.1.rc hr, R4.2.1.rc hr, R4.2.2.rc hr⟩, R5.rc hr lo (by decide) (by decide), hL, ⟨(hr.fI (by decide)).trans R7.1, (hr.fI (by decide)).trans R7.2.1, (hr.fI (by decide)).trans R7.2.2⟩, R8.rc hr lo (by decide) (by decide)⟩
theorem r_isMoment {at' : Int32} {F : Bool → am_S → Prop} (R : DskR σ o o' D) (K : F (decide (0 ≤ at'.toInt ∧ at'.toInt ≤ (o_now (d_off D)).toInt)) σ) : k_Rm_isMoment nl Ln xs (d + 2) 1053 at' σ F := by
  refine w_Rm_isMoment ⟨is_mk R.m.1, R.nowis, ?_⟩
  rw [R.g, R.2.2.1.1.2.1.1]
  refine w_Rm_in (fun _ => ?_)
  have z : (0 : Int64).toInt = 0 := by decide
  have e : (decide (decide (¬ at'.toInt64 < 0 ∧ ¬ (o_now (d_off D)).toInt64 < at'.toInt64) = true)) = decide (0 ≤ at'.toInt ∧ at'.toInt ≤ (o_now (d_off D)).toInt) := by
    apply decide_eq_decide.mpr
    rw [decide_eq_true_eq, i64lt, i64lt, t64, t64, z]
    omega
  rw [e]
  exact K
theorem cov_ix {P : List mPol} {p : Int32} (h : m_isCov P p.toInt64) : 0 ≤ p.toInt ∧ p.toInt.toNat < P.length ∧ p = Int32.ofNat p.toInt.toNat := by
  obtain ⟨⟨h1, h2⟩, -⟩ := h
  rw [t64] at h1 h2
  exact ⟨h1, by omega, n32of h1⟩
theorem cszs_mem : ∀ (C : List mCl) (k : Nat) (c : mCl), C[k]? = some c → cszs (C.drop k) = clsz c + cszs (C.drop (k + 1)) := by
  intro C k c h
  have hk := lt_of_get h
  rw [List.drop_eq_getElem_cons hk, cszs]
  congr 1
  rw [List.getElem?_eq_getElem hk] at h
  rw [Option.some.inj h]
theorem r_tell {p at' : Int32} {F : Int32 → am_S → Prop} (w : DskW D) (R : DskR σ o o' D) (K : ∀ σ', DskR σ' o o' (d_tell D p at').2 → Rc o leF [] [1055] σ σ' → F (d_tell D p at').1 σ') : k_Rm_tell nl Ln xs (d + 410) 1053 p at' σ F := by
  obtain ⟨⟨wo, -, -, -⟩, -, -, -, wz, -⟩ := w
  have lo := R.lo
  have hK := R.k
  have hM := R.m
  have hP : rPol σ o (o_pol (d_off D)) := R.2.2.1.1.2.2.1
  have h100 := wo.1.1.1
  obtain ⟨E, hE⟩ : ∃ E, E = d_tell D p at' := ⟨_, rfl⟩
  rw [← hE] at K
  unfold d_tell at hE
  have bad : ¬ (m_isCov (o_pol (d_off D)) p.toInt64 ∧ (0 ≤ at'.toInt ∧ at'.toInt ≤ (o_now (d_off D)).toInt)) → F (-2) σ := fun h => by
    rw [if_neg h] at hE
    rw [hE] at K
    exact K σ R Rc.rf
  refine w_Rm_tell ⟨is_mk hM.1, R.nowis, ?_⟩
  rw [R.g]
  refine r_isCover (d := d + 406) hK hP h100 (fun _ => ⟨fun c0 => ?_, fun c => bad (fun q => c (decide_eq_true q.1))⟩)
  have c0 := of_decide_eq_true c0
  refine r_isMoment (d := d + 407) R (fun _ => ⟨fun c1 => ?_, fun c => bad (fun q => c (decide_eq_true q.2))⟩)
  have c1 := of_decide_eq_true c1
  rw [if_pos ⟨c0, c1⟩] at hE
  obtain ⟨i1, i2, i3⟩ := cov_ix c0
  generalize p.toInt.toNat = pn at i2 i3 hE
  intro s9 q9
  have r9 : Rc o leF [] [1055] σ s9 := by rw [q9]; exact Rc.sfI (by decide) (Or.inr rfl)
  have L9 : LetR s9 [] := ⟨by rw [q9]; exact rI_same, fun b hb => by simp at hb, fun i x hx => by simp at hx⟩
  have R9 := R.let r9 L9
  have D9 : Dat s9 o (o_pol (d_off D)) (o_tel (d_off D)) (o_los (d_off D)) (o_cas (d_off D)) := R9.dat
  have h0 : ∀ t ∈ o_tel (d_off D), t.1 = 6 → t.2.2.1 = 0 := fun t ht h6 => (wo.1.te t ht).1 (Or.inl h6)
  have hst := m_set_cls (o_tel (d_off D)) pn at'
  refine ⟨R9.nowis, ?_⟩
  rw [R9.g, i3]
  refine (r_setOf (d := d + 408) D9.k D9.set wo.1.n6 wo.1.t h0 (by omega) (fun _ => ?_))
  have hcl : m_cls (o_tel (d_off D)) pn at' = clOf (o_tel (d_off D)) (m_set (o_tel (d_off D)) pn at') := by
    rw [hst.1]; unfold clOf; cases m_set (o_tel (d_off D)) pn at' <;> rfl
  rw [hcl] at hE
  have hlt := hst.2
  generalize m_set (o_tel (d_off D)) pn at' = st at hE hlt
  cases st with
  | none =>
    refine ⟨fun q => absurd rfl q, fun q => absurd rfl q, ?_⟩
    rintro w19 rfl
    refine w_Rm_tell_58 ⟨fun _ => ⟨is_mk R9.m.1, ?_⟩, fun q => absurd rfl q⟩
    rw [L9.1]
    rw [hE] at K
    exact K s9 R9 r9
  | some j =>
    have hj := hlt j rfl
    have hn6 := wo.1.n6
    obtain ⟨fr, g1, g2, g3, g4, g5⟩ := D9.cls wo.1 hj
    have bj : 0 ≤ (Int32.ofNat j).toInt ∧ (Int32.ofNat j).toInt < 151 := by rw [n32 (by omega)]; omega
    have hC : cszs (clOf (o_tel (d_off D)) (some j)) ≤ 17000 := by
      refine wz _ (List.mem_filter (p := fun t => decide (t.1 = 6)).mp ?_).1
      show (tlA (o_tel (d_off D)) 6).getD j tl0 ∈ tlA (o_tel (d_off D)) 6
      exact List.mem_of_getElem? (getD_some tl0 hj)
    have hWH : ∀ c ∈ clOf (o_tel (d_off D)) (some j), ∀ f, c.2.2 = some f → hgt f ≤ 400 := by
      refine wo.2.1 _ (List.mem_filter (p := fun t => decide (t.1 = 6)).mp ?_).1
      show (tlA (o_tel (d_off D)) 6).getD j tl0 ∈ tlA (o_tel (d_off D)) 6
      exact List.mem_of_getElem? (getD_some tl0 hj)
    generalize clOf (o_tel (d_off D)) (some j) = C at hE g1 g2 g4 g5 hC hWH
    have nj : ¬ ixO (some j) = -1 := ne_m1 (by omega)
    refine ⟨fun _ => R9.nowis, fun _ => by rw [R9.g]; exact oA_13027 R9.k bj.1 bj.2, ?_⟩
    rw [R9.g, oG_13027 R9.k, show ixO (some j) = Int32.ofNat j from rfl, n32c (by omega), g3]
    rintro w19 rfl
    rw [if_neg (show ¬ Int32.ofNat j = -1 from nj)]
    have loop : ∀ (m k : Nat) (s1 : am_S) (L1 : List Int32), k + m = C.length → LetR s1 L1 → Rc o leF [] [1055] s9 s1 → L1.length + cszs (C.drop k) ≤ 17000 → d_cls L1 (C.drop k) = d_cls [] C → c_Rm_tell_58 nl Ln xs (d + 410) 1053 (Int32.ofNat pn) at' (Int32.ofNat j) (Int32.ofNat (fr + k)) s1 F := by
      intro m
      induction m with
      | zero =>
        intro k s1 L1 hk hL1 r1 hs he
        have R1 := R9.let r1 hL1
        have v1 : am_aI s1 (o + 20) (j + 1) = Int32.ofNat (fr + C.length) := (r1.aI lo (by decide) (by simp)).trans g4
        refine w_Rm_tell_58 ⟨fun q => absurd q nj, fun _ => ⟨is_mk R1.m.1, R1.nowis, ?_⟩⟩
        rw [R1.g, oG_13027 R1.k, n32s, n32c (by omega), v1]
        refine ⟨oA_13027 R1.k (by rw [n32 (by omega)]; omega) (by rw [n32 (by omega)]; omega), fun q => ?_, fun _ => ?_⟩
        · rw [n32lt (by omega) (by omega)] at q
          omega
        · rw [hL1.1]
          rw [List.drop_of_length_le (by omega)] at he
          rw [hE, ← he] at K
          exact K s1 R1 (r9.trans r1)
      | succ m ih =>
        intro k s1 L1 hk hL1 r1 hs he
        have R1 := R9.let r1 hL1
        have v1 : am_aI s1 (o + 20) (j + 1) = Int32.ofNat (fr + C.length) := (r1.aI lo (by decide) (by simp)).trans g4
        obtain ⟨c, hc⟩ := get_ex (show k < C.length by omega)
        obtain ⟨c1, c2, c3, c4, c5⟩ := g5 k c hc
        have hsz := cszs_mem C k c hc
        have hA : ClA s1 o (fr + k) 30400 c := by
          refine ⟨(r1.aI lo (by decide) (by simp)).trans c1, (r1.aI lo (by decide) (by simp)).trans c2, ?_⟩
          cases hcc : c.2.2 with
          | none => exact (r1.aI lo (by decide) (by simp)).trans (c4 hcc)
          | some f =>
            obtain ⟨x, x1, x2, x3⟩ := c5 f hcc
            exact ⟨x, x1, (r1.aI lo (by decide) (by simp)).trans x2, r1.nodes lo (by decide) (by simp) (by simp) (by simp) x3⟩
        refine w_Rm_tell_58 ⟨fun q => absurd q nj, fun _ => ⟨is_mk R1.m.1, R1.nowis, ?_⟩⟩
        rw [R1.g, oG_13027 R1.k, n32s j, n32c (by omega), v1]
        refine ⟨oA_13027 R1.k (by rw [n32 (by omega)]; omega) (by rw [n32 (by omega)]; omega), fun _ => ?_, fun q => absurd (by rw [n32lt (by omega) (by omega)]; omega) q⟩
        have hle := clA_le L1 hA c3
        have h60 : 70 ≤ clsz c := by unfold clsz; omega
        refine (r_putClause (d := d) (o := o) (nn := 30400) (by omega) (Nat.le_refl _) hA c3 (hWH c (List.mem_of_getElem? hc)) R1.pt hL1 (by omega) (fun s2 hL2 r2 _ => ?_))
        rw [n32s]
        refine ih (k + 1) s2 _ (by omega) hL2 (r1.trans r2) ?_ ?_
        · have t9 := tok9 (d_clA L1 c) (n := 37) (by decide) (by decide)
          unfold d_cl
          rw [List.length_append, List.length_singleton]
          omega
        · rw [← he, List.drop_eq_getElem_cons (lt_of_get hc)]
          rw [List.getElem?_eq_getElem (lt_of_get hc)] at hc
          rw [Option.some.inj hc]
          rfl
    exact loop C.length 0 s9 [] (by omega) L9 Rc.rf (by simpa using hC) (by simp)
theorem r_rmUsed {p year at' : Int32} {F : Int64 → am_S → Prop} (w : DskW D) (R : DskR σ o o' D) (K : F (d_used D p year at') σ) : k_Rm_used nl Ln xs (d + 5) 1053 p year at' σ F := by
  obtain ⟨⟨wo, -, -, -⟩, -⟩ := w
  have hP : rPol σ o (o_pol (d_off D)) := R.2.2.1.1.2.2.1
  have h100 := wo.1.1.1
  unfold d_used at K
  have z : (0 : Int64).toInt = 0 := by decide
  have z29 : (29 : Int64).toInt = 29 := by decide
  have bad : ¬ (m_isCov (o_pol (d_off D)) p.toInt64 ∧ (0 ≤ year.toInt ∧ year.toInt ≤ 29) ∧ (0 ≤ at'.toInt ∧ at'.toInt ≤ (o_now (d_off D)).toInt)) → F (-9223372036854775808) σ := fun h => by
    rw [if_neg h] at K
    exact K
  refine w_Rm_used ⟨is_mk R.m.1, R.nowis, ?_⟩
  rw [R.g]
  refine r_isCover (d := d + 1) R.k hP h100 (fun _ => ⟨fun c0 => ?_, fun c => bad (fun q => c (decide_eq_true q.1))⟩)
  have c0 := of_decide_eq_true c0
  refine r_in (fun c1 c2 => ?_) (fun c => bad (fun q => c (by rw [t64, z, z29]; exact q.2.1)))
  rw [t64, z] at c1
  rw [t64, z29] at c2
  refine r_isMoment (d := d + 2) R (fun _ => ⟨fun c3 => ⟨R.nowis, ?_⟩, fun c => bad (fun q => c (decide_eq_true q.2.2))⟩)
  have c3 := of_decide_eq_true c3
  rw [if_pos ⟨c0, ⟨c1, c2⟩, c3⟩] at K
  obtain ⟨i1, i2, i3⟩ := cov_ix c0
  rw [R.g]
  generalize p.toInt.toNat = pn at i2 i3 K
  rw [i3]
  exact (r_used (d := d + 1) R.dat wo.1 (by omega) (fun _ => K))
theorem r_left {p year at' : Int32} {F : Int64 → am_S → Prop} (w : DskW D) (R : DskR σ o o' D) (K : F (d_left D p year at') σ) : k_Rm_left nl Ln xs (d + 6) 1053 p year at' σ F := by
  have wo := w.1.1
  unfold d_left at K
  refine w_Rm_left ⟨is_mk R.m.1, (r_rmUsed (d := d) w R (fun _ => ⟨fun q => ?_, fun q => ⟨R.nowis, ?_⟩⟩))⟩
  · rintro w7 rfl
    rw [if_pos rfl]
    rw [if_pos (show d_used D p year at' = d_no from q)] at K
    exact K
  · rw [if_neg (show ¬ d_used D p year at' = d_no from q)] at K
    have hcov : m_isCov (o_pol (d_off D)) p.toInt64 := by
      refine Classical.byContradiction fun z => q ?_
      unfold d_used
      rw [if_neg (fun y => z y.1)]
      rfl
    obtain ⟨i1, i2, i3⟩ := cov_ix hcov
    have h100 := wo.1.1.1
    have h0 : ∀ t ∈ o_tel (d_off D), t.1 = 6 → t.2.2.1 = 0 := fun t ht h6 => (wo.1.te t ht).1 (Or.inl h6)
    rw [R.g]
    generalize hpn : p.toInt.toNat = pn at i2 i3 K
    have hst := m_set_cls (o_tel (d_off D)) pn at'
    have es : ∀ G : Int32 → am_S → Prop, k_Ro_setOf nl Ln xs (d + 5) o (Int32.ofNat pn) at' σ G → k_Ro_setOf nl Ln xs (d + 5) o p at' σ G := fun G h => by rw [i3]; exact h
    refine es _ (r_setOf (d := d + 4) R.k R.dat.set wo.1.n6 wo.1.t h0 (by omega) (fun _ => ?_))
    have e := hst.1
    have hlt := hst.2
    rw [e] at K
    generalize m_set (o_tel (d_off D)) pn at' = st at K hlt
    cases st with
    | none =>
      refine (r_told (d := d + 4) R.k R.dat.set wo.1.n6 (fun t ht => (wo.1.te6 t ht).1) hlt (fun _ => ?_))
      rintro w16 rfl
      exact K
    | some i =>
      refine (r_told (d := d + 4) R.k R.dat.set wo.1.n6 (fun t ht => (wo.1.te6 t ht).1) hlt (fun _ => ?_))
      rintro w16 rfl
      exact K
end
