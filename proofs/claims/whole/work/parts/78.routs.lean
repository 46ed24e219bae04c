/-! WORKING OUT, by the reference: OUT, WAIT, AVERAGE -/
def clOf (T : List mTell) (st : Option Nat) : List mCl := match st with
  | none => []
  | some j => tCls ((tlA T 6).getD j tl0)
section
variable {nl : Bool} {Ln : Nat} {xs : Nat → Int32} {d : Nat} {σ : am_S} {o : Nat} {P : List mPol} {T : List mTell} {Ls : List mLoss} {Cs : List mCase} {i : Nat} {c : mCase} {day at' : Int32} {lk : Bool} {p : Nat} {st : Option Nat} {nf fnd : Int32} {ends : Bool} {s worth : Int64} {rows : List mRow} {tr : List Int32}
theorem WfD.te6 (w : WfD P T Ls Cs) : ∀ t ∈ tlA T 6, (tCls t).length ≤ 30 ∧ ∀ c ∈ tCls t, WfCl c := by
  intro t ht
  have := w.te t (List.mem_filter.mp ht).1
  exact ⟨this.2.1, this.2.2.2.2.2⟩
/-- where the clauses of a set lie, and what they are -/
theorem Dat.cls (D : Dat σ o P T Ls Cs) (w : WfD P T Ls Cs) {j : Nat} (hj : j < (tlA T 6).length) : ∃ fr : Nat, fr + (clOf T (some j)).length ≤ 4500 ∧ (clOf T (some j)).length ≤ 30 ∧ am_aI σ (o + 20) j = Int32.ofNat fr ∧ am_aI σ (o + 20) (j + 1) = Int32.ofNat (fr + (clOf T (some j)).length) ∧ ∀ k cl, (clOf T (some j))[k]? = some cl → am_aI σ (o + 21) (fr + k) = cl.1 ∧ am_aI σ (o + 22) (fr + k) = cl.2.1 ∧ WfCl cl ∧ (cl.2.2 = none → am_aI σ (o + 23) (fr + k) = -1) ∧ (∀ t, cl.2.2 = some t → ∃ x, x < 30400 ∧ am_aI σ (o + 23) (fr + k) = Int32.ofNat x ∧ CndR σ o t 0 x) := by
  obtain ⟨h1, h2, h3, h4, nn, h5, h6, h7, h8, h9⟩ := D.set
  have hn6 := w.n6
  have hfl := flat_le (fun t ht => (w.te6 t ht).1)
  have hl1 := flat_len1 hj
  have hl2 : (((tlA T 6).take (j + 1)).flatMap tCls).length ≤ ((tlA T 6).flatMap tCls).length := by
    conv => rhs; rw [← List.take_append_drop (j + 1) (tlA T 6), List.flatMap_append, List.length_append]
    omega
  have hm : (tlA T 6).getD j tl0 ∈ tlA T 6 := List.mem_of_getElem? (getD_some tl0 hj)
  refine ⟨(((tlA T 6).take j).flatMap tCls).length, ?_, (w.te6 _ hm).1, h4 j (by omega) (by omega), ?_, ?_⟩
  · show _ + (tCls ((tlA T 6).getD j tl0)).length ≤ 4500
    omega
  · rw [h4 (j + 1) (by omega) (by omega), hl1]
    rfl
  · intro k cl hk
    have hf := flat_get hj hk
    refine ⟨h7 _ _ hf, h8 _ _ hf, (w.te6 _ hm).2 cl (List.mem_of_getElem? hk), fun hn => ?_, fun t ht => ?_⟩
    · have := h9 _ _ hf
      rw [hn] at this
      exact this
    · have := h9 _ _ hf
      rw [ht] at this
      obtain ⟨x, hx, h10, h11⟩ := this
      exact ⟨x, by omega, h10, h11⟩
theorem Es.lo (S : Es σ o P T Ls Cs i c day at' lk p st nf fnd ends s worth rows tr) : 1063 ≤ o := S.1.1.k.lo
/-- the height of all conditions stays low -/
def WfH (T : List mTell) : Prop := ∀ t ∈ T, ∀ c ∈ tCls t, ∀ f, c.2.2 = some f → hgt f ≤ 400
theorem r_outsL (w : WfD P T Ls Cs) (hH : WfH T) {j : Nat} (hj : j < (tlA T 6).length) : ∀ (n k : Nat) (σ : am_S) (tr : List Int32) (cov : Bool) (arg : Int32) (x3 : Int32) (x4 : Option Value) (F : am_S → Prop), k + n = (clOf T (some j)).length → Es σ o P T Ls Cs i c day at' lk p (some j) nf fnd ends s worth rows tr → (∃ fr, am_aI σ (o + 20) j = Int32.ofNat fr ∧ fr ≤ 4500 ∧ x3 = Int32.ofNat (fr + k)) → (∀ σ', Es σ' o P T Ls Cs i c day at' lk p (some j) nf fnd ends s worth rows (tr ++ (m_outL (m_lis Ls c.2.2.1) (m_hold Ls c day at') cov arg k ((clOf T (some j)).drop k)).2) → Rc o (tF lk) [] (tM lk) σ σ' → ∀ y3 y4, c_Ro_outs_219 nl Ln xs (d + 412) o (b2i (m_outL (m_lis Ls c.2.2.1) (m_hold Ls c day at') cov arg k ((clOf T (some j)).drop k)).1.1) (m_outL (m_lis Ls c.2.2.1) (m_hold Ls c day at') cov arg k ((clOf T (some j)).drop k)).1.2 y3 y4 σ' F) → c_Ro_outs_95 nl Ln xs (d + 412) o (b2i cov) arg x3 x4 σ F := by
  intro n
  have hn6 := w.n6
  have hne : ¬ ixO (some j) = -1 := ne_m1 (by omega)
  induction n with
  | zero =>
    intro k σ tr cov arg x3 x4 F hk S hx K
    obtain ⟨fr, g1, g2, g3, g4, g5⟩ := S.1.1.cls w hj
    obtain ⟨fr', q1, q2, q3⟩ := hx
    have : fr' = fr := (n32i (by omega) (by omega)).mp (q1.symm.trans g3)
    subst this
    refine w_Ro_outs_95 ?_
    rw [S.2.2.1, show ixO (some j) + 1 = Int32.ofNat (j + 1) from n32s j, oG_13027 S.1.1.k, n32c (by omega), g4, q3, n32lt (by omega) (by omega)]
    refine ⟨is_mk S.1.1.k.2.1, fun q => absurd q hne, fun _ => ⟨oA_13027 S.1.1.k (by rw [n32 (by omega)]; omega) (by rw [n32 (by omega)]; omega), fun q => by omega, fun _ => ?_⟩⟩
    have hd : (clOf T (some j)).drop k = [] := List.drop_eq_nil_of_le (by omega)
    rw [hd] at K
    exact K σ (by rw [show (m_outL (m_lis Ls c.2.2.1) (m_hold Ls c day at') cov arg k []).2 = [] from rfl, List.append_nil]; exact S) Rc.rf _ _
  | succ n ih =>
    intro k σ tr cov arg x3 x4 F hk S hx K
    obtain ⟨fr, g1, g2, g3, g4, g5⟩ := S.1.1.cls w hj
    obtain ⟨fr', q1, q2, q3⟩ := hx
    have : fr' = fr := (n32i (by omega) (by omega)).mp (q1.symm.trans g3)
    subst this
    obtain ⟨cl, hcl⟩ := get_ex (show k < (clOf T (some j)).length by omega)
    obtain ⟨v1, v2, wc, v3, v4⟩ := g5 k cl hcl
    have bx : 0 ≤ (Int32.ofNat (fr' + k)).toInt ∧ (Int32.ofNat (fr' + k)).toInt < 4560 := by rw [n32 (by omega)]; omega
    have bj : 0 ≤ (Int32.ofNat j).toInt ∧ (Int32.ofNat j).toInt < 151 := by rw [n32 (by omega)]; omega
    have lo := S.lo
    rw [drop_get hcl] at K
    have one : (1 : Int32).toInt = 1 := by decide
    have two : (2 : Int32).toInt = 2 := by decide
    -- the next clause, behind this one
    have next : ∀ {s1 : am_S} {tr1 : List Int32} {cov' : Bool} {arg' : Int32} {y4 : Option Value}, Es s1 o P T Ls Cs i c day at' lk p (some j) nf fnd ends s worth rows (tr ++ tr1) → Rc o (tF lk) [] (tM lk) σ s1 → (m_outL (m_lis Ls c.2.2.1) (m_hold Ls c day at') cov arg k (cl :: (clOf T (some j)).drop (k + 1))) = ((m_outL (m_lis Ls c.2.2.1) (m_hold Ls c day at') cov' arg' (k + 1) ((clOf T (some j)).drop (k + 1))).1, tr1 ++ (m_outL (m_lis Ls c.2.2.1) (m_hold Ls c day at') cov' arg' (k + 1) ((clOf T (some j)).drop (k + 1))).2) → c_Ro_outs_95 nl Ln xs (d + 412) o (b2i cov') arg' (Int32.ofNat (fr' + k) + 1) y4 s1 F := by
      intro s1 tr1 cov' arg' y4 S1 hr1 e
      rw [e] at K
      refine ih (k + 1) s1 _ cov' arg' _ _ F (by omega) S1 ⟨fr', (hr1.aI lo (tM_lt lk) (by simp)).trans g3, by omega, by rw [n32s]; rfl⟩ (fun s2 S2 hr2 y3 y4 => K s2 ?_ (hr1.trans hr2) y3 y4)
      rw [List.append_assoc] at S2
      exact S2
    have conds : ∀ {s1 : am_S} {tr1 : List Int32} {y4 : Option Value}, Es s1 o P T Ls Cs i c day at' lk p (some j) nf fnd ends s worth rows (tr ++ tr1) → Rc o (tF lk) [] (tM lk) σ s1 → cl.1 < 2 → (cl.2.1 = 5 ∨ (m_lis Ls c.2.2.1 cl.2.1).1 = true) → tr1 = (if cl.2.1 = 5 then [] else (m_lis Ls c.2.2.1 cl.2.1).2) → c_Ro_outs_156 nl Ln xs (d + 412) o (b2i cov) arg (Int32.ofNat (fr' + k)) y4 1 s1 F := by
      intro s1 tr1 y4 S1 hr1 hlt hnm htr
      have hK1 := S1.1.1.k
      obtain ⟨fr2, a1, a2, a3, a4, a5⟩ := S1.1.1.cls w hj
      have e2 : fr2 = fr' := (n32i (by omega) (by omega)).mp (a3.symm.trans ((hr1.aI lo (tM_lt lk) (by simp)).trans g3))
      subst e2
      obtain ⟨u1, u2, -, u3, u4⟩ := a5 k cl hcl
      have eI : Int32.ofNat (fr2 + k) - Int32.ofNat fr2 = Int32.ofNat k := by
        rw [← n32a, Int32.add_comm]
        exact Int32.add_sub_cancel _ _
      refine w_Ro_outs_156 ⟨fun q => absurd q (by decide), fun _ => ⟨is_mk hK1.2.1, oA_13030 hK1 bx.1 bx.2, ?_, ?_⟩⟩
      · rw [oG_13030 hK1, n32c (by omega)]
        intro hm1
        have hcn : cl.2.2 = none := by
          cases hq : cl.2.2 with
          | none => rfl
          | some t =>
            obtain ⟨x, hx, h10, h11⟩ := u4 t hq
            exact absurd (h10.symm.trans hm1) (ne_m1 (by omega))
        refine w_Ro_outs_186 ?_
        rw [S1.2.2.1, oG_13028 hK1, oG_13027 hK1, n32c (show fr2 + k < 2147483648 by omega), show (ixO (some j)).toNatClampNeg = j from n32c (by omega), u1, a3, eI]
        refine ⟨is_mk hK1.2.1, oA_13028 hK1 bx.1 bx.2, oA_13027 hK1 bj.1 bj.2, ?_⟩
        rintro v8 rfl
        have eb : (if cl.1 = 0 then (1 : Int32) else 0) = b2i (decide (cl.1 = 0)) := by by_cases h : cl.1 = 0 <;> simp [h, b2i]
        rw [eb]
        refine next S1 hr1 ?_
        rw [m_outL, if_pos hlt, if_pos hnm, hcn, htr]
      · rw [oG_13030 hK1, n32c (by omega)]
        intro hm1
        obtain ⟨t, ht⟩ : ∃ t, cl.2.2 = some t := by
          cases hq : cl.2.2 with
          | none => exact absurd (u3 hq) hm1
          | some t => exact ⟨t, rfl⟩
        obtain ⟨x, hx, h10, h11⟩ := u4 t ht
        rw [h10]
        have hm6 : (tlA T 6).getD j tl0 ∈ T := (List.mem_filter.mp (List.mem_of_getElem? (getD_some tl0 hj))).1
        have hh := hH _ hm6 cl (List.mem_of_getElem? hcl) t ht
        refine ⟨oA_13030 hK1 bx.1 bx.2, (r_holds (d := d) w t 0 x s1 _ _ S1.1 h11 hx (fun s2 E2 hr2 _ => ?_)).dn (by omega)⟩
        have S2 := S1.te E2 hr2
        have hK2 := S2.1.1.k
        have u12 : am_aI s2 (o + 21) (fr2 + k) = cl.1 := (hr2.aI lo (tM_lt lk) (by simp)).trans u1
        have a32 : am_aI s2 (o + 20) j = Int32.ofNat fr2 := (hr2.aI lo (tM_lt lk) (by simp)).trans a3
        rw [S2.2.2.1, oG_13028 hK2, oG_13027 hK2, show (ixO (some j)).toNatClampNeg = j from n32c (by omega), u12, a32, eI]
        refine ⟨fun _ => oA_13028 hK2 bx.1 bx.2, fun _ _ => oA_13027 hK2 bj.1 bj.2, fun _ _ => oA_13027 hK2 bj.1 bj.2, ?_⟩
        intro w14 e14 w15 e15
        have eh : m_hld Ls c day at' t (decide (0 = 0)) = m_hold Ls c day at' t := rfl
        rw [eh] at e14 e15 S2
        by_cases h : (m_hold Ls c day at' t).1 = true
        · rw [if_pos h] at e14 e15
          rw [e14, e15]
          refine next (by rw [List.append_assoc] at S2; exact S2) (hr1.trans hr2) ?_
          rw [m_outL, if_pos hlt, if_pos hnm, ht]
          simp only [h, if_true]
          rw [htr, List.append_assoc]
        · rw [if_neg h] at e14 e15
          have eb : (if cl.1 = 0 then (1 : Int32) else 0) = b2i (decide (cl.1 = 0)) := by by_cases h : cl.1 = 0 <;> simp [h, b2i]
          rw [e14, e15, eb]
          refine next (by rw [List.append_assoc] at S2; exact S2) (hr1.trans hr2) ?_
          rw [m_outL, if_pos hlt, if_pos hnm, ht]
          simp only [if_neg h]
          rw [htr, List.append_assoc]
    have S' : Es σ o P T Ls Cs i c day at' lk p (some j) nf fnd ends s worth rows (tr ++ []) := by rw [List.append_nil]; exact S
    refine w_Ro_outs_95 ?_
    rw [S.2.2.1, show ixO (some j) + 1 = Int32.ofNat (j + 1) from n32s j, oG_13027 S.1.1.k, oG_13028 S.1.1.k, oG_13029 S.1.1.k, n32c (show j + 1 < 2147483648 by omega), g4, q3, n32lt (by omega) (by omega), n32c (show fr' + k < 2147483648 by omega), v1, v2]
    refine ⟨is_mk S.1.1.k.2.1, fun q => absurd q hne, fun _ => ⟨oA_13027 S.1.1.k (by rw [n32 (by omega)]; omega) (by rw [n32 (by omega)]; omega), fun _ => ⟨oA_13028 S.1.1.k bx.1 bx.2, fun h1 => ?_, fun h1 => ⟨oA_13029 S.1.1.k bx.1 bx.2, fun h5 => ?_, fun h5 => ⟨oA_13029 S.1.1.k bx.1 bx.2, r_is w S.1 (fun s1 E1 hr1 _ => ?_)⟩⟩⟩, fun q => by omega⟩⟩
    · rw [i32lt, one] at h1
      refine w_Ro_outs_155 (w_Ro_outs_156 ⟨fun _ => next S' Rc.rf ?_, fun q => absurd rfl q⟩)
      rw [m_outL, if_neg (by rw [i32lt, two]; omega)]
      rfl
    · rw [i32lt, one] at h1
      exact w_Ro_outs_151 (conds S' Rc.rf (by rw [i32lt, two]; omega) (Or.inl h5) (by rw [if_pos h5]))
    · rw [i32lt, one] at h1
      have S1 := S.te E1 hr1
      by_cases hb : (m_lis Ls c.2.2.1 cl.2.1).1 = true
      · rw [if_pos hb]
        exact conds S1 hr1 (by rw [i32lt, two]; omega) (Or.inr hb) (by rw [if_neg h5])
      · rw [if_neg hb]
        refine w_Ro_outs_156 ⟨fun _ => next S1 hr1 ?_, fun q => absurd rfl q⟩
        rw [m_outL, if_pos (by rw [i32lt, two]; omega), if_neg (fun q => q.elim h5 hb)]
end
