/-! FACTS, by the reference: a fact is kept -/
section
variable {nl : Bool} {Ln : Nat} {xs : Nat → Int32} {d : Nat} {σ : am_S} {o : Nat} {M : mOff}
theorem saI_all {s s' : am_S} {c x : Nat} {v : Int32} (e : s' = am_saI s c x v) (i : Nat) : am_aI s' c i = if i = x then v else am_aI s c i := by
  rw [e]
  by_cases h : i = x
  · rw [if_pos h, h]; exact aI_same
  · rw [if_neg h]; exact aI_i h
theorem saL_all {s s' : am_S} {c x : Nat} {v : Int64} (e : s' = am_saL s c x v) (i : Nat) : am_aL s' c i = if i = x then v else am_aL s c i := by
  rw [e]
  by_cases h : i = x
  · rw [if_pos h, h]; exact aL_same
  · rw [if_neg h]; exact aL_i h
def keF : List Nat := [41, 42, 43, 44, 45, 46, 47, 48, 49]
theorem r_keep {m n k : Nat} {a : mArg} {it : Int64} {c : mCase} {now : Int32} {Cs : List mCase} {F : am_S → Prop} (hK : OffK σ o) (hC : rCas σ o Cs) (h100 : Cs.length ≤ 100) (hnow : am_fI σ 13000 o = now) (hA : ArgR σ m a) (hm : m = 1060 ∨ m = o + 61) (h1 : 12 ≤ n) (h2 : n ≤ 19) (hk : m_ix (a 0) = k) (hk0 : 0 ≤ (a 0).toInt) (hi : Cs[k]? = some c) (h40 : c.2.2.2.2.2.length < 40) (hall : ∀ (i : Nat) (c : mCase), Cs[i]? = some c → c.2.2.2.2.2.length ≤ 40)
    (K : ∀ σ', rCas σ' o (Cs.modify k (fun c => (c.1, c.2.1, c.2.2.1, c.2.2.2.1, c.2.2.2.2.1, c.2.2.2.2.2 ++ [m_factOf n a (now + 1) it]))) → Rc o [] keF [] σ σ' → F σ') : k_Ro_keep nl Ln xs (d + 1) o (Int32.ofNat n) (some m) it σ F := by
  have lo := hK.lo
  have hlt := lt_of_get hi
  obtain ⟨i1, i2, i3, i4⟩ := ixI hk0 (show (a 0).toInt < (Cs.length : Nat) by unfold m_ix at hk; omega) (by omega)
  rw [hk] at i1 i4
  have bk : 0 ≤ (Int32.ofNat k).toInt ∧ (Int32.ofNat k).toInt < 100 := by rw [n32 (by omega)]; omega
  obtain ⟨x, hx⟩ : ∃ x, x = 40 * k + c.2.2.2.2.2.length := ⟨_, rfl⟩
  have bx : 0 ≤ (Int32.ofNat x).toInt ∧ (Int32.ofNat x).toInt < 4000 := by rw [n32 (by omega)]; omega
  have nx : (Int32.ofNat x).toNatClampNeg = x := n32c (by omega)
  have vn : am_aI σ (o + 41) k = Int32.ofNat c.2.2.2.2.2.length := hC.2.2.2.2.2.2.1 k _ hi
  have v0 : am_aL σ ((some m).getD 0) (0 : Int32).toNatClampNeg = a 0 := hA.2 0 (by decide)
  refine w_Ro_keep ⟨ar_mk hA.1 (by decide) (by decide), ?_⟩
  rw [v0, i1]
  rintro v2 rfl
  rw [oG_13051 hK, n32c (show k < 2147483648 by omega), vn, i40, n32s, ← hx]
  refine ⟨is_mk hK.2.1, oA_13051 hK bk.1 bk.2, ?_⟩
  rintro v6 rfl
  refine ⟨oA_13051 hK bk.1 bk.2, oA_13051 hK bk.1 bk.2, ?_⟩
  intro s10 q10
  have r10 : Rc o [] [41] [] σ s10 := by rw [q10]; exact Rc.saI (by decide)
  have hK10 := hK.rc r10
  rw [oG_13052 hK10, nx]
  refine ⟨oA_13052 hK10 bx.1 bx.2, ?_⟩
  intro s14 q14
  have r14 : Rc o [] [42] [] s10 s14 := by rw [q14]; exact Rc.saI (by decide)
  have hK14 := hK10.rc r14
  have hA14 := (hA.rc hm lo r10 (by decide) (by decide) (by simp)).rc hm lo r14 (by decide) (by decide) (by simp)
  have v1 : am_aL s14 ((some m).getD 0) (1 : Int32).toNatClampNeg = a 1 := hA14.2 1 (by decide)
  rw [oG_13053 hK14, v1]
  refine ⟨ar_mk hA14.1 (by decide) (by decide), oA_13053 hK14 bx.1 bx.2, ?_⟩
  intro s19 q19
  have r19 : Rc o [] [43] [] s14 s19 := by rw [q19]; exact Rc.saI (by decide)
  have hK19 := hK14.rc r19
  rw [oG_13054 hK19, (r19.fI (by simp)).trans ((r14.fI (by simp)).trans ((r10.fI (by simp)).trans hnow))]
  refine ⟨oA_13054 hK19 bx.1 bx.2, ?_⟩
  intro s23 q23
  have r23 : Rc o [] [44] [] s19 s23 := by rw [q23]; exact Rc.saI (by decide)
  have hK23 := hK19.rc r23
  rw [oG_13059 hK23]
  refine ⟨oA_13059 hK23 bx.1 bx.2, ?_⟩
  intro s27 q27
  have r27 : Rc o [] [49] [] s23 s27 := by rw [q27]; exact Rc.saL (by decide)
  have hK27 := hK23.rc r27
  have hA27 := ((hA14.rc hm lo r19 (by decide) (by decide) (by simp)).rc hm lo r23 (by decide) (by decide) (by simp)).rc hm lo r27 (by decide) (by decide) (by simp)
  have arr : ∀ {s : am_S}, ArgR s m a → ∀ j : Nat, j < 6 → am_ar s 1001 (some m) (Int32.ofNat j) := fun h j hj => ar_mk h.1 (by rw [n32 (by omega)]; omega) (by rw [n32 (by omega)]; omega)
  have hcases : n = 12 ∨ n = 13 ∨ n = 14 ∨ n = 15 ∨ n = 16 ∨ n = 17 ∨ n = 18 ∨ n = 19 := by omega
  have y2 : am_aL s27 ((some m).getD 0) (2 : Int32).toNatClampNeg = a 2 := hA27.2 2 (by decide)
  refine w_Ro_keep_89 ⟨is_mk hK27.2.1, fun _ _ => arr hA27 2 (by decide), fun _ _ _ => arr hA27 2 (by decide), fun _ => arr hA27 2 (by decide), ?_⟩
  rw [y2, oR_13055 hK27]
  intro w9 e9
  have e9 : w9 = (if n = 12 ∨ n = 15 ∨ n = 16 ∨ n = 17 then (a 2).toInt32 else 0) := by
    rw [e9]
    rcases hcases with h | h | h | h | h | h | h | h <;> subst h <;> rfl
  refine w_Ro_keep_122 ⟨ar_mk (oK_13055 hK27) bx.1 bx.2, ?_⟩
  rw [Option.getD_some, nx]
  intro sa qa
  have ra : Rc o [] [45] [] s27 sa := by rw [qa]; exact Rc.saI (by decide)
  have hKa := hK27.rc ra
  have hAa := hA27.rc hm lo ra (by decide) (by decide) (by simp)
  have y3 : am_aL sa ((some m).getD 0) (3 : Int32).toNatClampNeg = a 3 := hAa.2 3 (by decide)
  rw [y3, oR_13056 hKa]
  refine ⟨is_mk hKa.2.1, fun _ => arr hAa 3 (by decide), ?_⟩
  intro wb eb
  have eb : wb = (if n = 16 then (a 3).toInt32 else 0) := by
    rw [eb]
    rcases hcases with h | h | h | h | h | h | h | h <;> subst h <;> rfl
  refine w_Ro_keep_143 ⟨ar_mk (oK_13056 hKa) bx.1 bx.2, ?_⟩
  rw [Option.getD_some, nx]
  intro sb qb
  have rb : Rc o [] [46] [] sa sb := by rw [qb]; exact Rc.saI (by decide)
  have hKb := hKa.rc rb
  have hAb := hAa.rc hm lo rb (by decide) (by decide) (by simp)
  have y5 : am_aL sb ((some m).getD 0) (5 : Int32).toNatClampNeg = a 5 := hAb.2 5 (by decide)
  rw [y5, oR_13057 hKb]
  refine ⟨is_mk hKb.2.1, fun _ => arr hAb 5 (by decide), ?_⟩
  intro wc ec
  have ec : wc = (if n = 16 then (a 5).toInt32 else 0) := by
    rw [ec]
    rcases hcases with h | h | h | h | h | h | h | h <;> subst h <;> rfl
  refine w_Ro_keep_164 ⟨ar_mk (oK_13057 hKb) bx.1 bx.2, ?_⟩
  rw [Option.getD_some, nx]
  intro sc qc
  have rc : Rc o [] [47] [] sb sc := by rw [qc]; exact Rc.saI (by decide)
  have hKc := hKb.rc rc
  have hAc := hAb.rc hm lo rc (by decide) (by decide) (by simp)
  have u2 : am_aL sc ((some m).getD 0) (2 : Int32).toNatClampNeg = a 2 := hAc.2 2 (by decide)
  have u3 : am_aL sc ((some m).getD 0) (3 : Int32).toNatClampNeg = a 3 := hAc.2 3 (by decide)
  have u4 : am_aL sc ((some m).getD 0) (4 : Int32).toNatClampNeg = a 4 := hAc.2 4 (by decide)
  rw [u2, u3, u4, oG_13058 hKc]
  refine ⟨is_mk hKc.2.1, fun _ => arr hAc 4 (by decide), fun _ _ _ _ => arr hAc 2 (by decide), fun _ _ => arr hAc 3 (by decide), ?_⟩
  intro wd ed
  have ed : wd = m_cOf n a := by
    rw [ed]
    rcases hcases with h | h | h | h | h | h | h | h <;> subst h <;> rfl
  refine ⟨oA_13058 hKc bx.1 bx.2, ?_⟩
  intro sd qd
  have rd : Rc o [] [48] [] sc sd := by rw [qd]; exact Rc.saL (by decide)
  have up : ∀ {as : List Nat} {s1 s2 : am_S}, Rc o [] as [] s1 s2 → (∀ x ∈ as, x ∈ keF) → Rc o [] keF [] s1 s2 := fun h h1 => h.mono (by simp) h1 (by simp)
  have R : Rc o [] keF [] σ sd := ((((((((up r10 (by decide)).trans (up r14 (by decide))).trans (up r19 (by decide))).trans (up r23 (by decide))).trans (up r27 (by decide))).trans (up ra (by decide))).trans (up rb (by decide))).trans (up rc (by decide))).trans (up rd (by decide))
  have fI : ∀ {as : List Nat} {s1 s2 : am_S} {q : Nat}, Rc o [] as [] s1 s2 → q ∉ as → ∀ j, am_aI s2 (o + q) j = am_aI s1 (o + q) j := fun h h1 j => h.aI lo (by simp) h1
  have fL : ∀ {as : List Nat} {s1 s2 : am_S} {q : Nat}, Rc o [] as [] s1 s2 → q ∉ as → ∀ j, am_aL s2 (o + q) j = am_aL s1 (o + q) j := fun h h1 j => h.aL lo (by simp) h1
  have A41 : ∀ j, am_aI sd (o + 41) j = if j = k then Int32.ofNat (c.2.2.2.2.2.length + 1) else am_aI σ (o + 41) j := fun j => by
    rw [fI rd (by decide), fI rc (by decide), fI rb (by decide), fI ra (by decide), fI r27 (by decide), fI r23 (by decide), fI r19 (by decide), fI r14 (by decide)]
    exact saI_all q10 j
  have A42 : ∀ j, am_aI sd (o + 42) j = if j = x then Int32.ofNat n else am_aI σ (o + 42) j := fun j => by
    rw [fI rd (by decide), fI rc (by decide), fI rb (by decide), fI ra (by decide), fI r27 (by decide), fI r23 (by decide), fI r19 (by decide), saI_all q14 j, fI r10 (by decide)]
  have A43 : ∀ j, am_aI sd (o + 43) j = if j = x then (a 1).toInt32 else am_aI σ (o + 43) j := fun j => by
    rw [fI rd (by decide), fI rc (by decide), fI rb (by decide), fI ra (by decide), fI r27 (by decide), fI r23 (by decide), saI_all q19 j, fI r14 (by decide), fI r10 (by decide)]
  have A44 : ∀ j, am_aI sd (o + 44) j = if j = x then now + 1 else am_aI σ (o + 44) j := fun j => by
    rw [fI rd (by decide), fI rc (by decide), fI rb (by decide), fI ra (by decide), fI r27 (by decide), saI_all q23 j, fI r19 (by decide), fI r14 (by decide), fI r10 (by decide)]
  have A45 : ∀ j, am_aI sd (o + 45) j = if j = x then w9 else am_aI σ (o + 45) j := fun j => by
    rw [fI rd (by decide), fI rc (by decide), fI rb (by decide), saI_all qa j, fI r27 (by decide), fI r23 (by decide), fI r19 (by decide), fI r14 (by decide), fI r10 (by decide)]
  have A46 : ∀ j, am_aI sd (o + 46) j = if j = x then wb else am_aI σ (o + 46) j := fun j => by
    rw [fI rd (by decide), fI rc (by decide), saI_all qb j, fI ra (by decide), fI r27 (by decide), fI r23 (by decide), fI r19 (by decide), fI r14 (by decide), fI r10 (by decide)]
  have A47 : ∀ j, am_aI sd (o + 47) j = if j = x then wc else am_aI σ (o + 47) j := fun j => by
    rw [fI rd (by decide), saI_all qc j, fI rb (by decide), fI ra (by decide), fI r27 (by decide), fI r23 (by decide), fI r19 (by decide), fI r14 (by decide), fI r10 (by decide)]
  have A48 : ∀ j, am_aL sd (o + 48) j = if j = x then wd else am_aL σ (o + 48) j := fun j => by
    rw [saL_all qd j, fL rc (by decide), fL rb (by decide), fL ra (by decide), fL r27 (by decide), fL r23 (by decide), fL r19 (by decide), fL r14 (by decide), fL r10 (by decide)]
  have A49 : ∀ j, am_aL sd (o + 49) j = if j = x then it else am_aL σ (o + 49) j := fun j => by
    rw [fL rd (by decide), fL rc (by decide), fL rb (by decide), fL ra (by decide), saL_all q27 j, fL r23 (by decide), fL r19 (by decide), fL r14 (by decide), fL r10 (by decide)]
  refine K sd ?_ R
  obtain ⟨g1, g2, g3, g4, g5, g6, g7, g8⟩ := hC
  refine ⟨?_, (g2.eq (fI R (by decide))).modS (fun x => rfl), (g3.eq (fI R (by decide))).modS (fun x => rfl), (g4.eq (fI R (by decide))).modS (fun x => rfl), (g5.eq (fI R (by decide))).modS (fun x => rfl), (g6.eq (fI R (by decide))).modS (fun x => rfl), g7.mod mCase0 (fun j => ?_), ?_⟩
  · rw [R.fI (by simp), List.length_modify]; exact g1
  · rw [A41, getD_of mCase0 hi]
    simp
  · intro i c' hc' j f hf
    rcases get_mod hc' with ⟨p1, y, p2, p3⟩ | ⟨p1, p2⟩
    · rw [p1]
      rw [hi] at p2
      cases p2
      rw [p3] at hf
      rcases get_push hf with ⟨e1, e2⟩ | ⟨e1, e2⟩
      · rw [e1, ← hx, e2]
        unfold m_factOf
        exact ⟨by rw [A42, if_pos rfl], by rw [A43, if_pos rfl], by rw [A44, if_pos rfl], by rw [A45, if_pos rfl, e9], by rw [A46, if_pos rfl, eb], by rw [A47, if_pos rfl, ec], by rw [A48, if_pos rfl, ed], by rw [A49, if_pos rfl]⟩
      · have hne : 40 * k + j ≠ x := by omega
        have := g8 k c hi j f e2
        exact ⟨by rw [A42, if_neg hne]; exact this.1, by rw [A43, if_neg hne]; exact this.2.1, by rw [A44, if_neg hne]; exact this.2.2.1, by rw [A45, if_neg hne]; exact this.2.2.2.1, by rw [A46, if_neg hne]; exact this.2.2.2.2.1, by rw [A47, if_neg hne]; exact this.2.2.2.2.2.1, by rw [A48, if_neg hne]; exact this.2.2.2.2.2.2.1, by rw [A49, if_neg hne]; exact this.2.2.2.2.2.2.2⟩
    · have hj : j < c'.2.2.2.2.2.length := lt_of_get hf
      have hj40 := hall i c' p2
      have hne : 40 * i + j ≠ x := by omega
      have := g8 i c' p2 j f hf
      exact ⟨by rw [A42, if_neg hne]; exact this.1, by rw [A43, if_neg hne]; exact this.2.1, by rw [A44, if_neg hne]; exact this.2.2.1, by rw [A45, if_neg hne]; exact this.2.2.2.1, by rw [A46, if_neg hne]; exact this.2.2.2.2.1, by rw [A47, if_neg hne]; exact this.2.2.2.2.2.1, by rw [A48, if_neg hne]; exact this.2.2.2.2.2.2.1, by rw [A49, if_neg hne]; exact this.2.2.2.2.2.2.2⟩
end
