/-! THE CLASS: the book -/
section
variable (σ : am_S) (w : ow_T)
/-- a row of the book b -/
def bA (b g : Nat) : Nat := (am_fR σ g b).getD 0
def ArK (b g kd len : Nat) : Prop := am_fR σ g b = some (bA σ b g) ∧ w (bA σ b g) = (b, 2) ∧ am_kd σ (bA σ b g) = (kd, len)
def BkK (b : Nat) : Prop := w b = (b, 2) ∧ am_kd σ b = (7, 0) ∧ 1000 ≤ b ∧ (am_fR σ 6000 b = some 1008 ∧ am_fR σ 6001 b = some 1034 ∧ am_fR σ 6002 b = some 1038) ∧ ArK σ w b 6004 2009 100 ∧ ArK σ w b 6005 2010 200 ∧ ArK σ w b 6006 2011 100 ∧ ArK σ w b 6007 1000 8 ∧ ArK σ w b 6008 1001 420 ∧ ArK σ w b 6009 1000 100
def tlP (T : List mTell) (i : Nat) : List mTell := T.filter (fun t => decide (t.2.1 = i) && decide (t.1 ≠ 2))
def PoR (k : Nat × Nat) (c i : Nat) (p : mPol) (l : List mTell) : Prop := w c = k ∧ am_kd σ c = (10, 0) ∧ 1000 ≤ c ∧ am_fI σ 9000 c = Int32.ofNat i ∧ am_fI σ 9001 c = p.1 ∧ am_fI σ 9002 c = p.2.1 ∧ am_fI σ 9003 c = p.2.2 ∧ ChT σ w k (am_fR σ 9004 c) l.reverse
def LsR (k : Nat × Nat) (c i : Nat) (l : mLoss) : Prop := w c = k ∧ am_kd σ c = (11, 0) ∧ 1000 ≤ c ∧ am_fI σ 10000 c = Int32.ofNat i ∧ am_fI σ 10001 c = l.1 ∧ am_fI σ 10002 c = l.2.1 ∧ am_fI σ 10004 c = l.2.2.2.1 ∧ am_fI σ 10007 c = Int32.ofNat l.2.2.2.2.2.length ∧ am_fI σ 10008 c = b2i l.2.2.2.2.1 ∧
  (∃ s, am_fR σ 10005 c = some s ∧ w s = k ∧ am_kd σ s = (1000, 6) ∧ ∀ j x, l.2.2.2.2.2[j]? = some x → am_aI σ s j = x.1) ∧
  ∃ m, am_fR σ 10006 c = some m ∧ w m = k ∧ am_kd σ m = (1001, 12) ∧ (∀ j x, l.2.2.2.2.2[j]? = some x → am_aL σ m (2 * j) = x.2.1 ∧ am_aL σ m (2 * j + 1) = x.2.2) ∧ ∀ j, l.2.2.2.2.2.length ≤ j → j < 6 → am_aL σ m (2 * j) = 0 ∧ am_aL σ m (2 * j + 1) = 0
def CsR (k : Nat × Nat) (c : Nat) (x : mCase) : Prop := CsF σ w k c x.2.2.2.2.2 ∧ 1000 ≤ c ∧ am_fI σ 11001 c = x.2.1 ∧ am_fI σ 11003 c = x.2.2.2.1 ∧ am_fI σ 11004 c = x.2.2.2.2.1 ∧ am_fI σ 11006 c = Int32.ofNat x.2.2.2.2.2.length
def BkN (b : Nat) (M : mOff) : Prop := am_fI σ 6011 b = o_per M ∧ am_fI σ 6012 b = Int32.ofNat (o_pol M).length ∧ am_fI σ 6013 b = Int32.ofNat (o_los M).length ∧ am_fI σ 6014 b = Int32.ofNat (o_cas M).length ∧ am_fI σ 6015 b = o_now M ∧ am_fI σ 6016 b = o_bat M ∧ am_fI σ 6017 b = o_tri M ∧ am_fI σ 6018 b = Int32.ofNat (o_hel M).length ∧ am_fI σ 6019 b = b2i (o_und M)
def BkP (b : Nat) (P : List mPol) (T : List mTell) : Prop := ∀ i p, P[i]? = some p → ∃ c, am_aR σ (bA σ b 6004) i = some c ∧ PoR σ w (b, 100 + i) c i p (tlP T i)
def BkL (b : Nat) (Ls : List mLoss) : Prop := ∀ i l, Ls[i]? = some l → ∃ c, am_aR σ (bA σ b 6005) i = some c ∧ LsR σ w (b, 300 + i) c i l ∧ am_fR σ 10003 c = (match l.2.2.1 with
  | none => none
  | some u => am_aR σ (bA σ b 6005) u)
def BkC (b : Nat) (Cs : List mCase) : Prop := ∀ i x, Cs[i]? = some x → ∃ c, am_aR σ (bA σ b 6006) i = some c ∧ CsR σ w (b, 600 + i) c x ∧ am_fR σ 11000 c = am_aR σ (bA σ b 6004) x.1 ∧ am_fR σ 11002 c = am_aR σ (bA σ b 6005) x.2.2.1
def BkH (b : Nat) (H : List mDeed) : Prop := ∀ i h, H[i]? = some h → am_aL σ (bA σ b 6008) (7 * i) = Int64.ofNat h.1 ∧ ∀ j, j < 6 → am_aL σ (bA σ b 6008) (7 * i + 1 + j) = h.2 j
def BkT (b : Nat) (T : List mTell) : Prop := (∀ q, (q = 2 ∨ q = 4 ∨ q = 5 ∨ q = 6 ∨ q = 7) → am_aI σ (bA σ b 6007) q = Int32.ofNat (m_cnt T (Int32.ofNat q))) ∧ ChT σ w (b, 1) (am_fR σ 6010 b) (tlA T 2).reverse
def BkD (b : Nat) (P : List mPol) (T : List mTell) (Ls : List mLoss) (Cs : List mCase) : Prop := BkK σ w b ∧ (am_fI σ 6012 b = Int32.ofNat P.length ∧ am_fI σ 6013 b = Int32.ofNat Ls.length ∧ am_fI σ 6014 b = Int32.ofNat Cs.length) ∧ BkP σ w b P T ∧ BkL σ w b Ls ∧ BkC σ w b Cs ∧ BkT σ w b T
end
section
variable {σ σ' : am_S} {w w' : ow_T} {b : Nat} {k : Nat × Nat}
theorem CsF.fr {c : Nat} {fs : List mFact} (h : CsF σ w k c fs) (f : Fr σ w σ' w' k) : CsF σ' w' k c fs := by
  obtain ⟨h1, h2, h3⟩ := h
  have e := (f c h1).2
  exact ⟨(f c h1).1, e.kd.trans h2, by rw [e.fR]; exact ChF.fr h3 f⟩
theorem PoR.fr {c i : Nat} {p : mPol} {l : List mTell} (h : PoR σ w k c i p l) (f : Fr σ w σ' w' k) : PoR σ' w' k c i p l := by
  obtain ⟨h1, h2, h3, h4, h5, h6, h7, h8⟩ := h
  have e := (f c h1).2
  exact ⟨(f c h1).1, e.kd.trans h2, h3, e.fI.trans h4, e.fI.trans h5, e.fI.trans h6, e.fI.trans h7, by rw [e.fR]; exact ChT.fr h8 f⟩
theorem LsR.fr {c i : Nat} {l : mLoss} (h : LsR σ w k c i l) (f : Fr σ w σ' w' k) : LsR σ' w' k c i l := by
  obtain ⟨h1, h2, h3, h4, h5, h6, h7, h8, h9, ⟨s, s1, s2, s3, s4⟩, m, m1, m2, m3, m4, m5⟩ := h
  have e := (f c h1).2
  have es := (f s s2).2
  have em := (f m m2).2
  refine ⟨(f c h1).1, e.kd.trans h2, h3, e.fI.trans h4, e.fI.trans h5, e.fI.trans h6, e.fI.trans h7, e.fI.trans h8, e.fI.trans h9, ⟨s, e.fR.trans s1, (f s s2).1, es.kd.trans s3, fun j x hx => es.aI.trans (s4 j x hx)⟩, m, e.fR.trans m1, (f m m2).1, em.kd.trans m3, fun j x hx => ⟨em.aL.trans (m4 j x hx).1, em.aL.trans (m4 j x hx).2⟩, fun j q1 q2 => ⟨em.aL.trans (m5 j q1 q2).1, em.aL.trans (m5 j q1 q2).2⟩⟩
theorem CsR.fr {c : Nat} {x : mCase} (h : CsR σ w k c x) (f : Fr σ w σ' w' k) : CsR σ' w' k c x := by
  obtain ⟨h1, h2, h3, h4, h5, h6⟩ := h
  have e := (f c h1.1).2
  exact ⟨h1.fr f, h2, e.fI.trans h3, e.fI.trans h4, e.fI.trans h5, e.fI.trans h6⟩
/-- all that the book b has is as it was -/
def FrB (σ : am_S) (w : ow_T) (σ' : am_S) (w' : ow_T) (b : Nat) : Prop := ∀ j, Fr σ w σ' w' (b, j)
theorem bA.fr {g : Nat} (h : w b = (b, 2)) (f : Fr σ w σ' w' (b, 2)) : bA σ' b g = bA σ b g := by
  unfold bA
  rw [(f b h).2.fR]
theorem ArK.fr {g kd len : Nat} (hb : w b = (b, 2)) (h : ArK σ w b g kd len) (f : Fr σ w σ' w' (b, 2)) : ArK σ' w' b g kd len := by
  obtain ⟨h1, h2, h3⟩ := h
  unfold ArK
  rw [bA.fr hb f]
  exact ⟨(f b hb).2.fR.trans h1, (f _ h2).1, (f _ h2).2.kd.trans h3⟩
theorem BkK.fr (h : BkK σ w b) (f : Fr σ w σ' w' (b, 2)) : BkK σ' w' b := by
  obtain ⟨h1, h2, h3, ⟨h4, h5, h6⟩, a1, a2, a3, a4, a5, a6⟩ := h
  have e := (f b h1).2
  exact ⟨(f b h1).1, e.kd.trans h2, h3, ⟨e.fR.trans h4, e.fR.trans h5, e.fR.trans h6⟩, a1.fr h1 f, a2.fr h1 f, a3.fr h1 f, a4.fr h1 f, a5.fr h1 f, a6.fr h1 f⟩
theorem BkD.fr {P : List mPol} {T : List mTell} {Ls : List mLoss} {Cs : List mCase} (h : BkD σ w b P T Ls Cs) (f : FrB σ w σ' w' b) : BkD σ' w' b P T Ls Cs := by
  obtain ⟨hK, ⟨n1, n2, n3⟩, hP, hL, hC, hT⟩ := h
  have h1 := hK.1
  have e := (f 2 b h1).2
  obtain ⟨-, -, -, -, a1, a2, a3, a4, a5, a6⟩ := id hK
  refine ⟨hK.fr (f 2), ⟨e.fI.trans n1, e.fI.trans n2, e.fI.trans n3⟩, fun i p hp => ?_, fun i l hl => ?_, fun i x hx => ?_, fun q hq => ?_, ?_⟩
  · obtain ⟨c, c1, c2⟩ := hP i p hp
    exact ⟨c, by rw [bA.fr h1 (f 2), (f 2 _ a1.2.1).2.aR]; exact c1, c2.fr (f _)⟩
  · obtain ⟨c, c1, c2, c3⟩ := hL i l hl
    refine ⟨c, by rw [bA.fr h1 (f 2), (f 2 _ a2.2.1).2.aR]; exact c1, c2.fr (f _), ?_⟩
    rw [(f _ c c2.1).2.fR, c3, bA.fr h1 (f 2)]
    cases l.2.2.1 with
    | none => rfl
    | some u => exact (f 2 _ a2.2.1).2.aR.symm
  · obtain ⟨c, c1, c2, c3, c4⟩ := hC i x hx
    refine ⟨c, by rw [bA.fr h1 (f 2), (f 2 _ a3.2.1).2.aR]; exact c1, c2.fr (f _), ?_, ?_⟩
    · rw [(f _ c c2.1.1).2.fR, c3, bA.fr h1 (f 2), (f 2 _ a1.2.1).2.aR]
    · rw [(f _ c c2.1.1).2.fR, c4, bA.fr h1 (f 2), (f 2 _ a2.2.1).2.aR]
  · rw [bA.fr h1 (f 2), (f 2 _ a4.2.1).2.aI]
    exact hT.1 q hq
  · rw [e.fR]
    exact ChT.fr hT.2 (f 1)
end
/-! looking things up -/
theorem look_tlP {T : List mTell} {act which at' : Int32} {p : Nat} (ha : act ≠ 2) : m_look T act p which at' = (tlP T p).reverse.find? (qT act which at') := by
  unfold m_look tlP
  rw [m_last_find, Option.or_none, ← List.filter_reverse, List.find?_filter]
  congr 1
  funext t
  unfold m_tq qT
  by_cases h1 : t.1 = act
  · have h2 : t.1 ≠ 2 := fun q => ha (h1.symm.trans q)
    by_cases h3 : t.2.1 = p <;> simp [h1, h2, h3, ha]
  · simp [h1]
theorem find_congr {α : Type} {p q : α → Bool} : ∀ {l : List α}, (∀ x ∈ l, p x = q x) → l.find? p = l.find? q
  | [], _ => rfl
  | x :: l, h => by
    rw [List.find?_cons, List.find?_cons, h x List.mem_cons_self, find_congr fun y hy => h y (List.mem_cons_of_mem _ hy)]
theorem look_rank {T : List mTell} {which at' : Int32} (hT : WfT T) : m_look T 2 0 which at' = (tlA T 2).reverse.find? (qT 2 which at') := by
  unfold m_look tlA
  rw [m_last_find, Option.or_none, ← List.filter_reverse, List.find?_filter]
  apply find_congr
  intro t ht
  unfold m_tq qT
  have h := (hT t (List.mem_reverse.mp ht)).2
  by_cases h1 : t.1 = 2
  · simp [h1, h h1]
  · simp [h1]
section
variable {nl : Bool} {Ln : Nat} {xs : Nat → Int32} {d : Nat} {σ : am_S} {w : ow_T} {b : Nat} {P : List mPol} {T : List mTell} {Ls : List mLoss} {Cs : List mCase}
/-- an index of the class -/
theorem at_ix {v : Int64} {n : Nat} (hn : n ≤ 1000) : (0 ≤ v.toInt ∧ v.toInt < n) ↔ (¬ v < 0 ∧ v < (Int32.ofNat n).toInt64) := by
  have z : (0 : Int64).toInt = 0 := by decide
  rw [i64lt, i64lt, t64, n32 (by omega), z]
  omega
theorem bk_policyAt {v : Int64} {F : Option Nat → am_S → Prop} (h : BkD σ w b P T Ls Cs) (h100 : P.length ≤ 100) (K1 : ¬ m_isPol P v → F none σ) (K2 : ∀ c p, m_isPol P v → P[m_ix v]? = some p → am_aR σ (bA σ b 6004) (m_ix v) = some c → PoR σ w (b, 100 + m_ix v) c (m_ix v) p (tlP T (m_ix v)) → F (some c) σ) : k_Bk_policyAt nl Ln xs (d + 1) b v σ F := by
  obtain ⟨hK, ⟨n1, n2, n3⟩, hP, hL, hC, hT⟩ := h
  have hix := at_ix (v := v) (n := P.length) (by omega)
  refine w_Bk_policyAt ?_
  rw [n1]
  refine ⟨fun _ => is_mk hK.2.1, fun _ _ => is_mk hK.2.1, fun q1 q2 => ?_, fun w7 e7 => ?_⟩
  · have hv := hix.mpr ⟨q1, q2⟩
    obtain ⟨i1, i2, i3, i4⟩ := ixI hv.1 hv.2 (by omega)
    rw [hK.2.2.2.2.1.1]
    exact ar_mk hK.2.2.2.2.1.2.2 (by omega) (by omega)
  · by_cases hv : m_isPol P v
    · obtain ⟨q1, q2⟩ := hix.mp hv
      obtain ⟨i1, i2, i3, i4⟩ := ixI hv.1 hv.2 (by omega)
      have hg := getD_some mPol0 i2
      obtain ⟨c, c1, c2⟩ := hP _ _ hg
      rw [if_neg q1, if_pos q2, i4] at e7
      have : w7 = some c := e7.trans c1
      rw [this]
      exact K2 c _ hv hg c1 c2
    · have e : w7 = none := by
        rw [e7]
        by_cases q1 : v < 0
        · rw [if_pos q1]
        · rw [if_neg q1, if_neg (fun q2 => hv (hix.mpr ⟨q1, q2⟩))]
      rw [e]
      exact K1 hv
theorem bk_lossAt {v : Int64} {F : Option Nat → am_S → Prop} (h : BkD σ w b P T Ls Cs) (h200 : Ls.length ≤ 200) (K1 : ¬ (0 ≤ v.toInt ∧ v.toInt < Ls.length) → F none σ) (K2 : ∀ c l, (0 ≤ v.toInt ∧ v.toInt < Ls.length) → Ls[m_ix v]? = some l → am_aR σ (bA σ b 6005) (m_ix v) = some c → LsR σ w (b, 300 + m_ix v) c (m_ix v) l → F (some c) σ) : k_Bk_lossAt nl Ln xs (d + 1) b v σ F := by
  obtain ⟨hK, ⟨n1, n2, n3⟩, hP, hL, hC, hT⟩ := h
  have hix := at_ix (v := v) (n := Ls.length) (by omega)
  refine w_Bk_lossAt ?_
  rw [n2]
  refine ⟨fun _ => is_mk hK.2.1, fun _ _ => is_mk hK.2.1, fun q1 q2 => ?_, fun w7 e7 => ?_⟩
  · have hv := hix.mpr ⟨q1, q2⟩
    obtain ⟨i1, i2, i3, i4⟩ := ixI hv.1 hv.2 (by omega)
    rw [hK.2.2.2.2.2.1.1]
    exact ar_mk hK.2.2.2.2.2.1.2.2 (by omega) (by omega)
  · by_cases hv : 0 ≤ v.toInt ∧ v.toInt < Ls.length
    · obtain ⟨q1, q2⟩ := hix.mp hv
      obtain ⟨i1, i2, i3, i4⟩ := ixI hv.1 hv.2 (by omega)
      have hg := getD_some mLoss0 i2
      obtain ⟨c, c1, c2, c3⟩ := hL _ _ hg
      rw [if_neg q1, if_pos q2, i4] at e7
      have : w7 = some c := e7.trans c1
      rw [this]
      exact K2 c _ hv hg c1 c2
    · have e : w7 = none := by
        rw [e7]
        by_cases q1 : v < 0
        · rw [if_pos q1]
        · rw [if_neg q1, if_neg (fun q2 => hv (hix.mpr ⟨q1, q2⟩))]
      rw [e]
      exact K1 hv
theorem bk_caseAt {v : Int64} {F : Option Nat → am_S → Prop} (h : BkD σ w b P T Ls Cs) (h100 : Cs.length ≤ 100) (K1 : ¬ (0 ≤ v.toInt ∧ v.toInt < Cs.length) → F none σ) (K2 : ∀ c x, (0 ≤ v.toInt ∧ v.toInt < Cs.length) → Cs[m_ix v]? = some x → am_aR σ (bA σ b 6006) (m_ix v) = some c → CsR σ w (b, 600 + m_ix v) c x → F (some c) σ) : k_Bk_caseAt nl Ln xs (d + 1) b v σ F := by
  obtain ⟨hK, ⟨n1, n2, n3⟩, hP, hL, hC, hT⟩ := h
  have hix := at_ix (v := v) (n := Cs.length) (by omega)
  refine w_Bk_caseAt ?_
  rw [n3]
  refine ⟨fun _ => is_mk hK.2.1, fun _ _ => is_mk hK.2.1, fun q1 q2 => ?_, fun w7 e7 => ?_⟩
  · have hv := hix.mpr ⟨q1, q2⟩
    obtain ⟨i1, i2, i3, i4⟩ := ixI hv.1 hv.2 (by omega)
    rw [hK.2.2.2.2.2.2.1.1]
    exact ar_mk hK.2.2.2.2.2.2.1.2.2 (by omega) (by omega)
  · by_cases hv : 0 ≤ v.toInt ∧ v.toInt < Cs.length
    · obtain ⟨q1, q2⟩ := hix.mp hv
      obtain ⟨i1, i2, i3, i4⟩ := ixI hv.1 hv.2 (by omega)
      have hg := getD_some mCase0 i2
      obtain ⟨c, c1, c2, c3⟩ := hC _ _ hg
      rw [if_neg q1, if_pos q2, i4] at e7
      have : w7 = some c := e7.trans c1
      rw [this]
      exact K2 c _ hv hg c1 c2
    · have e : w7 = none := by
        rw [e7]
        by_cases q1 : v < 0
        · rw [if_pos q1]
        · rw [if_neg q1, if_neg (fun q2 => hv (hix.mpr ⟨q1, q2⟩))]
      rw [e]
      exact K1 hv
end
