/-! SHARES, by the reference: by parts, by rounds, by ranks -/
/-- the rounds come to their end -/
def m_rdone (al : Nat → Option Int64) (ord : List Nat) : Nat → (Nat → Int64) × Int64 → Prop
  | 0, _ => False
  | n + 1, x => 0 < x.2.toInt ∧ m_lack al x.1 ord ≠ 0 → (x.2 / Int64.ofNat (m_lack al x.1 ord) = 0 → (m_cent al ord x).2.toInt ≤ 0) ∧ (x.2 / Int64.ofNat (m_lack al x.1 ord) ≠ 0 → m_rdone al ord n (m_give al (x.2 / Int64.ofNat (m_lack al x.1 ord)) ord x))
theorem lack_cons (al : Nat → Option Int64) (g : Nat → Int64) (z : Nat) (l : List Nat) : m_lack al g (z :: l) = m_lack al g l + if g z < (al z).getD 0 then 1 else 0 := by
  unfold m_lack
  by_cases h : g z < (al z).getD 0
  · rw [List.filter_cons_of_pos (by simpa using h), List.length_cons, if_pos h]
  · rw [List.filter_cons_of_neg (by simpa using h), if_neg h]
    rfl
theorem lack_le (al : Nat → Option Int64) (g : Nat → Int64) (l : List Nat) : m_lack al g l ≤ l.length := List.length_filter_le _ _
section
variable {nl : Bool} {Ln : Nat} {xs : Nat → Int32} {d : Nat} {σ : am_S} {o : Nat} {P : List mPol} {T : List mTell} {Ls : List mLoss} {Cs : List mCase} {i : Nat} {c : mCase} {day at' : Int32} {lk : Bool} {p : Nat} {st : Option Nat} {nf fnd : Int32} {ends : Bool} {s worth : Int64} {rows : List mRow} {tr : List Int32}
theorem OrdR.rc {σ1 : am_S} {ord : List Nat} {fs as : List Nat} (h : OrdR σ o ord) (hr : Rc o fs as [] σ σ1) (lo : 1063 ≤ o) (h1 : 13084 ∉ fs) (h2 : 56 ∉ as) : OrdR σ1 o ord := ⟨(hr.fI h1).trans h.1, h.2.eq fun _ => hr.aI lo (by simp) h2⟩
theorem AlR.rc {σ1 : am_S} {al : Nat → Option Int64} {fs as : List Nat} (h : AlR σ o al) (hr : Rc o fs as [] σ σ1) (lo : 1063 ≤ o) (h1 : 53 ∉ as) (h2 : 54 ∉ as) : AlR σ1 o al := fun k hk => ⟨(hr.aI lo (by simp) h1).trans (h k hk).1, (hr.aL lo (by simp) h2).trans (h k hk).2⟩
theorem GeR.set {σ1 : am_S} {g : Nat → Int64} {z : Nat} {v : Int64} (h : GeR σ o g) (e : σ1 = am_saL σ (o + 55) z v) : GeR σ1 o (va_up g z v) := by
  intro q hq
  rw [e]
  show am_aL (am_saL σ (o + 55) z v) (o + 55) q = va_up g z v q
  by_cases hqz : q = z
  · rw [hqz, aL_same, up_same]
  · rw [aL_i hqz, am_vup hqz]
    exact h q hq
theorem r_byRanks {al : Nat → Option Int64} {ord : List Nat} {all : Int64} {g : Nat → Int64} {F : am_S → Prop} (hlen : ord.length ≤ 6) (hm : ∀ y ∈ ord, y < 6) (S : Es σ o P T Ls Cs i c day at' lk p st nf fnd ends s worth rows tr) (hO : OrdR σ o ord) (hA : AlR σ o al) (hG : GeR σ o g)
    (K : ∀ σ', Es σ' o P T Ls Cs i c day at' lk p st nf fnd ends s worth rows tr → OrdR σ' o ord → GeR σ' o (m_ranks al ord (g, all)).1 → Rc o [] [55] [] σ σ' → F σ') : k_Ro_byRanks nl Ln xs (d + 1) o all σ F := by
  have loop : ∀ (j k : Nat) (σ1 : am_S) (y : (Nat → Int64) × Int64) (x6 : Option Value), k + j = ord.length → Es σ1 o P T Ls Cs i c day at' lk p st nf fnd ends s worth rows tr → OrdR σ1 o ord → AlR σ1 o al → GeR σ1 o y.1 → Rc o [] [55] [] σ σ1 → m_ranks al (ord.drop k) y = m_ranks al ord (g, all) → c_Ro_byRanks_5 nl Ln xs (d + 1) o all y.2 (Int32.ofNat k) x6 σ1 F := by
    intro j
    induction j with
    | zero =>
      intro k σ1 y x6 hk S1 hO1 hA1 hG1 hr1 e
      rw [List.drop_eq_nil_of_le (by omega), m_ranks] at e
      refine w_Ro_byRanks_5 ⟨is_mk S1.1.1.k.2.1, fun q => ?_, fun _ => K σ1 S1 hO1 (by rw [← e]; exact hG1) hr1⟩
      rw [hO1.1, n32lt (by omega) (by omega)] at q; omega
    | succ j ih =>
      intro k σ1 y x6 hk S1 hO1 hA1 hG1 hr1 e
      obtain ⟨z, hzk⟩ := get_ex (show k < ord.length by omega)
      have hz6 := hm z (List.mem_of_getElem? hzk)
      have v := hO1.2 k z hzk
      have bk : 0 ≤ (Int32.ofNat k).toInt ∧ (Int32.ofNat k).toInt < 6 := by rw [n32 (by omega)]; omega
      have bz : 0 ≤ (Int32.ofNat z).toInt ∧ (Int32.ofNat z).toInt < 6 := by rw [n32 (by omega)]; omega
      have hK1 := S1.1.1.k
      have lo := hK1.lo
      have nk : (Int32.ofNat k).toNatClampNeg = k := n32c (by omega)
      have nz : (Int32.ofNat z).toNatClampNeg = z := n32c (by omega)
      rw [drop_get hzk, m_ranks] at e
      refine w_Ro_byRanks_5 ⟨is_mk hK1.2.1, fun _ => ⟨oA_13083 hK1 bk.1 bk.2, ?_⟩, fun q => absurd (by rw [hO1.1, n32lt (by omega) (by omega)]; omega) q⟩
      rw [oG_13083 hK1, oG_13082 hK1, oG_13081 hK1, nk, v]
      rintro v4 rfl
      rw [nz, (hA1 z hz6).2]
      refine ⟨oA_13081 hK1 bz.1 bz.2, fun _ => oA_13081 hK1 bz.1 bz.2, ?_⟩
      intro w10 e10
      refine ⟨oA_13082 hK1 bz.1 bz.2, ?_⟩
      intro s13 e13
      have r13 : Rc o [] [55] [] σ1 s13 := by rw [e13]; exact Rc.saL (by decide)
      have hG2 := hG1.set e13
      have hK2 := hK1.rc r13
      refine ⟨oA_13082 hK2 bz.1 bz.2, ?_⟩
      rw [oG_13082 hK2, hG2 z hz6, up_same, n32s]
      rintro v17 rfl
      have ew : w10 = m_least ((al z).getD 0) y.2 := e10
      rw [ew] at hG2 ⊢
      exact ih (k + 1) s13 (va_up y.1 z (m_least ((al z).getD 0) y.2), y.2 - m_least ((al z).getD 0) y.2) _ (by omega) (S1.wr r13 (by decide)) (hO1.rc r13 lo (by decide) (by decide)) (hA1.rc r13 lo (by decide) (by decide)) hG2 (hr1.trans r13) e
  exact w_Ro_byRanks (loop ord.length 0 σ (g, all) none (by omega) S hO hA hG Rc.rf (by rw [List.drop_zero]))
theorem r_byParts {al : Nat → Option Int64} {ord : List Nat} {all sum : Int64} {g : Nat → Int64} {F : am_S → Prop} (hlen : ord.length ≤ 6) (hm : ∀ y ∈ ord, y < 6) (hall : 0 ≤ all.toInt) (hal : ∀ y ∈ ord, 0 ≤ ((al y).getD 0).toInt) (S : Es σ o P T Ls Cs i c day at' lk p st nf fnd ends s worth rows tr) (hO : OrdR σ o ord) (hA : AlR σ o al) (hG : GeR σ o g)
    (hz : sum ≠ 0 → ord.any (fun i => m_great all ((al i).getD 0)) = false → (m_cents al ord 6 (m_parts al all sum ord (g, all))).2.toInt ≤ 0)
    (K1 : sum = 0 → ∀ σ', Es σ' o P T Ls Cs i c day at' lk p st (nf + 1) 4 ends s worth rows tr → Rc o (eF lk) eA (eM lk) σ σ' → F σ')
    (K2 : sum ≠ 0 → ord.any (fun i => m_great all ((al i).getD 0)) = true → ∀ σ', Es σ' o P T Ls Cs i c day at' lk p st (nf + 1) 5 ends s worth rows tr → Rc o (eF lk) eA (eM lk) σ σ' → F σ')
    (K3 : sum ≠ 0 → ord.any (fun i => m_great all ((al i).getD 0)) = false → ∀ σ', Es σ' o P T Ls Cs i c day at' lk p st nf fnd ends s worth rows tr → OrdR σ' o ord → GeR σ' o (m_cents al ord 6 (m_parts al all sum ord (g, all))).1 → Rc o (eF lk) eA (eM lk) σ σ' → F σ') : k_Ro_byParts nl Ln xs (d + 2) o all sum σ F := by
  have e55 : ∀ {σ1 σ2 : am_S}, Rc o [] [55] [] σ1 σ2 → Rc o (eF lk) eA (eM lk) σ1 σ2 := fun h => h.mono (by simp) (by decide) (by simp)
  refine w_Ro_byParts ⟨fun h0 => ⟨is_mk S.1.1.k.2.1, r_meets S (fun s1 S1 hr1 _ => K1 h0 s1 S1 hr1)⟩, fun h0 => ?_⟩
  have loop : ∀ (j k : Nat) (σ1 : am_S) (y : (Nat → Int64) × Int64) (x8 : Option Value), k + j = ord.length → Es σ1 o P T Ls Cs i c day at' lk p st nf fnd ends s worth rows tr → OrdR σ1 o ord → AlR σ1 o al → GeR σ1 o y.1 → Rc o [] [55] [] σ σ1 → m_parts al all sum (ord.drop k) y = m_parts al all sum ord (g, all) → (ord.drop k).any (fun i => m_great all ((al i).getD 0)) = ord.any (fun i => m_great all ((al i).getD 0)) → c_Ro_byParts_18 nl Ln xs (d + 2) o all sum y.2 (Int32.ofNat k) x8 σ1 F := by
    intro j
    induction j with
    | zero =>
      intro k σ1 y x8 hk S1 hO1 hA1 hG1 hr1 e ea
      rw [List.drop_eq_nil_of_le (by omega)] at e ea
      rw [m_parts] at e
      have hf : ord.any (fun i => m_great all ((al i).getD 0)) = false := by rw [← ea]; rfl
      refine w_Ro_byParts_18 ⟨is_mk S1.1.1.k.2.1, fun q => ?_, fun _ => w_Ro_cents ?_⟩
      · rw [hO1.1, n32lt (by omega) (by omega)] at q; omega
      · have hz' := hz h0 hf
        have K3' := K3 h0 hf
        rw [← e] at hz' K3'
        exact r_cents hlen hm 6 σ1 y none S1 hO1 hA1 hG1 hz' (fun s2 S2 hO2 hG2 hr2 _ => K3' s2 S2 hO2 hG2 (e55 (hr1.trans hr2)))
    | succ j ih =>
      intro k σ1 y x8 hk S1 hO1 hA1 hG1 hr1 e ea
      obtain ⟨z, hzk⟩ := get_ex (show k < ord.length by omega)
      have hz6 := hm z (List.mem_of_getElem? hzk)
      have v := hO1.2 k z hzk
      have bk : 0 ≤ (Int32.ofNat k).toInt ∧ (Int32.ofNat k).toInt < 6 := by rw [n32 (by omega)]; omega
      have bz : 0 ≤ (Int32.ofNat z).toInt ∧ (Int32.ofNat z).toInt < 6 := by rw [n32 (by omega)]; omega
      have hK1 := S1.1.1.k
      have lo := hK1.lo
      have nk : (Int32.ofNat k).toNatClampNeg = k := n32c (by omega)
      have nz : (Int32.ofNat z).toNatClampNeg = z := n32c (by omega)
      rw [drop_get hzk] at e ea
      rw [m_parts] at e
      rw [List.any_cons] at ea
      refine w_Ro_byParts_18 ⟨is_mk hK1.2.1, fun _ => ⟨oA_13083 hK1 bk.1 bk.2, ?_⟩, fun q => absurd (by rw [hO1.1, n32lt (by omega) (by omega)]; omega) q⟩
      rw [oG_13083 hK1, oG_13081 hK1, nk, v]
      rintro v4 rfl
      rw [nz, (hA1 z hz6).2]
      refine ⟨oA_13081 hK1 bz.1 bz.2, r_isGreat hall (hal z (List.mem_of_getElem? hzk)) (fun _ => ⟨fun hg => r_meets S1 (fun s2 S2 hr2 _ => K2 h0 ?_ s2 S2 ((e55 hr1).trans hr2)), fun hg => ?_⟩)⟩
      · rw [← ea, hg]; rfl
      · rw [oG_13082 hK1, oG_13081 hK1, (hA1 z hz6).2]
        refine ⟨oA_13081 hK1 bz.1 bz.2, h0, oA_13082 hK1 bz.1 bz.2, ?_⟩
        intro s15 e15
        have r15 : Rc o [] [55] [] σ1 s15 := by rw [e15]; exact Rc.saL (by decide)
        have hG2 := hG1.set e15
        have hK2 := hK1.rc r15
        refine ⟨oA_13082 hK2 bz.1 bz.2, ?_⟩
        rw [oG_13082 hK2, hG2 z hz6, up_same, n32s]
        rintro v19 rfl
        have hgf : m_great all ((al z).getD 0) = false := by
          cases hq : m_great all ((al z).getD 0)
          · rfl
          · exact absurd hq hg
        rw [hgf, Bool.false_or] at ea
        exact ih (k + 1) s15 (va_up y.1 z (all * (al z).getD 0 / sum), y.2 - all * (al z).getD 0 / sum) _ (by omega) (S1.wr r15 (by decide)) (hO1.rc r15 lo (by decide) (by decide)) (hA1.rc r15 lo (by decide) (by decide)) hG2 (hr1.trans r15) e ea
  exact loop ord.length 0 σ (g, all) none (by omega) S hO hA hG Rc.rf (by rw [List.drop_zero]) (by rw [List.drop_zero])
theorem r_byRounds {al : Nat → Option Int64} {ord : List Nat} {all : Int64} {g : Nat → Int64} {F : am_S → Prop} (hlen : ord.length ≤ 6) (hm : ∀ y ∈ ord, y < 6) (S : Es σ o P T Ls Cs i c day at' lk p st nf fnd ends s worth rows tr) (hO : OrdR σ o ord) (hA : AlR σ o al) (hG : GeR σ o g) (hd : m_rdone al ord 14 (g, all))
    (K : ∀ σ', Es σ' o P T Ls Cs i c day at' lk p st nf fnd ends s worth rows tr → OrdR σ' o ord → GeR σ' o (m_rounds al ord 14 (g, all)).1 → Rc o [] [55] [] σ σ' → F σ') : k_Ro_byRounds nl Ln xs (d + 2) o all σ F := by
  have z64 : (0 : Int64).toInt = 0 := by decide
  have main : ∀ (n : Nat) (σ1 : am_S) (y : (Nat → Int64) × Int64) (x5 x6 x7 x8 x9 x10 x11 x12 x13 : Option Value), Es σ1 o P T Ls Cs i c day at' lk p st nf fnd ends s worth rows tr → OrdR σ1 o ord → AlR σ1 o al → GeR σ1 o y.1 → Rc o [] [55] [] σ σ1 → m_rdone al ord n y → m_rounds al ord n y = m_rounds al ord 14 (g, all) → c_Ro_byRounds_2 nl Ln xs (d + 2) o all y.2 x5 x6 x7 x8 x9 x10 x11 x12 x13 σ1 F := by
    intro n
    induction n with
    | zero => intro σ1 y x5 x6 x7 x8 x9 x10 x11 x12 x13 S1 hO1 hA1 hG1 hr1 hd1; exact absurd hd1 (fun q => q)
    | succ n ih =>
      intro σ1 y x5 x6 x7 x8 x9 x10 x11 x12 x13 S1 hO1 hA1 hG1 hr1 hd1 e
      by_cases hpos : 0 < y.2.toInt
      · refine w_Ro_byRounds_2 ⟨fun _ => ?_, fun h => absurd (by rw [i64lt, z64]; exact hpos) h⟩
        have cnt : ∀ (j k m : Nat) (x7 x8 x9 x10 x11 x12 x13 : Option Value), k + j = ord.length → m + m_lack al y.1 (ord.drop k) = m_lack al y.1 ord → c_Ro_byRounds_14 nl Ln xs (d + 2) o all y.2 (Int32.ofNat m) (Int32.ofNat k) x7 x8 x9 x10 x11 x12 x13 σ1 F := by
          intro j
          induction j with
          | zero =>
            intro k m x7 x8 x9 x10 x11 x12 x13 hk em
            rw [List.drop_eq_nil_of_le (by omega)] at em
            have em : m = m_lack al y.1 ord := em
            have hle := lack_le al y.1 ord
            refine w_Ro_byRounds_14 ⟨is_mk S1.1.1.k.2.1, fun q => ?_, fun _ => ?_⟩
            · rw [hO1.1, n32lt (by omega) (by omega)] at q; omega
            rw [em]
            have e0 : Int32.ofNat (m_lack al y.1 ord) = 0 ↔ m_lack al y.1 ord = 0 := n32i (b := 0) (by omega) (by decide)
            have e64 : (Int32.ofNat (m_lack al y.1 ord)).toInt64 = Int64.ofNat (m_lack al y.1 ord) := by
              apply Int64.toInt_inj.mp
              rw [t64, n32 (by omega), n64 (by omega)]
            refine ⟨fun h => ?_, fun h => ?_⟩
            · have hl := e0.mp h
              refine K σ1 S1 hO1 ?_ hr1
              rw [m_rounds, if_neg (fun q => q.2 hl)] at e
              rw [← e]
              exact hG1
            · have hl : m_lack al y.1 ord ≠ 0 := fun q => h (e0.mpr q)
              rw [m_rounds, if_pos ⟨hpos, hl⟩] at e
              have hd2 := hd1 ⟨hpos, hl⟩
              rw [e64]
              refine ⟨fun q => hl ?_, ?_⟩
              · have := congrArg Int64.toInt q
                rw [n64 (by omega)] at this
                have z : (0 : Int64).toInt = 0 := by decide
                omega
              rintro v15 rfl
              refine ⟨fun hz => w_Ro_cents ?_, fun hz => ?_⟩
              · rw [if_pos hz] at e
                have hc := hd2.1 hz
                have e1 : m_cents al ord 1 y = m_cent al ord y := by rw [m_cents, if_pos hpos, m_cents]
                refine r_cents hlen hm 1 σ1 y none S1 hO1 hA1 hG1 (by rw [e1]; exact hc) (fun s2 S2 hO2 hG2 hr2 _ => K s2 S2 hO2 ?_ (hr1.trans hr2))
                rw [← e, ← e1]
                exact hG2
              · rw [if_neg hz] at e
                have hd3 := hd2.2 hz
                have give : ∀ (j k : Nat) (σ2 : am_S) (u : (Nat → Int64) × Int64) (x9 x10 x11 x12 x13 : Option Value), k + j = ord.length → Es σ2 o P T Ls Cs i c day at' lk p st nf fnd ends s worth rows tr → OrdR σ2 o ord → AlR σ2 o al → GeR σ2 o u.1 → Rc o [] [55] [] σ σ2 → m_give al (y.2 / Int64.ofNat (m_lack al y.1 ord)) (ord.drop k) u = m_give al (y.2 / Int64.ofNat (m_lack al y.1 ord)) ord y → c_Ro_byRounds_96 nl Ln xs (d + 2) o all u.2 (Int32.ofNat (m_lack al y.1 ord)) (y.2 / Int64.ofNat (m_lack al y.1 ord)) (Int32.ofNat k) x9 x10 x11 x12 x13 σ2 F := by
                  intro j
                  induction j with
                  | zero =>
                    intro k σ2 u x9 x10 x11 x12 x13 hk S2 hO2 hA2 hG2 hr2 eu
                    rw [List.drop_eq_nil_of_le (by omega), m_give] at eu
                    refine w_Ro_byRounds_96 ⟨is_mk S2.1.1.k.2.1, fun q => ?_, fun _ => ?_⟩
                    · rw [hO2.1, n32lt (by omega) (by omega)] at q; omega
                    · rw [← eu] at hd3 e
                      exact ih σ2 u _ _ _ _ _ _ _ _ _ S2 hO2 hA2 hG2 hr2 hd3 e
                  | succ j ihj =>
                    intro k σ2 u x9 x10 x11 x12 x13 hk S2 hO2 hA2 hG2 hr2 eu
                    obtain ⟨z, hzk⟩ := get_ex (show k < ord.length by omega)
                    have hz6 := hm z (List.mem_of_getElem? hzk)
                    have v := hO2.2 k z hzk
                    have bk : 0 ≤ (Int32.ofNat k).toInt ∧ (Int32.ofNat k).toInt < 6 := by rw [n32 (by omega)]; omega
                    have bz : 0 ≤ (Int32.ofNat z).toInt ∧ (Int32.ofNat z).toInt < 6 := by rw [n32 (by omega)]; omega
                    have hK2 := S2.1.1.k
                    have lo := hK2.lo
                    have nz : (Int32.ofNat z).toNatClampNeg = z := n32c (by omega)
                    rw [drop_get hzk, m_give] at eu
                    refine w_Ro_byRounds_96 ⟨is_mk hK2.2.1, fun _ => ⟨oA_13083 hK2 bk.1 bk.2, ?_⟩, fun q => absurd (by rw [hO2.1, n32lt (by omega) (by omega)]; omega) q⟩
                    rw [oG_13083 hK2, oG_13082 hK2, oG_13081 hK2, n32c (show k < 2147483648 by omega), v]
                    rintro v4 rfl
                    rw [nz, (hA2 z hz6).2, hG2 z hz6]
                    refine ⟨oA_13081 hK2 bz.1 bz.2, oA_13082 hK2 bz.1 bz.2, ?_⟩
                    rintro v8 rfl w12 e12
                    have e12 : w12 = m_least ((al z).getD 0 - u.1 z) (y.2 / Int64.ofNat (m_lack al y.1 ord)) := e12
                    refine w_Ro_byRounds_146 ⟨is_mk hK2.2.1, oA_13082 hK2 bz.1 bz.2, oA_13082 hK2 bz.1 bz.2, ?_⟩
                    rw [oG_13082 hK2, nz, hG2 z hz6, n32s]
                    intro s4 e4
                    rintro v7 rfl
                    rw [e12] at e4 ⊢
                    have r4 : Rc o [] [55] [] σ2 s4 := by rw [e4]; exact Rc.saL (by decide)
                    exact ihj (k + 1) s4 (va_up u.1 z (u.1 z + m_least ((al z).getD 0 - u.1 z) (y.2 / Int64.ofNat (m_lack al y.1 ord))), u.2 - m_least ((al z).getD 0 - u.1 z) (y.2 / Int64.ofNat (m_lack al y.1 ord))) _ _ _ _ _ (by omega) (S2.wr r4 (by decide)) (hO2.rc r4 lo (by decide) (by decide)) (hA2.rc r4 lo (by decide) (by decide)) (hG2.set e4) (hr2.trans r4) eu
                exact give ord.length 0 σ1 y _ _ _ _ _ (by omega) S1 hO1 hA1 hG1 hr1 (by rw [List.drop_zero])
          | succ j ihj =>
            intro k m x7 x8 x9 x10 x11 x12 x13 hk em
            obtain ⟨z, hzk⟩ := get_ex (show k < ord.length by omega)
            have hz6 := hm z (List.mem_of_getElem? hzk)
            have v := hO1.2 k z hzk
            have bk : 0 ≤ (Int32.ofNat k).toInt ∧ (Int32.ofNat k).toInt < 6 := by rw [n32 (by omega)]; omega
            have bz : 0 ≤ (Int32.ofNat z).toInt ∧ (Int32.ofNat z).toInt < 6 := by rw [n32 (by omega)]; omega
            have hK1 := S1.1.1.k
            have lo := hK1.lo
            have nk : (Int32.ofNat k).toNatClampNeg = k := n32c (by omega)
            have nz : (Int32.ofNat z).toNatClampNeg = z := n32c (by omega)
            rw [drop_get hzk, lack_cons] at em
            have hle := lack_le al y.1 ord
            refine w_Ro_byRounds_14 ⟨is_mk hK1.2.1, fun _ => ?_, fun q => absurd (by rw [hO1.1, n32lt (by omega) (by omega)]; omega) q⟩
            rw [oG_13083 hK1, oG_13082 hK1, oG_13081 hK1, nk, v, nz, hG1 z hz6, (hA1 z hz6).2]
            refine ⟨oA_13083 hK1 bk.1 bk.2, oA_13082 hK1 bz.1 bz.2, oA_13083 hK1 bk.1 bk.2, oA_13081 hK1 bz.1 bz.2, ?_⟩
            intro v11 e11
            rw [n32s]
            have e11 : v11 = Int32.ofNat (m + if y.1 z < (al z).getD 0 then 1 else 0) := by
              rw [e11]
              split
              · exact n32s m
              · simp
            rw [e11]
            exact ihj (k + 1) _ _ _ _ _ _ _ _ (by omega) (by omega)
        exact cnt ord.length 0 0 _ _ _ _ _ _ _ (by omega) (by rw [List.drop_zero]; omega)
      · refine w_Ro_byRounds_2 ⟨fun h => ?_, fun _ => K σ1 S1 hO1 ?_ hr1⟩
        · rw [i64lt, z64] at h
          exact absurd h hpos
        · rw [m_rounds, if_neg (fun q => hpos q.1)] at e
          rw [← e]
          exact hG1
  exact w_Ro_byRounds (main 14 σ (g, all) _ _ _ _ _ _ _ _ _ S hO hA hG Rc.rf hd rfl)
end
