/-! WORKING OUT, by the reference: what is traced; IS, amounts, WORTH -/
def Lk (σ : am_S) (lk : Bool) (rows : List mRow) (tr : List Int32) : Prop := am_fI σ 12015 1053 = b2i lk ∧ (lk = true → (am_fI σ 12012 1053 = Int32.ofNat rows.length ∧ rwI σ 1056 rows (fun r => r.1) ∧ rwI σ 1057 rows (fun r => r.2.1) ∧ rwL σ 1058 rows (fun r => r.2.2)) ∧ am_fI σ 12014 1053 = Int32.ofNat (min tr.length 200) ∧ ∀ i, i < 200 → ∀ x, tr[i]? = some x → am_aI σ 1059 i = x)
def Ev (σ : am_S) (o : Nat) (P : List mPol) (T : List mTell) (Ls : List mLoss) (Cs : List mCase) (i : Nat) (c : mCase) (day at' : Int32) (lk : Bool) (rows : List mRow) (tr : List Int32) : Prop := Dat σ o P T Ls Cs ∧ Cs[i]? = some c ∧ am_fI σ 13068 o = Int32.ofNat i ∧ am_fI σ 13069 o = Int32.ofNat c.2.2.1 ∧ am_fI σ 13072 o = day ∧ am_fI σ 13073 o = at' ∧ Lk σ lk rows tr
def tF (lk : Bool) : List Nat := if lk then [12014] else []
def tM (lk : Bool) : List Nat := if lk then [1059] else []
section
variable {nl : Bool} {Ln : Nat} {xs : Nat → Int32} {d : Nat} {σ : am_S} {o : Nat} {P : List mPol} {T : List mTell} {Ls : List mLoss} {Cs : List mCase} {i : Nat} {c : mCase} {day at' : Int32} {lk : Bool} {rows : List mRow} {tr : List Int32}
theorem Ev.trc {σ1 : am_S} {tr1 : List Int32} (E : Ev σ o P T Ls Cs i c day at' lk rows tr) (hr : Rc o (tF lk) [] (tM lk) σ σ1) (h1 : lk = true → am_fI σ1 12014 1053 = Int32.ofNat (min tr1.length 200) ∧ ∀ i, i < 200 → ∀ x, tr1[i]? = some x → am_aI σ1 1059 i = x) : Ev σ1 o P T Ls Cs i c day at' lk rows tr1 := by
  obtain ⟨D, e1, e2, e3, e4, e5, e6, e7⟩ := E
  have lo := D.k.lo
  have nf : ∀ g, g ≠ 12014 → g ∉ tF lk := by intro g hg; cases lk <;> simp [tF, hg]
  have nm : ∀ c, c ≠ 1059 → c ∉ tM lk := by intro g hg; cases lk <;> simp [tM, hg]
  refine ⟨D.rc hr (by cases lk <;> decide), e1, (hr.fI (nf _ (by decide))).trans e2, (hr.fI (nf _ (by decide))).trans e3, (hr.fI (nf _ (by decide))).trans e4, (hr.fI (nf _ (by decide))).trans e5, (hr.fI (nf _ (by decide))).trans e6, fun hl => ⟨⟨(hr.fI (nf _ (by decide))).trans (e7 hl).1.1, (e7 hl).1.2.1.eq fun i => hr.aIm lo (by decide) (nm _ (by decide)), (e7 hl).1.2.2.1.eq fun i => hr.aIm lo (by decide) (nm _ (by decide)), (e7 hl).1.2.2.2.eq fun i => hr.aLm lo (by decide) (nm _ (by decide))⟩, h1 hl⟩⟩
theorem r_traced {n : Int32} {F : am_S → Prop} (E : Ev σ o P T Ls Cs i c day at' lk rows tr) (K : ∀ σ', Ev σ' o P T Ls Cs i c day at' lk rows (tr ++ [n]) → Rc o (tF lk) [] (tM lk) σ σ' → F σ') : k_Rm_traced nl Ln xs (d + 1) 1053 n σ F := by
  have E0 := E
  obtain ⟨D, e1, e2, e3, e4, e5, e6, e7⟩ := E
  have hM := D.m
  refine w_Rm_traced ⟨is_mk hM.1, ?_, ?_⟩
  · rw [e6]
    intro h
    have hl : lk = false := by cases lk <;> simp_all [b2i]
    exact K σ (E0.trc Rc.rf (fun q => by rw [hl] at q; cases q)) Rc.rf
  · rw [e6]
    intro h
    have hl : lk = true := by cases lk <;> simp_all [b2i]
    subst hl
    obtain ⟨-, t1, t2⟩ := e7 rfl
    have b : 0 ≤ (Int32.ofNat (min tr.length 200)).toInt := by rw [n32 (by omega)]; omega
    rw [t1, show (200 : Int32) = Int32.ofNat 200 from rfl, n32lt (by omega) (by decide)]
    refine ⟨fun hlt => ?_, fun hge => ?_⟩
    · have hlt' : tr.length < 200 := by omega
      have em : min tr.length 200 = tr.length := by omega
      rw [em] at t1 b ⊢
      refine ⟨mA_12013 hM b (by rw [n32 (by omega)]; omega), ?_⟩
      rw [mG_12013 hM, n32c (by omega)]
      intro s5 e5' s8 e8
      have f5 : am_fI s5 12014 1053 = Int32.ofNat tr.length := by rw [e5']; exact t1
      rw [f5, n32s] at e8
      have hr : Rc o (tF true) [] (tM true) σ s8 := by
        refine Rc.trans (σ1 := s5) ?_ ?_
        · rw [e5']; exact Rc.saIm (by decide)
        · rw [e8]; exact Rc.sfI (by decide) (Or.inr rfl)
      refine K s8 (E0.trc hr (fun _ => ⟨?_, ?_⟩)) hr
      · rw [e8, List.length_append]
        have : min (tr.length + [n].length) 200 = tr.length + 1 := by simp; omega
        rw [this]
        exact rI_same
      · intro i hi x hx
        rw [e8, e5']
        show am_aI (am_saI σ 1059 tr.length n) 1059 i = x
        rcases get_push hx with ⟨q1, q2⟩ | ⟨q1, q2⟩
        · rw [q1, q2]; exact aI_same
        · rw [aI_i (by omega)]; exact t2 i hi x q2
    · refine K σ (E0.trc Rc.rf (fun _ => ⟨?_, ?_⟩)) Rc.rf
      · rw [t1, List.length_append]
        congr 1
        omega
      · intro i hi x hx
        rcases get_push hx with ⟨q1, q2⟩ | ⟨q1, q2⟩
        · omega
        · exact t2 i hi x q2
theorem Ev.is1 (E : Ev σ o P T Ls Cs i c day at' lk rows tr) : am_is σ (am_fR σ 13099 o) 12 ∧ (am_fR σ 13099 o).getD 0 = 1053 := by
  rw [E.1.k.2.2.1]
  exact ⟨is_mk E.1.m.1, rfl⟩
theorem i6 (i k : Nat) : (6 : Int32) * Int32.ofNat i + Int32.ofNat k = Int32.ofNat (6 * i + k) := by
  rw [show (6 : Int32) = Int32.ofNat 6 from rfl, ← Int32.ofNat_mul, n32a]
theorem e3264 (a b : Int32) : a.toInt64 = b.toInt64 ↔ a = b := by
  constructor
  · intro h
    have := congrArg Int64.toInt h
    rw [t64, t64] at this
    exact Int32.toInt_inj.mp this
  · intro h; rw [h]
theorem r_hasSort {l : Nat} {sort : Int32} {F : Bool → am_S → Prop} (hK : OffK σ o) (hL : rLos σ o Ls) (hw : WfL Ls) (h200 : Ls.length ≤ 200) (hl : l < Ls.length) (K : F (m_hasSort Ls l sort) σ) : k_Ro_hasSort nl Ln xs (d + 1) o (Int32.ofNat l) sort.toInt64 σ F := by
  have hg := getD_some mLoss0 hl
  have h6 := (hw l _ hg).2.2.2
  have b : 0 ≤ (Int32.ofNat l).toInt ∧ (Int32.ofNat l).toInt < 200 := by rw [n32 (by omega)]; omega
  have v1 : am_aI σ (o + 31) l = Int32.ofNat (m_items Ls l).length := hL.2.2.2.2.2.1 l _ hg
  have h6' : (m_items Ls l).length ≤ 6 := h6
  have loop : ∀ (j k : Nat), k + j = (m_items Ls l).length → F (((m_items Ls l).drop k).any (fun i => decide (i.1 = sort))) σ → c_Ro_hasSort_3 nl Ln xs (d + 1) o (Int32.ofNat l) sort.toInt64 (Int32.ofNat k) σ F := by
    intro j
    induction j with
    | zero =>
      intro k hk K
      refine w_Ro_hasSort_3 ⟨is_mk hK.2.1, oA_13040 hK b.1 b.2, ?_, ?_⟩
      · rw [oG_13040 hK, n32c (by omega), v1, n32lt (by omega) (by omega)]
        intro q; omega
      · intro _
        rw [List.drop_eq_nil_of_le (by omega)] at K
        exact K
    | succ j ih =>
      intro k hk K
      obtain ⟨x, hx⟩ := get_ex (show k < (m_items Ls l).length by omega)
      have v2 : am_aI σ (o + 33) (6 * l + k) = x.1 := (hL.2.2.2.2.2.2.2 l _ hg k x hx).1
      rw [drop_get hx, List.any_cons] at K
      refine w_Ro_hasSort_3 ⟨is_mk hK.2.1, oA_13040 hK b.1 b.2, ?_, ?_⟩
      · intro _
        rw [i6, oG_13042 hK, n32c (by omega), v2, e3264, n32s]
        refine ⟨oA_13042 hK (by rw [n32 (by omega)]; omega) (by rw [n32 (by omega)]; omega), fun h => ?_, fun h => ih (k + 1) (by omega) ?_⟩
        · rw [decide_eq_true h, Bool.true_or] at K; exact K
        · rw [decide_eq_false h, Bool.false_or] at K; exact K
      · rw [oG_13040 hK, n32c (by omega), v1, n32lt (by omega) (by omega)]
        intro q; omega
  exact w_Ro_hasSort (loop (m_items Ls l).length 0 (by omega) (by rw [List.drop_zero]; exact K))
theorem app1 {α : Type} (l : List α) (x : α) (m : List α) : l ++ (x :: m) = (l ++ [x]) ++ m := by simp
theorem dtrue (b : Bool) : decide (b = true) = b := by cases b <;> rfl
theorem r_is2 {kind : Int32} (w : WfD P T Ls Cs) : ∀ (f l : Nat) (σ : am_S) (tr : List Int32) (F : Bool → am_S → Prop), l < Ls.length → m_parts5 Ls (f + 1) l ≤ f → Ev σ o P T Ls Cs i c day at' lk rows tr → (∀ σ', Ev σ' o P T Ls Cs i c day at' lk rows (tr ++ (m_is Ls kind (f + 1) l).2) → Rc o (tF lk) [] (tM lk) σ σ' → F (m_is Ls kind (f + 1) l).1 σ') → k_Ro_is2 nl Ln xs (d + f + 2) o (Int32.ofNat l) kind σ F := by
  intro f
  have h200 := w.l200
  have base : ∀ (l : Nat) (σ : am_S) (tr : List Int32) (F : Bool → am_S → Prop) (d : Nat), l < Ls.length → Ev σ o P T Ls Cs i c day at' lk rows tr → (∀ σ', Ev σ' o P T Ls Cs i c day at' lk rows (tr ++ [95]) → Rc o (tF lk) [] (tM lk) σ σ' → F (decide ((Ls.getD l mLoss0).1 = kind)) σ') → c_Ro_is2_69 nl Ln xs (d + 2) o (Int32.ofNat l) kind σ F := by
    intro l σ tr F d hl E K
    have b : 0 ≤ (Int32.ofNat l).toInt ∧ (Int32.ofNat l).toInt < 200 := by rw [n32 (by omega)]; omega
    refine w_Ro_is2_69 ⟨is_mk E.1.k.2.1, E.is1.1, ?_⟩
    rw [E.is1.2]
    refine r_traced E (fun s' E' hr _ => ?_)
    have v : am_aI s' (o + 27) l = (Ls.getD l mLoss0).1 := E'.1.los.2.1 l _ (getD_some mLoss0 hl)
    rw [oG_13036 E'.1.k, n32c (by omega), v]
    exact ⟨oA_13036 E'.1.k b.1 b.2, K s' E' hr⟩
  induction f with
  | zero =>
    intro l σ tr F hl h E K
    have hg := getD_some mLoss0 hl
    have b : 0 ≤ (Int32.ofNat l).toInt ∧ (Int32.ofNat l).toInt < 200 := by rw [n32 (by omega)]; omega
    have v : am_aI σ (o + 27) l = (Ls.getD l mLoss0).1 := E.1.los.2.1 l _ hg
    have hn := root_end 0 l h
    have hn' : (Ls.getD l mLoss0).2.2.1 = none := hn
    have em : m_is Ls kind 1 l = if (Ls.getD l mLoss0).1 = 3 then (if kind = 1 ∧ m_hasSort Ls l 3 = true then (true, [125]) else (decide ((Ls.getD l mLoss0).1 = kind), [125, 95])) else (decide ((Ls.getD l mLoss0).1 = kind), [95]) := by rw [m_is]; rw [hn']
    rw [em] at K
    refine w_Ro_is2 ?_
    rw [oG_13036 E.1.k, n32c (by omega), v]
    refine ⟨is_mk E.1.k.2.1, oA_13036 E.1.k b.1 b.2, fun q => absurd hn' ((w.l l _ hg).1.mp q), fun _ => ⟨oA_13036 E.1.k b.1 b.2, fun h3 => ⟨E.is1.1, ?_⟩, fun h3 => ?_⟩⟩
    · rw [if_pos h3] at K
      rw [E.is1.2]
      refine r_traced E (fun s' E' hr _ => ⟨fun hk1 => ?_, fun hk1 => ?_⟩)
      · refine r_hasSort (sort := 3) E'.1.k E'.1.los w.l h200 hl (fun _ => ⟨fun hs => ?_, fun hs => ?_⟩)
        · rw [if_pos ⟨hk1, hs⟩] at K
          exact K s' E' hr
        · rw [if_neg (fun q => hs q.2)] at K
          refine base l s' _ F _ hl E' (fun s2 E2 hr2 => K s2 ?_ (hr.trans hr2))
          rw [List.append_assoc] at E2
          exact E2
      · rw [if_neg (fun q => hk1 q.1)] at K
        refine base l s' _ F _ hl E' (fun s2 E2 hr2 => K s2 ?_ (hr.trans hr2))
        rw [List.append_assoc] at E2
        exact E2
    · rw [if_neg h3] at K
      exact base l σ _ F _ hl E (fun s2 E2 hr2 => K s2 E2 hr2)
  | succ f ih =>
    intro l σ tr F hl h E K
    have hg := getD_some mLoss0 hl
    cases hq : (Ls.getD l mLoss0).2.2.1 with
    | none =>
      have e1 : m_is Ls kind (f + 1 + 1) l = m_is Ls kind (f + 1) l := by
        rw [m_is.eq_def, m_is.eq_def Ls kind (f + 1)]
        simp only [hq]
      rw [e1] at K
      have h0 : m_parts5 Ls (f + 1) l ≤ f := by rw [m_parts5.eq_def]; simp only [hq]; omega
      have := ih l σ tr F hl h0 E K
      exact this.dn (by omega)
    | some u =>
      have b : 0 ≤ (Int32.ofNat l).toInt ∧ (Int32.ofNat l).toInt < 200 := by rw [n32 (by omega)]; omega
      have v : am_aI σ (o + 27) l = (Ls.getD l mLoss0).1 := E.1.los.2.1 l _ hg
      have hu := (w.l l _ hg).2.1 u hq
      have h5 : m_parts5 Ls (f + 1 + 1) l = m_parts5 Ls (f + 1) u + 1 := by rw [m_parts5.eq_def]; simp only [hq]
      have em : m_is Ls kind (f + 1 + 1) l = m_tr 145 (m_is Ls kind (f + 1) u) := by rw [m_is.eq_def]; simp only [hq]
      rw [em] at K
      refine w_Ro_is2 ?_
      rw [oG_13036 E.1.k, n32c (by omega), v]
      refine ⟨is_mk E.1.k.2.1, oA_13036 E.1.k b.1 b.2, fun _ => ⟨E.is1.1, ?_⟩, fun q => absurd ((w.l l _ hg).1.mpr (by rw [hq]; simp)) q⟩
      rw [E.is1.2]
      refine r_traced E (fun s' E' hr _ => ?_)
      have v2 : am_aI s' (o + 29) l = ixO (Ls.getD l mLoss0).2.2.1 := E'.1.los.2.2.2.1 l _ hg
      rw [hq] at v2
      rw [oG_13038 E'.1.k, v2]
      refine ⟨oA_13038 E'.1.k b.1 b.2, ?_⟩
      refine ih u s' _ _ (by omega) (by omega) E' (fun s2 E2 hr2 _ => ?_)
      rw [dtrue]
      refine K s2 ?_ (hr.trans hr2)
      rw [List.append_assoc] at E2
      exact E2
theorem r_is {kind : Int32} {F : Bool → am_S → Prop} (w : WfD P T Ls Cs) (E : Ev σ o P T Ls Cs i c day at' lk rows tr) (K : ∀ σ', Ev σ' o P T Ls Cs i c day at' lk rows (tr ++ (m_lis Ls c.2.2.1 kind).2) → Rc o (tF lk) [] (tM lk) σ σ' → F (m_lis Ls c.2.2.1 kind).1 σ') : k_Ro_is nl Ln xs (d + 7) o kind σ F := by
  have hl := (w.c E.2.1).2.1
  refine w_Ro_is ⟨is_mk E.1.k.2.1, ?_⟩
  rw [E.2.2.2.1]
  refine r_is2 w 4 c.2.2.1 σ tr _ hl (w.l _ _ (getD_some mLoss0 hl)).2.2.1 E (fun s' E' hr _ => ?_)
  rw [dtrue]
  exact K s' E' hr
end
