/-! WORKING OUT, by the reference: amounts, WORTH, bodies -/
section
variable {nl : Bool} {Ln : Nat} {xs : Nat → Int32} {d : Nat} {σ : am_S} {o : Nat} {P : List mPol} {T : List mTell} {Ls : List mLoss} {Cs : List mCase} {i : Nat} {c : mCase} {day at' : Int32} {lk : Bool} {rows : List mRow} {tr : List Int32}
theorem r_amount {k : Nat} {what : Int32} {F : Int64 → am_S → Prop} (w : WfD P T Ls Cs) (E : Ev σ o P T Ls Cs i c day at' lk rows tr) (hk : k < (m_items Ls (m_base Ls c.2.2.1)).length) (hwh : what = 0 ∨ what = 1) (K : F (m_amt Ls c day at' k what) σ) : k_Ro_amount nl Ln xs (d + 2) o (Int32.ofNat k) what σ F := by
  obtain ⟨D, hi, e2, e3, e4, e5, e6⟩ := E
  have hK := D.k
  have hC := D.cas
  have hc := w.c hi
  have hl := hc.2.1
  have h100 := w.c100
  have h200 := w.l200
  have hlt := lt_of_get hi
  have h40 := hc.2.2.2.2.1.1
  have hb := root_lt w.l 4 c.2.2.1 hl
  have hb2 : m_base Ls c.2.2.1 < Ls.length := by unfold m_base; omega
  have hgb := getD_some mLoss0 hb2
  have h6 := (w.l _ _ hgb).2.2.2
  have hk6 : k < 6 := by have : (m_items Ls (m_base Ls c.2.2.1)).length ≤ 6 := h6; omega
  have b : 0 ≤ (Int32.ofNat i).toInt ∧ (Int32.ofNat i).toInt < 100 := by rw [n32 (by omega)]; omega
  have vn : am_aI σ (o + 41) i = Int32.ofNat c.2.2.2.2.2.length := hC.2.2.2.2.2.2.1 i _ hi
  have fac := hC.2.2.2.2.2.2.2 i c hi
  refine w_Ro_amount ⟨is_mk hK.2.1, ?_⟩
  rw [e3]
  refine r_root hK D.los w.l h200 hl (fun _ => ?_)
  rw [i6]
  rintro v4 rfl
  have b4 : 0 ≤ (Int32.ofNat (6 * m_base Ls c.2.2.1 + k)).toInt ∧ (Int32.ofNat (6 * m_base Ls c.2.2.1 + k)).toInt < 1200 := by rw [n32 (by omega)]; omega
  obtain ⟨x, hx⟩ := get_ex hk
  have hx3 := D.los.2.2.2.2.2.2.2 _ _ hgb k x hx
  rw [oG_13043 hK, oG_13044 hK, n32c (by omega), hx3.2.1, hx3.2.2]
  refine ⟨fun _ => oA_13043 hK b4.1 b4.2, fun _ => oA_13044 hK b4.1 b4.2, ?_⟩
  intro w10 e10
  have ew : w10 = (if what = 0 then (((Ls.getD (m_base Ls c.2.2.1) mLoss0).2.2.2.2.2).getD k mItem0).2.1 else (((Ls.getD (m_base Ls c.2.2.1) mLoss0).2.2.2.2.2).getD k mItem0).2.2) := by
    rw [e10, getD_of mItem0 (l := (Ls.getD (m_base Ls c.2.2.1) mLoss0).2.2.2.2.2) hx]
  unfold m_amt at K
  rw [← ew] at K
  rw [e2, i40']
  rintro v12 rfl
  have loop : ∀ (j q : Nat) (v : Int64) (fr : Int32) (x8 : Option Value) (x3 : Int32), q + j = c.2.2.2.2.2.length → F (m_corr day at' (Int32.ofNat k) what fr v (c.2.2.2.2.2.drop q)) σ → c_Ro_amount_47 nl Ln xs (d + 2) o (Int32.ofNat k) what x3 v fr (Int32.ofNat (40 * i + q)) x8 σ F := by
    intro j
    induction j with
    | zero =>
      intro q v fr x8 x3 hq K
      refine w_Ro_amount_47 ⟨is_mk hK.2.1, by rw [e2]; exact oA_13051 hK b.1 b.2, ?_, ?_⟩
      · rw [e2, oG_13051 hK, n32c (by omega), vn, i40, n32lt (by omega) (by omega)]
        intro h; omega
      · intro _
        rw [List.drop_eq_nil_of_le (by omega), m_corr] at K
        exact K
    | succ j ih =>
      intro q v fr x8 x3 hq K
      obtain ⟨f, hg⟩ := get_ex (show q < c.2.2.2.2.2.length by omega)
      have bk : 0 ≤ (Int32.ofNat (40 * i + q)).toInt ∧ (Int32.ofNat (40 * i + q)).toInt < 4000 := by rw [n32 (by omega)]; omega
      have nk : (Int32.ofNat (40 * i + q)).toNatClampNeg = 40 * i + q := n32c (by omega)
      obtain ⟨f1, f2, f3, f4, f5, f6, f7, f8⟩ := fac q _ hg
      rw [drop_get hg, m_corr] at K
      have last : ∀ (y0 : Int32) (x8 : Option Value), y0 = b2i (decide (f.1 = 16) && (m_counts f day at' && (decide (f.2.2.2.1 = Int32.ofNat k) && decide (f.2.2.2.2.1 = what)))) → c_Ro_amount_125 nl Ln xs (d + 2) o (Int32.ofNat k) what x3 v fr (Int32.ofNat (40 * i + q)) x8 y0 σ F := by
        intro y0 x8 ey
        refine w_Ro_amount_125 ?_
        rw [oG_13057 hK, oG_13058 hK, nk, f6, f7, e4]
        refine ⟨fun _ => is_mk hK.2.1, fun _ => oA_13057 hK bk.1 bk.2, fun _ => is_mk hK.2.1, fun _ _ => is_mk hK.2.1, fun _ _ => oA_13057 hK bk.1 bk.2, fun _ _ _ => is_mk hK.2.1, fun _ _ _ => oA_13057 hK bk.1 bk.2, fun _ _ _ => is_mk hK.2.1, fun _ _ _ => oA_13058 hK bk.1 bk.2, ?_⟩
        intro w14 e14 w15 e15
        rw [n32s]
        refine ih (q + 1) w14 w15 _ _ (by omega) ?_
        cases hb : (decide (f.1 = 16) && (m_counts f day at' && (decide (f.2.2.2.1 = Int32.ofNat k) && decide (f.2.2.2.2.1 = what)))) with
        | false =>
          rw [hb] at ey
          rw [ey] at e14 e15
          rw [if_pos (show b2i false = 0 from rfl)] at e14 e15
          have hne : ¬ (decide (f.1 = 16) && (m_counts f day at' && (decide (f.2.2.2.1 = Int32.ofNat k) && (decide (f.2.2.2.2.1 = what) && (decide (¬ day < f.2.2.2.2.2.1) && decide (¬ f.2.2.2.2.2.1 < fr)))))) = true := by
            intro h
            simp only [Bool.and_eq_true] at h
            simp only [h.1, h.2.1, h.2.2.1, h.2.2.2.1, Bool.and_self] at hb
            cases hb
          rw [if_neg hne] at K
          rw [e14, e15]
          exact K
        | true =>
          rw [hb] at ey
          rw [ey] at e14 e15
          rw [if_neg (by decide)] at e14 e15
          simp only [Bool.and_eq_true] at hb
          simp only [hb.1, hb.2.1, hb.2.2.1, hb.2.2.2, Bool.true_and] at K
          by_cases h1 : day < f.2.2.2.2.2.1
          · rw [if_pos h1] at e14 e15
            rw [if_neg (by simp [h1])] at K
            rw [e14, e15]
            exact K
          · rw [if_neg h1] at e14 e15
            by_cases h2 : f.2.2.2.2.2.1 < fr
            · rw [if_pos h2] at e14 e15
              rw [if_neg (by simp [h2])] at K
              rw [e14, e15]
              exact K
            · rw [if_neg h2] at e14 e15
              rw [if_pos (by simp [h1, h2])] at K
              rw [e14, e15]
              exact K
      refine w_Ro_amount_47 ⟨is_mk hK.2.1, by rw [e2]; exact oA_13051 hK b.1 b.2, ?_, ?_⟩
      · intro _
        rw [oG_13052 hK, nk, f1, e4, e5]
        refine ⟨oA_13052 hK bk.1 bk.2, fun h16 => r_counts hK hC hi hg (by omega) (fun _ => ?_), fun h16 => w_Ro_amount_124 (last 0 x8 ?_)⟩
        · rw [oG_13055 hK, oG_13056 hK, f4, f5]
          refine ⟨fun _ => oA_13055 hK bk.1 bk.2, fun _ _ => oA_13056 hK bk.1 bk.2, last _ x8 ?_⟩
          rw [h16]
          by_cases h1 : m_counts f day at' = true <;> by_cases h2 : f.2.2.2.1 = Int32.ofNat k <;> by_cases h3 : f.2.2.2.2.1 = what <;> simp [h1, h2, h3, b2i]
        · simp [h16, b2i]
      · rw [e2, oG_13051 hK, n32c (by omega), vn, i40, n32lt (by omega) (by omega)]
        intro h; omega
  exact loop c.2.2.2.2.2.length 0 w10 (-1) none _ (by omega) K
theorem r_items {F : Int32 → am_S → Prop} (w : WfD P T Ls Cs) (E : Ev σ o P T Ls Cs i c day at' lk rows tr) (K : F (Int32.ofNat (m_items Ls (m_base Ls c.2.2.1)).length) σ) : k_Ro_items nl Ln xs (d + 2) o σ F := by
  obtain ⟨D, hi, e2, e3, e4, e5, e6⟩ := E
  have hK := D.k
  have hc := w.c hi
  have hl := hc.2.1
  have h200 := w.l200
  have hb := root_lt w.l 4 c.2.2.1 hl
  have hb2 : m_base Ls c.2.2.1 < Ls.length := by unfold m_base; omega
  have hgb := getD_some mLoss0 hb2
  have v : am_aI σ (o + 31) (m_base Ls c.2.2.1) = Int32.ofNat (m_items Ls (m_base Ls c.2.2.1)).length := D.los.2.2.2.2.2.1 _ _ hgb
  refine w_Ro_items ⟨is_mk hK.2.1, ?_⟩
  rw [e3]
  refine r_root hK D.los w.l h200 hl (fun _ => ?_)
  rw [oG_13040 hK, n32c (by omega), v]
  exact ⟨oA_13040 hK (by rw [n32 (by omega)]; omega) (by rw [n32 (by omega)]; omega), K⟩
theorem r_all {what : Int32} {F : Int64 → am_S → Prop} (w : WfD P T Ls Cs) (E : Ev σ o P T Ls Cs i c day at' lk rows tr) (hwh : what = 0 ∨ what = 1) (K : F (m_all Ls c day at' what) σ) : k_Ro_all nl Ln xs (d + 3) o what σ F := by
  have h6 : (m_items Ls (m_base Ls c.2.2.1)).length ≤ 6 := by
    have hc := w.c E.2.1
    have hb := root_lt w.l 4 c.2.2.1 hc.2.1
    have hl := hc.2.1
    have hb2 : m_base Ls c.2.2.1 < Ls.length := by unfold m_base; omega
    exact (w.l _ _ (getD_some mLoss0 hb2)).2.2.2
  have loop : ∀ (j k : Nat), k + j = (m_items Ls (m_base Ls c.2.2.1)).length → c_Ro_all_5 nl Ln xs (d + 3) o what (m_allOf (fun q => m_amt Ls c day at' q what) k) (Int32.ofNat k) σ F := by
    intro j
    induction j with
    | zero =>
      intro k hk
      refine w_Ro_all_5 ⟨is_mk E.1.k.2.1, r_items w E (fun _ => ⟨fun q => ?_, fun _ => ?_⟩)⟩
      · rw [n32lt (by omega) (by omega)] at q; omega
      · have : k = (m_items Ls (m_base Ls c.2.2.1)).length := by omega
        rw [this]
        exact K
    | succ j ih =>
      intro k hk
      refine w_Ro_all_5 ⟨is_mk E.1.k.2.1, r_items w E (fun _ => ⟨fun _ => ?_, fun q => ?_⟩)⟩
      · refine r_amount w E (by omega) hwh (fun _ => ?_)
        rintro v7 rfl
        rw [n32s]
        exact ih (k + 1) (by omega)
      · rw [n32lt (by omega) (by omega)] at q; omega
  exact w_Ro_all (loop (m_items Ls (m_base Ls c.2.2.1)).length 0 (by omega))
theorem ssub (x y : Int64) : x - (x - y) = y := by grind
theorem r_worthOf {n : Int64} (w : WfD P T Ls Cs) : ∀ (f l : Nat) (σ : am_S) (tr : List Int32) (F : Int64 → am_S → Prop), l < Ls.length → m_parts5 Ls (f + 1) l ≤ f → m_root Ls f l = m_base Ls c.2.2.1 → Ev σ o P T Ls Cs i c day at' lk rows tr → (∀ σ', Ev σ' o P T Ls Cs i c day at' lk rows (tr ++ (m_worth Ls (m_amt Ls c day at') n (f + 1) l).2) → Rc o (tF lk) [] (tM lk) σ σ' → F (m_worth Ls (m_amt Ls c day at') n (f + 1) l).1 σ') → k_Ro_worthOf nl Ln xs (d + f + 3) o (Int32.ofNat l) n σ F := by
  intro f
  have h200 := w.l200
  have base : ∀ (l : Nat) (σ : am_S) (tr : List Int32) (F : Int64 → am_S → Prop) (d : Nat) (kind : Int32), l < Ls.length → kind = (Ls.getD l mLoss0).1 → l = m_base Ls c.2.2.1 → Ev σ o P T Ls Cs i c day at' lk rows tr → (∀ σ', Ev σ' o P T Ls Cs i c day at' lk rows (tr ++ [if kind = 4 then 94 else 104]) → Rc o (tF lk) [] (tM lk) σ σ' → F (if kind = 2 then m_worthN (m_amt Ls c day at') (decide (kind = 4)) n (m_items Ls l).length / 100 * 100 else m_worthN (m_amt Ls c day at') (decide (kind = 4)) n (m_items Ls l).length) σ') → c_Ro_worthOf_63 nl Ln xs (d + 3) o (Int32.ofNat l) n kind σ F := by
    intro l σ tr F d kind hl hkd hlb E K
    have hg := getD_some mLoss0 hl
    have h6 : (m_items Ls l).length ≤ 6 := (w.l l _ hg).2.2.2
    have b : 0 ≤ (Int32.ofNat l).toInt ∧ (Int32.ofNat l).toInt < 200 := by rw [n32 (by omega)]; omega
    refine w_Ro_worthOf_63 ⟨is_mk E.1.k.2.1, fun w4 e4 => w_Ro_worthOf_80 ⟨E.is1.1, ?_⟩⟩
    rw [E.is1.2]
    refine r_traced E (fun s' E' hr _ => ?_)
    rw [← e4] at K
    have K2 := K s' E' hr
    have v : am_aI s' (o + 31) l = Int32.ofNat (m_items Ls l).length := E'.1.los.2.2.2.2.2.1 l _ hg
    have loop : ∀ (j k : Nat) (x8 x9 x10 x11 x12 x13 : Option Value), k + j = (m_items Ls l).length → c_Ro_worthOf_89 nl Ln xs (d + 3) o (Int32.ofNat l) n kind (m_worthN (m_amt Ls c day at') (decide (kind = 4)) n k) (Int32.ofNat k) x8 x9 x10 x11 x12 x13 s' F := by
      intro j
      induction j with
      | zero =>
        intro k x8 x9 x10 x11 x12 x13 hk
        have hk' : k = (m_items Ls l).length := by omega
        refine w_Ro_worthOf_89 ?_
        rw [oG_13040 E'.1.k, n32c (by omega), v, n32lt (by omega) (by omega)]
        refine ⟨is_mk E'.1.k.2.1, oA_13040 E'.1.k b.1 b.2, fun q => by omega, fun _ w11 e11 => ?_⟩
        rw [e11, ssub, hk']
        exact K2
      | succ j ih =>
        intro k x8 x9 x10 x11 x12 x13 hk
        refine w_Ro_worthOf_89 ?_
        rw [oG_13040 E'.1.k, n32c (by omega), v, n32lt (by omega) (by omega)]
        have hkb : k < (m_items Ls (m_base Ls c.2.2.1)).length := by rw [← hlb]; omega
        refine ⟨is_mk E'.1.k.2.1, oA_13040 E'.1.k b.1 b.2, fun _ => r_amount w E' hkb (Or.inl rfl) (fun _ => ⟨fun h4 => w_Ro_worthOf_127 (fun w3 e3 => w_Ro_worthOf_144 (fun w5 e5 v5 e6 => ?_)), fun h4 => r_amount w E' hkb (Or.inr rfl) (fun _ => w_Ro_worthOf_127 (fun w3 e3 => w_Ro_worthOf_144 (fun w5 e5 v5 e6 => ?_)))⟩), fun q => by omega⟩
        · rw [n32s]
          have e : v5 = m_worthN (m_amt Ls c day at') (decide (kind = 4)) n (k + 1) := by
            rw [e6, e5, e3, m_worthN]
            simp only [h4, m_least, decide_true, if_true]
          rw [e]
          exact ih (k + 1) _ _ _ _ _ _ (by omega)
        · rw [n32s]
          have e : v5 = m_worthN (m_amt Ls c day at') (decide (kind = 4)) n (k + 1) := by
            rw [e6, e5, e3, m_worthN, decide_eq_false h4]
            rfl
          rw [e]
          exact ih (k + 1) _ _ _ _ _ _ (by omega)
    exact loop (m_items Ls l).length 0 _ _ _ _ _ _ (by omega)
  induction f with
  | zero =>
    intro l σ tr F hl h hrt E K
    have hg := getD_some mLoss0 hl
    have b : 0 ≤ (Int32.ofNat l).toInt ∧ (Int32.ofNat l).toInt < 200 := by rw [n32 (by omega)]; omega
    have v : am_aI σ (o + 27) l = (Ls.getD l mLoss0).1 := E.1.los.2.1 l _ hg
    have hn' : (Ls.getD l mLoss0).2.2.1 = none := root_end 0 l h
    have hrt' : l = m_base Ls c.2.2.1 := hrt
    have em : m_worth Ls (m_amt Ls c day at') n 1 l = if (Ls.getD l mLoss0).1 = 2 then (m_worthN (m_amt Ls c day at') false n (m_items Ls l).length / 100 * 100, [114, 104]) else if (Ls.getD l mLoss0).1 = 4 then (m_worthN (m_amt Ls c day at') true n (m_items Ls l).length, [94]) else (m_worthN (m_amt Ls c day at') false n (m_items Ls l).length, [104]) := by rw [m_worth]; rw [hn']
    rw [em] at K
    refine w_Ro_worthOf ?_
    rw [oG_13036 E.1.k, n32c (by omega), v]
    refine ⟨is_mk E.1.k.2.1, oA_13036 E.1.k b.1 b.2, fun v3 e3 => ⟨fun q => absurd hn' ((w.l l _ hg).1.mp (by rw [← e3]; exact q)), fun _ => ⟨fun h2 => ⟨E.is1.1, ?_⟩, fun h2 => ?_⟩⟩⟩
    · rw [E.is1.2]
      refine r_traced E (fun s' E' hr _ => ?_)
      rw [e3] at h2
      rw [if_pos h2] at K
      refine base l s' _ F _ v3 hl e3 hrt' E' (fun s2 E2 hr2 => ?_)
      rw [e3, h2] at E2 ⊢
      have := K s2 (by rw [List.append_assoc] at E2; exact E2) (hr.trans hr2)
      exact this
    · rw [e3] at h2
      rw [if_neg h2] at K
      refine base l σ _ F _ v3 hl e3 hrt' E (fun s2 E2 hr2 => ?_)
      rw [e3] at E2 ⊢
      rw [if_neg h2]
      by_cases h4 : (Ls.getD l mLoss0).1 = 4
      · rw [if_pos h4] at K E2
        rw [decide_eq_true h4]
        exact K s2 E2 hr2
      · rw [if_neg h4] at K E2
        rw [decide_eq_false h4]
        exact K s2 E2 hr2
  | succ f ih =>
    intro l σ tr F hl h hrt E K
    have hg := getD_some mLoss0 hl
    cases hq : (Ls.getD l mLoss0).2.2.1 with
    | none =>
      have e1 : m_worth Ls (m_amt Ls c day at') n (f + 1 + 1) l = m_worth Ls (m_amt Ls c day at') n (f + 1) l := by
        rw [m_worth.eq_def, m_worth.eq_def Ls _ n (f + 1)]
        simp only [hq]
      rw [e1] at K
      have h0 : m_parts5 Ls (f + 1) l ≤ f := by rw [m_parts5.eq_def]; simp only [hq]; omega
      have hr0 : m_root Ls f l = m_base Ls c.2.2.1 := by
        rw [← hrt]
        cases f with
        | zero => rw [m_root.eq_def Ls (0 + 1)]; simp only [hq]; rfl
        | succ f => rw [m_root.eq_def, m_root.eq_def Ls (f + 1 + 1)]; simp only [hq]
      exact (ih l σ tr F hl h0 hr0 E K).dn (by omega)
    | some u =>
      have b : 0 ≤ (Int32.ofNat l).toInt ∧ (Int32.ofNat l).toInt < 200 := by rw [n32 (by omega)]; omega
      have v : am_aI σ (o + 27) l = (Ls.getD l mLoss0).1 := E.1.los.2.1 l _ hg
      have hu := (w.l l _ hg).2.1 u hq
      have h5 : m_parts5 Ls (f + 1 + 1) l = m_parts5 Ls (f + 1) u + 1 := by rw [m_parts5.eq_def]; simp only [hq]
      have hrt2 : m_root Ls f u = m_base Ls c.2.2.1 := by rw [← hrt, m_root.eq_def Ls (f + 1)]; simp only [hq]
      have em : m_worth Ls (m_amt Ls c day at') n (f + 1 + 1) l = m_tr 144 ((m_worth Ls (m_amt Ls c day at') n (f + 1) u).1 * (Ls.getD l mLoss0).2.2.2.1.toInt64 / 100, (m_worth Ls (m_amt Ls c day at') n (f + 1) u).2) := by rw [m_worth.eq_def]; simp only [hq]
      rw [em] at K
      have v5 : (Ls.getD l mLoss0).1 = 5 := (w.l l _ hg).1.mpr (by rw [hq]; simp)
      refine w_Ro_worthOf ?_
      rw [oG_13036 E.1.k, n32c (by omega), v]
      refine ⟨is_mk E.1.k.2.1, oA_13036 E.1.k b.1 b.2, fun v3 e3 => ⟨fun _ => ⟨E.is1.1, ?_⟩, fun q => absurd (by rw [e3]; exact v5) q⟩⟩
      rw [E.is1.2]
      refine r_traced E (fun s' E' hr _ => ?_)
      have v2 : am_aI s' (o + 29) l = ixO (Ls.getD l mLoss0).2.2.1 := E'.1.los.2.2.2.1 l _ hg
      rw [hq] at v2
      rw [oG_13038 E'.1.k, v2]
      refine ⟨oA_13038 E'.1.k b.1 b.2, ?_⟩
      refine ih u s' _ _ (by omega) (by omega) hrt2 E' (fun s2 E2 hr2 _ => ?_)
      have v6 : am_aI s2 (o + 30) l = (Ls.getD l mLoss0).2.2.2.1 := E2.1.los.2.2.2.2.1 l _ hg
      rw [oG_13039 E2.1.k, v6]
      refine ⟨oA_13039 E2.1.k b.1 b.2, K s2 ?_ (hr.trans hr2)⟩
      rw [List.append_assoc] at E2
      exact E2
end
