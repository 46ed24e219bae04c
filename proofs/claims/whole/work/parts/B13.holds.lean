/-! THE CLASS: losses, sums, conditions -/
section
variable {nl : Bool} {Ln : Nat} {xs : Nat → Int32} {d : Nat} {w : ow_T} {b : Nat} {P : List mPol} {T : List mTell} {Ls : List mLoss} {Cs : List mCase} {σ : am_S}
theorem ls_base {l c : Nat} {F : Option Nat → am_S → Prop} (h : BkD σ w b P T Ls Cs) (wl : WfLL Ls) (hl : l < Ls.length) (hc : am_aR σ (bA σ b 6005) l = some c) (K : ∀ c', m_base Ls l < Ls.length → am_aR σ (bA σ b 6005) (m_base Ls l) = some c' → F (some c') σ) : k_Ls_base nl Ln xs (d + 1) c σ F := by
  have loop : ∀ (m s l' c' : Nat), s + m = 4 → l' < Ls.length → am_aR σ (bA σ b 6005) l' = some c' → m_root Ls m l' = m_base Ls l → c_Ls_base_4 nl Ln xs (d + 1) c (some c') (Int32.ofNat s) σ F := by
    intro m
    induction m with
    | zero =>
      intro s l' c' hs hl' hc' hr
      have hr : l' = m_base Ls l := hr
      refine w_Ls_base_4 ⟨fun q => absurd q (by rw [show s = 4 by omega]; decide), fun _ => K c' (by rw [← hr]; exact hl') (by rw [← hr]; exact hc')⟩
    | succ m ih =>
      intro s l' c' hs hl' hc' hr
      have hg := getD_some mLoss0 hl'
      obtain ⟨c2, c1, c3, c4, c5⟩ := h.loss hg
      have e : c2 = c' := Option.some.inj (c1.symm.trans hc')
      subst e
      rw [m_root] at hr
      refine w_Ls_base_4 ⟨fun _ => ⟨is_mk c3.2.1, ?_⟩, fun q => absurd (show Int32.ofNat s < Int32.ofNat 4 by rw [n32lt (by omega) (by omega)]; omega) q⟩
      rw [Option.getD_some]
      cases hw : (Ls.getD l' mLoss0).2.2.1 with
      | none =>
        rw [hw] at hr
        have hr : l' = m_base Ls l := hr
        exact ⟨fun _ => K c2 (by rw [← hr]; exact hl') (by rw [← hr]; exact hc'), fun q => absurd (c4 hw) q⟩
      | some u =>
        rw [hw] at hr
        have hu := (wl.2.1 l' _ hg).2.1 u hw
        obtain ⟨uc, u1, -⟩ := h.loss (getD_some mLoss0 (show u < Ls.length by omega))
        have e2 := c5 u hw
        rw [u1] at e2
        refine ⟨fun q => absurd (e2.symm.trans q) (by simp), fun _ => ?_⟩
        rintro v4 rfl
        rw [e2, n32s]
        exact ih (s + 1) u uc (by omega) (by omega) u1 hr
  exact w_Ls_base (loop 4 0 l c (by omega) hl hc rfl)
theorem ls_parts {l c : Nat} {F : Int32 → am_S → Prop} (h : BkD σ w b P T Ls Cs) (wl : WfLL Ls) (hl : l < Ls.length) (hc : am_aR σ (bA σ b 6005) l = some c) (K : F (Int32.ofNat (m_parts5 Ls 4 l)) σ) : k_Ls_partsToBase nl Ln xs (d + 1) c σ F := by
  have loop : ∀ (m s n l' c' : Nat), s + m = 4 → l' < Ls.length → am_aR σ (bA σ b 6005) l' = some c' → m_parts5 Ls m l' + n = m_parts5 Ls 4 l → c_Ls_partsToBase_6 nl Ln xs (d + 1) c (Int32.ofNat n) (some c') (Int32.ofNat s) σ F := by
    intro m
    induction m with
    | zero =>
      intro s n l' c' hs hl' hc' hr
      rw [m_parts5, Nat.zero_add] at hr
      rw [← hr] at K
      exact w_Ls_partsToBase_6 ⟨fun q => absurd q (by rw [show s = 4 by omega]; decide), fun _ => K⟩
    | succ m ih =>
      intro s n l' c' hs hl' hc' hr
      have hg := getD_some mLoss0 hl'
      obtain ⟨c2, c1, c3, c4, c5⟩ := h.loss hg
      have e : c2 = c' := Option.some.inj (c1.symm.trans hc')
      subst e
      rw [m_parts5] at hr
      refine w_Ls_partsToBase_6 ⟨fun _ => ⟨is_mk c3.2.1, ?_⟩, fun q => absurd (show Int32.ofNat s < Int32.ofNat 4 by rw [n32lt (by omega) (by omega)]; omega) q⟩
      rw [Option.getD_some]
      cases hw : (Ls.getD l' mLoss0).2.2.1 with
      | none =>
        rw [hw] at hr
        simp only [Nat.zero_add] at hr
        rw [← hr] at K
        exact ⟨fun _ => K, fun q => absurd (c4 hw) q⟩
      | some u =>
        rw [hw] at hr
        simp only [] at hr
        have hu := (wl.2.1 l' _ hg).2.1 u hw
        obtain ⟨uc, u1, -⟩ := h.loss (getD_some mLoss0 (show u < Ls.length by omega))
        have e2 := c5 u hw
        rw [u1] at e2
        refine ⟨fun q => absurd (e2.symm.trans q) (by simp), fun _ => ?_⟩
        rintro v4 rfl
        rw [e2, n32s, n32s]
        exact ih (s + 1) (n + 1) u uc (by omega) (by omega) u1 (by omega)
  exact w_Ls_partsToBase (loop 4 0 0 l c (by omega) hl hc rfl)
theorem wk_hasSort {l c : Nat} {sort : Int32} {F : Bool → am_S → Prop} (h : BkD σ w b P T Ls Cs) (wl : WfLL Ls) (hl : l < Ls.length) (hc : am_aR σ (bA σ b 6005) l = some c) (K : F (m_hasSort Ls l sort) σ) : k_Wk_hasSort nl Ln xs (d + 1) (some c) sort σ F := by
  have hg := getD_some mLoss0 hl
  obtain ⟨c2, c1, c3, -, -⟩ := h.loss hg
  have e : c2 = c := Option.some.inj (c1.symm.trans hc)
  subst e
  obtain ⟨s, z1, z2, z3, z4⟩ := c3.2.2.2.2.2.2.2.2.2.1
  have hn6 := (wl.2.1 l _ hg).2.2.2
  unfold m_hasSort m_items at K
  have hlen := c3.2.2.2.2.2.2.2.1
  generalize (Ls.getD l mLoss0).2.2.2.2.2 = its at K z4 hn6 hlen
  have loop : ∀ (m n : Nat), n + m = its.length → F ((its.drop n).any (fun i => decide (i.1 = sort))) σ → c_Wk_hasSort_2 nl Ln xs (d + 1) (some c2) sort (Int32.ofNat n) σ F := by
    intro m
    induction m with
    | zero =>
      intro n hn K
      rw [List.drop_eq_nil_of_le (by omega)] at K
      refine w_Wk_hasSort_2 ⟨is_mk c3.2.1, ?_⟩
      rw [Option.getD_some, hlen]
      refine ⟨fun q => ?_, fun _ => K⟩
      rw [n32lt (by omega) (by omega)] at q
      omega
    | succ m ih =>
      intro n hn K
      obtain ⟨it, hit⟩ := get_ex (show n < its.length by omega)
      rw [drop_get hit, List.any_cons] at K
      refine w_Wk_hasSort_2 ⟨is_mk c3.2.1, ?_⟩
      rw [Option.getD_some, hlen, z1, Option.getD_some, n32c (by omega), z4 _ _ hit]
      refine ⟨fun _ => ⟨ar_mk z3 (by rw [n32 (by omega)]; omega) (by rw [n32 (by omega)]; omega), fun g => ?_, fun g => ?_⟩, fun q => absurd (by rw [n32lt (by omega) (by omega)]; omega) q⟩
      · rw [decide_eq_true g, Bool.true_or] at K
        exact K
      · rw [decide_eq_false g, Bool.false_or] at K
        rw [n32s]
        exact ih (n + 1) (by omega) K
  exact w_Wk_hasSort (loop its.length 0 (by omega) K)
end
section
variable {nl : Bool} {Ln : Nat} {xs : Nat → Int32} {d : Nat} {σ : am_S} {wk ab : Nat} {amt : Nat → Int32 → Int64}
theorem wk_sumOfMoney {n what : Nat} {F : Int64 → am_S → Prop} (kk : am_kd σ wk = (3, 0)) (hn : n ≤ 6) (hw : what = 0 ∨ what = 1) (h : MnR σ wk ab amt n) (K : F (m_allOf (fun i => amt i (Int32.ofNat what)) n) σ) : k_Wk_sumOfMoney nl Ln xs (d + 1) wk (Int32.ofNat what) σ F := by
  obtain ⟨a1, a2, a3, a4⟩ := h
  have val : ∀ i, i < 6 → am_aL σ ab (2 * i + what) = if i < n then amt i (Int32.ofNat what) else 0 := by
    intro i hi
    by_cases hin : i < n
    · rw [if_pos hin]
      rcases hw with q | q <;> subst q
      · exact (a3 i hin).1
      · exact (a3 i hin).2
    · rw [if_neg hin]
      rcases hw with q | q <;> subst q
      · exact (a4 i (by omega) hi).1
      · exact (a4 i (by omega) hi).2
  have loop : ∀ (m i : Nat) (acc : Int64), i + m = 6 → (i ≤ n → acc = m_allOf (fun i => amt i (Int32.ofNat what)) i) → (n ≤ i → acc = m_allOf (fun i => amt i (Int32.ofNat what)) n) → c_Wk_sumOfMoney_5 nl Ln xs (d + 1) wk (Int32.ofNat what) acc (Int32.ofNat (2 * i + what)) σ F := by
    intro m
    induction m with
    | zero =>
      intro i acc hi h1 h2
      refine w_Wk_sumOfMoney_5 ⟨is_mk kk, ⟨ab, a1, by rw [a2]⟩, ?_⟩
      rw [a1, Option.getD_some, a2]
      refine ⟨fun q => ?_, fun _ => ?_⟩
      · have q : Int32.ofNat (2 * i + what) < Int32.ofNat 12 := q
        rw [n32lt (by omega) (by omega)] at q
        omega
      · rw [h2 (by omega)]
        exact K
    | succ m ih =>
      intro i acc hi h1 h2
      refine w_Wk_sumOfMoney_5 ⟨is_mk kk, ⟨ab, a1, by rw [a2]⟩, ?_⟩
      rw [a1, Option.getD_some, a2, n32c (by omega), val i (by omega)]
      refine ⟨fun _ => ⟨ar_mk a2 (by rw [n32 (by omega)]; omega) (by rw [n32 (by omega)]; omega), ?_⟩, fun q => absurd (show Int32.ofNat (2 * i + what) < Int32.ofNat 12 by rw [n32lt (by omega) (by omega)]; omega) q⟩
      rintro v5 rfl
      rw [show Int32.ofNat (2 * i + what) + 2 = Int32.ofNat (2 * (i + 1) + what) by rw [show (2 : Int32) = Int32.ofNat 2 from rfl, n32a]; congr 1; omega]
      refine ih (i + 1) _ (by omega) (fun q => ?_) (fun q => ?_)
      · rw [if_pos (by omega), h1 (by omega)]
        rfl
      · by_cases hin : i < n
        · rw [if_pos hin, h1 (by omega), show n = i + 1 by omega]
          rfl
        · rw [if_neg hin, Int64.add_zero]
          exact h2 (by omega)
  have := loop 6 0 0 (by omega) (fun _ => rfl) (fun q => by rw [show n = 0 by omega]; rfl)
  rw [Nat.mul_zero, Nat.zero_add] at this
  exact w_Wk_sumOfMoney this
end
def ndep : mF → Nat
  | .append a b => max (ndep a) (ndep b)
  | .tag _ a => ndep a + 1
  | _ => 0
section
variable {nl : Bool} {Ln : Nat} {xs : Nat → Int32} {d : Nat} {w : ow_T} {wk ab v b : Nat} {P : List mPol} {T : List mTell} {Ls : List mLoss} {Cs : List mCase} {l0 lc : Nat} {rows : List mRow} {fnd : Int32} {ov : Bool} {amt : Nat → Int32 → Int64}
/-- what conditions ask of: amounts, the case -/
def HoE (σ : am_S) (wk ab : Nat) (amt : Nat → Int32 → Int64) (Ls : List mLoss) (l0 : Nat) (notice : Int32) : Prop := MnR σ wk ab amt (m_items Ls (m_base Ls l0)).length ∧ ∃ cc, am_fR σ 2004 wk = some cc ∧ am_kd σ cc = (12, 0) ∧ am_fI σ 11003 cc = notice
abbrev cHld (amt : Nat → Int32 → Int64) (Ls : List mLoss) (l0 : Nat) (notice : Int32) (f : mF) (op : Bool) : mTr Bool := m_holds (m_lis Ls l0) (m_allOf (fun i => amt i 0) (m_items Ls (m_base Ls l0)).length) (Int32.ofNat (m_items Ls (m_base Ls l0)).length) (notice - (Ls.getD l0 mLoss0).2.1) (m_hasSort Ls (m_base Ls l0)) f op
theorem HoE.wc {σ σ1 : am_S} {notice : Int32} (h : HoE σ wk ab amt Ls l0 notice) (hv : WkV wk ab v) (r : AsC wk ab v σ σ1) : HoE σ1 wk ab amt Ls l0 notice := by
  obtain ⟨h1, cc, h2, h3, h4⟩ := h
  exact ⟨h1.wc hv r (by simp) (by decide) (by simp) (by decide), cc, (r.fR (by simp) (by decide)).trans h2, by rw [r.kd]; exact h3, (r.fI (by simp) (by decide)).trans h4⟩
theorem hld_all {notice : Int32} {p : Nat} (wl : WfLL Ls) (h6 : (m_items Ls (m_base Ls l0)).length ≤ 6) : ∀ (f : mF),
    (∀ (r depth : Nat) (σ : am_S) (tr : List Int32) (op : Bool) (F : Bool → am_S → Prop), isP f → NdS σ w (b, 100 + p) f r r → depth + ndep f ≤ 64 → AsE σ w wk ab v b P T Ls Cs l0 lc rows tr fnd ov → HoE σ wk ab amt Ls l0 notice → (∀ σ', AsE σ' w wk ab v b P T Ls Cs l0 lc rows (tr ++ (cHld amt Ls l0 notice f op).2) fnd ov → AsC wk ab v σ σ' → F (cHld amt Ls l0 notice f op).1 σ') → k_Wk_holds nl Ln xs (d + hgt f + 10) wk (some r) (Int32.ofNat depth) σ F) ∧
    (∀ (x z r q depth D : Nat) (σ : am_S) (tr : List Int32) (F : Bool → am_S → Prop), D = d + hgt f + 11 ∨ D > d + hgt f + 11 → q ≤ 1 → NdS σ w (b, 100 + p) f x z → NdK σ w (b, 100 + p) r → am_fI σ 8000 r = Int32.ofNat (12 + q) → depth + 1 + ndep f ≤ 64 → AsE σ w wk ab v b P T Ls Cs l0 lc rows tr fnd ov → HoE σ wk ab amt Ls l0 notice →
      ((cHld amt Ls l0 notice f (decide (q = 0))).1 = decide (q = 0) → ∀ σ', AsE σ' w wk ab v b P T Ls Cs l0 lc rows (tr ++ (cHld amt Ls l0 notice f (decide (q = 0))).2) fnd ov → AsC wk ab v σ σ' → F (decide (q = 0)) σ') →
      ((cHld amt Ls l0 notice f (decide (q = 0))).1 ≠ decide (q = 0) → ∀ σ', AsE σ' w wk ab v b P T Ls Cs l0 lc rows (tr ++ (cHld amt Ls l0 notice f (decide (q = 0))).2) fnd ov → AsC wk ab v σ σ' → c_Wk_holds_65 nl Ln xs D wk (some r) (Int32.ofNat depth) (am_fR σ 8003 z) σ' F) → c_Wk_holds_65 nl Ln xs D wk (some r) (Int32.ofNat depth) (some x) σ F) := by
  -- a piece in its chain
  have piece : ∀ (f : mF), isP f → (∀ (r depth : Nat) (σ : am_S) (tr : List Int32) (op : Bool) (F : Bool → am_S → Prop), isP f → NdS σ w (b, 100 + p) f r r → depth + ndep f ≤ 64 → AsE σ w wk ab v b P T Ls Cs l0 lc rows tr fnd ov → HoE σ wk ab amt Ls l0 notice → (∀ σ', AsE σ' w wk ab v b P T Ls Cs l0 lc rows (tr ++ (cHld amt Ls l0 notice f op).2) fnd ov → AsC wk ab v σ σ' → F (cHld amt Ls l0 notice f op).1 σ') → k_Wk_holds nl Ln xs (d + hgt f + 10) wk (some r) (Int32.ofNat depth) σ F) →
      ∀ (x z r q depth D : Nat) (σ : am_S) (tr : List Int32) (F : Bool → am_S → Prop), D = d + hgt f + 11 ∨ D > d + hgt f + 11 → q ≤ 1 → x = z → NdS σ w (b, 100 + p) f x x → NdK σ w (b, 100 + p) r → am_fI σ 8000 r = Int32.ofNat (12 + q) → depth + 1 + ndep f ≤ 64 → AsE σ w wk ab v b P T Ls Cs l0 lc rows tr fnd ov → HoE σ wk ab amt Ls l0 notice →
      ((cHld amt Ls l0 notice f (decide (q = 0))).1 = decide (q = 0) → ∀ σ', AsE σ' w wk ab v b P T Ls Cs l0 lc rows (tr ++ (cHld amt Ls l0 notice f (decide (q = 0))).2) fnd ov → AsC wk ab v σ σ' → F (decide (q = 0)) σ') →
      ((cHld amt Ls l0 notice f (decide (q = 0))).1 ≠ decide (q = 0) → ∀ σ', AsE σ' w wk ab v b P T Ls Cs l0 lc rows (tr ++ (cHld amt Ls l0 notice f (decide (q = 0))).2) fnd ov → AsC wk ab v σ σ' → c_Wk_holds_65 nl Ln xs D wk (some r) (Int32.ofNat depth) (am_fR σ 8003 z) σ' F) → c_Wk_holds_65 nl Ln xs D wk (some r) (Int32.ofNat depth) (some x) σ F := by
    intro f hp A x z r q depth D σ tr F hD hq hxz hN hr h8 hdep E hH K1 K2
    subst hxz
    obtain ⟨D', rfl⟩ : ∃ D', D = D' + 1 := ⟨D - 1, by omega⟩
    refine w_Wk_holds_65 ⟨fun g => absurd g (by simp), fun _ => ⟨is_mk E.2.2.1, ?_⟩⟩
    rw [n32s]
    have hx := (NdS.own f x x hN).1
    have hdn : d + hgt f + 10 ≤ D' := by omega
    refine am_C.dn (A x (depth + 1) σ tr (decide (q = 0)) _ hp hN hdep E hH (fun s8 E8 r8 _ => ?_)) hdn
    have fr := r8.frB E.1 (by simp) (by decide) E.2.2.2.2.2.2.1 E.bk.1.2.2.1
    have g8 : am_fI s8 8000 r = Int32.ofNat (12 + q) := (fr _ r hr.1).2.fI.trans h8
    have gr := hr.fr (fr (100 + p))
    rw [Option.getD_some, g8]
    have e12 : Int32.ofNat (12 + q) = 12 ↔ q = 0 := by
      have := n32i (a := 12 + q) (b := 12) (by omega) (by decide)
      constructor
      · intro z
        have := this.mp z
        omega
      · intro z
        subst z
        rfl
    refine ⟨is_mk gr.2, fun g => ?_, fun g => ?_⟩
    · have hop : (cHld amt Ls l0 notice f (decide (q = 0))).1 = decide (q = 0) := by
        by_cases q0 : q = 0
        · rw [if_pos (e12.mpr q0)] at g
          rw [decide_eq_true q0] at g ⊢
          cases hb : (cHld amt Ls l0 notice f true).1
          · rw [hb] at g; exact absurd g (by decide)
          · rfl
        · rw [if_neg (fun y => q0 (e12.mp y))] at g
          rw [decide_eq_false q0] at g ⊢
          cases hb : (cHld amt Ls l0 notice f false).1
          · rfl
          · rw [hb] at g; exact absurd g (by decide)
      have ed : decide (Int32.ofNat (12 + q) = 12) = decide (q = 0) := decide_eq_decide.mpr e12
      rw [ed]
      exact K1 hop s8 E8 r8
    · have hop : (cHld amt Ls l0 notice f (decide (q = 0))).1 ≠ decide (q = 0) := by
        intro y
        rw [y] at g
        apply g
        by_cases q0 : q = 0
        · rw [decide_eq_true q0, if_pos rfl, if_pos (e12.mpr q0)]
        · rw [decide_eq_false q0, if_neg (by decide), if_neg (fun y => q0 (e12.mp y))]
      have gk : am_kd s8 x = (9, 0) := by
        have hk : am_kd σ x = (9, 0) := by
          cases f with
          | append _ _ => exact hp.elim
          | tag _ _ => exact hN.2.1.2
          | nest _ a =>
            cases a with
            | nest _ b' =>
              cases b' with
              | nil => exact hN.2.1.2
              | _ => exact hN.elim
            | _ => exact hN.elim
          | _ => exact hN.elim
        rw [r8.kd]
        exact hk
      refine ⟨is_mk gk, ?_⟩
      rintro v21 rfl
      have e3 : am_fR s8 8003 x = am_fR σ 8003 x := (fr _ x hx).2.fR
      rw [Option.getD_some, e3]
      exact K2 hop s8 E8 r8
  intro f
  induction f with
  | append a c iha ihb =>
    refine ⟨fun r depth σ tr op F hp => hp.elim, ?_⟩
    intro x z r q depth D σ tr F hD hq hN hr h8 hdep E hH K1 K2
    obtain ⟨y, h1, h2, hpb, h3⟩ := hN
    simp only [hgt] at hD
    simp only [ndep] at hdep
    have em : cHld amt Ls l0 notice (.append a c) (decide (q = 0)) = if (cHld amt Ls l0 notice a (decide (q = 0))).1 = decide (q = 0) then (decide (q = 0), (cHld amt Ls l0 notice a (decide (q = 0))).2) else ((cHld amt Ls l0 notice c (decide (q = 0))).1, (cHld amt Ls l0 notice a (decide (q = 0))).2 ++ (cHld amt Ls l0 notice c (decide (q = 0))).2) := rfl
    refine iha.2 x y r q depth D σ tr F (by omega) hq h1 hr h8 (by omega) E hH (fun g s1 E1 r1 => ?_) (fun g s1 E1 r1 => ?_)
    · rw [em, if_pos g] at K1
      exact K1 rfl s1 E1 r1
    · rw [em, if_neg g] at K1 K2
      have fr := r1.frB E.1 (by simp) (by decide) E.2.2.2.2.2.2.1 E.bk.1.2.2.1
      rw [h2]
      refine ihb.2 z z r q depth D s1 _ F (by omega) hq (NdS.fr (fr (100 + p)) c z z h3) (hr.fr (fr (100 + p))) ((fr _ r hr.1).2.fI.trans h8) (by omega) E1 (hH.wc E.1 r1) (fun g2 s2 E2 r2 => ?_) (fun g2 s2 E2 r2 => ?_)
      · exact K1 g2 s2 E2.ap (r1.trans r2)
      · have e3 : am_fR s1 8003 z = am_fR σ 8003 z := (fr _ z (NdS.own c z z h3).1).2.fR
        rw [e3]
        exact K2 g2 s2 E2.ap (r1.trans r2)
  | tag q a iha =>
    have A : ∀ (r depth : Nat) (σ : am_S) (tr : List Int32) (op : Bool) (F : Bool → am_S → Prop), isP (.tag q a) → NdS σ w (b, 100 + p) (.tag q a) r r → depth + ndep (.tag q a) ≤ 64 → AsE σ w wk ab v b P T Ls Cs l0 lc rows tr fnd ov → HoE σ wk ab amt Ls l0 notice → (∀ σ', AsE σ' w wk ab v b P T Ls Cs l0 lc rows (tr ++ (cHld amt Ls l0 notice (.tag q a) op).2) fnd ov → AsC wk ab v σ σ' → F (cHld amt Ls l0 notice (.tag q a) op).1 σ') → k_Wk_holds nl Ln xs (d + hgt (.tag q a) + 10) wk (some r) (Int32.ofNat depth) σ F := by
      intro r depth σ tr op F _ hN hdep E hH K
      unfold NdS at hN
      obtain ⟨-, hk, h3⟩ := hN
      simp only [ndep] at hdep
      have nd : ¬ (64 : Int32) < Int32.ofNat depth := fun g => by
        have := (n32lt (a := 64) (by omega) (by omega)).mp g
        omega
      have em : cHld amt Ls l0 notice (.tag q a) op = if q = 2 then (! (cHld amt Ls l0 notice a true).1, (cHld amt Ls l0 notice a true).2) else cHld amt Ls l0 notice a (decide (q = 0)) := rfl
      refine w_Wk_holds ⟨fun g => absurd g (by simp), fun _ => ⟨fun g => absurd g nd, fun _ => ⟨is_mk hk.2, ?_⟩⟩⟩
      rw [Option.getD_some]
      by_cases q2 : q = 2
      · rw [if_pos q2] at h3
        obtain ⟨g1, y, g2, gp, g3, g4⟩ := h3
        rw [em, if_pos q2] at K
        rw [g1, g2]
        refine ⟨fun z => ?_, fun _ => ⟨is_mk E.2.2.1, ?_⟩, fun z => absurd z (by decide), fun z => absurd z (by decide), fun z => absurd z (by decide), fun z => absurd z (by decide), fun z => absurd z (by decide)⟩
        · rcases z with z | z <;> exact absurd z (by decide)
        · rw [n32s]
          have hdn : d + hgt a + 10 ≤ d + hgt (.tag q a) + 9 := by simp only [hgt]; omega
          refine am_C.dn (iha.1 y (depth + 1) σ tr true _ gp g3 (by omega) E hH (fun s7 E7 r7 _ => ?_)) hdn
          have := K s7 E7 r7
          have e : decide (¬ ((cHld amt Ls l0 notice a true).1 = true)) = ! (cHld amt Ls l0 notice a true).1 := by cases (cHld amt Ls l0 notice a true).1 <;> decide
          rw [e]
          exact this
      · rw [if_neg q2] at h3
        obtain ⟨g0, g1, y1, y2, g2, g3, g4⟩ := h3
        rw [em, if_neg q2] at K
        have go : c_Wk_holds_65 nl Ln xs (d + hgt (.tag q a) + 10) wk (some r) (Int32.ofNat depth) (some y1) σ F := by
          refine iha.2 y1 y2 r q depth _ σ tr F (by simp only [hgt]; omega) g0 g3 hk g1 (by omega) E hH (fun g s1 E1 r1 => ?_) (fun g s1 E1 r1 => ?_)
          · have := K s1 E1 r1
            rw [g] at this
            exact this
          · rw [g4]
            have fr := r1.frB E.1 (by simp) (by decide) E.2.2.2.2.2.2.1 E.bk.1.2.2.1
            refine w_Wk_holds_65 ⟨fun _ => ⟨is_mk (hk.fr (fr (100 + p))).2, ?_⟩, fun z => absurd rfl z⟩
            rw [Option.getD_some, (fr _ r hk.1).2.fI, g1]
            have := K s1 E1 r1
            have e13 : decide (Int32.ofNat (12 + q) = 13) = (cHld amt Ls l0 notice a (decide (q = 0))).1 := by
              have q01 : q = 0 ∨ q = 1 := by omega
              rcases q01 with h | h
              · subst h
                cases hb : (cHld amt Ls l0 notice a (decide (0 = 0))).1
                · decide
                · exact absurd hb g
              · subst h
                cases hb : (cHld amt Ls l0 notice a (decide (1 = 0))).1
                · exact absurd hb g
                · decide
            rw [e13]
            exact this
        rw [g1, g2]
        have q01 : q = 0 ∨ q = 1 := by omega
        refine ⟨fun _ => ?_, fun z => ?_, fun z => ?_, fun z => ?_, fun z => ?_, fun z => ?_, fun z => ?_⟩
        · rintro v4 rfl
          exact go
        all_goals (rcases q01 with h | h <;> subst h <;> exact absurd z (by decide))
    exact ⟨A, fun x z r q' depth D σ tr F hD hq hN hr h8 hdep E hH K1 K2 => piece (.tag q a) trivial A x z r q' depth D σ tr F hD hq hN.1 (by obtain ⟨h1, h2⟩ := hN; subst h1; exact ⟨rfl, h2⟩) hr h8 hdep E hH K1 K2⟩
  | nest c a _ =>
    cases a with
    | nest n b' =>
      cases b' with
      | nil =>
        have A : ∀ (r depth : Nat) (σ : am_S) (tr : List Int32) (op : Bool) (F : Bool → am_S → Prop), isP (.nest c (.nest n .nil)) → NdS σ w (b, 100 + p) (.nest c (.nest n .nil)) r r → depth + ndep (.nest c (.nest n .nil)) ≤ 64 → AsE σ w wk ab v b P T Ls Cs l0 lc rows tr fnd ov → HoE σ wk ab amt Ls l0 notice → (∀ σ', AsE σ' w wk ab v b P T Ls Cs l0 lc rows (tr ++ (cHld amt Ls l0 notice (.nest c (.nest n .nil)) op).2) fnd ov → AsC wk ab v σ σ' → F (cHld amt Ls l0 notice (.nest c (.nest n .nil)) op).1 σ') → k_Wk_holds nl Ln xs (d + hgt (.nest c (.nest n .nil)) + 10) wk (some r) (Int32.ofNat depth) σ F := by
          intro r depth σ tr op F _ hN hdep E hH K
          obtain ⟨-, hk, h8, h81, h82, hc3, hc7, hn0, hn1, h7⟩ := hN
          have nd : ¬ (64 : Int32) < Int32.ofNat depth := fun g => by
            have := (n32lt (a := 64) (by omega) (by omega)).mp g
            omega
          have em : cHld amt Ls l0 notice (.nest c (.nest n .nil)) op = if c = 3 then (decide (n < (m_allOf (fun i => amt i 0) (m_items Ls (m_base Ls l0)).length).toInt), []) else if c = 4 then (decide (n < (Int32.ofNat (m_items Ls (m_base Ls l0)).length).toInt), []) else if c = 5 then (decide (n < (notice - (Ls.getD l0 mLoss0).2.1).toInt), []) else if c = 6 then (m_hasSort Ls (m_base Ls l0) (Int32.ofInt n), []) else if n = 5 then (true, []) else m_lis Ls l0 (Int32.ofInt n) := rfl
          have ec := ofInt_to (n := c + 12) (by omega) (by omega)
          have ec' : ∀ q : Nat, q < 100 → (Int32.ofInt (c + 12) = Int32.ofNat q ↔ c + 12 = q) := fun q hq => by rw [i32e, ec, n32 (by omega)]
          obtain ⟨cc, k1, k2, k3⟩ := hH.2
          obtain ⟨lcell, l1, l2, -, -⟩ := E.bk.loss E.hl
          have el : lcell = lc := Option.some.inj (l1.symm.trans E.hc)
          subst el
          have h05 := E.2.2.2.2.2.2.2.1
          have self : ∀ {t : List Int32} {s : am_S}, AsE s w wk ab v b P T Ls Cs l0 lcell rows t fnd ov → AsE s w wk ab v b P T Ls Cs l0 lcell rows (t ++ []) fnd ov := fun h => by rw [List.append_nil]; exact h
          refine w_Wk_holds ⟨fun g => absurd g (by simp), fun _ => ⟨fun g => absurd g nd, fun _ => ⟨is_mk hk.2, ?_⟩⟩⟩
          rw [Option.getD_some, h8, h81, h05, Option.getD_some]
          refine ⟨fun z => ?_, fun z => ?_, fun z => ⟨is_mk E.2.2.1, ?_⟩, fun z => ⟨is_mk E.2.2.1, is_mk l2.2.1, ?_⟩, fun z => ⟨is_mk E.2.2.1, ?_⟩, fun z => ⟨is_mk E.2.2.1, is_mk l2.2.1, ?_⟩, fun z => ?_⟩
          · rcases z with z | z
            · have := (ec' 12 (by decide)).mp z; omega
            · have := (ec' 13 (by decide)).mp z; omega
          · have := (ec' 14 (by decide)).mp z; omega
          · have hc : c = 3 := by have := (ec' 15 (by decide)).mp z; omega
            rw [em, if_pos hc] at K
            rw [if_neg (show ¬ c = 7 by omega)] at h81
            refine (wk_sumOfMoney (d := d + 8) (what := 0) E.2.2.1 h6 (Or.inl rfl) hH.1 (fun _ => ?_))
            rw [h81]
            have e : decide ((Int32.ofInt n).toInt64 < m_allOf (fun i => amt i (Int32.ofNat 0)) (m_items Ls (m_base Ls l0)).length) = decide (n < (m_allOf (fun i => amt i 0) (m_items Ls (m_base Ls l0)).length).toInt) := by
              apply decide_eq_decide.mpr
              rw [i64lt, t64, ofInt_to hn0 hn1]
              exact Iff.rfl
            rw [e]
            exact K σ (self E) Wc.rf
          · have hc : c = 4 := by have := (ec' 16 (by decide)).mp z; omega
            rw [em, if_neg (by omega), if_pos hc] at K
            rw [if_neg (show ¬ c = 7 by omega)] at h81
            refine (ls_base (d := d + 8) E.bk wl E.2.2.2.2.2.2.2.2.2 l1 (fun bc hb1 hb2 _ => ?_))
            obtain ⟨bc2, e1, e2, -, -⟩ := E.bk.loss (getD_some mLoss0 hb1)
            have eb : bc2 = bc := Option.some.inj (e1.symm.trans hb2)
            subst eb
            rw [Option.getD_some, h81, e2.2.2.2.2.2.2.2.1]
            refine ⟨is_mk e2.2.1, ?_⟩
            have e : decide (Int32.ofInt n < Int32.ofNat (Ls.getD (m_base Ls l0) mLoss0).2.2.2.2.2.length) = decide (n < (Int32.ofNat (m_items Ls (m_base Ls l0)).length).toInt) := by
              apply decide_eq_decide.mpr
              rw [i32lt, ofInt_to hn0 hn1]
              exact Iff.rfl
            rw [e]
            exact K σ (self E) Wc.rf
          · have hc : c = 5 := by have := (ec' 17 (by decide)).mp z; omega
            rw [em, if_neg (by omega), if_neg (by omega), if_pos hc] at K
            rw [if_neg (show ¬ c = 7 by omega)] at h81 ⊢
            rw [k1, Option.getD_some, k3, l2.2.2.2.2.2.1]
            refine ⟨is_mk k2, is_mk l2.2.1, ?_⟩
            have e : decide (Int32.ofInt n < notice - (Ls.getD l0 mLoss0).2.1) = decide (n < (notice - (Ls.getD l0 mLoss0).2.1).toInt) := by
              apply decide_eq_decide.mpr
              rw [i32lt, ofInt_to hn0 hn1]
            rw [e]
            exact K σ (self E) Wc.rf
          · have hc : c = 6 := by have := (ec' 18 (by decide)).mp z; omega
            rw [em, if_neg (by omega), if_neg (by omega), if_neg (by omega), if_pos hc] at K
            rw [if_neg (show ¬ c = 7 by omega)] at h81
            refine (ls_base (d := d + 8) E.bk wl E.2.2.2.2.2.2.2.2.2 l1 (fun bc hb1 hb2 _ => ?_))
            rw [h81]
            refine (wk_hasSort (d := d + 8) E.bk wl hb1 hb2 (fun _ => ?_))
            have := K σ (self E) Wc.rf
            have e : decide (m_hasSort Ls (m_base Ls l0) (Int32.ofInt n) = true) = m_hasSort Ls (m_base Ls l0) (Int32.ofInt n) := by cases m_hasSort Ls (m_base Ls l0) (Int32.ofInt n) <;> decide
            rw [e]
            exact this
          · have t12 : (12 : Int32).toInt = 12 := by decide
            have t18 : (18 : Int32).toInt = 18 := by decide
            have hc : c = 7 := by rw [ec] at z; rcases z with z | z <;> omega
            have h5 := h7 hc
            rw [em, if_neg (by omega), if_neg (by omega), if_neg (by omega), if_neg (by omega)] at K
            rw [if_pos hc]
            have en : (Int32.ofInt (n + 20)).toInt = n + 20 := ofInt_to (by omega) (by omega)
            have e25 : Int32.ofInt (n + 20) = 25 ↔ n = 5 := by rw [i32e, en, show (25 : Int32).toInt = 25 by decide]; omega
            refine ⟨fun g => ?_, fun g => ⟨is_mk E.2.2.1, ?_⟩⟩
            · rw [if_pos (e25.mp g)] at K
              exact K σ (self E) Wc.rf
            · rw [if_neg (fun y => g (e25.mpr y))] at K
              have es : Int32.ofInt (n + 20) - 20 = Int32.ofInt n := by
                rw [i32e, i32sub (by rw [en, show (20 : Int32).toInt = 20 by decide]; omega) (by rw [en, show (20 : Int32).toInt = 20 by decide]; omega), en, show (20 : Int32).toInt = 20 by decide, ofInt_to hn0 hn1]
                omega
              rw [es]
              refine (as_lossIs (d := d + 1) (depth := 0) wl (by omega) E (fun s2 E2 r2 _ => ?_))
              have := K s2 E2 r2
              have e : decide ((m_lis Ls l0 (Int32.ofInt n)).1 = true) = (m_lis Ls l0 (Int32.ofInt n)).1 := by cases (m_lis Ls l0 (Int32.ofInt n)).1 <;> decide
              rw [e]
              exact this
        exact ⟨A, fun x z r q' depth D σ tr F hD hq hN hr h8 hdep E hH K1 K2 => piece (.nest c (.nest n .nil)) trivial A x z r q' depth D σ tr F hD hq hN.1 (by obtain ⟨h1, h2⟩ := hN; subst h1; exact ⟨rfl, h2⟩) hr h8 hdep E hH K1 K2⟩
      | _ => exact ⟨fun r depth σ tr op F _ hN => hN.elim, fun x z r q' depth D σ tr F hD hq hN => hN.elim⟩
    | _ => exact ⟨fun r depth σ tr op F _ hN => hN.elim, fun x z r q' depth D σ tr F hD hq hN => hN.elim⟩
  | _ => exact ⟨fun r depth σ tr op F _ hN => hN.elim, fun x z r q' depth D σ tr F hD hq hN => hN.elim⟩
end
