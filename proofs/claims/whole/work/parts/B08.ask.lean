/-! THE CLASS: bodies: whose, what is traced -/
def rsv (act : Nat) : Nat → Nat → Nat
  | 0, a => a
  | m + 1, a => if (((dd_sr.getD 3 []).getD a 0) >>> (Int32.ofNat act &&& 31)) &&& 1 = 0 then rsv act m ((dd_sr.getD 4 []).getD a 0).toInt.toNat else a
theorem par_ok : ∀ a, a < 15 → 0 ≤ ((dd_sr.getD 4 []).getD a 0).toInt ∧ ((dd_sr.getD 4 []).getD a 0).toInt < 15 := by decide +kernel
/-- working: its cells, its view, the book, the loss that is asked of -/
def AsE (σ : am_S) (w : ow_T) (wk ab v b : Nat) (P : List mPol) (T : List mTell) (Ls : List mLoss) (Cs : List mCase) (l0 lc : Nat) (rows : List mRow) (tr : List Int32) (fnd : Int32) (ov : Bool) : Prop := WkV wk ab v ∧ LowK σ ∧ am_kd σ wk = (3, 0) ∧ am_fR σ 2002 wk = some v ∧ VwD σ v rows tr fnd ov ∧ BkD σ w b P T Ls Cs ∧ (∀ c, fixW c → w c = (2, c)) ∧ am_fR σ 2005 wk = some lc ∧ am_aR σ (bA σ b 6005) l0 = some lc ∧ l0 < Ls.length
def AsC (wk ab v : Nat) (σ σ' : am_S) : Prop := Wc wk ab v [] [] [3005] [4] σ σ'
section
variable {nl : Bool} {Ln : Nat} {xs : Nat → Int32} {d : Nat} {σ σ1 : am_S} {w : ow_T} {wk ab v b : Nat} {P : List mPol} {T : List mTell} {Ls : List mLoss} {Cs : List mCase} {l0 lc : Nat} {rows : List mRow} {tr : List Int32} {fnd : Int32} {ov : Bool}
theorem AsE.bk (E : AsE σ w wk ab v b P T Ls Cs l0 lc rows tr fnd ov) : BkD σ w b P T Ls Cs := E.2.2.2.2.2.1
/-- a loss with its cell -/
theorem BkD.loss (h : BkD σ w b P T Ls Cs) {i : Nat} {l : mLoss} (hi : Ls[i]? = some l) : ∃ c, am_aR σ (bA σ b 6005) i = some c ∧ LsR σ w (b, 300 + i) c i l ∧ (l.2.2.1 = none → am_fR σ 10003 c = none) ∧ ∀ u, l.2.2.1 = some u → am_fR σ 10003 c = am_aR σ (bA σ b 6005) u := by
  obtain ⟨c, c1, c2, c3⟩ := h.2.2.2.1 i l hi
  refine ⟨c, c1, c2, fun q => ?_, fun u q => ?_⟩
  · rw [c3, q]
  · rw [c3, q]
theorem as_mark {act owner : Nat} {x2 x6 x8 : Int32} {x3 : Option Nat} {x4 : Int64} {F : Int64 → am_S → Prop} (E : AsE σ w wk ab v b P T Ls Cs l0 lc rows tr fnd ov) (ha : act < 10) (hw : owner < 15)
    (K : ∀ σ', AsE σ' w wk ab v b P T Ls Cs l0 lc rows (tr ++ [Int32.ofNat (10 * owner + act)]) fnd ov → AsC wk ab v σ σ' → c_Wk_ask_100 nl Ln xs (d + 1) wk (Int32.ofNat act) x2 x3 x4 x6 (Int32.ofNat owner) x8 σ' F) : c_Wk_ask_52 nl Ln xs (d + 1) wk (Int32.ofNat act) x2 x3 x4 x6 (Int32.ofNat owner) x8 σ F := by
  obtain ⟨hv, hk, k1, k2, hV, hB, hO, h5, h6, h7⟩ := id E
  obtain ⟨⟨v1, ⟨v2, v3, v4, v5⟩, v6, v7, v8, v9⟩, hrow, ⟨t1, t2⟩, t3, t4⟩ := id hV
  have em : (10 : Int32) * Int32.ofNat owner + Int32.ofNat act = Int32.ofNat (10 * owner + act) := by
    rw [show (10 : Int32) = Int32.ofNat 10 from rfl, ← Int32.ofNat_mul, ← Int32.ofNat_add]
  refine w_Wk_ask_52 ⟨is_mk k1, by rw [k2]; exact is_mk v1, ?_⟩
  rw [k2, Option.getD_some, t1, v5, Option.getD_some, n32c (by omega), em]
  refine ⟨fun q => ?_, fun q => ?_⟩
  · have hq : tr.length < 200 := by
      have : min tr.length 200 < 200 := (n32lt (b := 200) (by omega) (by omega)).mp q
      omega
    have hmin : min tr.length 200 = tr.length := by omega
    rw [hmin] at t1 ⊢
    refine ⟨ar_mk v9 (by rw [n32 (by omega)]; omega) (by rw [n32 (by omega)]; omega), ?_⟩
    intro s5 q5
    have r5 : AsC wk ab v σ s5 := by rw [q5]; exact Wc.vaI (by decide)
    have e2 : am_fR s5 2002 wk = some v := by rw [q5]; exact k2
    have e3 : am_fI s5 3005 v = Int32.ofNat tr.length := by rw [q5]; exact t1
    rw [e2, Option.getD_some, e3, n32s]
    refine ⟨is_mk (by rw [r5.kd]; exact v1), ?_⟩
    intro s9 q9
    have r9 : AsC wk ab v σ s9 := r5.trans (by rw [q9]; exact Wc.vfI (by decide))
    refine K s9 ⟨hv, by unfold LowK; rw [r9.kd]; exact hk, by rw [r9.kd]; exact k1, (r9.fR (by simp) (by decide)).trans k2, ⟨VwK.wc hV.1 r9 (by decide), ⟨(r9.fI (by simp) (by decide)).trans hrow.1, hrow.2.1.eq fun i => r9.wI hv (by decide) (by decide) (by simp), hrow.2.2.1.eq fun i => r9.wI hv (by decide) (by decide) (by simp), hrow.2.2.2.eq fun i => r9.wL hv (by decide) (by decide) (by simp)⟩, ⟨?_, fun i hi x hx => ?_⟩, (r9.fI (by simp) (by decide)).trans t3, (r9.fI (by simp) (by decide)).trans t4⟩, hB.fr (r9.frB hv (by simp) (by decide) hO hB.1.2.2.1), hO, (r9.fR (by simp) (by decide)).trans h5, ?_, h7⟩ r9
    · rw [List.length_append, List.length_singleton, Nat.min_eq_left (by omega), q9]
      exact rI_same
    · rw [q9]
      show am_aI s5 (v + 4) i = x
      rw [saI_all q5]
      rcases get_push hx with ⟨a, b⟩ | ⟨a, b⟩
      · rw [if_pos a, b]
      · rw [if_neg (by omega)]; exact t2 i hi x b
    · have f := r9.frB hv (by simp) (by decide) hO hB.1.2.2.1
      rw [bA.fr hB.1.1 (f 2), (f 2 _ hB.1.2.2.2.2.2.1.2.1).2.aR]
      exact h6
  · have hq : 200 ≤ tr.length := by
      have : ¬ min tr.length 200 < 200 := fun z => q ((n32lt (b := 200) (by omega) (by omega)).mpr z)
      omega
    refine K σ ⟨hv, hk, k1, k2, ⟨hV.1, hrow, ⟨?_, fun i hi x hx => ?_⟩, t3, t4⟩, hB, hO, h5, h6, h7⟩ Wc.rf
    · rw [List.length_append, t1]
      congr 1
      omega
    · rw [List.getElem?_append_left (by omega)] at hx
      exact t2 i hi x hx
/-- a body is asked: whose it is -/
theorem as_ask {act asker owner l depth c : Nat} {ll : mLoss} {number : Int64} {F : Int64 → am_S → Prop} (hres : rsv act 4 asker = owner) (hw : owner < 15) (ha : act < 10) (hak : asker < 15) (hd : depth ≤ 20) (E : AsE σ w wk ab v b P T Ls Cs l0 lc rows tr fnd ov) (wl : WfLL Ls) (hl : Ls[l]? = some ll) (hc : am_aR σ (bA σ b 6005) l = some c)
    (K : ∀ σ' y0, AsE σ' w wk ab v b P T Ls Cs l0 lc rows (tr ++ [Int32.ofNat (10 * owner + act)]) fnd ov → AsC wk ab v σ σ' → (∀ u, ll.2.2.1 = some u → y0 = (dd_sr.getD 2 []).getD (Ls.getD u mLoss0).1.toInt.toNat 0) → c_Wk_ask_129 nl Ln xs (d + 1) wk (Int32.ofNat act) (Int32.ofNat asker) (some c) number (Int32.ofNat depth) (Int32.ofNat owner) (Int32.ofNat (depth + 1)) y0 σ' F) : k_Wk_ask nl Ln xs (d + 1) wk (Int32.ofNat act) (Int32.ofNat asker) (some c) number (Int32.ofNat depth) σ F := by
  have hk := E.2.1
  have loop : ∀ (m s a : Nat), s + m = 4 → a < 15 → rsv act m a = owner → c_Wk_ask_19 nl Ln xs (d + 1) wk (Int32.ofNat act) (Int32.ofNat asker) (some c) number (Int32.ofNat depth) (Int32.ofNat a) (Int32.ofNat s) σ F := by
    have last : ∀ x8 : Int32, c_Wk_ask_52 nl Ln xs (d + 1) wk (Int32.ofNat act) (Int32.ofNat asker) (some c) number (Int32.ofNat depth) (Int32.ofNat owner) x8 σ F := by
      intro x8
      refine as_mark E ha hw (fun s1 E1 r1 => ?_)
      have B1 := E1.bk
      obtain ⟨c', c1, c2, c3, c4⟩ := B1.loss hl
      have f := r1.frB E.1 (by simp) (by decide) E.2.2.2.2.2.2.1 E.bk.1.2.2.1
      have ec : c' = c := by
        rw [bA.fr E.bk.1.1 (f 2), (f 2 _ E.bk.1.2.2.2.2.2.1.2.1).2.aR] at c1
        exact Option.some.inj (c1.symm.trans hc)
      subst ec
      refine w_Wk_ask_100 ?_
      rintro v1 rfl
      rw [n32s, Option.getD_some]
      refine ⟨is_mk c2.2.1, ?_⟩
      cases hw2 : ll.2.2.1 with
      | none =>
        rw [c3 hw2]
        refine ⟨fun q => absurd rfl q, fun q => absurd rfl q, fun q => absurd rfl q, fun q => absurd rfl q, ?_⟩
        rintro w10 rfl
        exact K s1 _ E1 r1 (fun u hu => by rw [hw2] at hu; cases hu)
      | some u =>
        have hu := (wl.2.1 l ll hl).2.1 u hw2
        obtain ⟨uc, u1, u2, -, -⟩ := B1.loss (getD_some mLoss0 (show u < Ls.length from Nat.lt_trans hu (lt_of_get hl)))
        have hur := wl.2.2 _ (List.mem_of_getElem? (getD_some mLoss0 (show u < Ls.length from Nat.lt_trans hu (lt_of_get hl))))
        rw [c4 u hw2, u1, Option.getD_some, u2.2.2.2.2.1]
        refine ⟨fun _ => is_mk u2.2.1, fun _ => E1.2.1 502 (by decide), fun _ => hur.1, fun _ => ?_, ?_⟩
        · rw [show (502 : Nat) = 500 + 2 from rfl, sr_rl (by decide)]
          have : (dd_sr.getD 2 []).length = 6 := by decide +kernel
          rw [this]
          have := hur.2.1
          omega
        · rintro w10 rfl
          rw [if_neg (by simp), ix_n hur.1]
          refine K s1 _ E1 r1 (fun u' hu' => ?_)
          rw [hw2] at hu'
          cases hu'
          exact sr_rv (j := 2) (by decide)
    intro m
    induction m with
    | zero =>
      intro s a hs ha15 hr
      have hr : a = owner := hr
      rw [hr]
      exact w_Wk_ask_19 ⟨fun q => absurd q (by rw [show s = 4 by omega]; decide), fun _ => last _⟩
    | succ m ih =>
      intro s a hs ha15 hr
      have ta : (Int32.ofNat a).toInt = a := n32 (by omega)
      rw [rsv] at hr
      refine w_Wk_ask_19 ⟨fun _ => ⟨hk 503 (by decide), by omega, ?_, ?_⟩, fun q => absurd (show Int32.ofNat s < Int32.ofNat 4 by rw [n32lt (by omega) (by omega)]; omega) q⟩
      · rw [show (503 : Nat) = 500 + 3 from rfl, sr_rl (by decide)]
        have : (dd_sr.getD 3 []).length = 15 := by decide +kernel
        rw [this]
        omega
      · rw [n32c (by omega), show (503 : Nat) = 500 + 3 from rfl, sr_rv (by decide), show (504 : Nat) = 500 + 4 from rfl, sr_rv (by decide), sr_rl (by decide)]
        refine ⟨fun q => ⟨hk 504 (by decide), by omega, ?_, ?_⟩, fun q => ?_⟩
        · have : (dd_sr.getD 4 []).length = 15 := by decide +kernel
          rw [this]
          omega
        · rintro v9 rfl
          rw [if_pos q] at hr
          obtain ⟨p1, p2⟩ := par_ok a ha15
          rw [n32s, n32of p1]
          exact ih (s + 1) _ (by omega) (by omega) hr
        · rw [if_neg q] at hr
          rw [hr]
          exact last _
  refine w_Wk_ask ⟨fun q => ?_, fun _ => ⟨fun q => absurd q (by simp), fun _ => loop 4 0 asker (by omega) hak hres⟩⟩
  have : 20 < depth := (n32lt (a := 20) (by omega) (by omega)).mp q
  omega
end
