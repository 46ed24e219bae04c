/-! THE CLASS: an act is read from the tape -/
theorem lg_row : ∀ n, n < 23 → ∀ k, k < 6 → k < argC n → (decide ((((dd_sr.getD 7 []).getD n 0 >>> (Int32.ofNat k &&& 31)) &&& 1) = 1) = decide ((n = 5 ∧ k = 2) ∨ (n = 10 ∧ 2 ≤ k) ∨ ((n = 12 ∨ n = 17) ∧ k = 3) ∨ ((n = 13 ∨ n = 18 ∨ n = 19) ∧ k = 2) ∨ (n = 16 ∧ k = 4))) := by decide +kernel
theorem lg_len : (dd_sr.getD 7 []).length = 23 := by decide +kernel
theorem darg_app {l : List Int64} {x : Int64} {j : Nat} : d_arg (l ++ [x]) j = if j = l.length then x else d_arg l j := by
  unfold d_arg
  by_cases h : j = l.length
  · subst h
    rw [if_pos rfl, List.getD_eq_getElem?_getD, List.getElem?_append_right (Nat.le_refl _)]
    simp
  · rw [if_neg h]
    by_cases h2 : j < l.length
    · rw [List.getD_eq_getElem?_getD, List.getD_eq_getElem?_getD, List.getElem?_append_left h2]
    · rw [List.getD_eq_getElem?_getD, List.getD_eq_getElem?_getD, List.getElem?_eq_none (by rw [List.length_append, List.length_singleton]; omega), List.getElem?_eq_none (by omega)]
section
variable {nl : Bool} {Ln : Nat} {xs : Nat → Int32} {d : Nat} {σ : am_S} {w : ow_T} {τ : am_S} {v b b2 gl nu gl2 nu2 : Nat} {X : Stx} {sp : Option Nat} {g : Grw} {D : mTop} {M2 : mOff} {fnd : Int32}
theorem RdQ.eqc {s : am_S} {a : Nat} (h : RdQ σ a) (e : am_eqc σ s 1001) : RdQ s a := ⟨e.fI.trans h.1, e.fI.trans h.2⟩
/-- what is read of the tape -/
abbrev rem (D : mTop) (e a : Nat) : List Int32 := ((d_tap D).take e).drop a
/-- the arguments -/
theorem tk_48 {n e : Nat} {x2 : Int64} {F : Bool → am_S → Prop} (hn : n < 23) (hx2 : x2.toInt = n) (he : e ≤ (d_tap D).length) (hl : (d_tap D).length ≤ 6000) : ∀ (m k a : Nat) (acc : List Int64) (x5 x6 x7 : Option Value) (s : am_S), k + m = argC n → acc.length = k → a ≤ e → TkD τ s w v X b b2 sp g gl nu gl2 nu2 D M2 fnd → RdQ s a → DdR s 1007 0 7 n (d_arg acc) →
    (∀ vs r y5 y6 y7 s', d_rdA n m k (rem D e a) = some (vs, r) → TkD τ s' w v X b b2 sp g gl nu gl2 nu2 D M2 fnd → RdQ s' (e - r.length) → r = rem D e (e - r.length) → a ≤ e - r.length → DdR s' 1007 0 7 n (d_arg (acc ++ vs)) → c_Co_readDeed_48 nl Ln xs (d + 3) 1000 (Int32.ofNat e) x2 (Int32.ofNat (argC n)) y5 y6 y7 s' F) →
    (∀ s', d_rdA n m k (rem D e a) = none → TkD τ s' w v X b b2 sp g gl nu gl2 nu2 D M2 fnd → F false s') → c_Co_readDeed_48 nl Ln xs (d + 3) 1000 (Int32.ofNat e) x2 (Int32.ofNat k) x5 x6 x7 s F := by
  have h6 := arg_6 n hn
  have ex : x2.toInt32.toInt = n := by rw [t32 (by omega) (by omega), hx2]
  have exn : x2.toInt32.toNatClampNeg = n := by
    show x2.toInt32.toInt.toNat = n
    omega
  intro m
  induction m with
  | zero =>
    intro k a acc x5 x6 x7 s hk hacc ha R q hD K1 K2
    have hk : k = argC n := by omega
    rw [hk]
    have el : rem D e a = rem D e (e - (rem D e a).length) := by
      have : e - (rem D e a).length = a := by
        unfold rem
        rw [List.length_drop, List.length_take]
        omega
      rw [this]
    have ea : e - (rem D e a).length = a := by
      unfold rem
      rw [List.length_drop, List.length_take]
      omega
    refine K1 [] (rem D e a) x5 x6 x7 s rfl R (by rw [ea]; exact q) el (by omega) (by rw [List.append_nil]; exact hD)
  | succ m ih =>
    intro k a acc x5 x6 x7 s hk hacc ha R q hD K1 K2
    have f0 := R.co.2.1.1
    have f3 := R.co.2.1.2.2.2
    refine low (fun hL => w_Co_readDeed_48 ⟨hL 506 (by decide), ?_⟩)
    rw [show (506 : Nat) = 500 + 6 from rfl, show (507 : Nat) = 500 + 7 from rfl, sr_rl (by decide), sr_rv (by decide), sr_rl (by decide), sr_rv (by decide), arg_len, lg_len, exn, ex, arg_row n hn, n32lt (by omega) (by omega), f0, Option.getD_some]
    refine ⟨by omega, by omega, fun _ => ⟨is_mk R.co.1.2, is_mk R.tap.2.1, by_rd (d := d + 1) R.tap ha he hl q.1 q.2 (fun v1 r1 s7 h1 f7 q7 b7 hr ha1 _ => ?_) (fun v1 s7 h1 f7 b7 _ => ?_)⟩, fun z => absurd (by omega) z⟩
    · have R7 := R.rd f7
      have D7 := hD.eq (f7.2.2.2.1 1007 (by decide))
      refine ⟨fun _ => by rw [f7.1]; exact hL 507 (by decide), fun _ => by omega, fun _ => by omega, ?_⟩
      have hfit : ((v1 = v1.toInt32.toInt64) ∨ ((((dd_sr.getD 7 []).getD n 0 >>> (Int32.ofNat k &&& 31)) &&& 1) = 1)) ↔ ¬ (¬ d_isLong n k ∧ v1.toInt32.toInt64 ≠ v1) := by
        have e1 := decide_eq_decide.mp (lg_row n hn k (by omega) (by omega))
        rw [e1]
        unfold d_isLong
        constructor
        · rintro (z | z) ⟨y1, y2⟩
          · exact y2 z.symm
          · exact y1 z
        · intro z
          rcases Classical.em ((n = 5 ∧ k = 2) ∨ (n = 10 ∧ 2 ≤ k) ∨ ((n = 12 ∨ n = 17) ∧ k = 3) ∨ ((n = 13 ∨ n = 18 ∨ n = 19) ∧ k = 2) ∨ (n = 16 ∧ k = 4)) with y | y
          · exact Or.inr y
          · exact Or.inl (Classical.byContradiction (fun y2 => z ⟨y, fun y3 => y2 y3.symm⟩))
      have f07 := R7.co.2.1.1
      have f37 := R7.co.2.1.2.2.2
      refine w_Co_readDeed_99 ⟨is_mk R7.co.1.2, ?_⟩
      rw [f07, Option.getD_some, b7]
      refine ⟨is_mk R7.tap.2.1, fun _ => ⟨fun z => ?_, fun z => ?_⟩, fun z => absurd rfl z⟩
      · have hno : ¬ d_isLong n k ∧ v1.toInt32.toInt64 ≠ v1 := by
          refine Classical.byContradiction (fun y => ?_)
          rw [if_pos (hfit.mpr y)] at z
          exact absurd z (by decide)
        refine K2 s7 ?_ R7
        rw [d_rdA, h1]
        dsimp only
        rw [if_pos (m_dec_eq.mpr hno)]
      · have hyes : ¬ (¬ d_isLong n k ∧ v1.toInt32.toInt64 ≠ v1) := fun y => z (if_neg (fun y2 => hfit.mp y2 y))
        have ei : Int32.ofNat k + 1 = Int32.ofNat (k + 1) := n32s k
        rw [f37, Option.getD_some, ei, n32c (by omega)]
        refine ⟨ar_mk R7.co.2.2.2.2.2.2.2 (by rw [n32 (by omega)]; omega) (by rw [n32 (by omega)]; omega), ?_⟩
        intro s6 e6
        have o6 : Only 1007 s7 s6 := by rw [e6]; exact Only.saL
        have R6 := R7.deed o6
        have hdA : d_rdA n (m + 1) k (rem D e a) = (match d_rdA n m (k + 1) r1 with
          | none => none
          | some (vs, r') => some (v1 :: vs, r')) := by
          rw [d_rdA, h1]
          dsimp only
          rw [if_neg (fun y => hyes (m_dec_eq.mp y))]
          cases d_rdA n m (k + 1) r1 with
          | none => rfl
          | some p => rfl
        have hlt : e - r1.length ≤ e := by omega
        refine ih (k + 1) (e - r1.length) (acc ++ [v1]) _ _ _ s6 (by omega) (by rw [List.length_append, List.length_singleton]; omega) hlt R6 ?_ ?_ (fun vs r y5 y6 y7 s' hv R' q' hr' ha' D' => ?_) (fun s' hv R' => ?_)
        · exact RdQ.eqc ⟨q7, b7⟩ (o6.2.2.2.1 1001 (by decide))
        · obtain ⟨d1, d2, d3, d4, d5⟩ := D7
          refine ⟨by rw [o6.1]; exact d1, d2, d3, by rw [e6, aL_i (by omega)]; exact d4, fun j hj => ?_⟩
          rw [darg_app, hacc]
          by_cases hjk : j = k
          · subst hjk
            rw [if_pos rfl, e6, show 0 + 1 + j = j + 1 by omega]
            exact aL_same
          · rw [if_neg hjk, e6, aL_i (by omega)]
            exact d5 j hj
        · rw [show rem D e (e - r1.length) = r1 from hr.symm] at hv
          refine K1 (v1 :: vs) r y5 y6 y7 s' (by rw [hdA, hv]) R' q' hr' (by omega) ?_
          rw [List.append_assoc] at D'
          exact D'
        · rw [show rem D e (e - r1.length) = r1 from hr.symm] at hv
          exact K2 s' (by rw [hdA, hv]) R'
    · have R7 := R.rd f7
      have b7' : ¬ am_fI s7 1003 1001 = 0 := by rw [b7]; decide
      refine ⟨fun _ => by rw [f7.1]; exact hL 507 (by decide), fun _ => by omega, fun _ => by omega, ?_⟩
      refine w_Co_readDeed_99 ⟨is_mk R7.co.1.2, ?_⟩
      rw [R7.co.2.1.1, Option.getD_some]
      exact ⟨is_mk R7.tap.2.1, fun z => absurd z b7', fun _ => K2 s7 (by rw [d_rdA, h1]) R7⟩
/-- the bytes of a text -/
theorem tk_45 {n e : Nat} {sz : Int64} {a' : mArg} {F : Bool → am_S → Prop} (hsz0 : 0 ≤ sz.toInt) (hsz : sz.toInt ≤ 400) (he : e ≤ (d_tap D).length) (hl : (d_tap D).length ≤ 6000) : ∀ (m i a gt : Nat) (acc : List Int32) (x5 x6 : Option Value) (s : am_S) (ws : ow_T), (i + m : Nat) = sz.toInt.toNat → acc.length = i → a ≤ e → TkD τ s ws v X b b2 sp (g.1, gt, g.2.2) gl nu gl2 nu2 D M2 fnd → ByR s ws (2, 1003) 1003 gt acc → RdQ s a → DdR s 1007 0 7 n a' →
    (∀ t r s' ws' gt', d_rdT m (rem D e a) = some (t, r) → TkD τ s' ws' v X b b2 sp (g.1, gt', g.2.2) gl nu gl2 nu2 D M2 fnd → ByR s' ws' (2, 1003) 1003 gt' (acc ++ t) → RdQ s' (e - r.length) → r = rem D e (e - r.length) → a ≤ e - r.length → DdR s' 1007 0 7 n a' → F true s') →
    (∀ s' ws' gt', d_rdT m (rem D e a) = none → TkD τ s' ws' v X b b2 sp (g.1, gt', g.2.2) gl nu gl2 nu2 D M2 fnd → F false s') → c_Co_readText_45 nl Ln xs (d + 4) 1000 (Int32.ofNat e) sz (Int32.ofNat i) x5 x6 s F := by
  have z0 : (0 : Int64).toInt = 0 := by decide
  have z255 : (255 : Int64).toInt = 255 := by decide
  intro m
  induction m with
  | zero =>
    intro i a gt acc x5 x6 s ws hi hacc ha R Tx q hD K1 K2
    have ea : e - (rem D e a).length = a := by
      unfold rem
      rw [List.length_drop, List.length_take]
      omega
    refine w_Co_readText_45 ⟨fun z => ?_, fun _ => ?_⟩
    · rw [i64lt, t64, n32 (by omega)] at z
      omega
    · exact K1 [] (rem D e a) s ws gt rfl R (by rw [List.append_nil]; exact Tx) (by rw [ea]; exact q) (by rw [ea]) (by omega) hD
  | succ m ih =>
    intro i a gt acc x5 x6 s ws hi hacc ha R Tx q hD K1 K2
    have f0 := R.co.2.1.1
    refine w_Co_readText_45 ⟨fun _ => ⟨is_mk R.co.1.2, ?_⟩, fun z => absurd (by rw [i64lt, t64, n32 (by omega)]; omega) z⟩
    rw [f0, Option.getD_some]
    refine ⟨is_mk R.tap.2.1, by_rd (d := d + 2) R.tap ha he hl q.1 q.2 (fun v1 r1 s4 h1 f4 q4 b4 hr ha1 _ => ?_) (fun v1 s4 h1 f4 b4 _ => ?_)⟩
    · have R4 := R.rd f4
      have D4 := hD.eq (f4.2.2.2.1 1007 (by decide))
      have E4 := f4.eff R.ow R.tap.1
      have T4 := Tx.fr (E4.2 (2, 1003) (snd_ne (by decide)) (by simp))
      rw [R4.co.2.1.1, Option.getD_some, b4]
      refine ⟨is_mk R4.tap.2.1, fun _ => ⟨fun z => ?_, fun zl => ⟨fun z => ?_, fun zh => ?_⟩⟩, fun z => absurd rfl z⟩
      · refine K2 s4 ws gt ?_ R4
        rw [i64lt, z0] at z
        rw [d_rdT, h1]
        dsimp only
        rw [if_pos (by omega)]
      · refine K2 s4 ws gt ?_ R4
        rw [i64lt, z255] at z
        rw [d_rdT, h1]
        dsimp only
        rw [if_pos (by omega)]
      · rw [i64lt, z0] at zl
        rw [i64lt, z255] at zh
        have hv1 : v1.toInt32.toInt = v1.toInt := t32 (by omega) (by omega)
        have hb255 : v1.toInt32 &&& 255 = v1.toInt32 := by
          have := bsm (u := v1.toInt.toNat) (by omega)
          have e : Int32.ofNat v1.toInt.toNat = v1.toInt32 := by
            rw [i32e, n32 (by omega), hv1]
            omega
          rw [e] at this
          exact this
        rw [R4.co.2.1.2.1, Option.getD_some]
        refine ⟨is_mk T4.2.1, by_put (d := d) T4 R4.ow (by simp) (by omega) (fun s11 w11 g11 B11 c11 hx11 => ?_)⟩
        rw [hb255] at B11
        have R11 := R4.txt B11 c11 hx11.2
        have E11 := c11.1
        have e7 := E11.2 (2, 1007) (snd_ne (by decide)) (by simp) 1007 R4.co.2.2.2.2.2.2.1
        have e1 := E11.2 (2, 1001) (snd_ne (by decide)) (by simp) 1001 R4.tap.1
        have hdT : d_rdT (m + 1) (rem D e a) = (match d_rdT m r1 with
          | none => none
          | some (vs, r') => some (v1.toInt32 :: vs, r')) := by
          rw [d_rdT, h1]
          dsimp only
          rw [if_neg (by omega)]
          cases d_rdT m r1 with
          | none => rfl
          | some p => rfl
        rw [n32s]
        refine ih (i + 1) (e - r1.length) g11 (acc ++ [v1.toInt32]) _ _ s11 w11 (by omega) (by rw [List.length_append, List.length_singleton]; omega) (by omega) R11 B11 (RdQ.eqc ⟨q4, b4⟩ e1.2) (D4.eq e7.2) (fun t r s' ws' gt' hv R' T' q' hr' ha' D' => ?_) (fun s' ws' gt' hv R' => ?_)
        · rw [show rem D e (e - r1.length) = r1 from hr.symm] at hv
          refine K1 (v1.toInt32 :: t) r s' ws' gt' (by rw [hdT, hv]) R' ?_ q' hr' (by omega) D'
          rw [List.append_assoc] at T'
          exact T'
        · rw [show rem D e (e - r1.length) = r1 from hr.symm] at hv
          exact K2 s' ws' gt' (by rw [hdT, hv]) R'
    · have R4 := R.rd f4
      have b4' : ¬ am_fI s4 1003 1001 = 0 := by rw [b4]; decide
      rw [R4.co.2.1.1, Option.getD_some]
      exact ⟨is_mk R4.tap.2.1, fun z => absurd z b4', fun _ => K2 s4 ws gt (by rw [d_rdT, h1]) R4⟩
theorem co_readDeed {e a : Nat} {F : Bool → am_S → Prop} (ha : a ≤ e) (he : e ≤ (d_tap D).length) (hl : (d_tap D).length ≤ 6000) (R : TkD τ σ w v X b b2 sp g gl nu gl2 nu2 D M2 fnd) (q : RdQ σ a)
    (K1 : ∀ n vs t r s ws gt a', d_rd1 (rem D e a) = some (n, vs, t, r) → TkD τ s ws v X b b2 sp (g.1, gt, g.2.2) gl nu gl2 nu2 D M2 fnd → (n = 6 → ByR s ws (2, 1003) 1003 gt t) → RdQ s (e - r.length) → r = rem D e (e - r.length) → a ≤ e - r.length → DdR s 1007 0 7 n a' → (∀ k, k < argC n → a' k = d_arg vs k) → (n ≠ 6 → a' = d_arg vs) → (n = 6 → d_arg vs 1 = Int64.ofNat t.length) → F true s)
    (K2 : ∀ s ws gt, d_rd1 (rem D e a) = none → TkD τ s ws v X b b2 sp (g.1, gt, g.2.2) gl nu gl2 nu2 D M2 fnd → F false s) : k_Co_readDeed nl Ln xs (d + 6) 1000 (Int32.ofNat e) σ F := by
  have z1 : (1 : Int64).toInt = 1 := by decide
  have z22 : (22 : Int64).toInt = 22 := by decide
  have z0 : (0 : Int64).toInt = 0 := by decide
  have z400 : (400 : Int64).toInt = 400 := by decide
  have z6 : (6 : Int64).toInt = 6 := by decide
  have eg : (g.1, g.2.1, g.2.2) = g := rfl
  refine w_Co_readDeed ⟨is_mk R.co.1.2, ?_⟩
  rw [R.co.2.1.1, Option.getD_some]
  refine ⟨is_mk R.tap.2.1, by_rd (d := d + 4) R.tap ha he hl q.1 q.2 (fun v1 r1 s3 h1 f3 q3 b3 hr ha1 _ => ?_) (fun v1 s3 h1 f3 b3 _ => ?_)⟩
  · have R3 := R.rd f3
    rw [R3.co.2.1.1, Option.getD_some, b3]
    refine ⟨is_mk R3.tap.2.1, fun _ => ⟨fun z => ?_, fun zl => ⟨fun z => ?_, fun zh => ?_⟩⟩, fun z => absurd rfl z⟩
    · refine K2 s3 w g.2.1 ?_ R3
      rw [i64lt, z1] at z
      unfold d_rd1
      rw [h1]
      dsimp only
      rw [if_pos (by omega)]
    · refine K2 s3 w g.2.1 ?_ R3
      rw [i64lt, z22] at z
      unfold d_rd1
      rw [h1]
      dsimp only
      rw [if_pos (by omega)]
    · rw [i64lt, z1] at zl
      rw [i64lt, z22] at zh
      obtain ⟨n, hn⟩ : ∃ n, n = v1.toInt.toNat := ⟨_, rfl⟩
      have e32 : v1.toInt32 = Int32.ofNat n := by
        rw [i32e, n32 (by omega), t32 (by omega) (by omega)]
        omega
      rw [e32]
      refine co_fill (d := d + 4) (n := n) (by omega) R3.co (fun s9 o9 D9 _ => ?_)
      have R9 := R3.deed o9
      have q9 : RdQ s9 (e - r1.length) := RdQ.eqc ⟨q3, b3⟩ (o9.2.2.2.1 1001 (by decide))
      have D9' : DdR s9 1007 0 7 n (d_arg []) := by
        obtain ⟨d1, d2, d3, d4, d5⟩ := D9
        refine ⟨d1, d2, d3, d4, fun j hj => ?_⟩
        rw [d5 j hj]
        rcases (show j = 0 ∨ j = 1 ∨ j = 2 ∨ j = 3 ∨ j = 4 ∨ j = 5 by omega) with rfl | rfl | rfl | rfl | rfl | rfl <;> rfl
      have hrd1 : d_rd1 (rem D e a) = (match d_rdA n (m_args n) 0 r1 with
        | none => none
        | some (vs, l2) => if v1.toInt = 6 then (if ¬ (0 ≤ (vs.getD 1 0).toInt ∧ (vs.getD 1 0).toInt ≤ 400) then none else (match d_rdT (vs.getD 1 0).toInt.toNat l2 with
            | none => none
            | some (t, l3) => some (6, vs, t, l3)))
          else some (n, vs, [], l2)) := by
        unfold d_rd1
        rw [h1]
        dsimp only
        rw [if_neg (by omega), ← hn]
        cases d_rdA n (m_args n) 0 r1 with
        | none => rfl
        | some p => rfl
      refine tk_48 (d := d + 3) (n := n) (x2 := v1) (by omega) (by omega) he hl (argC n) 0 (e - r1.length) [] _ _ _ s9 (by omega) rfl (by omega) R9 q9 D9' (fun vs r y5 y6 y7 s' hv R' q' hr' ha' D' => ?_) (fun s' hv R' => ?_)
      · rw [show rem D e (e - r1.length) = r1 from hr.symm] at hv
        rw [List.nil_append] at D'
        have ex : v1.toInt32.toInt = n := by rw [e32, n32 (by omega)]
        have exn : v1.toInt32.toNatClampNeg = n := by
          show v1.toInt32.toInt.toNat = n
          omega
        refine low (fun hL => w_Co_readDeed_48 ⟨hL 506 (by decide), ?_⟩)
        rw [show (506 : Nat) = 500 + 6 from rfl, sr_rl (by decide), sr_rv (by decide), arg_len, exn, ex, arg_row n (by omega)]
        refine ⟨by omega, by omega, fun z => absurd z (by rw [i32lt]; omega), fun _ => ⟨fun z => ?_, fun z => ?_⟩⟩
        · have hn6 : n = 6 := by rw [i64e, z6] at z; omega
          have hv6 : v1.toInt = 6 := by omega
          simp only [if_pos hv6] at hrd1
          subst hn6
          have ha1' : argC 6 = 1 := rfl
          rw [ha1'] at hv
          have hvl := (rdA_len 6 1 0 r1 vs r hv).2
          have hA2 : d_rdA 6 (m_args 6) 0 r1 = (match d_rd r 0 0 with
            | none => none
            | some (v2, r2) => if m_dec (¬ d_isLong 6 1 ∧ v2.toInt32.toInt64 ≠ v2) = true then none else some (vs ++ [v2], r2)) := by
            show d_rdA 6 (1 + 1) 0 r1 = _
            rw [d_rdA] at hv ⊢
            cases h2 : d_rd r1 0 0 with
            | none => rw [h2] at hv; exact absurd hv (by simp)
            | some p =>
              obtain ⟨v0, r0⟩ := p
              rw [h2] at hv
              dsimp only at hv ⊢
              by_cases hc : m_dec (¬ d_isLong 6 0 ∧ v0.toInt32.toInt64 ≠ v0) = true
              · rw [if_pos hc] at hv; exact absurd hv (by simp)
              · rw [if_neg hc] at hv
                have hv : some ([v0], r0) = some (vs, r) := hv
                obtain ⟨rfl, rfl⟩ := Prod.mk.inj (Option.some.inj hv)
                rw [if_neg hc]
                show (match d_rdA 6 (0 + 1) 1 r0 with
                  | none => none
                  | some (vs, r') => some (v0 :: vs, r')) = _
                rw [d_rdA]
                cases d_rd r0 0 0 with
                | none => rfl
                | some p =>
                  obtain ⟨v2, r2⟩ := p
                  dsimp only
                  by_cases hc2 : m_dec (¬ d_isLong 6 1 ∧ v2.toInt32.toInt64 ≠ v2) = true
                  · rw [if_pos hc2, if_pos hc2]
                  · rw [if_neg hc2, if_neg hc2]
                    rfl
          rw [hA2] at hrd1
          have f1' := R'.co.2.1.2.1
          obtain ⟨tx0, Tx0⟩ := R'.2.2.1
          refine ⟨is_mk R'.co.1.2, w_Co_readText ⟨is_mk R'.co.1.2, ?_⟩⟩
          rw [f1', Option.getD_some]
          refine ⟨is_mk Tx0.2.1, by_clr (d := d + 3) Tx0 R'.ow (fun s5 T5 c5 hx5 => ?_)⟩
          have R5 := R'.txt T5 c5 hx5.2
          have e57 := c5.1.2 (2, 1007) (snd_ne (by decide)) (by simp) 1007 R'.co.2.2.2.2.2.2.1
          have e51 := c5.1.2 (2, 1001) (snd_ne (by decide)) (by simp) 1001 R'.tap.1
          have q5 := RdQ.eqc q' e51.2
          have D5 := D'.eq e57.2
          rw [R5.co.2.1.1, Option.getD_some]
          refine ⟨is_mk R5.tap.2.1, by_rd (d := d + 3) R5.tap (by omega) he hl q5.1 q5.2 (fun v2 r2 s6 h2 f6 q6 b6 hr2 ha2 _ => ?_) (fun v2 s6 h2 f6 b6 _ => ?_)⟩
          · have h2' : d_rd r 0 0 = some (v2, r2) := by rw [hr']; exact h2
            rw [h2'] at hrd1
            dsimp only at hrd1
            have R6 := R5.rd f6
            have D6 := D5.eq (f6.2.2.2.1 1007 (by decide))
            have E6 := f6.eff R5.ow R5.tap.1
            have T6 := T5.fr (E6.2 (2, 1003) (snd_ne (by decide)) (by simp))
            have nlong : ¬ d_isLong 6 1 := by unfold d_isLong; omega
            have eg1 : (vs ++ [v2]).getD 1 0 = v2 := by
              have := darg_app (l := vs) (x := v2) (j := 1)
              unfold d_arg at this
              rw [this, if_pos hvl.symm]
            have bad : ¬ (0 ≤ v2.toInt ∧ v2.toInt ≤ 400) → d_rd1 (rem D e a) = none := fun hz => by
              rw [hrd1]
              by_cases hc2 : m_dec (¬ d_isLong 6 1 ∧ v2.toInt32.toInt64 ≠ v2) = true
              · rw [if_pos hc2]
              · rw [if_neg hc2]
                dsimp only
                rw [eg1, if_pos hz]
            rw [R6.co.2.1.1, Option.getD_some, b6]
            refine ⟨is_mk R6.tap.2.1, fun _ => ⟨fun z => ?_, fun yl => ⟨fun z => ?_, fun yh => ?_⟩⟩, fun z => absurd rfl z⟩
            · rw [i64lt, z0] at z
              have : decide (false = true) = false := rfl
              exact fun _ => K2 s6 w g.2.1 (bad (by omega)) R6
            · rw [i64lt, z400] at z
              exact fun _ => K2 s6 w g.2.1 (bad (by omega)) R6
            · rw [i64lt, z0] at yl
              rw [i64lt, z400] at yh
              have hint : v2.toInt32.toInt64 = v2 := by
                rw [i64e, t64, t32 (by omega) (by omega)]
              have good : d_rd1 (rem D e a) = (match d_rdT v2.toInt.toNat r2 with
                | none => none
                | some (t, l3) => some (6, vs ++ [v2], t, l3)) := by
                rw [hrd1, if_neg (fun z => (m_dec_eq.mp z).2 hint)]
                dsimp only
                rw [eg1, if_neg (by omega)]
              refine tk_45 (d := d + 1) (n := 6) (sz := v2) (a' := d_arg vs) (by omega) (by omega) he hl v2.toInt.toNat 0 (e - r2.length) g.2.1 [] _ _ s6 w (by omega) rfl (by omega) R6 T6 ⟨q6, b6⟩ D6 (fun t r3 s' ws' gt' ht R7 T7 q7 hr3 ha3 D7 => ?_) (fun s' ws' gt' ht R7 => ?_)
              · rw [show rem D e (e - r2.length) = r2 from hr2.symm] at ht
                have htl := rdT_len _ _ t r3 ht
                refine fun _ => K1 6 (vs ++ [v2]) t r3 s' ws' gt' (d_arg vs) (by rw [good, ht]) R7 (fun _ => ?_) q7 hr3 (by omega) D7 (fun k hk => ?_) (fun z => absurd rfl z) (fun _ => ?_)
                · rw [List.nil_append] at T7
                  exact T7
                · have hk : k < 1 := hk
                  rw [darg_app, if_neg (by omega)]
                · rw [darg_app, if_pos hvl.symm, htl.2, i64e, n64 (by omega)]
                  omega
              · rw [show rem D e (e - r2.length) = r2 from hr2.symm] at ht
                exact fun _ => K2 s' ws' gt' (by rw [good, ht]) R7
          · have h2' : d_rd r 0 0 = none := by rw [hr']; exact h2
            rw [h2'] at hrd1
            have R6 := R5.rd f6
            have b6' : ¬ am_fI s6 1003 1001 = 0 := by rw [b6]; decide
            rw [R6.co.2.1.1, Option.getD_some]
            exact ⟨is_mk R6.tap.2.1, fun z => absurd z b6', fun _ _ => K2 s6 w g.2.1 hrd1 R6⟩
        · have hn6 : n ≠ 6 := fun y => z (by rw [i64e, z6]; omega)
          have hv6 : ¬ v1.toInt = 6 := by omega
          have hac : argC n = m_args n := by unfold argC; rw [if_neg hn6]
          rw [hac] at hv
          simp only [if_neg hv6] at hrd1
          rw [hv] at hrd1
          exact K1 n vs [] r s' w g.2.1 (d_arg vs) hrd1 R' (fun y => absurd y hn6) q' hr' (by omega) D' (fun _ _ => rfl) (fun _ => rfl) (fun y => absurd y hn6)
      · rw [show rem D e (e - r1.length) = r1 from hr.symm] at hv
        refine K2 s' w g.2.1 ?_ R'
        rw [hrd1]
        by_cases hn6 : n = 6
        · subst hn6
          have hv : d_rdA 6 1 0 r1 = none := hv
          have : d_rdA 6 (m_args 6) 0 r1 = none := by
            show d_rdA 6 (1 + 1) 0 r1 = none
            rw [d_rdA] at hv ⊢
            cases h2 : d_rd r1 0 0 with
            | none => rfl
            | some p =>
              obtain ⟨v0, r0⟩ := p
              rw [h2] at hv
              dsimp only at hv ⊢
              by_cases hc : m_dec (¬ d_isLong 6 0 ∧ v0.toInt32.toInt64 ≠ v0) = true
              · rw [if_pos hc]
              · rw [if_neg hc] at hv
                exact absurd hv (by simp [d_rdA])
          rw [this]
        · have hac : argC n = m_args n := by unfold argC; rw [if_neg hn6]
          rw [hac] at hv
          rw [hv]
  · have R3 := R.rd f3
    have b3' : ¬ am_fI s3 1003 1001 = 0 := by rw [b3]; decide
    rw [R3.co.2.1.1, Option.getD_some]
    refine ⟨is_mk R3.tap.2.1, fun z => absurd z b3', fun _ => K2 s3 w g.2.1 ?_ R3⟩
    unfold d_rd1
    rw [h1]
end
