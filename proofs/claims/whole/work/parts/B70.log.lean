/-! THE CLASS: the log of a book -/
def setL (M : mOff) (L : List Int32) : mOff := (M.1, M.2.1, M.2.2.1, M.2.2.2.1, M.2.2.2.2.1, M.2.2.2.2.2.1, L)
def argC (n : Nat) : Nat := if n = 6 then 1 else m_args n
theorem arg_row : ∀ n, n < 23 → (dd_sr.getD 6 []).getD n 0 = Int32.ofNat (argC n) := by decide +kernel
theorem arg_len : (dd_sr.getD 6 []).length = 23 := by decide +kernel
theorem arg_6 : ∀ n, n < 23 → argC n ≤ 6 := by decide +kernel
theorem enc_range (a : mArg) : ∀ m : Nat, ((List.range m).flatMap (fun k => m_enc (a k))).length ≤ 10 * m
  | 0 => by simp
  | m + 1 => by
    have := enc_range a m
    have h2 := m_enc_len (a m)
    rw [List.range_succ, List.flatMap_append, List.length_append]
    simp only [List.flatMap_cons, List.flatMap_nil, List.append_nil]
    omega
theorem enc_bytes : ∀ t : List Int32, (t.flatMap (fun b => m_enc b.toInt64)).length ≤ 10 * t.length
  | [] => by simp
  | x :: t => by
    have := enc_bytes t
    have h2 := m_enc_len x.toInt64
    rw [List.flatMap_cons, List.length_append, List.length_cons]
    omega
section
variable {nl : Bool} {Ln : Nat} {xs : Nat → Int32} {d : Nat} {σ : am_S} {w : ow_T} {b v gl nu D o len n lg : Nat} {X : Stx} {M : mOff} {V : Nat × Nat × Nat × Nat × Nat} {Cc : Nat × Nat} {a : mArg}
theorem bk_put {u : Int64} {F : am_S → Prop} (hb : 1189 ≤ b ∨ b = 1039) (hl : (o_log M).length + 10 < 300000) (A : Bks σ w v X b M gl nu V Cc) (hlg : am_fR σ 6003 b = some lg)
    (K : ∀ σ' w' gl', Bks σ' w' v X b (setL M (o_log M ++ m_enc u)) gl' nu V Cc → Eff (fun q => q = (b, 3)) σ w σ' w' → am_fR σ' 6003 b = some lg → F σ') : k_By_putNumber nl Ln xs (d + 4) lg u σ (fun σ' => am_ext σ σ' → F σ') := by
  obtain ⟨Ev, B, R⟩ := A
  obtain ⟨⟨hK, hNm, hP, hL, hC, hT⟩, hN, hH, ⟨lg', lg1, lg2⟩, ns, m1, m2⟩ := B
  have e : lg' = lg := Option.some.inj (lg1.symm.trans hlg)
  subst e
  refine by_putNumber (d := d) lg2 Ev.1.1 (fun z => ?_) hl (fun σ' w' g' h' hc hext => ?_)
  · have : b = 0 := congrArg Prod.fst z
    omega
  · obtain ⟨E, e1, e2⟩ := hc
    have fr : ∀ j, j ≠ 3 → Fr σ w σ' w' (b, j) := fun j hj => E.bk (fun z => hj (congrArg Prod.snd z)) (by omega)
    have c : Bc b [] [] σ w σ' w' := Bc.of hK (fr 2 (by decide))
    have eb := ((fr 2 (by decide)) b hK.1).2
    have lg1' : am_fR σ' 6003 b = some lg' := (c.2.2.1 _ (by decide)).trans lg1
    have hx : 1189 ≤ am_nx σ' := Nat.le_trans Ev.1.2 hext.2
    refine K σ' w' g' ⟨Ev.bk E hb (fun q hq => congrArg Prod.fst hq) hx, ⟨⟨hK.bc c, ⟨eb.fI.trans hNm.1, eb.fI.trans hNm.2.1, eb.fI.trans hNm.2.2⟩, hP.bc c (by simp) (fun i _ => fr _ (by omega)), hL.bc c (by simp) (fun i _ => fr _ (by omega)), hC.bc c (by simp) (by simp) (by simp) (fun i _ => fr _ (by omega)), hT.bc c (by simp) eb.fR (fr 1 (by decide))⟩, hN.bc c (by decide), hH.bc c (by simp), ⟨lg', lg1', h'⟩, ns, m1.bc c (by simp) (fun i _ => fr _ (by omega)), m2⟩, ?_⟩ E lg1'
    obtain ⟨R1, R2, R3⟩ := R
    refine ⟨R1, ?_, ?_⟩
    · show am_nx σ' ≤ 1189 + (X.1.length + ne M + V.1) + (X.2.1.length + (o_pol M).length + V.2.1) + 3 * (X.2.2.1.length + (o_los M).length + V.2.2.1) + (X.2.2.2.1.length + (o_cas M).length + V.2.2.2.1) + (X.2.2.2.2.length + nu + V.2.2.2.2) + g' + Cc.1
      omega
    · show am_sl σ' ≤ 1704035 + 10 * (X.1.length + ne M + V.1) + 6 * (X.2.1.length + (o_pol M).length + V.2.1) + 28 * (X.2.2.1.length + (o_los M).length + V.2.2.1) + 8 * (X.2.2.2.1.length + (o_cas M).length + V.2.2.2.1) + 5 * (X.2.2.2.2.length + nu + V.2.2.2.2) + 128 * 2 ^ g' + Cc.2
      generalize 128 * 2 ^ g' = y1 at e2 ⊢
      generalize 128 * 2 ^ gl = y2 at e2 R3
      omega
/-- the bytes of a text -/
theorem bk_log71 {kt : Nat × Nat} {tn gt : Nat} {t : List Int32} {x1 : Option Nat} {x2 x4 : Int32} {L0 : List Int32} {F : am_S → Prop} (hb : 1189 ≤ b ∨ b = 1039) (hkt : kt ≠ (b, 3) ∧ kt ≠ (0, 0)) (ht : t.length < 7000) (hL0 : L0.length < 200000) (hT : ByR σ w kt tn gt t)
    (K : ∀ σ' w' gl', Bks σ' w' v X b (setL M (L0 ++ t.flatMap (fun b => m_enc b.toInt64))) gl' nu V Cc → Eff (fun q => q = (b, 3)) σ w σ' w' → F σ') : ∀ (j m : Nat) (s : am_S) (ws : ow_T) (gs : Nat), m + j = t.length → Bks s ws v X b (setL M (L0 ++ (t.take m).flatMap (fun b => m_enc b.toInt64))) gs nu V Cc → Eff (fun q => q = (b, 3)) σ w s ws → am_fR s 6003 b = some lg → c_Bk_logDeed_71 nl Ln xs (d + 5) b x1 x2 (some tn) x4 (Int32.ofNat m) s F := by
  intro j
  induction j with
  | zero =>
    intro m s ws gs hm A E hlg
    have T := hT.fr (E.2 kt hkt.1 hkt.2)
    have B := A.2.1
    refine w_Bk_logDeed_71 ⟨is_mk T.2.1, ?_⟩
    rw [Option.getD_some, T.2.2.2.2.1, n32lt (by omega) (by omega)]
    refine ⟨fun h => absurd h (by omega), fun _ => K s ws gs ?_ E⟩
    rw [List.take_of_length_le (by omega)] at A
    exact A
  | succ j ih =>
    intro m s ws gs hm A E hlg
    have T := hT.fr (E.2 kt hkt.1 hkt.2)
    have B := A.2.1
    refine w_Bk_logDeed_71 ⟨is_mk T.2.1, ?_⟩
    rw [Option.getD_some, T.2.2.2.2.1, n32lt (by omega) (by omega)]
    refine ⟨fun _ => ⟨is_mk B.1.1.2.1, by_at (d := d + 3) T (by omega) (fun _ => ?_)⟩, fun h => absurd (by omega) h⟩
    rw [if_pos (by omega), hlg, Option.getD_some]
    have hlk : am_kd s lg = (2, 0) := by
      obtain ⟨lg', l1, l2⟩ := B.2.2.2.1
      rw [← Option.some.inj (l1.symm.trans hlg)]
      exact l2.2.1
    have hlen : (L0 ++ (t.take m).flatMap (fun b => m_enc b.toInt64)).length + 10 < 300000 := by
      have h1 := enc_bytes (t.take m)
      rw [List.length_append]
      rw [List.length_take] at h1
      omega
    refine ⟨is_mk hlk, bk_put (d := d) hb hlen A hlg (fun s2 w2 g2 A2 E2 hlg2 => ?_)⟩
    rw [n32s]
    refine ih (m + 1) s2 w2 g2 (by omega) ?_ (E.trans E2) hlg2
    have et : (t.take (m + 1)).flatMap (fun b => m_enc b.toInt64) = (t.take m).flatMap (fun b => m_enc b.toInt64) ++ m_enc (t.getD m 0).toInt64 := by
      obtain ⟨x, hx⟩ := get_ex (show m < t.length by omega)
      rw [List.take_add_one, hx, List.flatMap_append, getD_of 0 hx]
      simp
    rw [et, ← List.append_assoc]
    exact A2
/-- the numbers of an act -/
theorem bk_log19 {kt : Nat × Nat} {tn gt : Nat} {t : List Int32} {x3 : Option Nat} {L0 : List Int32} {F : am_S → Prop} (hb : 1189 ≤ b ∨ b = 1039) (hn : n < 23) (h6 : n = 6 → x3 = some tn ∧ ByR σ w kt tn gt t ∧ (kt ≠ (b, 3) ∧ kt ≠ (0, 0)) ∧ t.length < 7000 ∧ a 1 = Int64.ofNat t.length) (hL0 : L0.length < 199000) {a' : mArg} (hD : DdR σ D o len n a') (ha' : ∀ k, k < argC n → a' k = a k) (hDw : w D ≠ (b, 3) ∧ w D ≠ (0, 0))
    (K : ∀ σ' w' gl', Bks σ' w' v X b (setL M (L0 ++ ((List.range (m_args n)).flatMap (fun k => m_enc (a k)) ++ (if n = 6 then t.flatMap (fun b => m_enc b.toInt64) else [])))) gl' nu V Cc → Eff (fun q => q = (b, 3)) σ w σ' w' → F σ') : ∀ (j m : Nat) (s : am_S) (ws : ow_T) (gs : Nat), m + j = argC n → Bks s ws v X b (setL M (L0 ++ (List.range m).flatMap (fun k => m_enc (a k)))) gs nu V Cc → Eff (fun q => q = (b, 3)) σ w s ws → am_fR s 6003 b = some lg → c_Bk_logDeed_19 nl Ln xs (d + 5) b (some D) (Int32.ofNat o) x3 (Int32.ofNat n) (Int32.ofNat (m + 1)) s F := by
  have h6n : (Int32.ofNat n = 6) ↔ n = 6 := by rw [show (6 : Int32) = Int32.ofNat 6 from rfl, n32i (by omega) (by omega)]
  have ha6 := arg_6 n hn
  intro j
  induction j with
  | zero =>
    intro m s ws gs hm A E hlg
    have hm : m = argC n := by omega
    have B := A.2.1
    have hlk : am_kd s lg = (2, 0) := by
      obtain ⟨lg', l1, l2⟩ := B.2.2.2.1
      rw [← Option.some.inj (l1.symm.trans hlg)]
      exact l2.2.1
    refine low (fun hL => w_Bk_logDeed_19 ⟨hL 506 (by decide), ?_⟩)
    rw [show (506 : Nat) = 500 + 6 from rfl, sr_rl (by decide), sr_rv (by decide), arg_len, n32c (by omega), n32 (by omega), arg_row n hn, n32lt (by omega) (by omega)]
    refine ⟨by omega, by omega, fun _ => ⟨fun q6 => ?_, fun q6 => ?_⟩, fun h => absurd (by omega) h⟩
    · have q6 := h6n.mp q6
      obtain ⟨e3, hT, hkt, htl, ha1⟩ := h6 q6
      have T := hT.fr (E.2 kt hkt.1 hkt.2)
      have m1 : m = 1 := by rw [hm, q6]; rfl
      rw [e3, Option.getD_some, hlg, Option.getD_some, T.2.2.2.2.1]
      have hnum : (Int32.ofNat t.length).toInt64 = a 1 := by
        rw [ha1, i64e, t64, n32 (by omega), n64 (by omega)]
      rw [hnum]
      have hlen : (L0 ++ (List.range m).flatMap (fun k => m_enc (a k))).length + 10 < 300000 := by
        have h1 := enc_range a m
        rw [List.length_append]
        omega
      refine ⟨is_mk B.1.1.2.1, is_mk T.2.1, is_mk hlk, bk_put (d := d) hb hlen A hlg (fun s2 w2 g2 A2 E2 hlg2 => ?_)⟩
      have eR : L0 ++ (List.range m).flatMap (fun k => m_enc (a k)) ++ m_enc (a 1) = L0 ++ (List.range 2).flatMap (fun k => m_enc (a k)) := by
        rw [m1, List.append_assoc]
        simp [List.range_succ]
      have hL1 : (L0 ++ (List.range 2).flatMap (fun k => m_enc (a k))).length < 200000 := by
        have h1 := enc_range a 2
        rw [List.length_append]
        omega
      have E2' := E.trans E2
      refine bk_log71 (σ := s2) (w := w2) (X := X) (v := v) (nu := nu) (V := V) (Cc := Cc) (L0 := L0 ++ (List.range 2).flatMap (fun k => m_enc (a k))) (t := t) (M := M) hb hkt htl hL1 (hT.fr (E2'.2 kt hkt.1 hkt.2)) (fun σ' w' gl' A' E' => K σ' w' gl' ?_ (E2'.trans E')) t.length 0 s2 w2 g2 (by omega) ?_ (Eff.rf E2.1) hlg2
      · rw [if_pos q6, q6, ← List.append_assoc]
        exact A'
      · rw [List.take_zero, List.flatMap_nil, List.append_nil, ← eR]
        exact A2
    · have q6 : ¬ n = 6 := fun z => q6 (h6n.mpr z)
      refine K s ws gs ?_ E
      rw [if_neg q6, List.append_nil]
      have : m = m_args n := by rw [hm]; unfold argC; rw [if_neg q6]
      rw [← this]
      exact A
  | succ j ih =>
    intro m s ws gs hm A E hlg
    have B := A.2.1
    have D1 : DdR s D o len n a' := hD.eq (E.2 (w D) hDw.1 hDw.2 D rfl).2
    have hlk : am_kd s lg = (2, 0) := by
      obtain ⟨lg', l1, l2⟩ := B.2.2.2.1
      rw [← Option.some.inj (l1.symm.trans hlg)]
      exact l2.2.1
    refine low (fun hL => w_Bk_logDeed_19 ⟨hL 506 (by decide), ?_⟩)
    rw [show (506 : Nat) = 500 + 6 from rfl, sr_rl (by decide), sr_rv (by decide), arg_len, n32c (by omega), n32 (by omega), arg_row n hn, n32lt (by omega) (by omega)]
    have hp := D1.pj (j := m + 1) (by omega)
    rw [Option.getD_some, D1.pa (j := m) (by omega), ha' m (by omega), hlg, Option.getD_some]
    have hlen : (L0 ++ (List.range m).flatMap (fun k => m_enc (a k))).length + 10 < 300000 := by
      have h1 := enc_range a m
      rw [List.length_append]
      omega
    refine ⟨by omega, by omega, fun h => absurd h (by omega), fun _ => ⟨is_mk B.1.1.2.1, hp.1, is_mk hlk, bk_put (d := d) hb hlen A hlg (fun s2 w2 g2 A2 E2 hlg2 => ?_)⟩⟩
    rw [n32s]
    refine ih (m + 1) s2 w2 g2 (by omega) ?_ (E.trans E2) hlg2
    rw [List.range_succ, List.flatMap_append, ← List.append_assoc]
    simp only [List.flatMap_cons, List.flatMap_nil, List.append_nil]
    exact A2
theorem bk_logDeed {kt : Nat × Nat} {tn gt : Nat} {t : List Int32} {x3 : Option Nat} {F : am_S → Prop} (hb : 1189 ≤ b ∨ b = 1039) (hn : n < 23) (h6 : n = 6 → x3 = some tn ∧ ByR σ w kt tn gt t ∧ (kt ≠ (b, 3) ∧ kt ≠ (0, 0)) ∧ t.length < 7000 ∧ a 1 = Int64.ofNat t.length) (hl : (o_log M).length < 198000) {a' : mArg} (hD : DdR σ D o len n a') (ha' : ∀ k, k < argC n → a' k = a k) (hDw : w D ≠ (b, 3) ∧ w D ≠ (0, 0)) (A : Bks σ w v X b M gl nu V Cc)
    (K : ∀ σ' w' gl', Bks σ' w' v X b (setL M (o_log M ++ m_note n a t)) gl' nu V Cc → Eff (fun q => q = (b, 3)) σ w σ' w' → F σ') : k_Bk_logDeed nl Ln xs (d + 5) b (some D) (Int32.ofNat o) x3 σ F := by
  have B := A.2.1
  obtain ⟨lg, l1, l2⟩ := B.2.2.2.1
  refine w_Bk_logDeed ⟨hD.s0, ?_⟩
  rw [Option.getD_some, hD.h0, act32 (by omega), l1, Option.getD_some]
  rintro v2 rfl
  have hnum : (Int32.ofNat n).toInt64 = Int64.ofNat n := by rw [i64e, t64, n32 (by omega), n64 (by omega)]
  rw [hnum]
  refine ⟨is_mk B.1.1.2.1, is_mk l2.2.1, bk_put (d := d) hb (by omega) A l1 (fun s2 w2 g2 A2 E2 hlg2 => ?_)⟩
  have hle := m_enc_len (Int64.ofNat n)
  have D2 : DdR s2 D o len n a' := hD.eq (E2.2 (w D) hDw.1 hDw.2 D rfl).2
  have wD2 : w2 D = w D := (E2.2 (w D) hDw.1 hDw.2 D rfl).1
  show c_Bk_logDeed_19 nl Ln xs (d + 5) b (some D) (Int32.ofNat o) x3 (Int32.ofNat n) (Int32.ofNat (0 + 1)) s2 F
  refine bk_log19 (d := d) (σ := s2) (w := w2) (kt := kt) (tn := tn) (gt := gt) (X := X) (v := v) (nu := nu) (V := V) (Cc := Cc) (lg := lg) (L0 := o_log M ++ m_enc (Int64.ofNat n)) (t := t) (M := M) hb hn (fun q => ?_) (by rw [List.length_append]; omega) D2 ha' (by rw [wD2]; exact hDw) (fun σ' w' gl' A' E' => K σ' w' gl' ?_ (E2.trans E')) (argC n) 0 s2 w2 g2 (by omega) ?_ (Eff.rf E2.1) hlg2
  · obtain ⟨e3, hT, hkt, htl, ha1⟩ := h6 q
    exact ⟨e3, hT.fr (E2.2 kt hkt.1 hkt.2), hkt, htl, ha1⟩
  · unfold m_note
    rw [← List.append_assoc]
    exact A'
  · rw [List.range_zero, List.flatMap_nil, List.append_nil]
    exact A2
end
