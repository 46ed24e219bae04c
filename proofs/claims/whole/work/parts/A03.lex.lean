/-! TEXTS OF CLAUSES: tokens, by the model and by the reference -/
def m_blank (b : Int32) : Prop := b = 32 ∨ b = 10
theorem tw_len_pos {q : Int32 → Bool} {b : Int32} {r : List Int32} (h : q b = true) : 1 ≤ ((b :: r).takeWhile q).length := by
  rw [List.takeWhile_cons_of_pos h, List.length_cons]; omega
theorem tw_le {q : Int32 → Bool} (l : List Int32) : (l.takeWhile q).length ≤ l.length := (List.takeWhile_sublist q).length_le
theorem lex_fuel : ∀ (n : Nat) (r : List Int32) (f f' i : Nat), r.length ≤ n → r.length ≤ f → r.length ≤ f' → m_lex f i r = m_lex f' i r := by
  have nil : ∀ f i, m_lex f i [] = [(30, 0, i)] := by intro f i; cases f <;> rfl
  intro n
  induction n with
  | zero =>
    intro r f f' i h1 h2 h3
    have : r = [] := List.length_eq_zero_iff.mp (by omega)
    rw [this, nil, nil]
  | succ n ih =>
    intro r f f' i h1 h2 h3
    cases r with
    | nil => rw [nil, nil]
    | cons b r =>
      rw [List.length_cons] at h1 h2 h3
      obtain ⟨f, rfl⟩ : ∃ g, f = g + 1 := ⟨f - 1, by omega⟩
      obtain ⟨f', rfl⟩ : ∃ g, f' = g + 1 := ⟨f' - 1, by omega⟩
      unfold m_lex
      split
      · exact ih r f f' (i + 1) (by omega) (by omega) (by omega)
      · split
        · rename_i hl
          have h := tw_len_pos (r := r) hl
          have hd : ((b :: r).drop ((b :: r).takeWhile m_let).length).length ≤ r.length := by rw [List.length_drop, List.length_cons]; omega
          rw [ih _ f f' _ (by omega) (by omega) (by omega)]
        · split
          · rename_i hl
            have h := tw_len_pos (r := r) hl
            have hd : ((b :: r).drop (((b :: r).takeWhile m_dig).take 9).length).length ≤ r.length := by rw [List.length_drop, List.length_cons, List.length_take]; omega
            rw [ih _ f f' _ (by omega) (by omega) (by omega)]
          · rw [ih r f f' (i + 1) (by omega) (by omega) (by omega)]
/-- the tokens from a place on -/
def m_tk (t : List Int32) (s : Nat) : List mTok := m_lex (t.length + 1) s (t.drop s)
def m_wl (t : List Int32) (s : Nat) : List Int32 := (t.drop s).takeWhile m_let
def m_dg (t : List Int32) (s : Nat) : List Int32 := (t.drop s).takeWhile m_dig
section
variable {t : List Int32} {s : Nat} {b : Int32}
theorem tk_of {f i : Nat} {r : List Int32} (h : r.length ≤ f) (hr : t.drop i = r) : m_lex f i r = m_tk t i := by
  unfold m_tk
  rw [hr]
  have : r.length ≤ t.length := by rw [← hr, List.length_drop]; omega
  exact lex_fuel r.length r f (t.length + 1) i (Nat.le_refl _) h (by omega)
theorem tk_end (h : t.length ≤ s) : m_tk t s = [(30, 0, s)] := by
  unfold m_tk
  rw [List.drop_eq_nil_of_le h]
  rfl
theorem tk_blank (h : t[s]? = some b) (hb : m_blank b) : m_tk t s = m_tk t (s + 1) := by
  have hd := drop_get h
  conv => lhs; unfold m_tk; rw [hd]; unfold m_lex
  rw [if_pos (show b = 32 ∨ b = 10 from hb)]
  have : (t.drop (s + 1)).length ≤ t.length := by rw [List.length_drop]; omega
  exact tk_of this rfl
theorem tk_word (h : t[s]? = some b) (hb : ¬ m_blank b) (hl : m_let b = true) : m_tk t s = (m_word (m_wl t s), 0, s) :: m_tk t (s + (m_wl t s).length) := by
  have hd := drop_get h
  conv => lhs; unfold m_tk; rw [hd]; unfold m_lex
  rw [if_neg (show ¬ (b = 32 ∨ b = 10) from hb), if_pos hl]
  unfold m_wl
  rw [hd]
  congr 1
  have : ((b :: t.drop (s + 1)).drop ((b :: t.drop (s + 1)).takeWhile m_let).length).length ≤ t.length := by rw [← hd, List.length_drop, List.length_drop]; omega
  refine tk_of this ?_
  rw [← hd, List.drop_drop]
theorem tk_num (h : t[s]? = some b) (hb : ¬ m_blank b) (hl : ¬ m_let b = true) (hg : m_dig b = true) : m_tk t s = (26, m_num 0 ((m_dg t s).take 9), s) :: m_tk t (s + ((m_dg t s).take 9).length) := by
  have hd := drop_get h
  conv => lhs; unfold m_tk; rw [hd]; unfold m_lex
  rw [if_neg (show ¬ (b = 32 ∨ b = 10) from hb), if_neg hl, if_pos hg]
  unfold m_dg
  rw [hd]
  congr 1
  have : ((b :: t.drop (s + 1)).drop (((b :: t.drop (s + 1)).takeWhile m_dig).take 9).length).length ≤ t.length := by rw [← hd, List.length_drop, List.length_drop]; omega
  refine tk_of this ?_
  rw [← hd, List.drop_drop]
theorem tk_sgn (h : t[s]? = some b) (hb : ¬ m_blank b) (hl : ¬ m_let b = true) (hg : ¬ m_dig b = true) : m_tk t s = (m_sgn b, 0, s) :: m_tk t (s + 1) := by
  have hd := drop_get h
  conv => lhs; unfold m_tk; rw [hd]; unfold m_lex
  rw [if_neg (show ¬ (b = 32 ∨ b = 10) from hb), if_neg hl, if_neg hg]
  congr 1
  have : (t.drop (s + 1)).length ≤ t.length := by rw [List.length_drop]; omega
  exact tk_of this rfl
/-- where the token ends -/
def m_tend (t : List Int32) (s : Nat) : Nat := if s < t.length then (if m_let (t.getD s 0) = true then s + (m_wl t s).length else if m_dig (t.getD s 0) = true then s + (m_dg t s).length else s + 1) else s
def m_knd (t : List Int32) (s : Nat) : Int32 := if s < t.length then (if m_let (t.getD s 0) = true then 1 else if m_dig (t.getD s 0) = true then 2 else if t.getD s 0 = 40 then 40 else if t.getD s 0 = 41 then 41 else if t.getD s 0 = 59 then 59 else 3) else 0
end
def TxR (σ : am_S) (o : Nat) (t : List Int32) : Prop := t.length ≤ 400 ∧ (∀ b ∈ t, 0 ≤ b.toInt) ∧ am_fI σ 13091 o = Int32.ofNat t.length ∧ rwI σ (o + 62) t (fun b => b)
/-- the token at s -/
def TkR (σ : am_S) (o : Nat) (t : List Int32) (s : Nat) : Prop := s ≤ t.length ∧ (∀ b, t[s]? = some b → ¬ m_blank b) ∧ am_fI σ 13093 o = Int32.ofNat s ∧ am_fI σ 13094 o = m_knd t s ∧ am_fI σ 13092 o = Int32.ofNat (m_tend t s) ∧ am_fI σ 13095 o = Int32.ofNat (m_tend t s) ∧ (m_knd t s = 2 → am_fL σ 13096 o = (m_num 0 ((m_dg t s).take 9)).toInt64)
def stF : List Nat := [13092, 13093, 13094, 13095, 13096]
section
variable {nl : Bool} {Ln : Nat} {xs : Nat → Int32} {d : Nat} {σ : am_S} {o : Nat} {t : List Int32}
theorem TxR.rc {σ1 : am_S} {fs as : List Nat} (h : TxR σ o t) (hr : Rc o fs as [] σ σ1) (h0 : 1063 ≤ o) (hf : 13091 ∉ fs) (ha : 62 ∉ as) : TxR σ1 o t := ⟨h.1, h.2.1, (hr.fI hf).trans h.2.2.1, h.2.2.2.eq fun i => hr.aI h0 (by simp) ha⟩
theorem tw_get {q : Int32 → Bool} : ∀ (l : List Int32) (k : Nat), k < (l.takeWhile q).length → ∃ b, l[k]? = some b ∧ q b = true ∧ (l.takeWhile q)[k]? = some b
  | [], k, h => absurd h (Nat.not_lt_zero _)
  | x :: l, k, h => by
    by_cases hx : q x = true
    · rw [List.takeWhile_cons_of_pos hx] at h ⊢
      cases k with
      | zero => exact ⟨x, rfl, hx, rfl⟩
      | succ k =>
        rw [List.length_cons] at h
        obtain ⟨b, h1, h2, h3⟩ := tw_get (q := q) l k (by omega)
        exact ⟨b, h1, h2, h3⟩
    · rw [List.takeWhile_cons_of_neg hx] at h
      exact absurd h (Nat.not_lt_zero _)
theorem tw_stop {q : Int32 → Bool} : ∀ (l : List Int32) (b : Int32), l[(l.takeWhile q).length]? = some b → q b = false
  | [], b, h => by cases h
  | x :: l, b, h => by
    by_cases hx : q x = true
    · rw [List.takeWhile_cons_of_pos hx, List.length_cons, List.getElem?_cons_succ] at h
      exact tw_stop l b h
    · rw [List.takeWhile_cons_of_neg hx] at h
      cases h
      simpa using hx
theorem num_snoc : ∀ (l : List Int32) (v b : Int32), m_num v (l ++ [b]) = 10 * m_num v l + b - 48
  | [], v, b => rfl
  | x :: l, v, b => by rw [List.cons_append, m_num, m_num]; exact num_snoc l _ b
theorem dig_rng {b : Int32} (h : m_dig b = true) : 48 ≤ b.toInt ∧ b.toInt ≤ 57 := of_decide_eq_true h
theorem num_rng : ∀ (k : Nat) (l : List Int32), k ≤ 9 → (∀ b ∈ l, m_dig b = true) → l.length = k → 0 ≤ (m_num 0 l).toInt ∧ (m_num 0 l).toInt < 10 ^ k
  | 0, l, _, _, hl => by
    have : l = [] := List.length_eq_zero_iff.mp hl
    rw [this]
    exact ⟨by decide, by decide⟩
  | k + 1, l, hk, hd, hl => by
    have hne : l ≠ [] := fun q => by rw [q] at hl; cases hl
    have e := List.dropLast_concat_getLast hne
    have ih := num_rng k l.dropLast (by omega) (fun b hb => hd b (List.dropLast_subset l hb)) (by rw [List.length_dropLast]; omega)
    have hb := dig_rng (hd _ (List.getLast_mem hne))
    have p10 : (10 : Int) ^ k ≤ 10 ^ 8 := by
      have : k ≤ 8 := by omega
      exact_mod_cast Nat.pow_le_pow_right (by decide : 0 < 10) this
    have a10 : (10 : Int32).toInt = 10 := by decide
    have a48 : (48 : Int32).toInt = 48 := by decide
    rw [← e, num_snoc]
    have h1 : (10 * m_num 0 l.dropLast).toInt = 10 * (m_num 0 l.dropLast).toInt := by rw [i32mul (by rw [a10]; omega) (by rw [a10]; omega), a10]
    have h2 : (10 * m_num 0 l.dropLast + l.getLast hne).toInt = 10 * (m_num 0 l.dropLast).toInt + (l.getLast hne).toInt := by rw [i32add (by rw [h1]; omega) (by rw [h1]; omega), h1]
    rw [i32sub (by rw [h2, a48]; omega) (by rw [h2, a48]; omega), h2, a48, Int.pow_succ]
    omega
theorem r_step {F : am_S → Prop} (hK : OffK σ o) (hT : TxR σ o t) : ∀ (n p : Nat) (σ1 : am_S), p + n = t.length → am_fI σ1 13092 o = Int32.ofNat p → Rc o stF [] [] σ σ1 → (∀ σ' s, p ≤ s → m_tk t s = m_tk t p → TkR σ' o t s → Rc o stF [] [] σ σ' → F σ') → c_Ro_step_0 nl Ln xs (d + 2) o σ1 F := by
  have lo := hK.lo
  have hlen := hT.1
  have z97 : (97 : Int64).toInt = 97 := by decide
  have z122 : (122 : Int64).toInt = 122 := by decide
  have z48 : (48 : Int64).toInt = 48 := by decide
  have z57 : (57 : Int64).toInt = 57 := by decide
  -- the token itself
  have tok : ∀ (p : Nat) (σ1 : am_S), p ≤ t.length → (∀ b, t[p]? = some b → ¬ m_blank b) → am_fI σ1 13092 o = Int32.ofNat p → Rc o stF [] [] σ σ1 → (∀ σ', TkR σ' o t p → Rc o stF [] [] σ σ' → F σ') → c_Ro_step_52 nl Ln xs (d + 2) o σ1 F := by
    intro p σ1 hp hnb h92 r1 K
    have hK1 := hK.rc r1
    refine w_Ro_step_52 ⟨is_mk hK1.2.1, ?_⟩
    rw [h92]
    intro s2 q2
    have r2 : Rc o stF [] [] σ s2 := r1.trans (by rw [q2]; exact Rc.sfI (by decide) (Or.inl rfl))
    have r2' : Rc o [13093] [] [] σ1 s2 := by rw [q2]; exact Rc.sfI (by decide) (Or.inl rfl)
    have hK2 := hK.rc r2
    have T2 := hT.rc r2 lo (by decide) (by simp)
    have a93 : am_fI s2 13093 o = Int32.ofNat p := by rw [q2]; exact rI_same
    have a92 : am_fI s2 13092 o = Int32.ofNat p := (r2'.fI (by decide)).trans h92
    have hi32 : (Int32.ofNat p < Int32.ofNat t.length) ↔ p < t.length := n32lt (by omega) (by omega)
    rw [a92, T2.2.2.1, oG_13090 hK2, n32c (by omega)]
    refine ⟨fun h => oA_13090 hK2 (by rw [n32 (by omega)]; omega) (by rw [n32 (by omega)]; have := hi32.mp h; omega), ?_⟩
    intro y0 ey
    by_cases hlt : p < t.length
    · obtain ⟨b, hb⟩ := get_ex hlt
      have hgb : t.getD p 0 = b := getD_of 0 hb
      have hnb' := hnb b hb
      rw [if_pos (hi32.mpr hlt), show am_aI s2 (o + 62) p = b from T2.2.2.2 p b hb] at ey
      have hb0 := hT.2.1 b (List.mem_of_getElem? hb)
      have hne : ¬ y0 = -1 := by
        intro q
        rw [ey] at q
        rw [q] at hb0
        exact absurd hb0 (by decide)
      refine w_Ro_step_84 ⟨fun q => absurd q hne, fun _ => ?_⟩
      rw [ey]
      have ew : m_wl t p = (t.drop p).takeWhile m_let := rfl
      have eg : m_dg t p = (t.drop p).takeWhile m_dig := rfl
      have hwl := tw_le (q := m_let) (t.drop p)
      have hdl := tw_le (q := m_dig) (t.drop p)
      rw [← ew, List.length_drop] at hwl
      rw [← eg, List.length_drop] at hdl
      have at' : ∀ (k : Nat) (c : Int32), t[p + k]? = some c ↔ (t.drop p)[k]? = some c := fun k c => by rw [List.getElem?_drop]
      refine r_in (fun c1 c2 => ⟨is_mk hK2.2.1, ?_⟩) (fun cl => ?_)
      · rw [t64, z97] at c1
        rw [t64, z122] at c2
        have hl : m_let b = true := decide_eq_true ⟨c1, c2⟩
        have ek : m_knd t p = 1 := by unfold m_knd; rw [if_pos hlt, hgb, if_pos hl]
        have ee : m_tend t p = p + (m_wl t p).length := by unfold m_tend; rw [if_pos hlt, hgb, if_pos hl]
        intro s13 q13
        have r13 : Rc o [13094] [] [] s2 s13 := by rw [q13]; exact Rc.sfI (by decide) (Or.inl rfl)
        have b94 : am_fI s13 13094 o = 1 := by rw [q13]; exact rI_same
        have wd : ∀ (j k : Nat) (s : am_S), k + j = (m_wl t p).length → Rc o [13092] [] [] s13 s → am_fI s 13092 o = Int32.ofNat (p + k) → c_Ro_step_117 nl Ln xs (d + 2) o b s F := by
          intro j
          induction j with
          | zero =>
            intro k s hk rs e92
            have rs' : Rc o stF [] [] σ s := r2.trans ((r13.mono (by decide) (by simp) (by simp)).trans (rs.mono (by decide) (by simp) (by simp)))
            have hKs := hK.rc rs'
            have Ts := hT.rc rs' lo (by decide) (by simp)
            have fin : ∀ s10, s10 = am_sfI s 13095 o (Int32.ofNat (p + k)) → F s10 := by
              intro s10 q10
              have r10 : Rc o [13095] [] [] s s10 := by rw [q10]; exact Rc.sfI (by decide) (Or.inl rfl)
              refine K s10 ⟨hp, hnb, (r10.fI (by decide)).trans ((rs.fI (by decide)).trans ((r13.fI (by decide)).trans a93)), ?_, ?_, ?_, fun q => ?_⟩ (rs'.trans (r10.mono (by decide) (by simp) (by simp)))
              · rw [ek, r10.fI (by decide), rs.fI (by decide)]; exact b94
              · rw [ee, r10.fI (by decide), e92, show k = (m_wl t p).length by omega]
              · rw [ee, q10, show k = (m_wl t p).length by omega]; exact rI_same
              · rw [ek] at q; exact absurd q (by decide)
            refine w_Ro_step_117 ⟨is_mk hKs.2.1, fun h => ?_, fun h => ?_⟩
            · rw [e92, Ts.2.2.1, n32lt (by omega) (by omega)] at h
              obtain ⟨c, hc⟩ := get_ex h
              have vc : am_aI s (o + 62) (p + k) = c := Ts.2.2.2 _ c hc
              have hnl : m_let c = false := tw_stop (t.drop p) c (by rw [← ew, ← at', show (m_wl t p).length = k by omega]; exact hc)
              rw [e92, oG_13090 hKs, n32c (by omega), vc]
              refine ⟨oA_13090 hKs (by rw [n32 (by omega)]; omega) (by rw [n32 (by omega)]; omega), r_in (fun d1 d2 => ?_) (fun _ => ?_)⟩
              · rw [t64, z97] at d1
                rw [t64, z122] at d2
                have : m_let c = true := decide_eq_true ⟨d1, d2⟩
                rw [this] at hnl
                cases hnl
              · exact fun s10 q10 => fin s10 (by rw [q10, e92])
            · exact fun s13' q13' => fin s13' (by rw [q13', e92])
          | succ j ih =>
            intro k s hk rs e92
            have rs' : Rc o stF [] [] σ s := r2.trans ((r13.mono (by decide) (by simp) (by simp)).trans (rs.mono (by decide) (by simp) (by simp)))
            have hKs := hK.rc rs'
            have Ts := hT.rc rs' lo (by decide) (by simp)
            obtain ⟨c, hc, hcl, -⟩ := tw_get (q := m_let) (t.drop p) k (by rw [← ew]; omega)
            rw [← at'] at hc
            have hlt' := lt_of_get hc
            have vc : am_aI s (o + 62) (p + k) = c := Ts.2.2.2 _ c hc
            refine w_Ro_step_117 ⟨is_mk hKs.2.1, fun _ => ?_, fun h => absurd (by rw [e92, Ts.2.2.1, n32lt (by omega) (by omega)]; exact hlt') h⟩
            rw [e92, oG_13090 hKs, n32c (by omega), vc]
            have hcr : 97 ≤ c.toInt ∧ c.toInt ≤ 122 := of_decide_eq_true hcl
            refine ⟨oA_13090 hKs (by rw [n32 (by omega)]; omega) (by rw [n32 (by omega)]; omega), r_in (fun _ _ => ?_) (fun q => absurd ⟨by rw [t64, z97]; exact hcr.1, by rw [t64, z122]; exact hcr.2⟩ q)⟩
            rw [e92, n32s]
            intro s7 q7
            have r7 : Rc o [13092] [] [] s s7 := by rw [q7]; exact Rc.sfI (by decide) (Or.inl rfl)
            exact ih (k + 1) s7 (by omega) (rs.trans r7) (by rw [q7]; exact rI_same)
        exact wd (m_wl t p).length 0 s13 (by omega) Rc.rf ((r13.fI (by decide)).trans a92)
      · have hl : ¬ m_let b = true := fun q => by
          have q : 97 ≤ b.toInt ∧ b.toInt ≤ 122 := of_decide_eq_true q
          exact cl ⟨by rw [t64, z97]; exact q.1, by rw [t64, z122]; exact q.2⟩
        refine r_in (fun c1 c2 => ⟨is_mk hK2.2.1, ?_⟩) (fun cg w30 e30 => ⟨is_mk hK2.2.1, ?_⟩)
        · rw [t64, z48] at c1
          rw [t64, z57] at c2
          have hg : m_dig b = true := decide_eq_true ⟨c1, c2⟩
          have ek : m_knd t p = 2 := by unfold m_knd; rw [if_pos hlt, hgb, if_neg hl, if_pos hg]
          have ee : m_tend t p = p + (m_dg t p).length := by unfold m_tend; rw [if_pos hlt, hgb, if_neg hl, if_pos hg]
          intro s20 q20 s23 q23
          have r20 : Rc o [13094] [] [] s2 s20 := by rw [q20]; exact Rc.sfI (by decide) (Or.inl rfl)
          have r23 : Rc o [13096] [] [] s20 s23 := by rw [q23]; exact Rc.sfL (by decide) (Or.inl rfl)
          have b94 : am_fI s23 13094 o = 2 := (r23.fI (by decide)).trans (by rw [q20]; exact rI_same)
          have b93 : am_fI s23 13093 o = Int32.ofNat p := (r23.fI (by decide)).trans ((r20.fI (by decide)).trans a93)
          have R23 : Rc o stF [] [] σ s23 := r2.trans ((r20.mono (by decide) (by simp) (by simp)).trans (r23.mono (by decide) (by simp) (by simp)))
          have hall : ∀ k, ∀ c ∈ (m_dg t p).take k, m_dig c = true := by
            intro k c hc
            obtain ⟨i, hi⟩ := List.getElem?_of_mem (List.mem_of_mem_take hc)
            have hil := lt_of_get hi
            obtain ⟨c', h1, h2, h3⟩ := tw_get (q := m_dig) (t.drop p) i (by rw [← eg]; exact hil)
            rw [← eg, hi] at h3
            cases h3
            exact h2
          have nd : ∀ (j k : Nat) (s : am_S), k + j = (m_dg t p).length → Rc o [13092, 13096] [] [] s23 s → am_fI s 13092 o = Int32.ofNat (p + k) → am_fL s 13096 o = (m_num 0 ((m_dg t p).take (min k 9))).toInt64 → c_Ro_step_187 nl Ln xs (d + 2) o b s F := by
            intro j
            induction j with
            | zero =>
              intro k s hk rs e92 e96
              have rs' : Rc o stF [] [] σ s := R23.trans (rs.mono (by decide) (by simp) (by simp))
              have hKs := hK.rc rs'
              have Ts := hT.rc rs' lo (by decide) (by simp)
              have fin : ∀ s10, s10 = am_sfI s 13095 o (Int32.ofNat (p + k)) → F s10 := by
                intro s10 q10
                have r10 : Rc o [13095] [] [] s s10 := by rw [q10]; exact Rc.sfI (by decide) (Or.inl rfl)
                refine K s10 ⟨hp, hnb, (r10.fI (by decide)).trans ((rs.fI (by decide)).trans b93), ?_, ?_, ?_, fun q => ?_⟩ (rs'.trans (r10.mono (by decide) (by simp) (by simp)))
                · rw [ek, r10.fI (by decide), rs.fI (by decide)]; exact b94
                · rw [ee, r10.fI (by decide), e92, show k = (m_dg t p).length by omega]
                · rw [ee, q10, show k = (m_dg t p).length by omega]; exact rI_same
                · rw [r10.fL (by decide), e96]
                  have : (m_dg t p).take (min k 9) = (m_dg t p).take 9 := by
                    rcases Nat.le_total k 9 with h | h
                    · rw [Nat.min_eq_left h, List.take_of_length_le (by omega), List.take_of_length_le (by omega)]
                    · rw [Nat.min_eq_right h]
                  rw [this]
              refine w_Ro_step_187 ⟨is_mk hKs.2.1, fun h => ?_, fun h => ?_⟩
              · rw [e92, Ts.2.2.1, n32lt (by omega) (by omega)] at h
                obtain ⟨c, hc⟩ := get_ex h
                have vc : am_aI s (o + 62) (p + k) = c := Ts.2.2.2 _ c hc
                have hnl : m_dig c = false := tw_stop (t.drop p) c (by rw [← eg, ← at', show (m_dg t p).length = k by omega]; exact hc)
                rw [e92, oG_13090 hKs, n32c (by omega), vc]
                refine ⟨oA_13090 hKs (by rw [n32 (by omega)]; omega) (by rw [n32 (by omega)]; omega), r_in (fun d1 d2 => ?_) (fun _ => ?_)⟩
                · rw [t64, z48] at d1
                  rw [t64, z57] at d2
                  have : m_dig c = true := decide_eq_true ⟨d1, d2⟩
                  rw [this] at hnl
                  cases hnl
                · exact fun s10 q10 => fin s10 (by rw [q10, e92])
              · exact fun s13' q13' => fin s13' (by rw [q13', e92])
            | succ j ih =>
              intro k s hk rs e92 e96
              have rs' : Rc o stF [] [] σ s := R23.trans (rs.mono (by decide) (by simp) (by simp))
              have hKs := hK.rc rs'
              have Ts := hT.rc rs' lo (by decide) (by simp)
              obtain ⟨c, hc, hcl, hcg⟩ := tw_get (q := m_dig) (t.drop p) k (by rw [← eg]; omega)
              rw [← at'] at hc
              rw [← eg] at hcg
              have hlt' := lt_of_get hc
              have vc : am_aI s (o + 62) (p + k) = c := Ts.2.2.2 _ c hc
              have hcr := dig_rng hcl
              have e93 : am_fI s 13093 o = Int32.ofNat p := (rs.fI (by decide)).trans b93
              have hsub : Int32.ofNat (p + k) - Int32.ofNat p = Int32.ofNat k := by rw [← n32a]; grind
              refine w_Ro_step_187 ⟨is_mk hKs.2.1, fun _ => ?_, fun h => absurd (by rw [e92, Ts.2.2.1, n32lt (by omega) (by omega)]; exact hlt') h⟩
              have oA : am_ar s 1000 (am_fR s 13090 o) (Int32.ofNat (p + k)) := oA_13090 hKs (by rw [n32 (by omega)]; omega) (by rw [n32 (by omega)]; omega)
              rw [e92, oG_13090 hKs, n32c (by omega), vc]
              refine ⟨oA, r_in (fun _ _ => ?_) (fun q => absurd ⟨by rw [t64, z48]; exact hcr.1, by rw [t64, z57]; exact hcr.2⟩ q)⟩
              rw [e92, e93, oG_13090 hKs, n32c (by omega), vc, hsub, e96]
              refine ⟨fun _ => oA, ?_⟩
              intro w10 e10 s12 q12
              have r12 : Rc o [13096] [] [] s s12 := by rw [q12]; exact Rc.sfL (by decide) (Or.inl rfl)
              rw [(r12.fI (by decide)).trans e92, n32s]
              intro s15 q15
              have r15 : Rc o [13092] [] [] s12 s15 := by rw [q15]; exact Rc.sfI (by decide) (Or.inl rfl)
              refine ih (k + 1) s15 (by omega) (rs.trans ((r12.mono (by decide) (by simp) (by simp)).trans (r15.mono (by decide) (by simp) (by simp)))) (by rw [q15]; exact rI_same) ?_
              rw [r15.fL (by decide), q12]
              refine rL_same.trans ?_
              rw [e10]
              have h9 : (Int32.ofNat k < 9) ↔ k < 9 := by rw [show (9 : Int32) = Int32.ofNat 9 from rfl, n32lt (by omega) (by omega)]
              by_cases hk9 : k < 9
              · rw [if_pos (h9.mpr hk9), Nat.min_eq_left (by omega), Nat.min_eq_left (by omega)]
                have hts : (m_dg t p).take (k + 1) = (m_dg t p).take k ++ [c] := by
                  rw [List.take_add_one, hcg]; rfl
                rw [hts, num_snoc]
                have hv := num_rng k ((m_dg t p).take k) (by omega) (hall k) (by rw [List.length_take]; omega)
                have p10 : (10 : Int) ^ k ≤ 10 ^ 8 := by
                  have : k ≤ 8 := by omega
                  exact_mod_cast Nat.pow_le_pow_right (by decide : 0 < 10) this
                have a10 : (10 : Int32).toInt = 10 := by decide
                have a48 : (48 : Int32).toInt = 48 := by decide
                have c10 : (10 : Int64).toInt = 10 := by decide
                have g1 : (10 * m_num 0 ((m_dg t p).take k)).toInt = 10 * (m_num 0 ((m_dg t p).take k)).toInt := by rw [i32mul (by rw [a10]; omega) (by rw [a10]; omega), a10]
                have g2 : (10 * m_num 0 ((m_dg t p).take k) + c).toInt = 10 * (m_num 0 ((m_dg t p).take k)).toInt + c.toInt := by rw [i32add (by rw [g1]; omega) (by rw [g1]; omega), g1]
                have f1 : ((10 : Int64) * (m_num 0 ((m_dg t p).take k)).toInt64).toInt = 10 * (m_num 0 ((m_dg t p).take k)).toInt := by rw [i64mul (by rw [c10, t64]; omega) (by rw [c10, t64]; omega), c10, t64]
                have f2 : ((10 : Int64) * (m_num 0 ((m_dg t p).take k)).toInt64 + c.toInt64).toInt = 10 * (m_num 0 ((m_dg t p).take k)).toInt + c.toInt := by rw [i64add (by rw [f1, t64]; omega) (by rw [f1, t64]; omega), f1, t64]
                apply Int64.toInt_inj.mp
                rw [t64, i32sub (by rw [g2, a48]; omega) (by rw [g2, a48]; omega), g2, a48, i64sub (by rw [f2, z48]; omega) (by rw [f2, z48]; omega), f2, z48]
              · rw [if_neg (fun q => hk9 (h9.mp q)), Nat.min_eq_right (by omega), Nat.min_eq_right (by omega)]
          exact nd (m_dg t p).length 0 s23 (by omega) Rc.rf ((r23.fI (by decide)).trans ((r20.fI (by decide)).trans a92)) (by rw [q23]; exact rL_same)
        · have hg : ¬ m_dig b = true := fun q => by
            have q := dig_rng q
            exact cg ⟨by rw [t64, z48]; exact q.1, by rw [t64, z57]; exact q.2⟩
          have ek : m_knd t p = w30 := by
            unfold m_knd
            rw [if_pos hlt, hgb, if_neg hl, if_neg hg, e30]
            by_cases k1 : b = 40
            · rw [if_pos k1, if_pos k1, k1]
            · rw [if_neg k1, if_neg k1]
              by_cases k2 : b = 41
              · rw [if_pos k2, if_pos k2, k2]
              · rw [if_neg k2, if_neg k2]
                by_cases k3 : b = 59
                · rw [if_pos k3, if_pos k3, k3]
                · rw [if_neg k3, if_neg k3]
          have ee : m_tend t p = p + 1 := by unfold m_tend; rw [if_pos hlt, hgb, if_neg hl, if_neg hg]
          intro s33 q33
          have r33 : Rc o [13094] [] [] s2 s33 := by rw [q33]; exact Rc.sfI (by decide) (Or.inl rfl)
          rw [(r33.fI (by decide)).trans a92, n32s]
          intro s36 q36
          have r36 : Rc o [13092] [] [] s33 s36 := by rw [q36]; exact Rc.sfI (by decide) (Or.inl rfl)
          have c92 : am_fI s36 13092 o = Int32.ofNat (p + 1) := by rw [q36]; exact rI_same
          rw [c92]
          intro s39 q39
          have r39 : Rc o [13095] [] [] s36 s39 := by rw [q39]; exact Rc.sfI (by decide) (Or.inl rfl)
          refine K s39 ⟨hp, hnb, (r39.fI (by decide)).trans ((r36.fI (by decide)).trans ((r33.fI (by decide)).trans a93)), ?_, ?_, ?_, fun q => ?_⟩ (r2.trans ((r33.mono (by decide) (by simp) (by simp)).trans ((r36.mono (by decide) (by simp) (by simp)).trans (r39.mono (by decide) (by simp) (by simp)))))
          · rw [ek, r39.fI (by decide), r36.fI (by decide), q33]; exact rI_same
          · rw [ee, r39.fI (by decide)]; exact c92
          · rw [ee, q39]; exact rI_same
          · exfalso
            unfold m_knd at q
            rw [if_pos hlt, hgb, if_neg hl, if_neg hg] at q
            by_cases k1 : b = 40
            · rw [if_pos k1] at q; exact absurd q (by decide)
            · rw [if_neg k1] at q
              by_cases k2 : b = 41
              · rw [if_pos k2] at q; exact absurd q (by decide)
              · rw [if_neg k2] at q
                by_cases k3 : b = 59
                · rw [if_pos k3] at q; exact absurd q (by decide)
                · rw [if_neg k3] at q; exact absurd q (by decide)
    · have ep : p = t.length := by omega
      rw [if_neg (fun q => hlt (hi32.mp q))] at ey
      refine w_Ro_step_84 ⟨fun _ => ⟨is_mk hK2.2.1, ?_⟩, fun q => absurd ey q⟩
      intro s3 q3
      have r3 : Rc o [13094] [] [] s2 s3 := by rw [q3]; exact Rc.sfI (by decide) (Or.inl rfl)
      rw [(r3.fI (by decide)).trans a92]
      intro s6 q6
      have r6 : Rc o [13095] [] [] s3 s6 := by rw [q6]; exact Rc.sfI (by decide) (Or.inl rfl)
      have ek : m_knd t p = 0 := by unfold m_knd; rw [if_neg hlt]
      have ee : m_tend t p = p := by unfold m_tend; rw [if_neg hlt]
      refine K s6 ⟨hp, hnb, (r6.fI (by decide)).trans ((r3.fI (by decide)).trans a93), ?_, ?_, ?_, fun q => ?_⟩ (r2.trans ((r3.mono (by decide) (by simp) (by simp)).trans (r6.mono (by decide) (by simp) (by simp))))
      · rw [ek, r6.fI (by decide), q3]; exact rI_same
      · rw [ee, r6.fI (by decide), r3.fI (by decide)]; exact a92
      · rw [ee, q6]; exact rI_same
      · rw [ek] at q; exact absurd q (by decide)
  intro n
  induction n with
  | zero =>
    intro p σ1 hp h92 r1 K
    have hK1 := hK.rc r1
    have T1 := hT.rc r1 lo (by decide) (by simp)
    refine w_Ro_step_0 ⟨is_mk hK1.2.1, ?_, fun _ => ?_⟩
    · rw [h92, T1.2.2.1, n32lt (by omega) (by omega)]
      exact fun q => absurd q (by omega)
    · exact tok p σ1 (by omega) (fun b hb => absurd (lt_of_get hb) (by omega)) h92 r1 (fun σ' hk hr => K σ' p (Nat.le_refl _) rfl hk hr)
  | succ n ih =>
    intro p σ1 hp h92 r1 K
    have hK1 := hK.rc r1
    have T1 := hT.rc r1 lo (by decide) (by simp)
    obtain ⟨b, hb⟩ := get_ex (show p < t.length by omega)
    have vb : am_aI σ1 (o + 62) p = b := T1.2.2.2 p b hb
    have bp : 0 ≤ (Int32.ofNat p).toInt ∧ (Int32.ofNat p).toInt < 400 := by rw [n32 (by omega)]; omega
    have go : m_blank b → ∀ s5, s5 = am_sfI σ1 13092 o (Int32.ofNat (p + 1)) → c_Ro_step_0 nl Ln xs (d + 2) o s5 F := by
      intro hbl s5 q5
      have r5 : Rc o stF [] [] σ1 s5 := by rw [q5]; exact Rc.sfI (by decide) (Or.inl rfl)
      refine ih (p + 1) s5 (by omega) (by rw [q5]; exact rI_same) (r1.trans r5) (fun σ' s hs hk hkr hr => K σ' s (by omega) ?_ hkr hr)
      rw [hk, tk_blank hb hbl]
    refine w_Ro_step_0 ⟨is_mk hK1.2.1, fun _ => ?_, fun q => absurd (by rw [h92, T1.2.2.1, n32lt (by omega) (by omega)]; omega) q⟩
    rw [h92, oG_13090 hK1, n32c (by omega), vb, n32s]
    refine ⟨oA_13090 hK1 bp.1 bp.2, fun h => go (Or.inl h), fun h => ⟨oA_13090 hK1 bp.1 bp.2, fun h2 => go (Or.inr h2), fun h2 => ?_⟩⟩
    refine tok p σ1 (by omega) (fun b' hb' => ?_) h92 r1 (fun σ' hk hr => K σ' p (Nat.le_refl _) rfl hk hr)
    rw [hb] at hb'
    cases hb'
    rintro (q | q)
    · exact h q
    · exact h2 q
end
