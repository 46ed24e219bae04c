/-! TOKENS: what the reference asks of them -/
theorem wdi_eq (r : List Int32) : ∀ (l : List (List Int32)) (k : Nat), l.Nodup → k + l.length ≤ 31 → ∀ i, i < l.length → (m_wdi r k l = k + i ↔ l[i]? = some r)
  | [], k, _, _, i, hi => absurd hi (Nat.not_lt_zero _)
  | x :: l, k, hn, hk, i, hi => by
    rw [List.nodup_cons] at hn
    rw [List.length_cons] at hk hi
    rw [m_wdi]
    have big : ∀ (l : List (List Int32)) (k : Nat), k + l.length ≤ 31 → k ≤ m_wdi r k l := by
      intro l
      induction l with
      | nil => intro k hk; rw [m_wdi]; simp at hk; omega
      | cons y l ih =>
        intro k hk
        rw [m_wdi]
        rw [List.length_cons] at hk
        split
        · omega
        · have := ih (k + 1) (by omega)
          omega
    by_cases hx : x = r
    · rw [if_pos hx]
      cases i with
      | zero => simp [hx]
      | succ i =>
        rw [List.getElem?_cons_succ]
        constructor
        · intro h; omega
        · intro h
          rw [hx] at hn
          exact absurd (List.mem_of_getElem? h) hn.1
    · rw [if_neg hx]
      cases i with
      | zero =>
        have := big l (k + 1) (by omega)
        simp only [List.getElem?_cons_zero, Option.some.injEq, Nat.add_zero]
        constructor
        · intro h; omega
        · intro h; exact absurd h hx
      | succ i =>
        rw [List.getElem?_cons_succ, ← wdi_eq r l (k + 1) hn.2 (by omega) i (by omega)]
        rw [show k + 1 + i = k + (i + 1) by omega]
theorem wd_nodup : m_wd.Nodup := by decide +kernel
theorem word_eq {r : List Int32} {i : Nat} (hi : i < 26) : m_word r = i ↔ m_wd[i]? = some r := by
  have h := wdi_eq r m_wd 0 wd_nodup (by decide) i (by exact hi)
  rw [Nat.zero_add] at h
  exact h
theorem word_rng (r : List Int32) : m_word r < 26 ∨ m_word r = 31 := by
  have : ∀ (l : List (List Int32)) (k : Nat), m_wdi r k l < k + l.length ∨ m_wdi r k l = 31 := by
    intro l
    induction l with
    | nil => intro k; right; rfl
    | cons y l ih =>
      intro k
      rw [m_wdi, List.length_cons]
      split
      · left; omega
      · rcases ih (k + 1) with h | h
        · left; omega
        · right; exact h
  rcases this m_wd 0 with h | h
  · left; exact h
  · right; exact h
section
variable {t : List Int32} {s : Nat}
/-- the first token at a place that is not blank -/
theorem hd_at (hs : s ≤ t.length) (hnb : ∀ b, t[s]? = some b → ¬ m_blank b) : (m_hd (m_tk t s)).2.2 = s ∧
    (m_knd t s = 0 → m_tk t s = [(30, 0, s)]) ∧
    (m_knd t s = 1 → m_tk t s = (m_word (m_wl t s), 0, s) :: m_tk t (m_tend t s) ∧ 1 ≤ (m_wl t s).length ∧ m_tend t s = s + (m_wl t s).length ∧ m_tend t s ≤ t.length) ∧
    (m_knd t s = 2 → m_tk t s = (26, m_num 0 ((m_dg t s).take 9), s) :: m_tk t (s + ((m_dg t s).take 9).length) ∧ 1 ≤ (m_dg t s).length ∧ m_tend t s = s + (m_dg t s).length ∧ m_tend t s ≤ t.length) ∧
    (m_knd t s ≠ 0 → m_knd t s ≠ 1 → m_knd t s ≠ 2 → m_tk t s = (m_sgn (t.getD s 0), 0, s) :: m_tk t (m_tend t s) ∧ m_tend t s = s + 1 ∧ m_tend t s ≤ t.length ∧ m_knd t s = (if t.getD s 0 = 40 then 40 else if t.getD s 0 = 41 then 41 else if t.getD s 0 = 59 then 59 else 3)) := by
  by_cases hlt : s < t.length
  · obtain ⟨b, hb⟩ := get_ex hlt
    have hgb : t.getD s 0 = b := getD_of 0 hb
    have hn := hnb b hb
    have hd := drop_get hb
    have hwl := tw_le (q := m_let) (t.drop s)
    have hdl := tw_le (q := m_dig) (t.drop s)
    rw [List.length_drop] at hwl hdl
    by_cases hl : m_let b = true
    · have ek : m_knd t s = 1 := by unfold m_knd; rw [if_pos hlt, hgb, if_pos hl]
      have ee : m_tend t s = s + (m_wl t s).length := by unfold m_tend; rw [if_pos hlt, hgb, if_pos hl]
      have e := tk_word hb hn hl
      have h1 : 1 ≤ (m_wl t s).length := by unfold m_wl; rw [hd]; exact tw_len_pos hl
      have h2 : (m_wl t s).length ≤ t.length - s := hwl
      refine ⟨by rw [e]; rfl, fun q => ?_, fun _ => ⟨by rw [ee]; exact e, h1, ee, by omega⟩, fun q => ?_, fun _ q => absurd ek q⟩
      · rw [ek] at q; exact absurd q (by decide)
      · rw [ek] at q; exact absurd q (by decide)
    · by_cases hg : m_dig b = true
      · have ek : m_knd t s = 2 := by unfold m_knd; rw [if_pos hlt, hgb, if_neg hl, if_pos hg]
        have ee : m_tend t s = s + (m_dg t s).length := by unfold m_tend; rw [if_pos hlt, hgb, if_neg hl, if_pos hg]
        have e := tk_num hb hn hl hg
        have h1 : 1 ≤ (m_dg t s).length := by unfold m_dg; rw [hd]; exact tw_len_pos hg
        have h2 : (m_dg t s).length ≤ t.length - s := hdl
        refine ⟨by rw [e]; rfl, fun q => ?_, fun q => ?_, fun _ => ⟨e, h1, ee, by omega⟩, fun _ _ q => absurd ek q⟩
        · rw [ek] at q; exact absurd q (by decide)
        · rw [ek] at q; exact absurd q (by decide)
      · have ek : m_knd t s = (if b = 40 then 40 else if b = 41 then 41 else if b = 59 then 59 else 3) := by unfold m_knd; rw [if_pos hlt, hgb, if_neg hl, if_neg hg]
        have ee : m_tend t s = s + 1 := by unfold m_tend; rw [if_pos hlt, hgb, if_neg hl, if_neg hg]
        have e := tk_sgn hb hn hl hg
        have hk : m_knd t s = 40 ∨ m_knd t s = 41 ∨ m_knd t s = 59 ∨ m_knd t s = 3 := by
          rw [ek]
          split
          · exact Or.inl rfl
          · split
            · exact Or.inr (Or.inl rfl)
            · split
              · exact Or.inr (Or.inr (Or.inl rfl))
              · exact Or.inr (Or.inr (Or.inr rfl))
        refine ⟨by rw [e]; rfl, fun q => ?_, fun q => ?_, fun q => ?_, fun _ _ _ => ⟨by rw [hgb, ee]; exact e, ee, by omega, by rw [hgb]; exact ek⟩⟩
        · rw [q] at hk; exact absurd hk (by decide)
        · rw [q] at hk; exact absurd hk (by decide)
        · rw [q] at hk; exact absurd hk (by decide)
  · have ek : m_knd t s = 0 := by unfold m_knd; rw [if_neg hlt]
    have e := tk_end (t := t) (s := s) (by omega)
    refine ⟨by rw [e]; rfl, fun _ => e, fun q => ?_, fun q => ?_, fun q => absurd ek q⟩
    · rw [ek] at q; exact absurd q (by decide)
    · rw [ek] at q; exact absurd q (by decide)
end
section
variable {nl : Bool} {Ln : Nat} {xs : Nat → Int32} {d : Nat} {σ : am_S} {o : Nat} {t : List Int32} {s : Nat}
theorem r_isWord {n : Nat} {F : Bool → am_S → Prop} (hn : n < 38) (h1 : 1 ≤ (txt n).length) (hK : OffK σ o) (hT : TxR σ o t) (hk : TkR σ o t s) (K : F (decide (m_knd t s = 1 ∧ m_wl t s = txt n)) σ) : k_Ro_isWord nl Ln xs (d + 5) o (some n) σ F := by
  have hlen := hT.1
  have htl := txt_lt hn
  obtain ⟨k1, k2, k3, k4, k5, k6, k7⟩ := hk
  have hz : ∀ {b : Prop} [Decidable b], ¬ b → F (decide b) σ = F (decide ((0 : Int32) = 1)) σ := fun h => by rw [decide_eq_false h]; rfl
  have no : ¬ (m_knd t s = 1 ∧ m_wl t s = txt n) → c_Ro_isWord_32 nl Ln xs (d + 5) o (some n) 0 0 σ F := by
    intro hne
    rw [decide_eq_false hne] at K
    refine w_Ro_isWord_32 ⟨⟨n, rfl⟩, ⟨by show n < 200; omega, rk_txt hn⟩, r_strlen hn (fun _ => ⟨fun _ => ⟨fun _ => ⟨Or.inl rfl, K⟩, fun q => absurd rfl q⟩, fun _ => ⟨Or.inl rfl, K⟩⟩)⟩
  refine w_Ro_isWord ⟨is_mk hK.2.1, fun hk1 => ⟨⟨n, rfl⟩, ⟨by show n < 200; omega, rk_txt hn⟩, r_strlen hn (fun _ => ?_)⟩, fun hk1 => no (fun q => hk1 (by rw [k4]; exact q.1))⟩
  rw [k4] at hk1
  obtain ⟨e1, e2, e3, e4⟩ := (hd_at k1 k2).2.2.1 hk1
  have hsub : am_fI σ 13095 o - am_fI σ 13093 o = Int32.ofNat (m_wl t s).length := by rw [k6, k3, e3, ← n32a]; grind
  have hii : (Int32.ofNat (m_wl t s).length = Int32.ofNat (txt n).length) ↔ (m_wl t s).length = (txt n).length := n32i (by omega) (by omega)
  rw [hsub]
  show c_Ro_isWord_32 nl Ln xs (d + 5) o (some n) (if Int32.ofNat (m_wl t s).length = Int32.ofNat (txt n).length then 1 else 0) 0 σ F
  by_cases hl : (m_wl t s).length = (txt n).length
  · rw [if_pos (hii.mpr hl)]
    have loop : ∀ (j k : Nat), k + j = (txt n).length → (m_wl t s).take k = (txt n).take k → c_Ro_isWord_32 nl Ln xs (d + 5) o (some n) 1 (Int32.ofNat k) σ F := by
      intro j
      induction j with
      | zero =>
        intro k hk hpre
        have heq : m_wl t s = txt n := by
          rw [List.take_of_length_le (by omega), List.take_of_length_le (by omega)] at hpre
          exact hpre
        rw [decide_eq_true ⟨hk1, heq⟩] at K
        refine w_Ro_isWord_32 ⟨⟨n, rfl⟩, ⟨by show n < 200; omega, rk_txt hn⟩, r_strlen hn (fun _ => ⟨fun q => ?_, fun _ => ⟨Or.inr rfl, K⟩⟩)⟩
        have q : Int32.ofNat k < Int32.ofNat (txt n).length := q
        rw [n32lt (by omega) (by omega)] at q
        omega
      | succ j ih =>
        intro k hk hpre
        obtain ⟨c, hc⟩ := get_ex (show k < (txt n).length by omega)
        obtain ⟨b, hb1, hb2, hb3⟩ := tw_get (q := m_let) (t.drop s) k (by show k < (m_wl t s).length; omega)
        have hb3 : (m_wl t s)[k]? = some b := hb3
        rw [List.getElem?_drop] at hb1
        have vb : am_aI σ (o + 62) (s + k) = b := hT.2.2.2 _ b hb1
        have hlt := lt_of_get hb1
        refine w_Ro_isWord_32 ⟨⟨n, rfl⟩, ⟨by show n < 200; omega, rk_txt hn⟩, r_strlen hn (fun _ => ⟨fun _ => ⟨fun q => absurd q (by decide), fun _ => ?_⟩, fun q => absurd (show Int32.ofNat k < Int32.ofNat (txt n).length by rw [n32lt (by omega) (by omega)]; omega) q⟩)⟩
        rw [k3, n32a, oG_13090 hK, n32c (by omega), vb]
        refine ⟨is_mk hK.2.1, oA_13090 hK (by rw [n32 (by omega)]; omega) (by rw [n32 (by omega)]; omega), ⟨n, rfl⟩, ⟨by show n < 200; omega, rk_txt hn⟩, ?_⟩
        refine (r_charAt (d := d) hn hc (fun _ => ?_))
        rw [n32s]
        by_cases hbc : b = c
        · rw [if_pos hbc]
          refine ih (k + 1) (by omega) ?_
          rw [List.take_add_one, List.take_add_one, hpre, hb3, hc, hbc]
        · rw [if_neg hbc]
          have hne : ¬ (m_knd t s = 1 ∧ m_wl t s = txt n) := fun q => by
            rw [q.2, hc] at hb3
            cases hb3
            exact hbc rfl
          rw [decide_eq_false hne] at K
          exact w_Ro_isWord_32 ⟨⟨n, rfl⟩, ⟨by show n < 200; omega, rk_txt hn⟩, r_strlen hn (fun _ => ⟨fun _ => ⟨fun _ => ⟨Or.inl rfl, K⟩, fun q => absurd rfl q⟩, fun _ => ⟨Or.inl rfl, K⟩⟩)⟩
    exact loop (txt n).length 0 (by omega) rfl
  · rw [if_neg (fun q => hl (hii.mp q))]
    exact no (fun q => hl (by rw [q.2]))
end
