/-! THE PARSER of the reference: what is needed -/
section
variable {nl : Bool} {Ln : Nat} {xs : Nat → Int32} {d : Nat} {σ : am_S} {o : Nat} {t : List Int32} {s op nn e : Nat}
/-- the type of the token, where it is a sign -/
theorem hd_sign (hs : s ≤ t.length) (hnb : ∀ b, t[s]? = some b → ¬ m_blank b) : ((m_hd (m_tk t s)).1 = 27 ↔ m_knd t s = 40) ∧ ((m_hd (m_tk t s)).1 = 28 ↔ m_knd t s = 41) ∧ ((m_hd (m_tk t s)).1 = 29 ↔ m_knd t s = 59) ∧ ((m_hd (m_tk t s)).1 = 26 ↔ m_knd t s = 2) ∧ ((m_hd (m_tk t s)).1 = 30 ↔ m_knd t s = 0) := by
  have h := hd_at hs hnb
  by_cases k0 : m_knd t s = 0
  · rw [h.2.1 k0, k0]
    show (30 = 27 ↔ (0 : Int32) = 40) ∧ (30 = 28 ↔ (0 : Int32) = 41) ∧ (30 = 29 ↔ (0 : Int32) = 59) ∧ (30 = 26 ↔ (0 : Int32) = 2) ∧ (30 = 30 ↔ (0 : Int32) = 0)
    exact ⟨by decide, by decide, by decide, by decide, by decide⟩
  · by_cases k1 : m_knd t s = 1
    · rw [(h.2.2.1 k1).1, k1]
      have hr := word_rng (m_wl t s)
      show (m_word (m_wl t s) = 27 ↔ _) ∧ (m_word (m_wl t s) = 28 ↔ _) ∧ (m_word (m_wl t s) = 29 ↔ _) ∧ (m_word (m_wl t s) = 26 ↔ _) ∧ (m_word (m_wl t s) = 30 ↔ _)
      refine ⟨⟨fun q => by omega, fun q => absurd q (by decide)⟩, ⟨fun q => by omega, fun q => absurd q (by decide)⟩, ⟨fun q => by omega, fun q => absurd q (by decide)⟩, ⟨fun q => by omega, fun q => absurd q (by decide)⟩, ⟨fun q => by omega, fun q => absurd q (by decide)⟩⟩
    · by_cases k2 : m_knd t s = 2
      · rw [(h.2.2.2.1 k2).1, k2]
        show (26 = 27 ↔ _) ∧ (26 = 28 ↔ _) ∧ (26 = 29 ↔ _) ∧ (26 = 26 ↔ _) ∧ (26 = 30 ↔ _)
        exact ⟨by decide, by decide, by decide, by decide, by decide⟩
      · obtain ⟨e1, -, -, e4⟩ := h.2.2.2.2 k0 k1 k2
        rw [e1, e4]
        show (m_sgn (t.getD s 0) = 27 ↔ _) ∧ (m_sgn (t.getD s 0) = 28 ↔ _) ∧ (m_sgn (t.getD s 0) = 29 ↔ _) ∧ (m_sgn (t.getD s 0) = 26 ↔ _) ∧ (m_sgn (t.getD s 0) = 30 ↔ _)
        unfold m_sgn
        by_cases b1 : t.getD s 0 = 40
        · rw [if_pos b1, if_pos b1]; exact ⟨by decide, by decide, by decide, by decide, by decide⟩
        · rw [if_neg b1, if_neg b1]
          by_cases b2 : t.getD s 0 = 41
          · rw [if_pos b2, if_pos b2]; exact ⟨by decide, by decide, by decide, by decide, by decide⟩
          · rw [if_neg b2, if_neg b2]
            by_cases b3 : t.getD s 0 = 59
            · rw [if_pos b3, if_pos b3]; exact ⟨by decide, by decide, by decide, by decide, by decide⟩
            · rw [if_neg b3, if_neg b3]; exact ⟨by decide, by decide, by decide, by decide, by decide⟩
theorem r_needs {x : Int32} {ty : Nat} {F : am_S → Prop} (P : PS σ o t s op nn) (hx : (m_hd (m_tk t s)).1 = ty ↔ m_knd t s = x) (h0 : x ≠ 0) (h1 : x ≠ 1) (h2 : x ≠ 2)
    (K1 : (m_hd (m_tk t s)).1 = ty → ∀ σ' s', s + 1 ≤ s' → m_tk t s' = (m_tk t s).tail → PS σ' o t s' op nn → Pf σ σ' o nn → F σ') (K2 : (m_hd (m_tk t s)).1 ≠ ty → ∀ σ', PE σ' o s nn → Pf σ σ' o nn → F σ') : k_Ro_needs nl Ln xs (d + 3) o x σ F := by
  have P0 := P
  obtain ⟨hK, hM, hT, hk, h97, h98, h31⟩ := P
  have hlen := hT.1
  have hsl := hk.1
  refine w_Ro_needs ⟨is_mk hK.2.1, fun _ => ?_, fun q => absurd h97 q⟩
  rw [hk.2.2.2.1]
  refine ⟨fun hq => ?_, fun hq => ?_⟩
  · obtain ⟨e1, e2, -, -⟩ := (hd_at hk.1 hk.2.1).2.2.2.2 (by rw [hq]; exact h0) (by rw [hq]; exact h1) (by rw [hq]; exact h2)
    refine (r_stepP (d := d) P0 (fun σ' s' g1 g2 P' f' _ => K1 (hx.mpr hq) σ' s' (by omega) ?_ P' f'))
    rw [g2, e1]; rfl
  · refine w_Ro_needs_23 ⟨is_mk hK.2.1, ?_⟩
    rw [hk.2.2.1]
    exact r_wrongP P0 (by omega) (fun σ' PE' f' _ => K2 (fun q => hq (hx.mp q)) σ' PE' f')
theorem r_needsE {x : Int32} {F : am_S → Prop} (P : PE σ o e nn) (K : ∀ σ', PE σ' o e nn → Pf σ σ' o nn → F σ') : k_Ro_needs nl Ln xs (d + 2) o x σ F := by
  refine w_Ro_needs ⟨is_mk P.1.2.1, fun q => absurd q P.ne, fun _ => w_Ro_needs_23 ⟨is_mk P.1.2.1, r_wrongE P (fun σ' P' f' _ => K σ' P' f')⟩⟩
/-- a number: the token's, or a fault; a long one is told at its tenth digit, which is where the model's next token stands -/
theorem r_needsNumber {F : Int32 → am_S → Prop} (P : PS σ o t s op nn)
    (K1 : (m_hd (m_tk t s)).1 = 26 → ∀ σ' s', s + 1 ≤ s' → m_tk t s' = (m_tk t s).tail → PS σ' o t s' op nn → Pf σ σ' o nn → F (m_hd (m_tk t s)).2.1 σ')
    (K2 : (m_hd (m_tk t s)).1 = 26 → (m_hd (m_tk t s).tail).1 = 26 → (m_hd (m_tk t s).tail).2.2 = s + 9 → ∀ σ', PE σ' o (s + 9) nn → Pf σ σ' o nn → F 0 σ')
    (K3 : (m_hd (m_tk t s)).1 ≠ 26 → ∀ σ', PE σ' o s nn → Pf σ σ' o nn → F 0 σ') : k_Ro_needsNumber nl Ln xs (d + 3) o σ F := by
  have P0 := P
  obtain ⟨hK, hM, hT, hk, h97, h98, h31⟩ := P
  have hlen := hT.1
  have hsl := hk.1
  have hsg := (hd_sign hk.1 hk.2.1).2.2.2.1
  refine w_Ro_needsNumber ⟨is_mk hK.2.1, fun _ => ?_, fun q => absurd h97 q⟩
  rw [hk.2.2.2.1]
  refine ⟨fun hq => ?_, fun hq => ?_⟩
  · obtain ⟨e1, e2, e3, e4⟩ := (hd_at hk.1 hk.2.1).2.2.2.1 hq
    have hsub : am_fI σ 13095 o - am_fI σ 13093 o = Int32.ofNat (m_dg t s).length := by rw [hk.2.2.2.2.2.1, hk.2.2.1, e3, ← n32a]; grind
    rw [hsub, show (9 : Int32) = Int32.ofNat 9 from rfl, n32lt (by omega) (by omega)]
    refine ⟨fun h9 => ?_, fun h9 => ?_⟩
    · rw [hk.2.2.1, n32a]
      have hd9 : ((m_dg t s).take 9).length = 9 := by rw [List.length_take]; omega
      rw [hd9] at e1
      -- the tenth digit
      obtain ⟨c, hc, hcd, -⟩ := tw_get (q := m_dig) (t.drop s) 9 h9
      rw [List.getElem?_drop] at hc
      have hcr := dig_rng hcd
      have hnb : ¬ m_blank c := by
        rintro (q | q)
        · rw [q] at hcr; exact absurd hcr.1 (by decide)
        · rw [q] at hcr; exact absurd hcr.1 (by decide)
      have hnl : ¬ m_let c = true := fun q => by
        have q : 97 ≤ c.toInt ∧ c.toInt ≤ 122 := of_decide_eq_true q
        omega
      have e5 := tk_num hc hnb hnl hcd
      refine r_wrongP P0 (by omega) (fun σ' PE' f' _ => K2 (hsg.mpr hq) ?_ ?_ σ' PE' f')
      · rw [e1]
        show (m_hd (m_tk t (s + 9))).1 = 26
        rw [e5]; rfl
      · rw [e1]
        show (m_hd (m_tk t (s + 9))).2.2 = s + 9
        rw [e5]; rfl
    · rw [hk.2.2.2.2.2.2 hq]
      have hd9 : ((m_dg t s).take 9).length = (m_dg t s).length := by rw [List.length_take]; omega
      have ev : (m_num 0 ((m_dg t s).take 9)).toInt64.toInt32 = (m_num 0 ((m_dg t s).take 9)) := by
        apply Int32.toInt_inj.mp
        have := r32 (m_num 0 ((m_dg t s).take 9))
        rw [t32 (by rw [t64]; omega) (by rw [t64]; omega), t64]
      rw [ev]
      rintro v7 rfl
      refine (r_stepP (d := d) P0 (fun σ' s' g1 g2 P' f' _ => ?_))
      have hv : (m_hd (m_tk t s)).2.1 = m_num 0 ((m_dg t s).take 9) := by rw [e1]; rfl
      rw [← hv]
      refine K1 (hsg.mpr hq) σ' s' (by omega) ?_ P' f'
      rw [g2, e1, hd9, e3]; rfl
  · refine w_Ro_needsNumber_16 ⟨is_mk hK.2.1, ?_⟩
    rw [hk.2.2.1]
    exact r_wrongP P0 (by omega) (fun σ' PE' f' _ => K3 (fun q => hq (hsg.mp q)) σ' PE' f')
theorem r_needsNumberE {F : Int32 → am_S → Prop} (P : PE σ o e nn) (K : ∀ σ', PE σ' o e nn → Pf σ σ' o nn → F 0 σ') : k_Ro_needsNumber nl Ln xs (d + 2) o σ F := by
  refine w_Ro_needsNumber ⟨is_mk P.1.2.1, fun q => absurd q P.ne, fun _ => w_Ro_needsNumber_16 ⟨is_mk P.1.2.1, r_wrongE P (fun σ' P' f' _ => K σ' P' f')⟩⟩
theorem r_opens {F : Bool → am_S → Prop} (P : PS σ o t s op nn) (hop : op ≤ 20) (hk0 : m_knd t s ≠ 0) (hk2 : m_knd t s ≠ 2)
    (K1 : op ≠ 20 → ∀ σ' s', m_tend t s ≤ s' → m_tk t s' = (m_tk t s).tail → PS σ' o t s' (op + 1) nn → Pf σ σ' o nn → F true σ') (K2 : op = 20 → ∀ σ', PE σ' o s nn → Pf σ σ' o nn → F false σ') : k_Ro_opens nl Ln xs (d + 3) o σ F := by
  have P0 := P
  obtain ⟨hK, hM, hT, hk, h97, h98, h31⟩ := P
  have hlen := hT.1
  have hsl := hk.1
  refine w_Ro_opens ⟨is_mk hK.2.1, ?_⟩
  rw [h98, show (20 : Int32) = Int32.ofNat 20 from rfl, n32i (by omega) (by omega), n32s]
  refine ⟨fun h => ?_, fun h => ?_⟩
  · rw [hk.2.2.1]
    exact r_wrongP P0 (by omega) (fun σ' PE' f' _ => K2 h σ' PE' f')
  · intro s5 q5
    have r5 : Rc o [13098] [] [] σ s5 := by rw [q5]; exact Rc.sfI (by decide) (Or.inl rfl)
    have P5 : PS s5 o t s (op + 1) nn := ⟨hK.rc r5, hM.rc r5, hT.rc r5 hK.lo (by decide) (by simp), ⟨hk.1, hk.2.1, (r5.fI (by decide)).trans hk.2.2.1, (r5.fI (by decide)).trans hk.2.2.2.1, (r5.fI (by decide)).trans hk.2.2.2.2.1, (r5.fI (by decide)).trans hk.2.2.2.2.2.1, fun q => (r5.fL (by decide)).trans (hk.2.2.2.2.2.2 q)⟩, (r5.fI (by decide)).trans h97, by rw [q5]; exact rI_same, (r5.fI (by decide)).trans h31⟩
    refine (r_stepP (d := d) P5 (fun σ' s' g1 g2 P' f' _ => K1 h σ' s' g1 ?_ P' ((Pf.of hK.lo r5 (by decide)).trans f' (Nat.le_refl _))))
    rw [g2]
    by_cases k1 : m_knd t s = 1
    · rw [((hd_at hk.1 hk.2.1).2.2.1 k1).1]; rfl
    · rw [((hd_at hk.1 hk.2.1).2.2.2.2 hk0 k1 hk2).1]; rfl
/-- a node is made -/
theorem r_node {a b c : Int32} {F : Int32 → am_S → Prop} (hK : OffK σ o) (h31 : am_fI σ 13031 o = Int32.ofNat nn) (hn : nn < 30400) (K : ∀ σ', am_fI σ' 13031 o = Int32.ofNat (nn + 1) → am_aI σ' (o + 24) nn = a → am_aI σ' (o + 25) nn = b → am_aI σ' (o + 26) nn = c → (∀ i, i < nn → am_aI σ' (o + 24) i = am_aI σ (o + 24) i ∧ am_aI σ' (o + 25) i = am_aI σ (o + 25) i ∧ am_aI σ' (o + 26) i = am_aI σ (o + 26) i) → Rc o [13031] paA [] σ σ' → F (Int32.ofNat nn) σ') : k_Ro_node nl Ln xs (d + 1) o a b c σ F := by
  have lo := hK.lo
  have bn : 0 ≤ (Int32.ofNat nn).toInt ∧ (Int32.ofNat nn).toInt < 30400 := by rw [n32 (by omega)]; omega
  refine w_Ro_node ⟨is_mk hK.2.1, ?_⟩
  rw [h31, oG_13032 hK, n32c (by omega)]
  refine ⟨oA_13032 hK bn.1 bn.2, ?_⟩
  intro s3 q3
  have r3 : Rc o [] [24] [] σ s3 := by rw [q3]; exact Rc.saI (by decide)
  have hK3 := hK.rc r3
  rw [(r3.fI (by simp)).trans h31, oG_13033 hK3, n32c (by omega)]
  refine ⟨oA_13033 hK3 bn.1 bn.2, ?_⟩
  intro s7 q7
  have r7 : Rc o [] [25] [] s3 s7 := by rw [q7]; exact Rc.saI (by decide)
  have hK7 := hK3.rc r7
  rw [(r7.fI (by simp)).trans ((r3.fI (by simp)).trans h31), oG_13034 hK7, n32c (by omega)]
  refine ⟨oA_13034 hK7 bn.1 bn.2, ?_⟩
  intro s11 q11
  have r11 : Rc o [] [26] [] s7 s11 := by rw [q11]; exact Rc.saI (by decide)
  rw [(r11.fI (by simp)).trans ((r7.fI (by simp)).trans ((r3.fI (by simp)).trans h31)), n32s]
  intro s14 q14
  have r14 : Rc o [13031] [] [] s11 s14 := by rw [q14]; exact Rc.sfI (by decide) (Or.inl rfl)
  have f14 : am_fI s14 13031 o = Int32.ofNat (nn + 1) := by rw [q14]; exact rI_same
  rw [f14, o32]
  have A24 : ∀ j, am_aI s14 (o + 24) j = if j = nn then a else am_aI σ (o + 24) j := fun j => by
    rw [r14.aI lo (by simp) (by simp), r11.aI lo (by simp) (by decide), r7.aI lo (by simp) (by decide)]; exact saI_all q3 j
  have A25 : ∀ j, am_aI s14 (o + 25) j = if j = nn then b else am_aI σ (o + 25) j := fun j => by
    rw [r14.aI lo (by simp) (by simp), r11.aI lo (by simp) (by decide), saI_all q7 j, r3.aI lo (by simp) (by decide)]
  have A26 : ∀ j, am_aI s14 (o + 26) j = if j = nn then c else am_aI σ (o + 26) j := fun j => by
    rw [r14.aI lo (by simp) (by simp), saI_all q11 j, r7.aI lo (by simp) (by decide), r3.aI lo (by simp) (by decide)]
  refine K s14 f14 (by rw [A24, if_pos rfl]) (by rw [A25, if_pos rfl]) (by rw [A26, if_pos rfl]) (fun i hi => ⟨by rw [A24, if_neg (by omega)], by rw [A25, if_neg (by omega)], by rw [A26, if_neg (by omega)]⟩) (((r3.mono (by simp) (by decide) (by simp)).trans (r7.mono (by simp) (by decide) (by simp))).trans ((r11.mono (by simp) (by decide) (by simp)).trans (r14.mono (by simp) (by simp) (by simp))))
end
