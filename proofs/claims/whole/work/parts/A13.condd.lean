/-! THE PARSER of the reference: NOT, brackets, leaves -/
section
variable {nl : Bool} {Ln : Nat} {xs : Nat → Int32} {d : Nat} {σ σ1 : am_S} {o : Nat} {t : List Int32} {s op nn e f : Nat}
theorem PE.dec {x : Int32} (P : PE σ o e nn) (q : σ1 = am_sfI σ 13098 o x) : PE σ1 o e nn ∧ Pf σ σ1 o nn := by
  obtain ⟨hK, hM, he, h97, h31⟩ := P
  have r : Rc o [13098] [] [] σ σ1 := by rw [q]; exact Rc.sfI (by decide) (Or.inl rfl)
  exact ⟨⟨hK.rc r, hM.rc r, he, (r.fI (by decide)).trans h97, (r.fI (by decide)).trans h31⟩, Pf.of hK.lo r (by decide)⟩
theorem PS.dec (P : PS σ o t s (op + 1) nn) (q : σ1 = am_sfI σ 13098 o (am_fI σ 13098 o - 1)) : PS σ1 o t s op nn ∧ Pf σ σ1 o nn := by
  obtain ⟨hK, hM, hT, hk, h97, h98, h31⟩ := P
  have r : Rc o [13098] [] [] σ σ1 := by rw [q]; exact Rc.sfI (by decide) (Or.inl rfl)
  rw [h98, o32] at q
  exact ⟨⟨hK.rc r, hM.rc r, hT.rc r hK.lo (by decide) (by simp), ⟨hk.1, hk.2.1, (r.fI (by decide)).trans hk.2.2.1, (r.fI (by decide)).trans hk.2.2.2.1, (r.fI (by decide)).trans hk.2.2.2.2.1, (r.fI (by decide)).trans hk.2.2.2.2.2.1, fun q => (r.fL (by decide)).trans (hk.2.2.2.2.2.2 q)⟩, (r.fI (by decide)).trans h97, by rw [q]; exact rI_same, (r.fI (by decide)).trans h31⟩, Pf.of hK.lo r (by decide)⟩
theorem num_tok (P : PS σ o t s op nn) (h : (m_hd (m_tk t s)).1 = 26) : 0 ≤ (m_hd (m_tk t s)).2.1.toInt ∧ (m_hd (m_tk t s)).2.1.toInt < 1000000000 := by
  have hk := P.2.2.2.1
  have k2 := (hd_sign hk.1 hk.2.1).2.2.2.1.mp h
  have e1 := ((hd_at hk.1 hk.2.1).2.2.2.1 k2).1
  rw [e1]
  show 0 ≤ (m_num 0 ((m_dg t s).take 9)).toInt ∧ (m_num 0 ((m_dg t s).take 9)).toInt < 1000000000
  have hl : ((m_dg t s).take 9).length ≤ 9 := by rw [List.length_take]; omega
  have := num_rng ((m_dg t s).take 9).length ((m_dg t s).take 9) hl (fun c hc => by
    obtain ⟨i, hi⟩ := List.getElem?_of_mem (List.mem_of_mem_take hc)
    obtain ⟨c', h1, h2, h3⟩ := tw_get (q := m_dig) (t.drop s) i (lt_of_get hi)
    have h3 : (m_dg t s)[i]? = some c' := h3
    rw [hi] at h3
    cases h3
    exact h2) rfl
  have p10 : (10 : Int) ^ ((m_dg t s).take 9).length ≤ 10 ^ 9 := by exact_mod_cast Nat.pow_le_pow_right (by decide : 0 < 10) hl
  omega
theorem ofInt32 (v : Int32) : Int32.ofInt v.toInt = v := Int32.ofInt_toInt v
/-- a leaf with a number -/
theorem r_leaf {c : Nat} {F : Int32 → am_S → Prop} (P : PS σ o t s op nn) (hc : 3 ≤ c ∧ c ≤ 6) (hn : nn < 30400) (h4 : s + 1 ≤ t.length + 1)
    (K1 : (m_hd (m_tk t s)).1 ≠ 26 → ∀ σ' nn' x, PE σ' o s nn' → nn' = nn + 1 → Pf σ σ' o nn → F x σ')
    (K2 : (m_hd (m_tk t s)).1 = 26 → (m_hd (m_tk t s).tail).1 = 26 → ∀ σ' nn' x, PE σ' o (m_hd (m_tk t s).tail).2.2 nn' → nn' = nn + 1 → Pf σ σ' o nn → F x σ')
    (K3 : (m_hd (m_tk t s)).1 = 26 → ∀ σ' s', PS σ' o t s' op (nn + 1) → m_tk t s' = (m_tk t s).tail → s + 1 ≤ s' → CAll σ' o (.nest (Int.ofNat c) (.nest (m_hd (m_tk t s)).2.1.toInt .nil)) nn → Pf σ σ' o nn → F (Int32.ofNat nn) σ') :
    k_Ro_needsNumber nl Ln xs (d + 3) o σ (fun a s1 => am_ext σ s1 → k_Ro_node nl Ln xs (d + 3) o (Int32.ofNat c) a (-1) s1 (fun a8 s7 => am_ext s1 s7 → F a8 s7)) := by
  refine r_needsNumber P (fun h σ2 s2 g1 g2 P2 f2 _ => ?_) (fun h h26 hpl σ2 P2 f2 _ => ?_) (fun h σ2 P2 f2 _ => ?_)
  · refine r_nodeP P2 hn (fun σ3 P3 fa fb fc f3 _ => K3 h σ3 s2 P3 g2 g1 (fun q => ?_) (f2.trans f3 (Nat.le_refl _)))
    have hv := num_tok P h
    refine ⟨?_, ?_, by have := hc.1; show (3 : Int) ≤ (c : Int); omega, by have := hc.2; show (c : Int) ≤ 7; omega, hv.1, hv.2, fun q7 => ?_⟩
    · rw [fa]
      apply Int32.toInt_inj.mp
      rw [n32 (by omega), ofInt_to (by show (0 : Int) ≤ (c : Int); omega) (by show (c : Int) < _; omega)]
      rfl
    · rw [fb, ofInt32]
    · exfalso
      have q7 : (c : Int) = 7 := q7
      omega
  · exact r_nodeE P2 hn (fun σ3 P3 f3 _ => K2 h h26 σ3 _ _ (by rw [hpl]; exact P3) rfl (f2.trans f3 (Nat.le_refl _)))
  · exact r_nodeE P2 hn (fun σ3 P3 f3 _ => K1 h σ3 _ _ P3 rfl (f2.trans f3 (Nat.le_refl _)))
end
