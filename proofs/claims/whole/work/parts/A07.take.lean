/-! THE PARSER of the reference: a token is taken -/
def paF : List Nat := [13031, 13092, 13093, 13094, 13095, 13096, 13097, 13098]
def paA : List Nat := [24, 25, 26]
/-- no fault so far -/
def PS (σ : am_S) (o : Nat) (t : List Int32) (s op nn : Nat) : Prop := OffK σ o ∧ ModK σ ∧ TxR σ o t ∧ TkR σ o t s ∧ am_fI σ 13097 o = -1 ∧ am_fI σ 13098 o = Int32.ofNat op ∧ am_fI σ 13031 o = Int32.ofNat nn
/-- a fault at e -/
def PE (σ : am_S) (o e nn : Nat) : Prop := OffK σ o ∧ ModK σ ∧ e ≤ 1000 ∧ am_fI σ 13097 o = Int32.ofNat e ∧ am_fI σ 13031 o = Int32.ofNat nn
/-- what may have changed; nodes below n0 stay -/
def Pf (σ σ' : am_S) (o n0 : Nat) : Prop := Rc o paF paA [] σ σ' ∧ ∀ i, i < n0 → am_aI σ' (o + 24) i = am_aI σ (o + 24) i ∧ am_aI σ' (o + 25) i = am_aI σ (o + 25) i ∧ am_aI σ' (o + 26) i = am_aI σ (o + 26) i
theorem Pf.rf {σ : am_S} {o n0 : Nat} : Pf σ σ o n0 := ⟨Rc.rf, fun _ _ => ⟨rfl, rfl, rfl⟩⟩
theorem Pf.trans {σ σ1 σ2 : am_S} {o n0 n1 : Nat} (h : Pf σ σ1 o n0) (h2 : Pf σ1 σ2 o n1) (hn : n0 ≤ n1) : Pf σ σ2 o n0 := ⟨h.1.trans h2.1, fun i hi => ⟨(h2.2 i (by omega)).1.trans (h.2 i hi).1, (h2.2 i (by omega)).2.1.trans (h.2 i hi).2.1, (h2.2 i (by omega)).2.2.trans (h.2 i hi).2.2⟩⟩
section
variable {nl : Bool} {Ln : Nat} {xs : Nat → Int32} {d : Nat} {σ : am_S} {o : Nat} {t : List Int32} {s op nn e : Nat}
theorem Pf.of {fs : List Nat} {σ1 : am_S} {n0 : Nat} (h0 : 1063 ≤ o) (h : Rc o fs [] [] σ σ1) (hd : ∀ x ∈ fs, x ∈ paF) : Pf σ σ1 o n0 := ⟨h.mono hd (by simp) (by simp), fun i _ => ⟨h.aI h0 (by simp) (by simp), h.aI h0 (by simp) (by simp), h.aI h0 (by simp) (by simp)⟩⟩
theorem r_wrongP {F : am_S → Prop} (P : PS σ o t s op nn) (he : e ≤ 1000) (K : ∀ σ', PE σ' o e nn → Pf σ σ' o nn → F σ') : k_Ro_wrong nl Ln xs (d + 1) o (Int32.ofNat e) σ F := by
  obtain ⟨hK, hM, hT, hk, h97, h98, h31⟩ := P
  refine w_Ro_wrong ⟨is_mk hK.2.1, ?_⟩
  rw [h97, if_pos rfl]
  rintro w4 rfl
  intro s6 q6
  have r6 : Rc o [13097] [] [] σ s6 := by rw [q6]; exact Rc.sfI (by decide) (Or.inl rfl)
  exact K s6 ⟨hK.rc r6, hM.rc r6, he, by rw [q6]; exact rI_same, (r6.fI (by decide)).trans h31⟩ (Pf.of hK.lo r6 (by decide))
theorem PE.ne (P : PE σ o e nn) : ¬ am_fI σ 13097 o = -1 := by
  rw [P.2.2.2.1]
  exact ne_m1 (by have := P.2.2.1; omega)
theorem r_wrongE {x : Int32} {F : am_S → Prop} (P : PE σ o e nn) (K : ∀ σ', PE σ' o e nn → Pf σ σ' o nn → F σ') : k_Ro_wrong nl Ln xs (d + 1) o x σ F := by
  have hne := P.ne
  obtain ⟨hK, hM, he, h97, h31⟩ := P
  refine w_Ro_wrong ⟨is_mk hK.2.1, ?_⟩
  rw [if_neg hne, h97]
  rintro w4 rfl
  intro s6 q6
  have r6 : Rc o [13097] [] [] σ s6 := by rw [q6]; exact Rc.sfI (by decide) (Or.inl rfl)
  exact K s6 ⟨hK.rc r6, hM.rc r6, he, by rw [q6]; exact rI_same, (r6.fI (by decide)).trans h31⟩ (Pf.of hK.lo r6 (by decide))
theorem tend_le (hs : s ≤ t.length) (hnb : ∀ b, t[s]? = some b → ¬ m_blank b) : m_tend t s ≤ t.length := by
  have h := hd_at hs hnb
  by_cases k0 : m_knd t s = 0
  · unfold m_knd at k0
    unfold m_tend
    split
    · rename_i hlt
      rw [if_pos hlt] at k0
      exfalso
      split at k0
      · exact absurd k0 (by decide)
      · split at k0
        · exact absurd k0 (by decide)
        · split at k0
          · exact absurd k0 (by decide)
          · split at k0
            · exact absurd k0 (by decide)
            · split at k0
              · exact absurd k0 (by decide)
              · exact absurd k0 (by decide)
    · exact hs
  · by_cases k1 : m_knd t s = 1
    · exact (h.2.2.1 k1).2.2.2
    · by_cases k2 : m_knd t s = 2
      · exact (h.2.2.2.1 k2).2.2.2
      · exact (h.2.2.2.2 k0 k1 k2).2.2.1
theorem r_stepP {F : am_S → Prop} (P : PS σ o t s op nn) (K : ∀ σ' s', m_tend t s ≤ s' → m_tk t s' = m_tk t (m_tend t s) → PS σ' o t s' op nn → Pf σ σ' o nn → F σ') : k_Ro_step nl Ln xs (d + 2) o σ F := by
  obtain ⟨hK, hM, hT, hk, h97, h98, h31⟩ := P
  have hle := tend_le hk.1 hk.2.1
  refine w_Ro_step (r_step hK hT (t.length - m_tend t s) (m_tend t s) σ (by omega) hk.2.2.2.2.1 Rc.rf (fun σ' s' h1 h2 h3 hr => K σ' s' h1 h2 ⟨hK.rc hr, hM.rc hr, hT.rc hr hK.lo (by decide) (by simp), h3, (hr.fI (by decide)).trans h97, (hr.fI (by decide)).trans h98, (hr.fI (by decide)).trans h31⟩ (Pf.of hK.lo hr (by decide))))
/-- the type of the token, where it is a word -/
theorem hd_word (hs : s ≤ t.length) (hnb : ∀ b, t[s]? = some b → ¬ m_blank b) {i : Nat} (hi : i < 26) : (m_hd (m_tk t s)).1 = i ↔ m_knd t s = 1 ∧ m_wd[i]? = some (m_wl t s) := by
  have h := hd_at hs hnb
  by_cases k1 : m_knd t s = 1
  · have e := (h.2.2.1 k1).1
    rw [e]
    show m_word (m_wl t s) = i ↔ _
    rw [word_eq hi]
    simp [k1]
  · have hne : ¬ (m_hd (m_tk t s)).1 = i := by
      by_cases k0 : m_knd t s = 0
      · rw [h.2.1 k0]
        show ¬ 30 = i
        omega
      · by_cases k2 : m_knd t s = 2
        · rw [(h.2.2.2.1 k2).1]
          show ¬ 26 = i
          omega
        · rw [(h.2.2.2.2 k0 k1 k2).1]
          show ¬ m_sgn _ = i
          unfold m_sgn
          split
          · omega
          · split
            · omega
            · split <;> omega
    simp [k1, hne]
theorem r_takes {n i : Nat} {F : Bool → am_S → Prop} (P : PS σ o t s op nn) (hn : n < 38) (hi : i < 26) (hw : m_wd[i]? = some (txt n)) (h1 : 1 ≤ (txt n).length)
    (K1 : (m_hd (m_tk t s)).1 = i → ∀ σ' s', s + (txt n).length ≤ s' → m_tk t s' = (m_tk t s).tail → PS σ' o t s' op nn → Pf σ σ' o nn → F true σ') (K2 : (m_hd (m_tk t s)).1 ≠ i → F false σ) : k_Ro_takes nl Ln xs (d + 6) o (some n) σ F := by
  have P0 := P
  obtain ⟨hK, hM, hT, hk, h97, h98, h31⟩ := P
  have hwd := hd_word hk.1 hk.2.1 hi
  have hiff : (m_hd (m_tk t s)).1 = i ↔ (m_knd t s = 1 ∧ m_wl t s = txt n) := by
    rw [hwd, hw]
    simp only [Option.some.injEq]
    exact ⟨fun q => ⟨q.1, q.2.symm⟩, fun q => ⟨q.1, q.2.symm⟩⟩
  refine w_Ro_takes ⟨is_mk hK.2.1, fun _ => r_isWord hn h1 hK hT hk (fun _ => ?_), fun q => absurd h97 q⟩
  by_cases h : (m_hd (m_tk t s)).1 = i
  · have hh := hiff.mp h
    rw [if_pos (decide_eq_true hh)]
    have ha := (hd_at hk.1 hk.2.1).2.2.1 hh.1
    refine w_Ro_takes_21 ⟨fun q => absurd q (by decide), fun _ => ⟨is_mk hK.2.1, ?_⟩⟩
    refine (r_stepP (d := d + 3) P0 (fun σ' s' g1 g2 P' f' _ => ⟨Or.inr rfl, K1 h σ' s' ?_ ?_ P' f'⟩))
    · rw [ha.2.2.1, hh.2] at g1
      exact g1
    · rw [g2, ha.1]; rfl
  · rw [if_neg (fun q => h (hiff.mpr (of_decide_eq_true q)))]
    exact w_Ro_takes_21 ⟨fun _ => ⟨Or.inl rfl, K2 h⟩, fun q => absurd rfl q⟩
theorem r_takesE {n : Nat} {F : Bool → am_S → Prop} (P : PE σ o e nn) (K : F false σ) : k_Ro_takes nl Ln xs (d + 1) o (some n) σ F := by
  refine w_Ro_takes ⟨is_mk P.1.2.1, fun q => absurd q P.ne, fun _ => w_Ro_takes_20 (w_Ro_takes_21 ⟨fun _ => ⟨Or.inl rfl, K⟩, fun q => absurd rfl q⟩)⟩
end
