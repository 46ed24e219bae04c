/-! what the reference changes: fields fs of the office o and of the whole, rows o + k (k of as), rows ms -/
def Rc (o : Nat) (fs as ms : List Nat) (σ σ' : am_S) : Prop := am_kd σ' = am_kd σ ∧ am_fR σ' = am_fR σ ∧ am_aR σ' = am_aR σ ∧ am_nx σ' = am_nx σ ∧ am_sl σ' = am_sl σ ∧ (∀ g c, ¬ (g ∈ fs ∧ (c = o ∨ c = 1053)) → am_fI σ' g c = am_fI σ g c ∧ am_fL σ' g c = am_fL σ g c) ∧ ∀ c i, (∀ k ∈ as, c ≠ o + k) → c ∉ ms → am_aI σ' c i = am_aI σ c i ∧ am_aL σ' c i = am_aL σ c i
section
variable {o g c k i : Nat} {fs as ms fs' as' ms' : List Nat} {σ σ1 σ2 : am_S}
theorem Rc.rf : Rc o fs as ms σ σ := ⟨rfl, rfl, rfl, rfl, rfl, fun _ _ _ => ⟨rfl, rfl⟩, fun _ _ _ _ => ⟨rfl, rfl⟩⟩
theorem Rc.trans (h : Rc o fs as ms σ σ1) (h2 : Rc o fs as ms σ1 σ2) : Rc o fs as ms σ σ2 := by
  obtain ⟨a1, a2, a3, a4, a5, a6, a7⟩ := h
  obtain ⟨b1, b2, b3, b4, b5, b6, b7⟩ := h2
  exact ⟨b1.trans a1, b2.trans a2, b3.trans a3, b4.trans a4, b5.trans a5, fun g c q => ⟨(b6 g c q).1.trans (a6 g c q).1, (b6 g c q).2.trans (a6 g c q).2⟩, fun c i q r => ⟨(b7 c i q r).1.trans (a7 c i q r).1, (b7 c i q r).2.trans (a7 c i q r).2⟩⟩
theorem Rc.mono (h : Rc o fs as ms σ σ1) (h1 : ∀ x ∈ fs, x ∈ fs') (h2 : ∀ x ∈ as, x ∈ as') (h3 : ∀ x ∈ ms, x ∈ ms') : Rc o fs' as' ms' σ σ1 := by
  obtain ⟨a1, a2, a3, a4, a5, a6, a7⟩ := h
  exact ⟨a1, a2, a3, a4, a5, fun g c q => a6 g c (fun r => q ⟨h1 _ r.1, r.2⟩), fun c i q r => a7 c i (fun k hk => q k (h2 k hk)) (fun hm => r (h3 _ hm))⟩
theorem Rc.sfI {x : Int32} (hg : g ∈ fs) (hc : c = o ∨ c = 1053) : Rc o fs as ms σ (am_sfI σ g c x) := by
  refine ⟨rfl, rfl, rfl, rfl, rfl, fun g' c' q => ⟨?_, rfl⟩, fun _ _ _ _ => ⟨rfl, rfl⟩⟩
  by_cases h : g' = g
  · subst h
    exact rI_n (fun e => q ⟨hg, by rw [e]; exact hc⟩)
  · exact rI_g h
theorem Rc.sfL {x : Int64} (hg : g ∈ fs) (hc : c = o ∨ c = 1053) : Rc o fs as ms σ (am_sfL σ g c x) := by
  refine ⟨rfl, rfl, rfl, rfl, rfl, fun g' c' q => ⟨rfl, ?_⟩, fun _ _ _ _ => ⟨rfl, rfl⟩⟩
  by_cases h : g' = g
  · subst h
    exact rL_n (fun e => q ⟨hg, by rw [e]; exact hc⟩)
  · exact rL_g h
theorem Rc.saI {x : Int32} (hk : k ∈ as) : Rc o fs as ms σ (am_saI σ (o + k) i x) := ⟨rfl, rfl, rfl, rfl, rfl, fun _ _ _ => ⟨rfl, rfl⟩, fun _ _ q _ => ⟨aI_n (q k hk), rfl⟩⟩
theorem Rc.saL {x : Int64} (hk : k ∈ as) : Rc o fs as ms σ (am_saL σ (o + k) i x) := ⟨rfl, rfl, rfl, rfl, rfl, fun _ _ _ => ⟨rfl, rfl⟩, fun _ _ q _ => ⟨rfl, aL_n (q k hk)⟩⟩
theorem Rc.saIm {x : Int32} (hk : k ∈ ms) : Rc o fs as ms σ (am_saI σ k i x) := ⟨rfl, rfl, rfl, rfl, rfl, fun _ _ _ => ⟨rfl, rfl⟩, fun _ _ _ q => ⟨aI_n (fun e => q (by rw [e]; exact hk)), rfl⟩⟩
theorem Rc.saLm {x : Int64} (hk : k ∈ ms) : Rc o fs as ms σ (am_saL σ k i x) := ⟨rfl, rfl, rfl, rfl, rfl, fun _ _ _ => ⟨rfl, rfl⟩, fun _ _ _ q => ⟨rfl, aL_n (fun e => q (by rw [e]; exact hk))⟩⟩
theorem Rc.kd (h : Rc o fs as ms σ σ1) : am_kd σ1 = am_kd σ := h.1
theorem Rc.fR (h : Rc o fs as ms σ σ1) : am_fR σ1 = am_fR σ := h.2.1
theorem Rc.aR (h : Rc o fs as ms σ σ1) : am_aR σ1 = am_aR σ := h.2.2.1
theorem Rc.fI (h : Rc o fs as ms σ σ1) (hg : g ∉ fs) : am_fI σ1 g c = am_fI σ g c := (h.2.2.2.2.2.1 g c (fun q => hg q.1)).1
theorem Rc.fL (h : Rc o fs as ms σ σ1) (hg : g ∉ fs) : am_fL σ1 g c = am_fL σ g c := (h.2.2.2.2.2.1 g c (fun q => hg q.1)).2
theorem Rc.aI (h : Rc o fs as ms σ σ1) (h0 : 1063 ≤ o) (hm : ∀ x ∈ ms, x < 1063) (hk : k ∉ as) : am_aI σ1 (o + k) i = am_aI σ (o + k) i := (h.2.2.2.2.2.2 (o + k) i (fun k' hk' e => hk (Nat.add_left_cancel e ▸ hk')) (fun q => absurd (hm _ q) (by omega))).1
theorem Rc.aL (h : Rc o fs as ms σ σ1) (h0 : 1063 ≤ o) (hm : ∀ x ∈ ms, x < 1063) (hk : k ∉ as) : am_aL σ1 (o + k) i = am_aL σ (o + k) i := (h.2.2.2.2.2.2 (o + k) i (fun k' hk' e => hk (Nat.add_left_cancel e ▸ hk')) (fun q => absurd (hm _ q) (by omega))).2
theorem Rc.aIm (h : Rc o fs as ms σ σ1) (h0 : 1063 ≤ o) (hc : c < 1063) (hk : c ∉ ms) : am_aI σ1 c i = am_aI σ c i := (h.2.2.2.2.2.2 c i (fun k' _ e => by omega) hk).1
theorem Rc.aLm (h : Rc o fs as ms σ σ1) (h0 : 1063 ≤ o) (hc : c < 1063) (hk : c ∉ ms) : am_aL σ1 c i = am_aL σ c i := (h.2.2.2.2.2.2 c i (fun k' _ e => by omega) hk).2
theorem OffK.lo (h : OffK σ o) : 1063 ≤ o := by rcases h.1 with h | h <;> omega
theorem OffK.rc (h : OffK σ o) (hr : Rc o fs as ms σ σ1) : OffK σ1 o := by
  obtain ⟨h1, h2, h3, h4⟩ := h
  exact ⟨h1, by rw [hr.kd]; exact h2, by rw [hr.fR]; exact h3, fun q hq => by rw [hr.kd, hr.fR]; exact h4 q hq⟩
theorem ModK.rc (h : ModK σ) (hr : Rc o fs as ms σ σ1) : ModK σ1 := by
  obtain ⟨h1, h2⟩ := h
  exact ⟨by rw [hr.kd]; exact h1, fun q hq => by rw [hr.kd, hr.fR]; exact h2 q hq⟩
end
/-! THE LOG of the reference -/
def LogR (σ : am_S) (o : Nat) (L : List Int32) : Prop := am_fI σ 13067 o = Int32.ofNat L.length ∧ ∀ i, i < L.length → am_aI σ (o + 52) i &&& 255 = L.getD i 0
theorem LogR.rc {o : Nat} {fs as ms : List Nat} {σ σ1 : am_S} {L : List Int32} (h : LogR σ o L) (hr : Rc o fs as ms σ σ1) (h0 : 1063 ≤ o) (hm : ∀ x ∈ ms, x < 1063) (hf : 13067 ∉ fs) (ha : 52 ∉ as) : LogR σ1 o L :=
  ⟨(hr.fI hf).trans h.1, fun i hi => by rw [hr.aI h0 hm ha]; exact h.2 i hi⟩
section
variable {nl : Bool} {Ln : Nat} {xs : Nat → Int32} {d : Nat} {σ : am_S} {o : Nat}
theorem r_noteNumber {L : List Int32} {v : Int64} {F : am_S → Prop} (hK : OffK σ o) (h : LogR σ o L) (hl : L.length + 10 ≤ 450000)
    (K : ∀ σ', LogR σ' o (L ++ m_enc v) → Rc o [13067] [52] [] σ σ' → F σ') : k_Ro_noteNumber nl Ln xs (d + 1) o v σ F := by
  have loop : ∀ (j : Nat) (x3 : Int64) (x5 x6 : Option Value) (s : am_S) (L' : List Int32), x3.toUInt64.toNat < 128 ^ (j + 1) → j ≤ 9 → LogR s o L' → L'.length + j ≤ L.length + 9 → Rc o [13067] [52] [] σ s → (∀ σ', LogR σ' o (L' ++ m_encN (j + 1) x3.toUInt64.toNat) → Rc o [13067] [52] [] σ σ' → F σ') → c_Ro_noteNumber_22 nl Ln xs (d + 1) o v x3 x5 x6 s F := by
    intro j
    induction j with
    | zero =>
      intro x3 x5 x6 s L' hx hj hr hl' hc K'
      have hKs := hK.rc hc
      refine w_Ro_noteNumber_22 ?_
      intro v1 e1 v3 e3
      have u3 : v3.toUInt64.toNat = x3.toUInt64.toNat / 128 := by rw [e3, u64_shr]
      have hlt : x3.toUInt64.toNat < 128 := by simpa using hx
      have z3 : v3 = 0 := by rw [u64z, u3]; omega
      refine ⟨is_mk hKs.2.1, ?_⟩
      intro w8 e8
      rw [if_pos z3, e1, x127, Nat.mod_eq_of_lt hlt] at e8
      rw [hr.1]
      refine w_Ro_noteNumber_59 ⟨oA_13066 hKs (by rw [n32 (by omega)]; omega) (by rw [n32 (by omega)]; omega), ?_⟩
      rw [oG_13066 hKs, n32c (by omega)]
      intro s2 e2
      refine ⟨by rw [e2]; exact is_mk hKs.2.1, ?_⟩
      intro s6 e6
      have f1 : am_fI s2 13067 o = Int32.ofNat L'.length := by rw [e2]; exact hr.1
      rw [f1, n32s] at e6
      refine ⟨fun _ => K' s6 ⟨?_, ?_⟩ ?_, fun q => absurd z3 q⟩
      · rw [e6, m_encN, if_pos hlt, List.length_append]
        exact rI_same
      · rw [m_encN, if_pos hlt]
        intro i hi
        rw [List.length_append] at hi
        rw [e6, e2]
        show am_aI (am_saI s (o + 52) L'.length _) (o + 52) i &&& 255 = _
        by_cases hi2 : i = L'.length
        · rw [hi2, aI_same, b255, e8, o64_32, bsm (by omega)]
          simp [List.getD]
        · have hi3 : i < L'.length := by simp at hi; omega
          rw [aI_i hi2, hr.2 i hi3]
          simp [List.getD, List.getElem?_append_left hi3]
      · refine hc.trans (Rc.trans (σ1 := s2) ?_ ?_)
        · rw [e2]; exact Rc.saI (by decide)
        · rw [e6]; exact Rc.sfI (by decide) (Or.inl rfl)
    | succ j ih =>
      intro x3 x5 x6 s L' hx hj hr hl' hc K'
      have hKs := hK.rc hc
      refine w_Ro_noteNumber_22 ?_
      intro v1 e1 v3 e3
      have u3 : v3.toUInt64.toNat = x3.toUInt64.toNat / 128 := by rw [e3, u64_shr]
      refine ⟨is_mk hKs.2.1, ?_⟩
      intro w8 e8
      rw [hr.1]
      refine w_Ro_noteNumber_59 ⟨oA_13066 hKs (by rw [n32 (by omega)]; omega) (by rw [n32 (by omega)]; omega), ?_⟩
      rw [oG_13066 hKs, n32c (by omega)]
      intro s2 e2
      refine ⟨by rw [e2]; exact is_mk hKs.2.1, ?_⟩
      intro s6 e6
      have f1 : am_fI s2 13067 o = Int32.ofNat L'.length := by rw [e2]; exact hr.1
      rw [f1, n32s] at e6
      have hm : x3.toUInt64.toNat % 128 < 128 := Nat.mod_lt _ (by decide)
      have hc6 : Rc o [13067] [52] [] σ s6 := by
        refine hc.trans (Rc.trans (σ1 := s2) ?_ ?_)
        · rw [e2]; exact Rc.saI (by decide)
        · rw [e6]; exact Rc.sfI (by decide) (Or.inl rfl)
      have hb : ∀ b : Nat, b < 256 → w8.toInt32 = Int32.ofNat b → LogR s6 o (L' ++ [Int32.ofNat b]) := by
        intro b hb eb
        refine ⟨?_, ?_⟩
        · rw [e6, List.length_append]
          exact rI_same
        · intro i hi
          rw [List.length_append] at hi
          rw [e6, e2]
          show am_aI (am_saI s (o + 52) L'.length _) (o + 52) i &&& 255 = _
          by_cases hi2 : i = L'.length
          · rw [hi2, aI_same, b255, eb, bsm hb]
            simp [List.getD]
          · have hi3 : i < L'.length := by simp at hi; omega
            rw [aI_i hi2, hr.2 i hi3]
            simp [List.getD, List.getElem?_append_left hi3]
      by_cases hz : v3 = 0
      · have hz2 := hz
        rw [u64z, u3] at hz2
        have hlt : x3.toUInt64.toNat < 128 := by omega
        rw [if_pos hz, e1, x127, Nat.mod_eq_of_lt hlt] at e8
        refine ⟨fun _ => K' s6 ?_ hc6, fun q => absurd hz q⟩
        rw [m_encN, if_pos hlt]
        exact hb _ (by omega) (by rw [e8, o64_32])
      · have hz2 := hz
        rw [u64z, u3] at hz2
        have hlt : ¬ x3.toUInt64.toNat < 128 := by omega
        rw [if_neg hz, e1, x127, show (128 : Int64) = Int64.ofNat 128 from rfl, ← Int64.ofNat_add] at e8
        refine ⟨fun q => absurd q hz, fun _ => ih _ _ _ s6 (L' ++ [Int32.ofNat (x3.toUInt64.toNat % 128 + 128)]) ?_ (by omega) (hb _ (by omega) (by rw [e8, o64_32])) (by simp; omega) hc6 ?_⟩
        · rw [u3]
          exact Nat.div_lt_of_lt_mul (by rw [Nat.pow_succ, Nat.mul_comm] at hx; exact hx)
        · intro σ' h1 h2
          refine K' σ' ?_ h2
          rw [m_encN, if_neg hlt]
          rw [u3, List.append_assoc] at h1
          exact h1
  refine w_Ro_noteNumber (fun w3 e3 => loop 9 w3 none none σ L ?_ (by omega) h (by omega) Rc.rf ?_)
  · have := w3.toUInt64.toNat_lt
    omega
  · intro σ' h1 h2
    rw [e3, zz_ref] at h1
    exact K σ' h1 h2
end
