/-! THE PARSER of the reference: a clause -/
/-- a clause, as the rows have it at place p -/
def ClA (σ : am_S) (o p nn : Nat) (c : mCl) : Prop := am_aI σ (o + 21) p = c.1 ∧ am_aI σ (o + 22) p = c.2.1 ∧ (match c.2.2 with
  | none => am_aI σ (o + 23) p = -1
  | some t => ∃ x, x < nn ∧ am_aI σ (o + 23) p = Int32.ofNat x ∧ CndR σ o t 0 x)
/-- what comes of a clause -/
def ClK (t : List Int32) (σ : am_S) (o s nn p : Nat) (R : mCR) (F : am_S → Prop) : Prop :=
  (∀ e, R = .inl e → ∀ σ' nn', PE σ' o e nn' → nn ≤ nn' → 2 * nn' ≤ 2 * nn + (t.length - s) → Cf σ σ' o nn p → F σ') ∧
  (∀ c r, R = .inr (c, r) → ∀ σ' s' nn', PS σ' o t s' 0 nn' → m_tk t s' = r → s < s' → nn ≤ nn' → 2 * nn' + s ≤ 2 * nn + s' → ClA σ' o p nn' c → Cf σ σ' o nn p → F σ')
section
variable {nl : Bool} {Ln : Nat} {xs : Nat → Int32} {d : Nat} {σ σ0 : am_S} {o : Nat} {t : List Int32} {s s0 op nn nn0 e p : Nat} {R : mCR} {F : am_S → Prop}
theorem ClA.pf {σ1 : am_S} {c : mCl} (h : ClA σ o p nn c) (lo : 1063 ≤ o) (f : Pf σ σ1 o nn) : ClA σ1 o p nn c := by
  obtain ⟨h1, h2, h3⟩ := h
  refine ⟨(f.1.aI lo (by simp) (by decide)).trans h1, (f.1.aI lo (by simp) (by decide)).trans h2, ?_⟩
  cases hc : c.2.2 with
  | none => rw [hc] at h3; exact (f.1.aI lo (by simp) (by decide)).trans h3
  | some tr => rw [hc] at h3; obtain ⟨x, a, b, q⟩ := h3; exact ⟨x, a, (f.1.aI lo (by simp) (by decide)).trans b, cnd_pf q f a⟩
theorem r_isW {n i : Nat} {F : Bool → am_S → Prop} (P : PS σ o t s op nn) (hn : n < 38) (hi : i < 26) (hw : m_wd[i]? = some (txt n)) (h1 : 1 ≤ (txt n).length)
    (K1 : (m_hd (m_tk t s)).1 = i → F true σ) (K2 : (m_hd (m_tk t s)).1 ≠ i → F false σ) : k_Ro_isWord nl Ln xs (d + 5) o (some n) σ F := by
  obtain ⟨hK, hM, hT, hk, h97, h98, h31⟩ := P
  have hwd := hd_word hk.1 hk.2.1 hi
  have hiff : (m_hd (m_tk t s)).1 = i ↔ (m_knd t s = 1 ∧ m_wl t s = txt n) := by
    rw [hwd, hw]
    simp only [Option.some.injEq]
    exact ⟨fun q => ⟨q.1, q.2.symm⟩, fun q => ⟨q.1, q.2.symm⟩⟩
  refine r_isWord hn h1 hK hT hk ?_
  by_cases h : (m_hd (m_tk t s)).1 = i
  · rw [decide_eq_true (hiff.mp h)]; exact K1 h
  · rw [decide_eq_false (fun q => h (hiff.mpr q))]; exact K2 h
/-- the ; behind a clause -/
theorem cl_stop {c : mCl} (K : ClK t σ0 o s0 nn0 p R F) (f : Cf σ0 σ o nn0 p) (P : PS σ o t s 0 nn) (hs : s0 ≤ s) (hn : nn0 ≤ nn) (hb : 2 * nn + s0 ≤ 2 * nn0 + s) (hc : ClA σ o p nn c) (hR : R = m_stop c (m_tk t s)) : k_Ro_needs nl Ln xs (d + 3) o 59 σ (fun σ' => am_ext σ σ' → F σ') := by
  have lo := P.1.lo
  have hle := P.le
  have hpl := P.pl
  refine r_needs (ty := 29) P (hd_sign P.2.2.2.1.1 P.2.2.2.1.2.1).2.2.1 (by decide) (by decide) (by decide) (fun h σ' s' g1 g2 P' f' _ => ?_) (fun h σ' P' f' _ => ?_)
  · exact K.2 c _ (by rw [hR]; unfold m_stop; rw [if_pos h]) σ' s' nn P' g2 (by omega) hn (by omega) (hc.pf lo f') (f.trans (Cf.of lo f') hn)
  · exact K.1 s (by rw [hR]; unfold m_stop; rw [if_neg h, hpl]) σ' nn P' hn (by omega) (f.trans (Cf.of lo f') hn)
/-- .. behind a fault -/
theorem cl_err (K : ClK t σ0 o s0 nn0 p R F) (f : Cf σ0 σ o nn0 p) (P : PE σ o e nn) (hn : nn0 ≤ nn) (hb : 2 * nn ≤ 2 * nn0 + (t.length - s0)) (hR : R = .inl e) : k_Ro_needs nl Ln xs (d + 2) o 59 σ (fun σ' => am_ext σ σ' → F σ') := by
  have lo := P.1.lo
  exact r_needsE P (fun σ' P' f' _ => K.1 e hR σ' nn P' hn hb (f.trans (Cf.of lo f') hn))
/-- the number of a clause, and the ; -/
theorem cl_num {code : Int32} (hp : p < 4560) (K : ClK t σ0 o s0 nn0 p R F) (f : Cf σ0 σ o nn0 p) (P : PS σ o t s 0 nn) (hs : s0 ≤ s) (hn : nn0 ≤ nn) (hb : 2 * nn + s0 ≤ 2 * nn0 + s) (h23 : am_aI σ (o + 23) p = -1) (hR : R = m_numd code (m_tk t s)) : ∀ s37, s37 = am_saI σ (o + 21) p code → k_Ro_needsNumber nl Ln xs (d + 3) o s37 (fun a41 s40 => am_ext s37 s40 → (am_ar s40 1000 (am_fR s37 13029 o) (Int32.ofNat p)) ∧ ∀ s43, s43 = am_saI s40 ((am_fR s37 13029 o).getD 0) (Int32.ofNat p).toNatClampNeg a41 → k_Ro_needs nl Ln xs (d + 3) o 59 s43 (fun s46 => am_ext s43 s46 → F s46)) := by
  intro s37 q37
  have lo := P.1.lo
  have hle := P.le
  have hpl := P.pl
  have bp : 0 ≤ (Int32.ofNat p).toInt ∧ (Int32.ofNat p).toInt < 4560 := by rw [n32 (by omega)]; omega
  have r37 : Rc o [] [21] [] σ s37 := by rw [q37]; exact Rc.saI (by decide)
  have P37 := P.aw r37 (by decide)
  have f37 := f.trans (Cf.wr (n0 := nn) lo (Or.inl rfl) q37) hn
  have a21 : am_aI s37 (o + 21) p = code := by rw [saI_all q37, if_pos rfl]
  have a23 : am_aI s37 (o + 23) p = -1 := (r37.aI lo (by simp) (by decide)).trans h23
  refine r_needsNumber P37 (fun h σ' s' g1 g2 P' f' _ => ?_) (fun h1 h2 h3 σ' P' f' _ => ?_) (fun h σ' P' f' _ => ?_)
  · rw [oG_13029 P37.1, n32c (by omega), oR_13029 P37.1, ← oR_13029 P'.1]
    refine ⟨oA_13029 P'.1 bp.1 bp.2, fun s43 q43 => ?_⟩
    have r43 : Rc o [] [22] [] σ' s43 := by rw [q43]; exact Rc.saI (by decide)
    refine cl_stop (c := (code, (m_hd (m_tk t s)).2.1, none)) K ((f37.trans (Cf.of lo f') hn).trans (Cf.wr (n0 := nn) lo (Or.inr (Or.inl rfl)) q43) hn) (P'.aw r43 (by decide)) (by omega) hn (by omega) ⟨?_, ?_, ?_⟩ ?_
    · exact (r43.aI lo (by simp) (by decide)).trans ((f'.1.aI lo (by simp) (by decide)).trans a21)
    · rw [saI_all q43, if_pos rfl]
    · exact (r43.aI lo (by simp) (by decide)).trans ((f'.1.aI lo (by simp) (by decide)).trans a23)
    · rw [hR, g2]; unfold m_numd; rw [if_pos h]
  · rw [oG_13029 P37.1, n32c (by omega), oR_13029 P37.1, ← oR_13029 P'.1]
    refine ⟨oA_13029 P'.1 bp.1 bp.2, fun s43 q43 => ?_⟩
    have r43 : Rc o [] [22] [] σ' s43 := by rw [q43]; exact Rc.saI (by decide)
    refine cl_err K ((f37.trans (Cf.of lo f') hn).trans (Cf.wr (n0 := nn) lo (Or.inr (Or.inl rfl)) q43) hn) (P'.aw r43) hn (by omega) ?_
    rw [hR]; unfold m_numd m_stop; rw [if_pos h1, if_neg (by rw [h2]; decide), h3]
  · rw [oG_13029 P37.1, n32c (by omega), oR_13029 P37.1, ← oR_13029 P'.1]
    refine ⟨oA_13029 P'.1 bp.1 bp.2, fun s43 q43 => ?_⟩
    have r43 : Rc o [] [22] [] σ' s43 := by rw [q43]; exact Rc.saI (by decide)
    refine cl_err K ((f37.trans (Cf.of lo f') hn).trans (Cf.wr (n0 := nn) lo (Or.inr (Or.inl rfl)) q43) hn) (P'.aw r43) hn (by omega) ?_
    rw [hR]; unfold m_numd; rw [if_neg h, hpl]
theorem cl_numE {code : Int32} (hp : p < 4560) (K : ClK t σ0 o s0 nn0 p R F) (f : Cf σ0 σ o nn0 p) (P : PE σ o e nn) (hn : nn0 ≤ nn) (hb : 2 * nn ≤ 2 * nn0 + (t.length - s0)) (hR : R = .inl e) : ∀ s37, s37 = am_saI σ (o + 21) p code → k_Ro_needsNumber nl Ln xs (d + 3) o s37 (fun a41 s40 => am_ext s37 s40 → (am_ar s40 1000 (am_fR s37 13029 o) (Int32.ofNat p)) ∧ ∀ s43, s43 = am_saI s40 ((am_fR s37 13029 o).getD 0) (Int32.ofNat p).toNatClampNeg a41 → k_Ro_needs nl Ln xs (d + 3) o 59 s43 (fun s46 => am_ext s43 s46 → F s46)) := by
  intro s37 q37
  have lo := P.1.lo
  have bp : 0 ≤ (Int32.ofNat p).toInt ∧ (Int32.ofNat p).toInt < 4560 := by rw [n32 (by omega)]; omega
  have r37 : Rc o [] [21] [] σ s37 := by rw [q37]; exact Rc.saI (by decide)
  have P37 := P.aw r37
  have f37 := f.trans (Cf.wr (n0 := nn) lo (Or.inl rfl) q37) hn
  refine r_needsNumberE P37 (fun σ' P' f' _ => ?_)
  rw [oG_13029 P37.1, n32c (by omega), oR_13029 P37.1, ← oR_13029 P'.1]
  refine ⟨oA_13029 P'.1 bp.1 bp.2, fun s43 q43 => ?_⟩
  have r43 : Rc o [] [22] [] σ' s43 := by rw [q43]; exact Rc.saI (by decide)
  exact cl_err K ((f37.trans (Cf.of lo f') hn).trans (Cf.wr (n0 := nn) lo (Or.inr (Or.inl rfl)) q43) hn) (P'.aw r43) hn hb hR
end
