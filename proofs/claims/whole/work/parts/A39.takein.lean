/-! TAKING IN, by the reference -/
/-- only cells of the reference may have changed -/
def Rfr (σ σ' : am_S) : Prop := am_kd σ' = am_kd σ ∧ am_nx σ' = am_nx σ ∧ am_sl σ' = am_sl σ ∧ ∀ c, ¬ (1053 ≤ c ∧ c ≤ 1188) → (∀ g, am_fI σ' g c = am_fI σ g c ∧ am_fL σ' g c = am_fL σ g c ∧ am_fR σ' g c = am_fR σ g c) ∧ ∀ i, am_aI σ' c i = am_aI σ c i ∧ am_aL σ' c i = am_aL σ c i ∧ am_aR σ' c i = am_aR σ c i
theorem Rfr.rf {σ : am_S} : Rfr σ σ := ⟨rfl, rfl, rfl, fun _ _ => ⟨fun _ => ⟨rfl, rfl, rfl⟩, fun _ => ⟨rfl, rfl, rfl⟩⟩⟩
theorem Rfr.trans {σ σ1 σ2 : am_S} (h : Rfr σ σ1) (h2 : Rfr σ1 σ2) : Rfr σ σ2 := by
  refine ⟨h2.1.trans h.1, h2.2.1.trans h.2.1, h2.2.2.1.trans h.2.2.1, fun c hc => ⟨fun g => ?_, fun i => ?_⟩⟩
  · obtain ⟨a1, a2, a3⟩ := (h.2.2.2 c hc).1 g
    obtain ⟨b1, b2, b3⟩ := (h2.2.2.2 c hc).1 g
    exact ⟨b1.trans a1, b2.trans a2, b3.trans a3⟩
  · obtain ⟨a1, a2, a3⟩ := (h.2.2.2 c hc).2 i
    obtain ⟨b1, b2, b3⟩ := (h2.2.2.2 c hc).2 i
    exact ⟨b1.trans a1, b2.trans a2, b3.trans a3⟩
theorem Rc.fr {o : Nat} {fs as ms : List Nat} {σ σ1 : am_S} (h : Rc o fs as ms σ σ1) (ho : o = 1063 ∨ o = 1126) (ha : ∀ k ∈ as, k < 63) (hm : ∀ x ∈ ms, 1053 ≤ x ∧ x < 1063) : Rfr σ σ1 := by
  obtain ⟨h1, h2, h3, h4, h5, h6, h7⟩ := h
  refine ⟨h1, h4, h5, fun c hc => ⟨fun g => ?_, fun i => ?_⟩⟩
  · obtain ⟨a, b⟩ := h6 g c (fun q => by rcases q.2 with q | q <;> omega)
    exact ⟨a, b, by rw [h2]⟩
  · obtain ⟨a, b⟩ := h7 c i (fun k hk q => by have := ha k hk; omega) (fun q => by have := hm c q; omega)
    exact ⟨a, b, by rw [h3]⟩
/-- all the offices met while acts are taken in are well-formed -/
noncomputable def d_wfA : Nat → mOff → Int32 → List Int32 → Prop
  | 0, _, _, _ => True
  | f + 1, M, fnd, l => (WfX M ∧ (m_rlog M).length ≤ 430000 ∧ (o_now M).toInt ≤ 2000000000) ∧ ∀ n vs t r, d_rd1 l = some (n, vs, t, r) → d_wfA f (m_act M fnd n (d_arg vs) t).2.1 (m_act M fnd n (d_arg vs) t).2.2 r
section
variable {nl : Bool} {Ln : Nat} {xs : Nat → Int32} {d : Nat} {σ : am_S} {o o' : Nat} {D : mTop}
def ceF : List Nat := [13000, 13001, 13002, 13006, 13010, 13015, 13020, 13024, 13031, 13035, 13045, 13060, 13061, 13062, 13063, 13067]
theorem r_clear {F : am_S → Prop} (hK : OffK σ o) (K : ∀ σ', OffR σ' o m_new → Rc o ceF [] [] σ σ' → F σ') : k_Ro_clear nl Ln xs (d + 1) o σ F := by
  refine w_Ro_clear ⟨is_mk hK.2.1, ?_⟩
  intro s2 q2 s5 q5 s8 q8 s11 q11 s14 q14 s17 q17 s20 q20 s23 q23 s26 q26 s29 q29 s32 q32 s35 q35 s38 q38 s41 q41 s44 q44 s47 q47
  have one : ∀ {s s' : am_S} {g : Nat} {v : Int32}, s' = am_sfI s g o v → g ∈ ceF → Rc o ceF [] [] s s' := fun q hg => by rw [q]; exact Rc.sfI hg (Or.inl rfl)
  have r : Rc o ceF [] [] σ s47 := (((((((((((((((one q2 (by decide)).trans (one q5 (by decide))).trans (one q8 (by decide))).trans (one q11 (by decide))).trans (one q14 (by decide))).trans (one q17 (by decide))).trans (one q20 (by decide))).trans (one q23 (by decide))).trans (one q26 (by decide))).trans (one q29 (by decide))).trans (one q32 (by decide))).trans (one q35 (by decide))).trans (one q38 (by decide))).trans (one q41 (by decide))).trans (one q44 (by decide))).trans (one q47 (by decide))
  have nil : ∀ {α : Type} {c : Nat} {f : α → Int32}, rwI s47 c ([] : List α) f := fun i x hx => by simp at hx
  have nilL : ∀ {α : Type} {c : Nat} {f : α → Int64}, rwL s47 c ([] : List α) f := fun i x hx => by simp at hx
  have z : ∀ g ∈ ceF, am_fI s47 g o = 0 := by
    intro g hg
    rw [q47]
    by_cases h : g = 13067
    · rw [h]; exact rI_same
    rw [rI_g h, q44]
    by_cases h : g = 13063
    · rw [h]; exact rI_same
    rw [rI_g h, q41]
    by_cases h : g = 13062
    · rw [h]; exact rI_same
    rw [rI_g h, q38]
    by_cases h : g = 13061
    · rw [h]; exact rI_same
    rw [rI_g h, q35]
    by_cases h : g = 13060
    · rw [h]; exact rI_same
    rw [rI_g h, q32]
    by_cases h : g = 13045
    · rw [h]; exact rI_same
    rw [rI_g h, q29]
    by_cases h : g = 13035
    · rw [h]; exact rI_same
    rw [rI_g h, q26]
    by_cases h : g = 13031
    · rw [h]; exact rI_same
    rw [rI_g h, q23]
    by_cases h : g = 13024
    · rw [h]; exact rI_same
    rw [rI_g h, q20]
    by_cases h : g = 13020
    · rw [h]; exact rI_same
    rw [rI_g h, q17]
    by_cases h : g = 13015
    · rw [h]; exact rI_same
    rw [rI_g h, q14]
    by_cases h : g = 13010
    · rw [h]; exact rI_same
    rw [rI_g h, q11]
    by_cases h : g = 13006
    · rw [h]; exact rI_same
    rw [rI_g h, q8]
    by_cases h : g = 13002
    · rw [h]; exact rI_same
    rw [rI_g h, q5]
    by_cases h : g = 13001
    · rw [h]; exact rI_same
    rw [rI_g h, q2]
    by_cases h : g = 13000
    · rw [h]; exact rI_same
    unfold ceF at hg
    simp at hg
    omega
  refine K s47 ⟨hK.rc r, ⟨z _ (by decide), z _ (by decide), z _ (by decide), z _ (by decide), z _ (by decide)⟩, ⟨z _ (by decide), nil, nil, nil⟩, ⟨z _ (by decide), nil, nil, nil⟩, ⟨z _ (by decide), nil, nil, nil, nil⟩, ⟨z _ (by decide), nil, nil, nilL, nil⟩, ⟨z _ (by decide), nil, nil, nil⟩, ⟨z _ (by decide), nil, nil, fun i hi h0 => absurd h0 (by decide), 0, z _ (by decide), Nat.zero_le _, nil, nil, fun j c hc => absurd (show ([] : List mCl)[j]? = some c from hc) (by simp)⟩, ⟨z _ (by decide), nil, nil, nil, nil, nil, nil, fun i l hl => absurd (show ([] : List mLoss)[i]? = some l from hl) (by simp)⟩, ⟨z _ (by decide), nil, nil, nil, nil, nil, nil, fun i l hl => absurd (show ([] : List mCase)[i]? = some l from hl) (by simp)⟩, ⟨z _ (by decide), nil, fun i h hh => absurd (show ([] : List mDeed)[i]? = some h from hh) (by simp)⟩, ⟨z _ (by decide), fun i hi => absurd (show i < ([] : List Int32).length from hi) (by simp)⟩⟩ r
theorem ModK.sfr {g : Nat} {v : Option Nat} (h : ModK σ) (hg : g = 12016 ∨ g = 12017) : ModK (am_sfR σ g 1053 v) := by
  refine ⟨h.1, fun q hq => ⟨?_, (h.2 q hq).2⟩⟩
  have : q.1 ≠ g := by
    have hm : ∀ q ∈ mo_L, q.1 ≠ 12016 ∧ q.1 ≠ 12017 := by decide
    have := hm q hq
    omega
  exact (rR_g this).trans (h.2 q hq).1
theorem OffK.sfr {g : Nat} {v : Option Nat} (h : OffK σ o) (hg : g = 12016 ∨ g = 12017) : OffK (am_sfR σ g 1053 v) o := by
  obtain ⟨h1, h2, h3, h4⟩ := h
  refine ⟨h1, h2, (rR_g (by omega)).trans h3, fun q hq => ⟨?_, (h4 q hq).2⟩⟩
  have hm : ∀ q ∈ of_L, q.1 ≠ 12016 ∧ q.1 ≠ 12017 := by decide
  have := hm q hq
  exact (rR_g (by omega)).trans (h4 q hq).1
theorem OffR.sfr {g : Nat} {v : Option Nat} {M : mOff} (h : OffR σ o M) (hg : g = 12016 ∨ g = 12017) : OffR (am_sfR σ g 1053 v) o M := by
  obtain ⟨hK, hN, hP, hRk, hPl, hPe, hRu, hSe, hLs, hC, hH, hG⟩ := h
  exact ⟨hK.sfr hg, kNum σ _ (fun _ _ => rfl) (fun _ _ _ => ⟨rfl, rfl⟩) hN, kPol σ _ (fun _ _ => rfl) (fun _ _ _ => ⟨rfl, rfl⟩) hP, kRnk σ _ (fun _ _ => rfl) (fun _ _ _ => ⟨rfl, rfl⟩) hRk, kPla σ _ (fun _ _ => rfl) (fun _ _ _ => ⟨rfl, rfl⟩) hPl, kPer σ _ (fun _ _ => rfl) (fun _ _ _ => ⟨rfl, rfl⟩) hPe, kRul σ _ (fun _ _ => rfl) (fun _ _ _ => ⟨rfl, rfl⟩) hRu, kSet σ _ (fun _ _ => rfl) (fun _ _ _ => ⟨rfl, rfl⟩) hSe, kLos σ _ (fun _ _ => rfl) (fun _ _ _ => ⟨rfl, rfl⟩) hLs, kCas σ _ (fun _ _ => rfl) (fun _ _ _ => ⟨rfl, rfl⟩) hC, kHel σ _ (fun _ _ => rfl) (fun _ _ _ => ⟨rfl, rfl⟩) hH, kLog σ _ (fun _ _ => rfl) (fun _ _ _ => ⟨rfl, rfl⟩) hG⟩
theorem Rfr.sfr {g : Nat} {v : Option Nat} : Rfr σ (am_sfR σ g 1053 v) := ⟨rfl, rfl, rfl, fun c hc => ⟨fun q => ⟨rfl, rfl, rR_n (by omega)⟩, fun i => ⟨rfl, rfl, rfl⟩⟩⟩
end
