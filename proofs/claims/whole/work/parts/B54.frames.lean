/-! THE CLASS: chains stand where one cell of another kind has changed -/
def Fq (σ : am_S) (w : ow_T) (σ' : am_S) (w' : ow_T) (k : Nat × Nat) (q0 : Nat) : Prop := ∀ c, w c = k → c ≠ q0 → w' c = k ∧ am_eqc σ σ' c
section
variable {σ σ' : am_S} {w w' : ow_T} {k : Nat × Nat} {q0 : Nat}
theorem NdS.own2 : ∀ (t : mF) (x z : Nat), NdS σ w k t x z → (w x = k ∧ am_kd σ x = (9, 0)) ∧ (w z = k ∧ am_kd σ z = (9, 0)) := by
  intro t
  induction t with
  | append a b iha ihb =>
    intro x z h
    obtain ⟨y, h1, h2, -, h3⟩ := h
    exact ⟨(iha x y h1).1, (ihb z z h3).1⟩
  | tag q a _ => intro x z h; obtain ⟨rfl, h2, -⟩ := h; exact ⟨h2, h2⟩
  | nest c a _ =>
    intro x z h
    cases a with
    | nest n b =>
      cases b with
      | nil => obtain ⟨rfl, h2, -⟩ := h; exact ⟨h2, h2⟩
      | _ => exact h.elim
    | _ => exact h.elim
  | _ => intro x z h; exact h.elim
theorem Fq.nd (f : Fq σ w σ' w' k q0) (hq : am_kd σ q0 ≠ (9, 0)) {x : Nat} (h : w x = k ∧ am_kd σ x = (9, 0)) : w' x = k ∧ am_eqc σ σ' x := f x h.1 (fun z => hq (by rw [← z]; exact h.2))
theorem NdS.fq (f : Fq σ w σ' w' k q0) (hq : am_kd σ q0 ≠ (9, 0)) : ∀ (t : mF) (x z : Nat), NdS σ w k t x z → NdS σ' w' k t x z := by
  have nk : ∀ {x : Nat}, NdK σ w k x → NdK σ' w' k x := fun {x} h => ⟨(f.nd hq h).1, by rw [(f.nd hq h).2.kd]; exact h.2⟩
  intro t
  induction t with
  | append a b iha ihb =>
    intro x z h
    obtain ⟨y, h1, h2, hp, h3⟩ := h
    exact ⟨y, iha x y h1, by rw [(f.nd hq (NdS.own2 a x y h1).2).2.fR]; exact h2, hp, ihb z z h3⟩
  | tag q a iha =>
    intro x z h
    unfold NdS at h ⊢
    obtain ⟨h1, h2, h3⟩ := h
    have e := (f.nd hq h2).2
    refine ⟨h1, nk h2, ?_⟩
    split
    · rename_i hq2
      rw [if_pos hq2] at h3
      obtain ⟨g1, y, g2, hp, g3, g4⟩ := h3
      exact ⟨by rw [e.fI]; exact g1, y, by rw [e.fR]; exact g2, hp, iha y y g3, by rw [(f.nd hq (NdS.own2 a y y g3).1).2.fR]; exact g4⟩
    · rename_i hq2
      rw [if_neg hq2] at h3
      obtain ⟨g0, g1, y1, y2, g2, g3, g4⟩ := h3
      exact ⟨g0, by rw [e.fI]; exact g1, y1, y2, by rw [e.fR]; exact g2, iha y1 y2 g3, by rw [(f.nd hq (NdS.own2 a y1 y2 g3).2).2.fR]; exact g4⟩
  | nest c a _ =>
    intro x z h
    cases a with
    | nest n b =>
      cases b with
      | nil =>
        unfold NdS at h ⊢
        obtain ⟨h1, h2, h3, h4, h5, h6⟩ := h
        have e := (f.nd hq h2).2
        exact ⟨h1, nk h2, by rw [e.fI]; exact h3, by rw [e.fI]; exact h4, by rw [e.fR]; exact h5, h6⟩
      | _ => exact h.elim
    | _ => exact h.elim
  | _ => intro x z h; exact h.elim
theorem NdC.fq {x : Nat} {c : mCl} (h : NdC σ w k x c) (f : Fq σ w σ' w' k q0) (hq : am_kd σ q0 ≠ (9, 0)) : NdC σ' w' k x c := by
  obtain ⟨h1, h2, h3, h4⟩ := h
  have e := f.nd hq h1
  refine ⟨⟨e.1, e.2.kd.trans h1.2⟩, by rw [e.2.fI]; exact h2, by rw [e.2.fI]; exact h3, ?_⟩
  cases hc : c.2.2 with
  | none => rw [hc] at h4; exact e.2.fR.trans h4
  | some t =>
    rw [hc] at h4
    obtain ⟨r, g1, hp, g2, g3⟩ := h4
    exact ⟨r, e.2.fR.trans g1, hp, NdS.fq f hq t r r g2, by rw [(f.nd hq (NdS.own2 t r r g2).1).2.fR]; exact g3⟩
theorem ClN.fq {h : Option Nat} {C : List mCl} (hh : ClN σ w k h C) (f : Fq σ w σ' w' k q0) (hq : am_kd σ q0 ≠ (9, 0)) : ClN σ' w' k h C := Chn.mono (fun c x hc => ⟨hc.fq f hq, (f.nd hq hc.1).2.fR⟩) hh
theorem EnT.fq {c : Nat} {t : mTell} (h : EnT σ w k c t) (f : Fq σ w σ' w' k q0) (hq : am_kd σ q0 ≠ (9, 0)) (h8 : am_kd σ q0 ≠ (8, 0)) : EnT σ' w' k c t := by
  obtain ⟨h1, h2, h3, h4, h5, h6, h7⟩ := h
  have e := f c h1 (fun z => h8 (by rw [← z]; exact h2))
  exact ⟨e.1, e.2.kd.trans h2, e.2.fI.trans h3, e.2.fI.trans h4, e.2.fI.trans h5, e.2.fL.trans h6, by rw [e.2.fR]; exact h7.fq f hq⟩
theorem ChT.fq {h : Option Nat} {l : List mTell} (hh : ChT σ w k h l) (f : Fq σ w σ' w' k q0) (hq : am_kd σ q0 ≠ (9, 0)) (h8 : am_kd σ q0 ≠ (8, 0)) : ChT σ' w' k h l := Chn.mono (fun c x hc => ⟨hc.fq f hq h8, (f c hc.1 (fun z => h8 (by rw [← z]; exact hc.2.1))).2.fR⟩) hh
theorem EnF.fq {c : Nat} {t : mFact} (h : EnF σ w k c t) (f : Fq σ w σ' w' k q0) (h8 : am_kd σ q0 ≠ (8, 0)) : EnF σ' w' k c t := by
  obtain ⟨h1, h2, h3, h4, h5, h6, h7, h9, h10⟩ := h
  have e := f c h1 (fun z => h8 (by rw [← z]; exact h2))
  exact ⟨e.1, e.2.kd.trans h2, e.2.fI.trans h3, e.2.fI.trans h4, e.2.fI.trans h5, fun z => e.2.fI.trans (h6 z), fun z => ⟨e.2.fI.trans (h7 z).1, e.2.fI.trans (h7 z).2⟩, e.2.fL.trans h9, e.2.fL.trans h10⟩
theorem ChF.fq {h : Option Nat} {l : List mFact} (hh : ChF σ w k h l) (f : Fq σ w σ' w' k q0) (h8 : am_kd σ q0 ≠ (8, 0)) : ChF σ' w' k h l := Chn.mono (fun c x hc => ⟨hc.fq f h8, (f c hc.1 (fun z => h8 (by rw [← z]; exact hc.2.1))).2.fR⟩) hh
theorem MdN.fq {h : Option Nat} {l : List Nat} (hh : MdN σ w k h l) (f : Fq σ w σ' w' k q0) (hq : am_kd σ q0 ≠ (9, 0)) : MdN σ' w' k h l := ⟨hh.1.mono (fun c hc => (f.nd hq ⟨(hh.2 c hc).1, (hh.2 c hc).2.1⟩).2.fR), fun c hc => by
  have e := f.nd hq ⟨(hh.2 c hc).1, (hh.2 c hc).2.1⟩
  exact ⟨e.1, e.2.kd.trans (hh.2 c hc).2.1, (hh.2 c hc).2.2⟩⟩
theorem MdT.fq : ∀ {n : Nat} {h : Option Nat} {ns : List Nat}, MdT σ w k n h ns → Fq σ w σ' w' k q0 → am_kd σ q0 ≠ (9, 0) → am_kd σ q0 ≠ (8, 0) → MdT σ' w' k n h ns
  | 0, _, _, hh, _, _, _ => hh
  | n + 1, _, _, hh, f, hq, h8 => by
    obtain ⟨c, n1, n2, h1, ⟨h2, h3⟩, h4, h5, h6⟩ := hh
    have e := f c h2 (fun z => h8 (by rw [← z]; exact h3))
    exact ⟨c, n1, n2, h1, ⟨e.1, e.2.kd.trans h3⟩, by rw [e.2.fR]; exact h4.fq f hq, h5, by rw [e.2.fR]; exact MdT.fq h6 f hq h8⟩
theorem MdT.own : ∀ {n : Nat} {h : Option Nat} {ns : List Nat}, MdT σ w k n h ns → ∀ x ∈ ns, w x = k
  | 0, _, _, hh, x, hx => by rw [show _ = [] from hh] at hx; exact absurd hx (by simp)
  | n + 1, _, _, hh, x, hx => by
    obtain ⟨c, n1, n2, h1, -, h4, h5, h6⟩ := hh
    rw [h5] at hx
    rcases List.mem_append.mp hx with h | h
    · exact (h4.2 x h).1
    · exact MdT.own h6 x h
end
