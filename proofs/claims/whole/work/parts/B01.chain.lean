/-! THE CLASS: chains of cells -/
section
variable {α β : Type}
/-- a chain: what stands at each cell, where it goes on -/
def Chn (Q : Nat → α → Prop) (nx : Nat → Option Nat) : Option Nat → List α → Prop
  | h, [] => h = none
  | h, x :: l => ∃ c, h = some c ∧ Q c x ∧ Chn Q nx (nx c) l
theorem Chn.mono {Q Q' : Nat → α → Prop} {nx nx' : Nat → Option Nat} (hq : ∀ c x, Q c x → Q' c x ∧ nx' c = nx c) : ∀ {l : List α} {h : Option Nat}, Chn Q nx h l → Chn Q' nx' h l
  | [], _, hh => hh
  | x :: l, _, hh => by
    obtain ⟨c, h1, h2, h3⟩ := hh
    obtain ⟨g1, g2⟩ := hq c x h2
    exact ⟨c, h1, g1, by rw [g2]; exact Chn.mono hq h3⟩
/-- the same cells, with other things on them -/
theorem Chn.map {Q : Nat → α → Prop} {Q' : Nat → β → Prop} {nx : Nat → Option Nat} {f : α → β} (hq : ∀ c x, Q c x → Q' c (f x)) : ∀ {l : List α} {h : Option Nat}, Chn Q nx h l → Chn Q' nx h (l.map f)
  | [], _, hh => hh
  | x :: l, _, hh => by
    obtain ⟨c, h1, h2, h3⟩ := hh
    exact ⟨c, h1, hq c x h2, Chn.map hq h3⟩
end
/-! the last one that is so, from behind -/
section
variable {α β : Type}
theorem m_last_find (q : α → Bool) : ∀ (l : List α) (z : Option α), m_last q some z l = (l.reverse.find? q).or z
  | [], z => rfl
  | x :: l, z => by
    rw [m_last, m_last_find q l, List.reverse_cons, List.find?_append]
    cases h : l.reverse.find? q with
    | some y => rfl
    | none =>
      by_cases hq : q x = true
      · simp [hq]
      · simp [hq]
theorem m_sumf_append (q : mFact → Bool) (v : mFact → Int64) : ∀ (l l' : List mFact), m_sumf q v (l ++ l') = m_sumf q v l + m_sumf q v l'
  | [], l' => by rw [List.nil_append, m_sumf, Int64.zero_add]
  | x :: l, l' => by rw [List.cons_append, m_sumf, m_sumf, m_sumf_append q v l l', Int64.add_assoc]
theorem m_sumf_rev (q : mFact → Bool) (v : mFact → Int64) : ∀ (l : List mFact), m_sumf q v l.reverse = m_sumf q v l
  | [] => rfl
  | x :: l => by
    rw [List.reverse_cons, m_sumf_append, m_sumf_rev q v l, m_sumf, m_sumf, m_sumf, Int64.add_zero, Int64.add_comm]
end
/-! CONDITIONS as nodes: from x to z one behind the other -/
section
variable (σ : am_S) (w : ow_T) (k : Nat × Nat)
/-- a piece: no joint -/
def isP : mF → Prop
  | .append _ _ => False
  | _ => True
def NdK (x : Nat) : Prop := w x = k ∧ am_kd σ x = (9, 0)
def NdS : mF → Nat → Nat → Prop
  | .append a b, x, z => ∃ y, NdS a x y ∧ am_fR σ 8003 y = some z ∧ isP b ∧ NdS b z z
  | .tag q a, x, z => x = z ∧ NdK σ w k x ∧ (if q = 2 then am_fI σ 8000 x = 14 ∧ ∃ y, am_fR σ 8002 x = some y ∧ isP a ∧ NdS a y y ∧ am_fR σ 8003 y = none else q ≤ 1 ∧ am_fI σ 8000 x = Int32.ofNat (12 + q) ∧ ∃ y1 y2, am_fR σ 8002 x = some y1 ∧ NdS a y1 y2 ∧ am_fR σ 8003 y2 = none)
  | .nest c (.nest n .nil), x, z => x = z ∧ NdK σ w k x ∧ am_fI σ 8000 x = Int32.ofInt (c + 12) ∧ am_fI σ 8001 x = Int32.ofInt (if c = 7 then n + 20 else n) ∧ am_fR σ 8002 x = none ∧ 3 ≤ c ∧ c ≤ 7 ∧ 0 ≤ n ∧ n < 1000000000 ∧ (c = 7 → n ≤ 5)
  | _, _, _ => False
/-- the number of a clause's sort in the class -/
def c_op (c : Int32) : Int32 := if c = 5 then 32 else if c = 6 then 33 else if c = 7 then 6 else if c = 8 then 7 else if c = 9 then 8 else if c = 10 ∨ c = 11 then 9 else c
def c_nr (c : mCl) : Int32 := if c.1.toInt ≤ 1 then c.2.1 + 20 else if c.1 = 10 then 10 else if c.1 = 11 then 3 else c.2.1
/-- a clause as a node -/
def NdC (x : Nat) (c : mCl) : Prop := NdK σ w k x ∧ am_fI σ 8000 x = c_op c.1 ∧ am_fI σ 8001 x = c_nr c ∧ (match c.2.2 with
  | none => am_fR σ 8002 x = none
  | some f => ∃ r, am_fR σ 8002 x = some r ∧ isP f ∧ NdS σ w k f r r ∧ am_fR σ 8003 r = none)
def ClN (h : Option Nat) (C : List mCl) : Prop := Chn (NdC σ w k) (am_fR σ 8003) h C
/-- what was told, as an entry -/
def EnT (c : Nat) (t : mTell) : Prop := w c = k ∧ am_kd σ c = (8, 0) ∧ am_fI σ 7000 c = t.1 ∧ am_fI σ 7001 c = t.2.2.1 ∧ am_fI σ 7002 c = t.2.2.2.1 ∧ am_fL σ 7003 c = t.2.2.2.2.1 ∧ ClN σ w k (am_fR σ 7004 c) (tCls t)
/-- a fact, as an entry -/
def EnF (c : Nat) (f : mFact) : Prop := w c = k ∧ am_kd σ c = (8, 0) ∧ am_fI σ 7000 c = f.1 ∧ am_fI σ 7006 c = f.2.1 ∧ am_fI σ 7002 c = f.2.2.1 ∧ ((f.1 = 12 ∨ f.1 = 15 ∨ f.1 = 16 ∨ f.1 = 17) → am_fI σ 7001 c = f.2.2.2.1) ∧ (f.1 = 16 → am_fI σ 7007 c = f.2.2.2.2.1 ∧ am_fI σ 7008 c = f.2.2.2.2.2.1) ∧ am_fL σ 7003 c = f.2.2.2.2.2.2.1 ∧ am_fL σ 7009 c = f.2.2.2.2.2.2.2
def ChT (h : Option Nat) (l : List mTell) : Prop := Chn (EnT σ w k) (am_fR σ 7005) h l
def ChF (h : Option Nat) (l : List mFact) : Prop := Chn (EnF σ w k) (am_fR σ 7005) h l
end
section
variable {σ σ' : am_S} {w w' : ow_T} {k : Nat × Nat}
theorem NdK.fr {x : Nat} (h : NdK σ w k x) (f : Fr σ w σ' w' k) : NdK σ' w' k x := ⟨(f x h.1).1, by rw [(f x h.1).2.kd]; exact h.2⟩
theorem NdS.own : ∀ (t : mF) (x z : Nat), NdS σ w k t x z → w x = k ∧ w z = k := by
  intro t
  induction t with
  | append a b iha ihb =>
    intro x z h
    obtain ⟨y, h1, h2, -, h3⟩ := h
    exact ⟨(iha x y h1).1, (ihb z z h3).1⟩
  | tag q a _ => intro x z h; obtain ⟨rfl, h2, -⟩ := h; exact ⟨h2.1, h2.1⟩
  | nest c a _ =>
    intro x z h
    cases a with
    | nest n b =>
      cases b with
      | nil => obtain ⟨rfl, h2, -⟩ := h; exact ⟨h2.1, h2.1⟩
      | _ => exact h.elim
    | _ => exact h.elim
  | _ => intro x z h; exact h.elim
theorem NdS.fr (f : Fr σ w σ' w' k) : ∀ (t : mF) (x z : Nat), NdS σ w k t x z → NdS σ' w' k t x z := by
  intro t
  induction t with
  | append a b iha ihb =>
    intro x z h
    obtain ⟨y, h1, h2, hp, h3⟩ := h
    exact ⟨y, iha x y h1, by rw [(f y (NdS.own a x y h1).2).2.fR]; exact h2, hp, ihb z z h3⟩
  | tag q a iha =>
    intro x z h
    unfold NdS at h ⊢
    obtain ⟨h1, h2, h3⟩ := h
    have e := (f x h2.1).2
    refine ⟨h1, h2.fr f, ?_⟩
    split
    · rename_i hq
      rw [if_pos hq] at h3
      obtain ⟨g1, y, g2, hp, g3, g4⟩ := h3
      exact ⟨by rw [e.fI]; exact g1, y, by rw [e.fR]; exact g2, hp, iha y y g3, by rw [(f y (NdS.own a y y g3).1).2.fR]; exact g4⟩
    · rename_i hq
      rw [if_neg hq] at h3
      obtain ⟨g0, g1, y1, y2, g2, g3, g4⟩ := h3
      exact ⟨g0, by rw [e.fI]; exact g1, y1, y2, by rw [e.fR]; exact g2, iha y1 y2 g3, by rw [(f y2 (NdS.own a y1 y2 g3).2).2.fR]; exact g4⟩
  | nest c a _ =>
    intro x z h
    cases a with
    | nest n b =>
      cases b with
      | nil =>
        unfold NdS at h ⊢
        obtain ⟨h1, h2, h3, h4, h5, h6⟩ := h
        have e := (f x h2.1).2
        exact ⟨h1, h2.fr f, by rw [e.fI]; exact h3, by rw [e.fI]; exact h4, by rw [e.fR]; exact h5, h6⟩
      | _ => exact h.elim
    | _ => exact h.elim
  | _ => intro x z h; exact h.elim
theorem NdC.fr {x : Nat} {c : mCl} (h : NdC σ w k x c) (f : Fr σ w σ' w' k) : NdC σ' w' k x c := by
  obtain ⟨h1, h2, h3, h4⟩ := h
  have e := (f x h1.1).2
  refine ⟨h1.fr f, by rw [e.fI]; exact h2, by rw [e.fI]; exact h3, ?_⟩
  cases hc : c.2.2 with
  | none => rw [hc] at h4; exact e.fR.trans h4
  | some t =>
    rw [hc] at h4
    obtain ⟨r, g1, hp, g2, g3⟩ := h4
    exact ⟨r, e.fR.trans g1, hp, NdS.fr f t r r g2, by rw [(f r (NdS.own t r r g2).1).2.fR]; exact g3⟩
theorem ClN.fr {h : Option Nat} {C : List mCl} (hh : ClN σ w k h C) (f : Fr σ w σ' w' k) : ClN σ' w' k h C := Chn.mono (fun c x hq => ⟨hq.fr f, (f c hq.1.1).2.fR⟩) hh
theorem EnT.fr {c : Nat} {t : mTell} (h : EnT σ w k c t) (f : Fr σ w σ' w' k) : EnT σ' w' k c t := by
  obtain ⟨h1, h2, h3, h4, h5, h6, h7⟩ := h
  have e := (f c h1).2
  exact ⟨(f c h1).1, e.kd.trans h2, e.fI.trans h3, e.fI.trans h4, e.fI.trans h5, e.fL.trans h6, by rw [e.fR]; exact h7.fr f⟩
theorem EnF.fr {c : Nat} {t : mFact} (h : EnF σ w k c t) (f : Fr σ w σ' w' k) : EnF σ' w' k c t := by
  obtain ⟨h1, h2, h3, h4, h5, h6, h7, h8, h9⟩ := h
  have e := (f c h1).2
  exact ⟨(f c h1).1, e.kd.trans h2, e.fI.trans h3, e.fI.trans h4, e.fI.trans h5, fun q => e.fI.trans (h6 q), fun q => ⟨e.fI.trans (h7 q).1, e.fI.trans (h7 q).2⟩, e.fL.trans h8, e.fL.trans h9⟩
theorem ChT.fr {h : Option Nat} {l : List mTell} (hh : ChT σ w k h l) (f : Fr σ w σ' w' k) : ChT σ' w' k h l := Chn.mono (fun c x hq => ⟨hq.fr f, (f c hq.1).2.fR⟩) hh
theorem ChF.fr {h : Option Nat} {l : List mFact} (hh : ChF σ w k h l) (f : Fr σ w σ' w' k) : ChF σ' w' k h l := Chn.mono (fun c x hq => ⟨hq.fr f, (f c hq.1).2.fR⟩) hh
end
