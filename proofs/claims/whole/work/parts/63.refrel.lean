/-! THE REFERENCE'S OFFICE and the model -/
def rwI {α : Type} (σ : am_S) (c : Nat) (l : List α) (f : α → Int32) : Prop := ∀ i x, l[i]? = some x → am_aI σ c i = f x
def rwL {α : Type} (σ : am_S) (c : Nat) (l : List α) (f : α → Int64) : Prop := ∀ i x, l[i]? = some x → am_aL σ c i = f x
section
variable {α : Type} {σ σ1 : am_S} {c : Nat} {l : List α} {x : α}
theorem rwI.eq {f : α → Int32} (h : rwI σ c l f) (e : ∀ i, am_aI σ1 c i = am_aI σ c i) : rwI σ1 c l f := fun i x hx => (e i).trans (h i x hx)
theorem rwL.eq {f : α → Int64} (h : rwL σ c l f) (e : ∀ i, am_aL σ1 c i = am_aL σ c i) : rwL σ1 c l f := fun i x hx => (e i).trans (h i x hx)
theorem get_push {l : List α} {a x : α} {i : Nat} (h : (l ++ [a])[i]? = some x) : (i = l.length ∧ x = a) ∨ (i < l.length ∧ l[i]? = some x) := by
  by_cases hi : i < l.length
  · rw [List.getElem?_append_left hi] at h
    exact Or.inr ⟨hi, h⟩
  · by_cases hi2 : i = l.length
    · subst hi2
      simp at h
      exact Or.inl ⟨rfl, h.symm⟩
    · rw [List.getElem?_eq_none (by simp; omega)] at h
      cases h
theorem rwI.push {f : α → Int32} (h : rwI σ c l f) (e : ∀ i, am_aI σ1 c i = if i = l.length then f x else am_aI σ c i) : rwI σ1 c (l ++ [x]) f := by
  intro i y hy
  rw [e]
  rcases get_push hy with ⟨a, b⟩ | ⟨a, b⟩
  · rw [if_pos a, b]
  · rw [if_neg (by omega)]; exact h i y b
theorem rwL.push {f : α → Int64} (h : rwL σ c l f) (e : ∀ i, am_aL σ1 c i = if i = l.length then f x else am_aL σ c i) : rwL σ1 c (l ++ [x]) f := by
  intro i y hy
  rw [e]
  rcases get_push hy with ⟨a, b⟩ | ⟨a, b⟩
  · rw [if_pos a, b]
  · rw [if_neg (by omega)]; exact h i y b
end
def b2i (b : Bool) : Int32 := if b then 1 else 0
/-- tells of an act -/
def tlA (T : List mTell) (n : Int32) : List mTell := T.filter (fun t => decide (t.1 = n))
abbrev tWho (t : mTell) : Int32 := Int32.ofNat t.2.1
abbrev tWch (t : mTell) : Int32 := t.2.2.1
abbrev tMom (t : mTell) : Int32 := t.2.2.2.1
abbrev tVal (t : mTell) : Int64 := t.2.2.2.2.1
abbrev tCls (t : mTell) : List mCl := t.2.2.2.2.2
section
variable (σ : am_S) (o : Nat)
def rNum (N : mNum) : Prop := am_fI σ 13000 o = N.2.1 ∧ am_fI σ 13001 o = N.1 ∧ am_fI σ 13060 o = N.2.2.1 ∧ am_fI σ 13061 o = N.2.2.2.1 ∧ am_fI σ 13062 o = b2i N.2.2.2.2
def rPol (P : List mPol) : Prop := am_fI σ 13002 o = Int32.ofNat P.length ∧ rwI σ (o + 1) P (fun p => p.1) ∧ rwI σ (o + 2) P (fun p => p.2.1) ∧ rwI σ (o + 3) P (fun p => p.2.2)
def rRnk (T : List mTell) : Prop := am_fI σ 13006 o = Int32.ofNat T.length ∧ rwI σ (o + 4) T tWch ∧ rwI σ (o + 5) T (fun t => (tVal t).toInt32) ∧ rwI σ (o + 6) T tMom
def rPla (T : List mTell) : Prop := am_fI σ 13010 o = Int32.ofNat T.length ∧ rwI σ (o + 7) T tWho ∧ rwI σ (o + 8) T tWch ∧ rwI σ (o + 9) T (fun t => (tVal t).toInt32) ∧ rwI σ (o + 10) T tMom
def rPer (T : List mTell) : Prop := am_fI σ 13015 o = Int32.ofNat T.length ∧ rwI σ (o + 11) T tWho ∧ rwI σ (o + 12) T tWch ∧ rwL σ (o + 13) T tVal ∧ rwI σ (o + 14) T tMom
def rRul (T : List mTell) : Prop := am_fI σ 13020 o = Int32.ofNat T.length ∧ rwI σ (o + 15) T tWho ∧ rwI σ (o + 16) T (fun t => (tVal t).toInt32) ∧ rwI σ (o + 17) T tMom
/-- a condition among the nodes -/
def CndR : mF → Nat → Nat → Prop
  | .append a b, op, i => (op ≤ 1 ∧ am_aI σ (o + 24) i = Int32.ofNat op) ∧ ∃ x y, x < i ∧ y < i ∧ am_aI σ (o + 25) i = Int32.ofNat x ∧ am_aI σ (o + 26) i = Int32.ofNat y ∧ CndR a op x ∧ CndR b op y
  | .tag k a, _, i => if k = 2 then am_aI σ (o + 24) i = 2 ∧ ∃ x, x < i ∧ am_aI σ (o + 25) i = Int32.ofNat x ∧ CndR a 0 x else CndR a k i
  | .nest c (.nest n .nil), _, i => am_aI σ (o + 24) i = Int32.ofInt c ∧ am_aI σ (o + 25) i = Int32.ofInt n ∧ 3 ≤ c ∧ c ≤ 7 ∧ 0 ≤ n ∧ n < 1000000000 ∧ (c = 7 → n ≤ 5)
  | _, _, _ => False
def ClsR (nn : Nat) (C : List mCl) : Prop := rwI σ (o + 21) C (fun c => c.1) ∧ rwI σ (o + 22) C (fun c => c.2.1) ∧ ∀ j c, C[j]? = some c → (match c.2.2 with
  | none => am_aI σ (o + 23) j = -1
  | some t => ∃ x, x < nn ∧ am_aI σ (o + 23) j = Int32.ofNat x ∧ CndR σ o t 0 x)
def rSet (T : List mTell) : Prop := am_fI σ 13024 o = Int32.ofNat T.length ∧ rwI σ (o + 18) T tWho ∧ rwI σ (o + 19) T tMom ∧ (∀ i, i ≤ T.length → 0 < T.length → am_aI σ (o + 20) i = Int32.ofNat ((T.take i).flatMap tCls).length) ∧ ∃ nn, am_fI σ 13031 o = Int32.ofNat nn ∧ nn ≤ 200 * T.length ∧ ClsR σ o nn (T.flatMap tCls)
def ixO (x : Option Nat) : Int32 := match x with
  | none => -1
  | some u => Int32.ofNat u
def rLos (Ls : List mLoss) : Prop := am_fI σ 13035 o = Int32.ofNat Ls.length ∧ rwI σ (o + 27) Ls (fun l => l.1) ∧ rwI σ (o + 28) Ls (fun l => l.2.1) ∧ rwI σ (o + 29) Ls (fun l => ixO l.2.2.1) ∧ rwI σ (o + 30) Ls (fun l => l.2.2.2.1) ∧ rwI σ (o + 31) Ls (fun l => Int32.ofNat l.2.2.2.2.2.length) ∧ rwI σ (o + 32) Ls (fun l => b2i l.2.2.2.2.1) ∧ ∀ i l, Ls[i]? = some l → ∀ j x, l.2.2.2.2.2[j]? = some x → am_aI σ (o + 33) (6 * i + j) = x.1 ∧ am_aL σ (o + 34) (6 * i + j) = x.2.1 ∧ am_aL σ (o + 35) (6 * i + j) = x.2.2
def FacR (k : Nat) (f : mFact) : Prop := am_aI σ (o + 42) k = f.1 ∧ am_aI σ (o + 43) k = f.2.1 ∧ am_aI σ (o + 44) k = f.2.2.1 ∧ am_aI σ (o + 45) k = f.2.2.2.1 ∧ am_aI σ (o + 46) k = f.2.2.2.2.1 ∧ am_aI σ (o + 47) k = f.2.2.2.2.2.1 ∧ am_aL σ (o + 48) k = f.2.2.2.2.2.2.1 ∧ am_aL σ (o + 49) k = f.2.2.2.2.2.2.2
def rCas (Cs : List mCase) : Prop := am_fI σ 13045 o = Int32.ofNat Cs.length ∧ rwI σ (o + 36) Cs (fun c => Int32.ofNat c.1) ∧ rwI σ (o + 37) Cs (fun c => c.2.1) ∧ rwI σ (o + 38) Cs (fun c => Int32.ofNat c.2.2.1) ∧ rwI σ (o + 39) Cs (fun c => c.2.2.2.1) ∧ rwI σ (o + 40) Cs (fun c => c.2.2.2.2.1) ∧ rwI σ (o + 41) Cs (fun c => Int32.ofNat c.2.2.2.2.2.length) ∧ ∀ i c, Cs[i]? = some c → ∀ j f, c.2.2.2.2.2[j]? = some f → FacR σ o (40 * i + j) f
def rHel (H : List mDeed) : Prop := am_fI σ 13063 o = Int32.ofNat H.length ∧ rwI σ (o + 50) H (fun h => Int32.ofNat h.1) ∧ ∀ i h, H[i]? = some h → ∀ j, j < 6 → am_aL σ (o + 51) (6 * i + j) = h.2 j
end
/-- the log of the reference has the batch under way too -/
def m_rlog (M : mOff) : List Int32 := if o_und M = true then o_log M ++ m_batchLog (o_hel M) else o_log M
def OffR (σ : am_S) (o : Nat) (M : mOff) : Prop := OffK σ o ∧ rNum σ o M.1 ∧ rPol σ o (o_pol M) ∧ rRnk σ o (tlA (o_tel M) 2) ∧ rPla σ o (tlA (o_tel M) 4) ∧ rPer σ o (tlA (o_tel M) 5) ∧ rRul σ o (tlA (o_tel M) 7) ∧ rSet σ o (tlA (o_tel M) 6) ∧ rLos σ o (o_los M) ∧ rCas σ o (o_cas M) ∧ rHel σ o (o_hel M) ∧ LogR σ o (m_rlog M)
section
variable {o : Nat} {fs as ms : List Nat} {σ σ1 : am_S}
theorem rNum.rc {N : mNum} (h : rNum σ o N) (hr : Rc o fs as ms σ σ1) (hf : [13000, 13001, 13060, 13061, 13062].all (fun x => ! fs.contains x) = true) : rNum σ1 o N := by
  have q : ∀ x ∈ [13000, 13001, 13060, 13061, 13062], x ∉ fs := fun x hx => by have := List.all_eq_true.mp hf x hx; simpa using this
  obtain ⟨h1, h2, h3, h4, h5⟩ := h
  exact ⟨(hr.fI (q _ (by decide))).trans h1, (hr.fI (q _ (by decide))).trans h2, (hr.fI (q _ (by decide))).trans h3, (hr.fI (q _ (by decide))).trans h4, (hr.fI (q _ (by decide))).trans h5⟩
end
/-- a part of the reference's state stands where fields fl and rows al are as they were -/
def rKeep (Q : am_S → Prop) (o : Nat) (fl al : List Nat) : Prop := ∀ σ σ1, (∀ g ∈ fl, am_fI σ1 g o = am_fI σ g o) → (∀ k ∈ al, ∀ i, am_aI σ1 (o + k) i = am_aI σ (o + k) i ∧ am_aL σ1 (o + k) i = am_aL σ (o + k) i) → Q σ → Q σ1
theorem rKeep.rc {Q : am_S → Prop} {o : Nat} {fl al fs as ms : List Nat} {σ σ1 : am_S} (h : rKeep Q o fl al) (hQ : Q σ) (hr : Rc o fs as ms σ σ1) (h0 : 1063 ≤ o) (hd : (fl.all (fun x => ! fs.contains x) && (al.all (fun x => ! as.contains x) && ms.all (fun x => decide (x < 1063)))) = true) : Q σ1 := by
  rw [Bool.and_eq_true, Bool.and_eq_true] at hd
  obtain ⟨d1, d2, d3⟩ := hd
  have m : ∀ x ∈ ms, x < 1063 := fun x hx => of_decide_eq_true (List.all_eq_true.mp d3 x hx)
  refine h σ σ1 (fun g hg => hr.fI ?_) (fun k hk i => ⟨hr.aI h0 m ?_, hr.aL h0 m ?_⟩) hQ
  · have := List.all_eq_true.mp d1 g hg; simpa using this
  · have := List.all_eq_true.mp d2 k hk; simpa using this
  · have := List.all_eq_true.mp d2 k hk; simpa using this
section
variable {o : Nat}
theorem kNum {N : mNum} : rKeep (fun s => rNum s o N) o [13000, 13001, 13060, 13061, 13062] [] := fun σ σ1 f _ h => by
  obtain ⟨h1, h2, h3, h4, h5⟩ := h
  exact ⟨(f _ (by decide)).trans h1, (f _ (by decide)).trans h2, (f _ (by decide)).trans h3, (f _ (by decide)).trans h4, (f _ (by decide)).trans h5⟩
theorem kPol {P : List mPol} : rKeep (fun s => rPol s o P) o [13002] [1, 2, 3] := fun σ σ1 f a h => by
  obtain ⟨h1, h2, h3, h4⟩ := h
  exact ⟨(f _ (by decide)).trans h1, h2.eq fun i => (a _ (by decide) i).1, h3.eq fun i => (a _ (by decide) i).1, h4.eq fun i => (a _ (by decide) i).1⟩
theorem kRnk {T : List mTell} : rKeep (fun s => rRnk s o T) o [13006] [4, 5, 6] := fun σ σ1 f a h => by
  obtain ⟨h1, h2, h3, h4⟩ := h
  exact ⟨(f _ (by decide)).trans h1, h2.eq fun i => (a _ (by decide) i).1, h3.eq fun i => (a _ (by decide) i).1, h4.eq fun i => (a _ (by decide) i).1⟩
theorem kPla {T : List mTell} : rKeep (fun s => rPla s o T) o [13010] [7, 8, 9, 10] := fun σ σ1 f a h => by
  obtain ⟨h1, h2, h3, h4, h5⟩ := h
  exact ⟨(f _ (by decide)).trans h1, h2.eq fun i => (a _ (by decide) i).1, h3.eq fun i => (a _ (by decide) i).1, h4.eq fun i => (a _ (by decide) i).1, h5.eq fun i => (a _ (by decide) i).1⟩
theorem kPer {T : List mTell} : rKeep (fun s => rPer s o T) o [13015] [11, 12, 13, 14] := fun σ σ1 f a h => by
  obtain ⟨h1, h2, h3, h4, h5⟩ := h
  exact ⟨(f _ (by decide)).trans h1, h2.eq fun i => (a _ (by decide) i).1, h3.eq fun i => (a _ (by decide) i).1, h4.eq fun i => (a _ (by decide) i).2, h5.eq fun i => (a _ (by decide) i).1⟩
theorem kRul {T : List mTell} : rKeep (fun s => rRul s o T) o [13020] [15, 16, 17] := fun σ σ1 f a h => by
  obtain ⟨h1, h2, h3, h4⟩ := h
  exact ⟨(f _ (by decide)).trans h1, h2.eq fun i => (a _ (by decide) i).1, h3.eq fun i => (a _ (by decide) i).1, h4.eq fun i => (a _ (by decide) i).1⟩
/-- a condition stands where the nodes up to it are as they were -/
theorem CndR.eq {σ σ1 : am_S} : ∀ (t : mF) (op i : Nat), (∀ j, j ≤ i → am_aI σ1 (o + 24) j = am_aI σ (o + 24) j ∧ am_aI σ1 (o + 25) j = am_aI σ (o + 25) j ∧ am_aI σ1 (o + 26) j = am_aI σ (o + 26) j) → CndR σ o t op i → CndR σ1 o t op i := by
  intro t
  induction t with
  | append a b iha ihb =>
    intro op i e h
    obtain ⟨h1, x, y, hx, hy, h2, h3, h4, h5⟩ := h
    exact ⟨⟨h1.1, (e i (Nat.le_refl _)).1.trans h1.2⟩, x, y, hx, hy, (e i (Nat.le_refl _)).2.1.trans h2, (e i (Nat.le_refl _)).2.2.trans h3, iha op x (fun j hj => e j (by omega)) h4, ihb op y (fun j hj => e j (by omega)) h5⟩
  | tag k a iha =>
    intro op i e h
    unfold CndR at h ⊢
    split
    · rename_i hk
      rw [if_pos hk] at h
      obtain ⟨h1, x, hx, h2, h3⟩ := h
      exact ⟨(e i (Nat.le_refl _)).1.trans h1, x, hx, (e i (Nat.le_refl _)).2.1.trans h2, iha 0 x (fun j hj => e j (by omega)) h3⟩
    · rename_i hk
      rw [if_neg hk] at h
      exact iha k i e h
  | nest c a iha =>
    intro op i e h
    cases a with
    | nest n b =>
      cases b with
      | nil =>
        obtain ⟨h1, h2, h3⟩ := h
        exact ⟨(e i (Nat.le_refl _)).1.trans h1, (e i (Nat.le_refl _)).2.1.trans h2, h3⟩
      | _ => exact absurd h (by simp [CndR])
    | _ => exact absurd h (by simp [CndR])
  | _ => intro op i e h; exact absurd h (by simp [CndR])
theorem kSet {T : List mTell} : rKeep (fun s => rSet s o T) o [13024, 13031] [18, 19, 20, 21, 22, 23, 24, 25, 26] := fun σ σ1 f a h => by
  obtain ⟨h1, h2, h3, h4, nn, h5, h6, h7, h8, h9⟩ := h
  refine ⟨(f _ (by decide)).trans h1, h2.eq fun i => (a _ (by decide) i).1, h3.eq fun i => (a _ (by decide) i).1, fun i hi h0 => (a 20 (by decide) i).1.trans (h4 i hi h0), nn, (f _ (by decide)).trans h5, h6, h7.eq fun i => (a _ (by decide) i).1, h8.eq fun i => (a _ (by decide) i).1, fun j c hc => ?_⟩
  have h10 := h9 j c hc
  split at h10
  · exact (a 23 (by decide) j).1.trans h10
  · obtain ⟨x, hx, h11, h12⟩ := h10
    exact ⟨x, hx, (a 23 (by decide) j).1.trans h11, CndR.eq _ _ _ (fun j _ => ⟨(a 24 (by decide) j).1, (a 25 (by decide) j).1, (a 26 (by decide) j).1⟩) h12⟩
theorem kLos {Ls : List mLoss} : rKeep (fun s => rLos s o Ls) o [13035] [27, 28, 29, 30, 31, 32, 33, 34, 35] := fun σ σ1 f a h => by
  obtain ⟨h1, h2, h3, h4, h5, h6, h7, h8⟩ := h
  refine ⟨(f _ (by decide)).trans h1, h2.eq fun i => (a _ (by decide) i).1, h3.eq fun i => (a _ (by decide) i).1, h4.eq fun i => (a _ (by decide) i).1, h5.eq fun i => (a _ (by decide) i).1, h6.eq fun i => (a _ (by decide) i).1, h7.eq fun i => (a _ (by decide) i).1, fun i l hl j x hx => ?_⟩
  obtain ⟨g1, g2, g3⟩ := h8 i l hl j x hx
  exact ⟨(a 33 (by decide) _).1.trans g1, (a 34 (by decide) _).2.trans g2, (a 35 (by decide) _).2.trans g3⟩
theorem FacR.eq {σ σ1 : am_S} {k : Nat} {f : mFact} (h : FacR σ o k f) (a : ∀ q ∈ [42, 43, 44, 45, 46, 47, 48, 49], am_aI σ1 (o + q) k = am_aI σ (o + q) k ∧ am_aL σ1 (o + q) k = am_aL σ (o + q) k) : FacR σ1 o k f := by
  obtain ⟨h1, h2, h3, h4, h5, h6, h7, h8⟩ := h
  exact ⟨(a _ (by decide)).1.trans h1, (a _ (by decide)).1.trans h2, (a _ (by decide)).1.trans h3, (a _ (by decide)).1.trans h4, (a _ (by decide)).1.trans h5, (a _ (by decide)).1.trans h6, (a _ (by decide)).2.trans h7, (a _ (by decide)).2.trans h8⟩
theorem kCas {Cs : List mCase} : rKeep (fun s => rCas s o Cs) o [13045] [36, 37, 38, 39, 40, 41, 42, 43, 44, 45, 46, 47, 48, 49] := fun σ σ1 f a h => by
  obtain ⟨h1, h2, h3, h4, h5, h6, h7, h8⟩ := h
  exact ⟨(f _ (by decide)).trans h1, h2.eq fun i => (a _ (by decide) i).1, h3.eq fun i => (a _ (by decide) i).1, h4.eq fun i => (a _ (by decide) i).1, h5.eq fun i => (a _ (by decide) i).1, h6.eq fun i => (a _ (by decide) i).1, h7.eq fun i => (a _ (by decide) i).1, fun i c hc j x hx => (h8 i c hc j x hx).eq (fun q hq => a q (by simp only [List.mem_cons, List.not_mem_nil, or_false] at hq ⊢; omega) _)⟩
theorem kHel {H : List mDeed} : rKeep (fun s => rHel s o H) o [13063] [50, 51] := fun σ σ1 f a h => by
  obtain ⟨h1, h2, h3⟩ := h
  exact ⟨(f _ (by decide)).trans h1, h2.eq fun i => (a _ (by decide) i).1, fun i x hx j hj => (a 51 (by decide) _).2.trans (h3 i x hx j hj)⟩
theorem kLog {L : List Int32} : rKeep (fun s => LogR s o L) o [13067] [52] := fun σ σ1 f a h => by
  exact ⟨(f _ (by decide)).trans h.1, fun i hi => by rw [(a 52 (by decide) i).1]; exact h.2 i hi⟩
end
