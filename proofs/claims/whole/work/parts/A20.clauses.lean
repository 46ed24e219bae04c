/-! THE PARSER of the reference: the clauses of a text -/
/-- what the clauses of a text may change: no clause below T, no node below n0 -/
def Lf (σ σ' : am_S) (o n0 T : Nat) : Prop := Rc o paF clA [] σ σ' ∧ (∀ i, i < n0 → am_aI σ' (o + 24) i = am_aI σ (o + 24) i ∧ am_aI σ' (o + 25) i = am_aI σ (o + 25) i ∧ am_aI σ' (o + 26) i = am_aI σ (o + 26) i) ∧ ∀ i, i < T → am_aI σ' (o + 21) i = am_aI σ (o + 21) i ∧ am_aI σ' (o + 22) i = am_aI σ (o + 22) i ∧ am_aI σ' (o + 23) i = am_aI σ (o + 23) i
section
variable {nl : Bool} {Ln : Nat} {xs : Nat → Int32} {d : Nat} {σ σ1 σ2 : am_S} {o : Nat} {t : List Int32} {s s0 n0 n1 T p nn nn' : Nat}
theorem Lf.cf (h : Lf σ σ1 o n0 T) (f : Cf σ1 σ2 o n1 p) (hn : n0 ≤ n1) (hp : T ≤ p) : Lf σ σ2 o n0 T := ⟨h.1.trans f.1, fun i hi => ⟨(f.2.1 i (by omega)).1.trans (h.2.1 i hi).1, (f.2.1 i (by omega)).2.1.trans (h.2.1 i hi).2.1, (f.2.1 i (by omega)).2.2.trans (h.2.1 i hi).2.2⟩, fun i hi => ⟨(f.2.2 i (by omega)).1.trans (h.2.2 i hi).1, (f.2.2 i (by omega)).2.1.trans (h.2.2 i hi).2.1, (f.2.2 i (by omega)).2.2.trans (h.2.2 i hi).2.2⟩⟩
theorem ClA.cf {q : Nat} {c : mCl} (h : ClA σ o q nn c) (f : Cf σ σ1 o nn p) (hq : q ≠ p) (hn : nn ≤ nn') : ClA σ1 o q nn' c := by
  obtain ⟨h1, h2, h3⟩ := h
  obtain ⟨f1, f2, f3⟩ := f.2.2 q hq
  refine ⟨f1.trans h1, f2.trans h2, ?_⟩
  cases hc : c.2.2 with
  | none => rw [hc] at h3; exact f3.trans h3
  | some tr => rw [hc] at h3; obtain ⟨x, a, b, k⟩ := h3; exact ⟨x, by omega, f3.trans b, CndR.eq tr 0 x (fun j hj => f.2.1 j (by omega)) k⟩
/-- the clauses are read, one after the other -/
theorem r_clLoop {m x2 : Option Nat} {v : Int32} {F : Int32 → am_S → Prop} (hT : T + 30 ≤ 4560) (hbn : 2 * n0 + 400 ≤ 60000)
    (KE : ∀ e, m_parse t = .inl e → ∀ σ' nn' x4, PE σ' o e nn' → Lf σ σ' o n0 T → c_Ro_clauses_129 nl Ln xs (d + 74) o m v (Int32.ofNat T) x4 σ' F)
    (KS : ∀ cs, m_parse t = .inr cs → ∀ σ' s' nn', PS σ' o t s' 0 nn' → Lf σ σ' o n0 T → n0 ≤ nn' → nn' ≤ n0 + 200 → (∀ i c, cs[i]? = some c → ClA σ' o (T + i) nn' c) → c_Ro_clauses_129 nl Ln xs (d + 74) o m v (Int32.ofNat T) (Int32.ofNat (T + cs.length)) σ' F) :
    ∀ (k : Nat) (cs : List mCl) (σ' : am_S) (s nn : Nat), cs.length + k = 30 → PS σ' o t s 0 nn → KwR σ' → Lf σ σ' o n0 T → n0 ≤ nn → 2 * nn ≤ 2 * n0 + s → (∀ i c, cs[i]? = some c → ClA σ' o (T + i) nn c) → (m_parse t = (match m_cll k (m_tk t s) with
      | .inl e => .inl e
      | .inr c' => .inr (cs ++ c'))) → c_Ro_clauses_82 nl Ln xs (d + 74) o m v (Int32.ofNat T) (Int32.ofNat (T + cs.length)) σ' F := by
  intro k
  induction k with
  | zero =>
    intro cs σ' s nn hk P hw hf h0 hb hc hR
    have hle := P.le
    have hl4 := P.l4
    have hpl := P.pl
    have hsg := (hd_sign P.2.2.2.1.1 P.2.2.2.1.2.1).2.2.2.2
    refine w_Ro_clauses_82 ⟨is_mk P.1.2.1, fun _ => ?_, fun q => absurd P.2.2.2.2.1 q⟩
    rw [P.2.2.2.1.2.2.2.1]
    unfold m_cll at hR
    refine ⟨fun q => ?_, fun q => ⟨fun _ => ?_, fun q2 => absurd ?_ q2⟩⟩
    · rw [if_pos (hsg.mpr q)] at hR
      exact KS cs (by rw [hR]; show Sum.inr (cs ++ []) = _; rw [List.append_nil]) σ' s nn P hf h0 (by omega) hc
    · rw [if_neg (fun q2 => q (hsg.mp q2))] at hR
      rw [P.2.2.2.1.2.2.1]
      refine r_wrongP P (by omega) (fun s2 P2 f2 _ => ?_)
      refine w_Ro_clauses_82 ⟨is_mk P2.1.2.1, fun q => absurd q P2.ne, fun _ => ?_⟩
      exact KE s (by rw [hR, hpl]) s2 nn _ P2 (hf.cf (Cf.of (p := T) P.1.lo f2) h0 (Nat.le_refl _))
    · rw [← n32a, show cs.length = 30 by omega]
      rw [show (30 : Int32) = Int32.ofNat 30 from rfl]
      grind
  | succ k ih =>
    intro cs σ' s nn hk P hw hf h0 hb hc hR
    have hle := P.le
    have hl4 := P.l4
    have hsg := (hd_sign P.2.2.2.1.1 P.2.2.2.1.2.1).2.2.2.2
    refine w_Ro_clauses_82 ⟨is_mk P.1.2.1, fun _ => ?_, fun q => absurd P.2.2.2.2.1 q⟩
    rw [P.2.2.2.1.2.2.2.1]
    unfold m_cll at hR
    refine ⟨fun q => ?_, fun q => ⟨fun q2 => ?_, fun _ => ?_⟩⟩
    · rw [if_pos (hsg.mpr q)] at hR
      exact KS cs (by rw [hR]; show Sum.inr (cs ++ []) = _; rw [List.append_nil]) σ' s nn P hf h0 (by omega) hc
    · exfalso
      have e : Int32.ofNat (T + cs.length) - Int32.ofNat T = Int32.ofNat cs.length := by rw [← n32a]; grind
      rw [e, show (30 : Int32) = Int32.ofNat 30 from rfl, n32i (by omega) (by omega)] at q2
      omega
    · rw [if_neg (fun q2 => q (hsg.mp q2))] at hR
      refine r_clause (d := d) (by omega) P hw (by omega) ⟨?_, ?_⟩
      · intro e he s2 nn' P2 h1 h2 f2 _
        refine w_Ro_clauses_82 ⟨is_mk P2.1.2.1, fun q => absurd q P2.ne, fun _ => ?_⟩
        exact KE e (by rw [hR]; show (match (match m_clause (m_tk t s) with | .inl e => .inl e | .inr (c, r) => (match m_cll k r with | .inl e => .inl e | .inr cs => .inr (c :: cs)) : Nat ⊕ List mCl) with | .inl e => (.inl e : Nat ⊕ List mCl) | .inr c' => .inr (cs ++ c')) = _; rw [he]) s2 nn' _ P2 (hf.cf f2 h0 (by omega))
      · intro c r he s2 s' nn' P2 h1 h2 h3 h4 h5 f2 _
        rw [n32s, show T + cs.length + 1 = T + (cs ++ [c]).length by simp; omega]
        refine ih (cs ++ [c]) s2 s' nn' (by simp; omega) P2 (hw.rc f2.1) (hf.cf f2 h0 (by omega)) (by omega) (by omega) (fun i x hx => ?_) ?_
        · rcases get_push hx with ⟨a, b⟩ | ⟨a, b⟩
          · rw [a, b]; exact h5
          · exact (hc i x b).cf f2 (by omega) h3
        · rw [hR]
          show (match (match m_clause (m_tk t s) with | .inl e => .inl e | .inr (c, r) => (match m_cll k r with | .inl e => .inl e | .inr cs => .inr (c :: cs)) : Nat ⊕ List mCl) with | .inl e => (.inl e : Nat ⊕ List mCl) | .inr c' => .inr (cs ++ c')) = _
          rw [he, h1]
          have e2 : ∀ X : Nat ⊕ List mCl, (match (match X with | .inl e => .inl e | .inr cs => .inr (c :: cs) : Nat ⊕ List mCl) with | .inl e => (.inl e : Nat ⊕ List mCl) | .inr c' => .inr (cs ++ c')) = (match X with | .inl e => .inl e | .inr c' => .inr ((cs ++ [c]) ++ c')) := fun X => by cases X <;> simp
          exact e2 (m_cll k r)
end
