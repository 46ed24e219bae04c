/-! THE PARSER of the reference: conditions -/
def CAll (σ : am_S) (o : Nat) (tr : mF) (x : Nat) : Prop := ∀ q, CndR σ o tr q x
/-- what comes of a condition: a fault; a number too long, which the model tells later; the tree -/
def CdK (t : List Int32) (σ : am_S) (o s op nn : Nat) (R : mPR) (F : Int32 → am_S → Prop) : Prop :=
  (∀ e, R = .inl e → ∀ σ' nn' x, PE σ' o e nn' → nn ≤ nn' → 2 * nn' ≤ 2 * nn + (t.length - s) → Pf σ σ' o nn → F x σ') ∧
  (∀ tr r, R = .inr (tr, r) → (m_hd r).1 = 26 → ∀ σ' nn' x, PE σ' o (m_hd r).2.2 nn' → nn ≤ nn' → 2 * nn' ≤ 2 * nn + (t.length - s) → Pf σ σ' o nn → F x σ') ∧
  (∀ tr r, R = .inr (tr, r) → ∀ σ' s' nn' (x : Nat), PS σ' o t s' op nn' → m_tk t s' = r → s ≤ s' → r.length + 2 ≤ (m_tk t s).length → nn ≤ nn' → 2 * nn' + s ≤ 2 * nn + s' → x < nn' → CAll σ' o tr x → Pf σ σ' o nn → F (Int32.ofNat x) σ')
section
variable {nl : Bool} {Ln : Nat} {xs : Nat → Int32} {d : Nat} {σ : am_S} {o : Nat} {t : List Int32} {s op nn e : Nat}
theorem PS.le (P : PS σ o t s op nn) : s ≤ t.length := P.2.2.2.1.1
theorem PS.l4 (P : PS σ o t s op nn) : t.length ≤ 400 := P.2.2.1.1
theorem PS.pl (P : PS σ o t s op nn) : (m_hd (m_tk t s)).2.2 = s := (hd_at P.2.2.2.1.1 P.2.2.2.1.2.1).1
theorem tk_len (P : PS σ o t s op nn) : (m_tk t s).tail.length + 1 = (m_tk t s).length := by
  have h := hd_at P.2.2.2.1.1 P.2.2.2.1.2.1
  by_cases k0 : m_knd t s = 0
  · rw [h.2.1 k0]; rfl
  · by_cases k1 : m_knd t s = 1
    · rw [(h.2.2.1 k1).1]; rfl
    · by_cases k2 : m_knd t s = 2
      · rw [(h.2.2.2.1 k2).1]; rfl
      · rw [(h.2.2.2.2 k0 k1 k2).1]; rfl
/-- nodes that stand stay -/
theorem CAll.pf {σ1 : am_S} {tr : mF} {x n : Nat} (h : CAll σ o tr x) (f : Pf σ σ1 o n) (hx : x < n) : CAll σ1 o tr x := fun q => CndR.eq tr q x (fun j hj => f.2 j (by omega)) (h q)
theorem cnd_pf {σ1 : am_S} {tr : mF} {q x n : Nat} (h : CndR σ o tr q x) (f : Pf σ σ1 o n) (hx : x < n) : CndR σ1 o tr q x := CndR.eq tr q x (fun j hj => f.2 j (by omega)) h
/-- a node is made: no fault -/
theorem r_nodeP {a b c : Int32} {F : Int32 → am_S → Prop} (P : PS σ o t s op nn) (hn : nn < 30400) (K : ∀ σ', PS σ' o t s op (nn + 1) → am_aI σ' (o + 24) nn = a → am_aI σ' (o + 25) nn = b → am_aI σ' (o + 26) nn = c → Pf σ σ' o nn → F (Int32.ofNat nn) σ') : k_Ro_node nl Ln xs (d + 1) o a b c σ F := by
  obtain ⟨hK, hM, hT, hk, h97, h98, h31⟩ := P
  refine r_node hK h31 hn (fun σ' f31 fa fb fc fold hr => K σ' ⟨hK.rc hr, hM.rc hr, hT.rc hr hK.lo (by decide) (by decide), ⟨hk.1, hk.2.1, (hr.fI (by decide)).trans hk.2.2.1, (hr.fI (by decide)).trans hk.2.2.2.1, (hr.fI (by decide)).trans hk.2.2.2.2.1, (hr.fI (by decide)).trans hk.2.2.2.2.2.1, fun q => (hr.fL (by decide)).trans (hk.2.2.2.2.2.2 q)⟩, (hr.fI (by decide)).trans h97, (hr.fI (by decide)).trans h98, f31⟩ fa fb fc ⟨hr.mono (by decide) (by simp) (by simp), fold⟩)
theorem r_nodeE {a b c : Int32} {F : Int32 → am_S → Prop} (P : PE σ o e nn) (hn : nn < 30400) (K : ∀ σ', PE σ' o e (nn + 1) → Pf σ σ' o nn → F (Int32.ofNat nn) σ') : k_Ro_node nl Ln xs (d + 1) o a b c σ F := by
  obtain ⟨hK, hM, he, h97, h31⟩ := P
  refine r_node hK h31 hn (fun σ' f31 fa fb fc fold hr => K σ' ⟨hK.rc hr, hM.rc hr, he, (hr.fI (by decide)).trans h97, f31⟩ ⟨hr.mono (by decide) (by simp) (by simp), fold⟩)
/-- a fault: nothing more is read -/
theorem r_condE {F : Int32 → am_S → Prop} (P : PE σ o e nn) (K : ∀ x, F x σ) : (∀ x, c_Ro_both_5 nl Ln xs (d + 2) o x σ F) ∧ ∀ x, c_Ro_cond_5 nl Ln xs (d + 2) o x σ F :=
  ⟨fun x => w_Ro_both_5 ⟨is_mk P.1.2.1, r_takesE P (fun _ => ⟨fun q => absurd q (by decide), fun _ => K x⟩)⟩, fun x => w_Ro_cond_5 ⟨is_mk P.1.2.1, r_takesE P (fun _ => ⟨fun q => absurd q (by decide), fun _ => K x⟩)⟩⟩
end
