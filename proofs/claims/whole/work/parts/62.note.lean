/-! acts as they are noted by the reference -/
theorem n64 {k : Nat} (h : k < 9223372036854775808) : (Int64.ofNat k).toInt = k := by
  rw [Int64.toInt_ofNat']
  have hs : Int64.size = 18446744073709551616 := rfl
  rw [hs]
  exact Int.bmod_eq_of_le (by omega) (by omega)
theorem acts22 {n : Nat} (h1 : 1 ≤ n) (h2 : n ≤ 22) : n = 1 ∨ n = 2 ∨ n = 3 ∨ n = 4 ∨ n = 5 ∨ n = 6 ∨ n = 7 ∨ n = 8 ∨ n = 9 ∨ n = 10 ∨ n = 11 ∨ n = 12 ∨ n = 13 ∨ n = 14 ∨ n = 15 ∨ n = 16 ∨ n = 17 ∨ n = 18 ∨ n = 19 ∨ n = 20 ∨ n = 21 ∨ n = 22 := by omega
theorem m_args_le (n : Nat) : m_args n ≤ 6 := by
  have h : ∀ i : Fin 23, m_args i ≤ 6 := by decide
  by_cases hn : n < 23
  · exact h ⟨n, hn⟩
  · unfold m_args
    rw [List.getD, List.getElem?_eq_none (by simp; omega)]
    exact Nat.zero_le _
theorem flat_len {α : Type} (f : α → List Int32) (b : Nat) (h : ∀ x, (f x).length ≤ b) : ∀ l : List α, (l.flatMap f).length ≤ b * l.length
  | [] => by simp
  | x :: l => by
    have h1 := h x
    have h2 := flat_len f b h l
    simp only [List.flatMap_cons, List.length_append, List.length_cons]
    rw [Nat.mul_add]
    omega
theorem m_enc2 {b : Int32} (h0 : 0 ≤ b.toInt) (h1 : b.toInt < 256) : (m_enc b.toInt64).length ≤ 2 := by
  have h : ∀ i : Fin 256, (m_enc (Int32.ofNat i).toInt64).length ≤ 2 := by decide +kernel
  rw [n32of h0]
  exact h ⟨b.toInt.toNat, by omega⟩
section
variable {nl : Bool} {Ln : Nat} {xs : Nat → Int32} {d : Nat} {σ : am_S} {o : Nat}
theorem r_argumentsOf {n : Nat} {F : Int32 → am_S → Prop} (h1 : 1 ≤ n) (h2 : n ≤ 22) (K : F (Int32.ofNat (m_args n)) σ) : k_Rm_argumentsOf nl Ln xs (d + 1) (Int32.ofNat n) σ F := by
  rcases acts22 h1 h2 with h | h | h | h | h | h | h | h | h | h | h | h | h | h | h | h | h | h | h | h | h | h <;> subst h <;>
    (refine w_Rm_argumentsOf ⟨fun q => ?_, fun q => ?_, fun q => ?_, fun q => ?_, fun q => ?_⟩ <;> first
      | exact K
      | exact absurd q (by decide))
/-- the values that an act has lie in a row of six longs -/
def ArgR (σ : am_S) (m : Nat) (a : mArg) : Prop := am_kd σ m = (1001, 6) ∧ ∀ j, j < 6 → am_aL σ m j = a j
theorem r_note {m n : Nat} {a : mArg} {t L : List Int32} {F : am_S → Prop} (hK : OffK σ o) (h : LogR σ o L) (hA : ArgR σ m a) (h1 : 1 ≤ n) (h2 : n ≤ 22) (hm : m ≠ o + 52)
    (ht : n = 6 → a 1 = Int64.ofNat t.length ∧ t.length ≤ 400 ∧ ∀ i, i < t.length → am_aI σ (o + 62) i = t.getD i 0) (hl : L.length + (m_note n a t).length + 10 ≤ 450000)
    (K : ∀ σ', LogR σ' o (L ++ m_note n a t) → Rc o [13067] [52] [] σ σ' → F σ') : k_Ro_note nl Ln xs (d + 2) o (Int32.ofNat n) (some m) σ F := by
  have aLe : ∀ {s : am_S}, Rc o [13067] [52] [] σ s → ArgR s m a := by
    intro s hs
    refine ⟨by rw [hs.kd]; exact hA.1, fun j hj => ?_⟩
    rw [(hs.2.2.2.2.2.2 m j (fun k hk => by simp at hk; rw [hk]; exact hm) (by simp)).2]
    exact hA.2 j hj
  have hal := m_args_le n
  have hnote : (m_note n a t).length = (m_enc (Int64.ofNat n)).length + (((List.range (m_args n)).flatMap (fun k => m_enc (a k))).length + (if n = 6 then t.flatMap (fun b => m_enc b.toInt64) else []).length) := by
    unfold m_note
    simp only [List.length_append]
  -- the text of clauses
  have loop2 : n = 6 → ∀ (j k : Nat) (s : am_S) (L' : List Int32) (x3 : Int32), k + j = t.length → LogR s o L' → Rc o [13067] [52] [] σ s → L'.length + ((t.drop k).flatMap (fun b => m_enc b.toInt64)).length + 10 ≤ 450000 → (∀ σ', LogR σ' o (L' ++ (t.drop k).flatMap (fun b => m_enc b.toInt64)) → Rc o [13067] [52] [] σ σ' → F σ') → c_Ro_note_37 nl Ln xs (d + 2) o (Int32.ofNat n) (some m) x3 (Int32.ofNat k) s F := by
    intro h6 j
    obtain ⟨t1, t2, t3⟩ := ht h6
    have e1 : ∀ {s : am_S}, Rc o [13067] [52] [] σ s → am_aL s ((some m).getD 0) (1 : Int32).toNatClampNeg = Int64.ofNat t.length := by
      intro s hs
      have := (aLe hs).2 1 (by decide)
      rw [t1] at this
      exact this
    have e2 : ∀ k : Nat, k < 500 → ((Int32.ofNat k).toInt64 < Int64.ofNat t.length ↔ k < t.length) := by
      intro k hk
      rw [i64lt, t64, n32 (by omega)]
      rw [n64 (by omega)]
      omega
    induction j with
    | zero =>
      intro k s L' x3 hk hr hc hb K'
      refine w_Ro_note_37 ⟨fun _ => ⟨ar_mk (aLe hc).1 (by decide) (by decide), ?_, ?_⟩, fun q => absurd (by rw [h6]; rfl) q⟩
      · rw [e1 hc, e2 k (by omega)]
        intro q
        omega
      · intro _
        refine K' s ?_ hc
        rw [List.drop_eq_nil_of_le (by omega)]
        simpa using hr
    | succ j ih =>
      intro k s L' x3 hk hr hc hb K'
      have hKs := hK.rc hc
      have hd : t.drop k = t.getD k 0 :: t.drop (k + 1) := by
        rw [List.drop_eq_getElem_cons (by omega)]
        simp [List.getD, List.getElem?_eq_getElem (show k < t.length by omega)]
      refine w_Ro_note_37 ⟨fun _ => ⟨ar_mk (aLe hc).1 (by decide) (by decide), fun _ => ⟨is_mk hKs.2.1, oA_13090 hKs (by rw [n32 (by omega)]; omega) (by rw [n32 (by omega)]; omega), ?_⟩, ?_⟩, fun q => absurd (by rw [h6]; rfl) q⟩
      · rw [oG_13090 hKs, n32c (by omega), hc.aI hK.lo (by simp) (by decide), t3 k (by omega)]
        rw [hd] at hb
        simp only [List.flatMap_cons, List.length_append] at hb
        refine r_noteNumber hKs hr (by omega) ?_
        intro s' hr' hc' _
        rw [n32s]
        refine ih (k + 1) s' _ _ (by omega) hr' (hc.trans hc') ?_ ?_
        · rw [List.length_append]; omega
        · intro σ' h3 h4
          refine K' σ' ?_ h4
          rw [hd, List.flatMap_cons, ← List.append_assoc]
          exact h3
      · rw [e1 hc, e2 k (by omega)]
        intro q
        omega
  have loop : ∀ (j k : Nat) (s : am_S) (L' : List Int32), k + j = m_args n → LogR s o L' → Rc o [13067] [52] [] σ s → L'.length + (((List.range' k j)).flatMap (fun k => m_enc (a k))).length + (if n = 6 then t.flatMap (fun b => m_enc b.toInt64) else []).length + 10 ≤ 450000 → (∀ σ', LogR σ' o (L' ++ ((List.range' k j).flatMap (fun k => m_enc (a k)) ++ (if n = 6 then t.flatMap (fun b => m_enc b.toInt64) else []))) → Rc o [13067] [52] [] σ σ' → F σ') → c_Ro_note_14 nl Ln xs (d + 2) o (Int32.ofNat n) (some m) (Int32.ofNat (m_args n)) (Int32.ofNat k) s F := by
    intro j
    induction j with
    | zero =>
      intro k s L' hk hr hc hb K'
      refine w_Ro_note_14 ⟨fun q => absurd ((n32lt (by omega) (by omega)).mp q) (by omega), fun _ => ?_⟩
      simp only [List.range'_zero, List.flatMap_nil, List.nil_append, List.length_nil] at hb K'
      by_cases h6 : n = 6
      · rw [if_pos h6] at hb K'
        exact loop2 h6 t.length 0 s L' _ (by omega) hr hc (by simpa using hb) (by simpa using K')
      · rw [if_neg h6] at K'
        refine w_Ro_note_37 ⟨fun q => absurd ((n32i (b := 6) (by omega) (by omega)).mp q) h6, fun _ => K' s (by simpa using hr) hc⟩
    | succ j ih =>
      intro k s L' hk hr hc hb K'
      have hKs := hK.rc hc
      rw [List.range'_succ, List.flatMap_cons, List.length_append] at hb
      refine w_Ro_note_14 ⟨fun _ => ⟨ar_mk (aLe hc).1 (by rw [n32 (by omega)]; omega) (by rw [n32 (by omega)]; omega), is_mk hKs.2.1, ?_⟩, fun q => absurd ((n32lt (by omega) (by omega)).mpr (by omega)) q⟩
      rw [Option.getD_some, n32c (by omega), (aLe hc).2 k (by omega)]
      refine r_noteNumber hKs hr (by omega) ?_
      intro s' hr' hc' _
      rw [n32s]
      refine ih (k + 1) s' _ (by omega) hr' (hc.trans hc') ?_ ?_
      · rw [List.length_append]; omega
      · intro σ' h3 h4
        refine K' σ' ?_ h4
        rw [List.range'_succ, List.flatMap_cons, List.append_assoc, ← List.append_assoc L']
        exact h3
  refine w_Ro_note ⟨is_mk hK.2.1, ?_⟩
  have e64 : (Int32.ofNat n).toInt64 = Int64.ofNat n := by
    apply Int64.toInt_inj.mp
    rw [t64, n32 (by omega), n64 (by omega)]
  rw [e64]
  refine r_noteNumber hK h (by omega) ?_
  intro s' hr' hc' _
  refine r_argumentsOf h1 h2 ?_
  intro _
  refine loop (m_args n) 0 s' _ (by omega) hr' hc' ?_ ?_
  · rw [List.length_append, ← List.range_eq_range']; omega
  · intro σ' h3 h4
    refine K σ' ?_ h4
    rw [← List.range_eq_range', List.append_assoc] at h3
    exact h3
end
