/-! THE PARSER of the reference: kinds, numbered clauses -/
def KwR (σ : am_S) : Prop := ∀ k, k < 6 → am_aR σ 1061 k = some (k + 2)
theorem KwR.pf {σ σ' : am_S} {o n : Nat} (h : KwR σ) (f : Pf σ σ' o n) : KwR σ' := fun k hk => by rw [f.1.aR]; exact h k hk
theorem kw_txt : ∀ k, k < 6 → m_wd[20 + k]? = some (txt (k + 2)) ∧ 3 ≤ (txt (k + 2)).length := by decide +kernel
section
variable {nl : Bool} {Ln : Nat} {xs : Nat → Int32} {d : Nat} {σ : am_S} {o : Nat} {t : List Int32} {s op nn e : Nat}
theorem r_needsKind {F : Int32 → am_S → Prop} (P : PS σ o t s op nn) (hw : KwR σ)
    (K1 : 20 ≤ (m_hd (m_tk t s)).1 ∧ (m_hd (m_tk t s)).1 ≤ 25 → ∀ σ' s', s + 3 ≤ s' → m_tk t s' = (m_tk t s).tail → PS σ' o t s' op nn → Pf σ σ' o nn → F (Int32.ofNat ((m_hd (m_tk t s)).1 - 20)) σ')
    (K2 : ¬ (20 ≤ (m_hd (m_tk t s)).1 ∧ (m_hd (m_tk t s)).1 ≤ 25) → ∀ σ', PE σ' o s nn → Pf σ σ' o nn → F 0 σ') : k_Ro_needsKind nl Ln xs (d + 7) o σ F := by
  have P0 := P
  obtain ⟨hK, hM, hT, hk, h97, h98, h31⟩ := P
  have hm : am_fR σ 13099 o = some 1053 := hK.2.2.1
  have hlen := hT.1
  have hsl := hk.1
  have loop : ∀ (j k : Nat), k + j = 6 → (∀ q, q < k → (m_hd (m_tk t s)).1 ≠ 20 + q) → c_Ro_needsKind_2 nl Ln xs (d + 7) o (Int32.ofNat k) σ F := by
    intro j
    induction j with
    | zero =>
      intro k hk6 hno
      refine w_Ro_needsKind_2 ⟨fun q => absurd q (by rw [show k = 6 by omega]; decide), fun _ => ⟨is_mk hK.2.1, ?_⟩⟩
      rw [hk.2.2.1]
      refine r_wrongP P0 (by omega) (fun σ' PE' f' _ => K2 ?_ σ' PE' f')
      intro q
      exact hno ((m_hd (m_tk t s)).1 - 20) (by omega) (by omega)
    | succ j ih =>
      intro k hk6 hno
      have bk : 0 ≤ (Int32.ofNat k).toInt ∧ (Int32.ofNat k).toInt < 6 := by rw [n32 (by omega)]; omega
      refine w_Ro_needsKind_2 ⟨fun _ => ?_, fun q => absurd (by rw [show (6 : Int32) = Int32.ofNat 6 from rfl, n32lt (by omega) (by omega)]; omega) q⟩
      rw [hm, Option.getD_some, mG_12000 hM, n32c (by omega), hw k (by omega)]
      refine ⟨is_mk hK.2.1, is_mk hM.1, mA_12000 hM bk.1 bk.2, ?_⟩
      obtain ⟨w1, w2⟩ := kw_txt k (by omega)
      refine (r_takes (d := d) (i := 20 + k) P0 (by omega) (by omega) w1 (by omega) (fun hh σ' s' g1 g2 P' f' _ => ⟨fun _ => ?_, fun q => absurd rfl q⟩) (fun hh _ => ⟨fun q => absurd q (by decide), fun _ => ?_⟩))
      · have := K1 (by omega) σ' s' (by omega) g2 P' f'
        rw [show (m_hd (m_tk t s)).1 - 20 = k by omega] at this
        exact this
      · rw [n32s]
        refine ih (k + 1) (by omega) (fun q hq => ?_)
        by_cases e : q = k
        · rw [e]; exact hh
        · exact hno q (by omega)
  exact w_Ro_needsKind (loop 6 0 (by omega) (fun q hq => by omega))
theorem r_needsKindE {F : Int32 → am_S → Prop} (P : PE σ o e nn) (hw : KwR σ) (K : ∀ σ', PE σ' o e nn → Pf σ σ' o nn → F 0 σ') : k_Ro_needsKind nl Ln xs (d + 2) o σ F := by
  have hK := P.1
  have hM := P.2.1
  have hm : am_fR σ 13099 o = some 1053 := hK.2.2.1
  have loop : ∀ (j k : Nat), k + j = 6 → c_Ro_needsKind_2 nl Ln xs (d + 2) o (Int32.ofNat k) σ F := by
    intro j
    induction j with
    | zero =>
      intro k hk6
      refine w_Ro_needsKind_2 ⟨fun q => absurd q (by rw [show k = 6 by omega]; decide), fun _ => ⟨is_mk hK.2.1, r_wrongE P (fun σ' P' f' _ => K σ' P' f')⟩⟩
    | succ j ih =>
      intro k hk6
      have bk : 0 ≤ (Int32.ofNat k).toInt ∧ (Int32.ofNat k).toInt < 6 := by rw [n32 (by omega)]; omega
      refine w_Ro_needsKind_2 ⟨fun _ => ?_, fun q => absurd (by rw [show (6 : Int32) = Int32.ofNat 6 from rfl, n32lt (by omega) (by omega)]; omega) q⟩
      rw [hm, Option.getD_some, mG_12000 hM, n32c (by omega), hw k (by omega)]
      refine ⟨is_mk hK.2.1, is_mk hM.1, mA_12000 hM bk.1 bk.2, r_takesE P (fun _ => ⟨fun q => absurd q (by decide), fun _ => ?_⟩)⟩
      rw [n32s]
      exact ih (k + 1) (by omega)
  exact w_Ro_needsKind (loop 6 0 (by omega))
/-- the words of the parser, as texts of the program -/
theorem ws_txt : ∀ q ∈ [(21, 0), (9, 1), (34, 2), (33, 3), (17, 4), (13, 5), (10, 6), (11, 7), (19, 8), (31, 9), (32, 10), (22, 11), (30, 12), (29, 13), (23, 14), (24, 15), (25, 16), (26, 17), (27, 18), (28, 19)], q.1 < 38 ∧ q.2 < 26 ∧ m_wd[q.2]? = some (txt q.1) ∧ 2 ≤ (txt q.1).length := by decide +kernel
end
