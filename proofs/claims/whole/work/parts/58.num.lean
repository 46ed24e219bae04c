/-! numbers that are put as bytes, by the class -/
theorem m_encN_len : ∀ f u, (m_encN f u).length ≤ f
  | 0, _ => Nat.le_refl _
  | f + 1, u => by
    unfold m_encN
    split
    · simp
    · have := m_encN_len f (u / 128)
      simp only [List.length_cons]
      omega
theorem m_enc_len (v : Int64) : (m_enc v).length ≤ 10 := m_encN_len 10 _
section
variable {nl : Bool} {Ln : Nat} {xs : Nat → Int32} {d : Nat} {σ : am_S} {w : ow_T}
theorem by_putNumber {n g : Nat} {k : Nat × Nat} {L : List Int32} {v : Int64} {F : am_S → Prop} (h : ByR σ w k n g L) (ho : OwI σ w) (hk : k ≠ (0, 0)) (hl : L.length + 10 < 300000)
    (K : ∀ σ' w' g', ByR σ' w' k n g' (L ++ m_enc v) → ByC σ w σ' w' k g g' → F σ') : k_By_putNumber nl Ln xs (d + 4) n v σ F := by
  have loop : ∀ (j : Nat) (x5 : Int32) (x3 : Int64) (x6 : Option Value) (s : am_S) (ws : ow_T) (gs : Nat) (L' : List Int32), j ≤ 10 → x5 = Int32.ofNat (10 - j) → ByR s ws k n gs L' → L'.length ≤ L.length + (10 - j) → ByC σ w s ws k g gs → (∀ σ' w' g', ByR σ' w' k n g' (L' ++ m_encN j x3.toUInt64.toNat) → ByC σ w σ' w' k g g' → F σ') → c_By_putNumber_12 nl Ln xs (d + 4) n v x3 x5 x6 s F := by
    intro j
    induction j with
    | zero =>
      intro x5 x3 x6 s ws gs L' hj h5 hr hl' hc K'
      refine w_By_putNumber_12 ⟨fun t => absurd t (by rw [h5]; decide), fun _ => K' s ws gs (by rw [m_encN, List.append_nil]; exact hr) hc⟩
    | succ j ih =>
      intro x5 x3 x6 s ws gs L' hj h5 hr hl' hc K'
      refine w_By_putNumber_12 ⟨fun t => ?_, fun q => absurd (show x5 < 10 from by rw [h5]; exact (n32lt (a := 10 - (j + 1)) (b := 10) (by omega) (by omega)).mpr (by omega)) q⟩
      intro v2 e2 v4 e4 w8 e8
      have u4 : v4.toUInt64.toNat = x3.toUInt64.toNat / 128 := by rw [e4, u64_shr]
      rw [x127, o64_32] at e2
      refine w_By_putNumber_50 ⟨is_mk hr.2.1, by_put hr hc.1.1 hk (by omega) ?_⟩
      intro σ' w' g' hr' hc' _
      have hm : x3.toUInt64.toNat % 128 < 128 := Nat.mod_lt _ (by decide)
      by_cases hz : v4 = 0
      · have hz2 := hz
        rw [u64z, u4] at hz2
        have hlt : x3.toUInt64.toNat < 128 := by omega
        rw [if_pos hz] at e8
        refine ⟨fun _ => K' σ' w' g' ?_ (hc.trans hc'), fun q => absurd hz q⟩
        rw [m_encN, if_pos hlt]
        rw [e8, e2, bsm (by omega), Nat.mod_eq_of_lt hlt] at hr'
        exact hr'
      · have hz2 := hz
        rw [u64z, u4] at hz2
        have hlt : ¬ x3.toUInt64.toNat < 128 := by omega
        rw [if_neg hz] at e8
        refine ⟨fun q => absurd q hz, fun _ => ih _ _ _ σ' w' g' (L' ++ [w8 &&& 255]) (by omega) (by rw [h5, n32s]; congr 1; omega) hr' (by simp; omega) (hc.trans hc') ?_⟩
        intro σ2 w2 g2 hr2 hc2
        refine K' σ2 w2 g2 ?_ hc2
        rw [m_encN, if_neg hlt]
        have e9 : w8 &&& 255 = Int32.ofNat (x3.toUInt64.toNat % 128 + 128) := by
          rw [e8, e2, show (128 : Int32) = Int32.ofNat 128 from rfl, n32a, bsm (by omega)]
        rw [e9, u4, List.append_assoc] at hr2
        exact hr2
  refine w_By_putNumber (fun v1 e1 => loop 10 0 v1 none σ w g L (by omega) rfl h (by omega) (ByC.rf ho) ?_)
  intro σ' w' g' h1 h2
  rw [e1, zz_cls] at h1
  exact K σ' w' g' h1 h2
end
