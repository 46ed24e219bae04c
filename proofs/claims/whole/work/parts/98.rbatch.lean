/-! BATCHES, by the reference -/
theorem OffR.x {σ : am_S} {o : Nat} {M : mOff} (h : OffR σ o M) : OfX σ o M ∧ LogR σ o (m_rlog M) := by
  obtain ⟨hK, hN, hP, hRk, hPl, hPe, hRu, hSe, hLs, hC, hH, hG⟩ := h
  exact ⟨⟨hK, hN, hP, hRk, hPl, hPe, hRu, hSe, hLs, hC, hH⟩, hG⟩
theorem OfX.r {σ : am_S} {o : Nat} {M : mOff} (h : OfX σ o M) (hG : LogR σ o (m_rlog M)) : OffR σ o M := by
  obtain ⟨hK, hN, hP, hRk, hPl, hPe, hRu, hSe, hLs, hC, hH⟩ := h
  exact ⟨hK, hN, hP, hRk, hPl, hPe, hRu, hSe, hLs, hC, hH, hG⟩
theorem note20 (n : Nat) (h : n = 20 ∨ n = 21 ∨ n = 22) (a : mArg) : m_note n a [] = m_enc (Int64.ofNat n) := by
  rcases h with h | h | h <;> subst h <;> simp [m_note, m_args]
section
variable {nl : Bool} {Ln : Nat} {xs : Nat → Int32} {d : Nat} {σ : am_S} {o : Nat} {M : mOff}
theorem r_hold {m n : Nat} {a : mArg} {F : Int32 → am_S → Prop} (R : OffR σ o M) (hu : o_und M = true) (h60 : (o_hel M).length ≤ 60) (hl : (m_rlog M).length ≤ 440000) (hA : ArgR σ m a) (hm : m = 1060 ∨ m = o + 61) (h1 : 12 ≤ n) (h2 : n ≤ 19)
    (K1 : (o_hel M).length = 60 → F (-7) σ) (K2 : (o_hel M).length ≠ 60 → ∀ σ', OffR σ' o (m_setHel M (o_hel M ++ [(n, a)])) → Rc o raF raA [] σ σ' → F (-8) σ') : k_Ro_hold nl Ln xs (d + 3) o (Int32.ofNat n) (some m) σ F := by
  obtain ⟨X, hG⟩ := R.x
  have hK := X.1
  have lo := hK.lo
  have hHe : rHel σ o (o_hel M) := X.2.2.2.2.2.2.2.2.2.2
  obtain ⟨H, hH⟩ : ∃ H, H = o_hel M := ⟨_, rfl⟩
  have b : (o_hel M).length < 60 → 0 ≤ (Int32.ofNat (o_hel M).length).toInt ∧ (Int32.ofNat (o_hel M).length).toInt < 60 := fun h => by rw [n32 (by omega)]; omega
  refine w_Ro_hold ⟨is_mk hK.2.1, ?_⟩
  rw [hHe.1, show (60 : Int32) = Int32.ofNat 60 from rfl, n32i (by omega) (by omega)]
  refine ⟨K1, fun h => ?_⟩
  have K2 := K2 h
  have hlt : (o_hel M).length < 60 := by omega
  rw [oG_13064 hK, n32c (by omega)]
  refine ⟨oA_13064 hK (b hlt).1 (b hlt).2, ?_⟩
  intro s4 q4
  have r4 : Rc o [] [50] [] σ s4 := by rw [q4]; exact Rc.saI (by decide)
  have six : ∀ (i j : Nat), (6 : Int32) * Int32.ofNat i + Int32.ofNat j = Int32.ofNat (6 * i + j) := fun i j => by rw [show (6 : Int32) = Int32.ofNat 6 from rfl, ← Int32.ofNat_mul, n32a]
  have loop : ∀ (j k : Nat) (s : am_S), k + j = 6 → Rc o [] [51] [] s4 s → (∀ q, q < 6 * (o_hel M).length → am_aL s (o + 51) q = am_aL s4 (o + 51) q) → (∀ q, q < k → am_aL s (o + 51) (6 * (o_hel M).length + q) = a q) → c_Ro_hold_24 nl Ln xs (d + 3) o (Int32.ofNat n) (some m) (Int32.ofNat k) s F := by
    intro j
    induction j with
    | zero =>
      intro k s hk rs hs1 hs2
      have ek : k = 6 := by omega
      have r := r4.mono (fs' := []) (as' := [50, 51]) (ms' := []) (by simp) (by decide) (by simp) |>.trans (rs.mono (by simp) (by decide) (by simp))
      have hKs := hK.rc r
      refine w_Ro_hold_24 ⟨fun q => absurd q (by rw [ek]; decide), fun _ => ⟨is_mk hKs.2.1, ?_⟩⟩
      rw [(r.fI (by simp)).trans hHe.1, n32s]
      intro s9 q9
      have r9 : Rc o [13063] [] [] s s9 := by rw [q9]; exact Rc.sfI (by decide) (Or.inl rfl)
      have R9 : Rc o [13063] [50, 51] [] σ s9 := (r.mono (by simp) (by simp) (by simp)).trans (r9.mono (by simp) (by simp) (by simp))
      have A9 := hA.rc hm lo R9 (by decide) (by decide) (by simp)
      have hnl := note_le n a
      refine (r_note (d := d) (t := []) (hK.rc R9) (hG.rc R9 lo (by simp) (by decide) (by decide)) A9 (by omega) (by omega) (by omega) (fun q => by omega) (by omega) (fun s12 L12 r12 _ => ?_))
      have R12 : Rc o [13063, 13067] [50, 51, 52] [] σ s12 := (R9.mono (by decide) (by decide) (by simp)).trans (r12.mono (by decide) (by decide) (by simp))
      refine K2 s12 ?_ (R12.all (by decide))
      obtain ⟨-, hN, hP, hRk, hPl, hPe, hRu, hSe, hLs, hC, -⟩ := X
      refine OfX.r ⟨hK.rc R12, kNum.rc hN R12 lo (by decide), kPol.rc hP R12 lo (by decide), kRnk.rc hRk R12 lo (by decide), kPla.rc hPl R12 lo (by decide), kPer.rc hPe R12 lo (by decide), kRul.rc hRu R12 lo (by decide), kSet.rc hSe R12 lo (by decide), kLos.rc hLs R12 lo (by decide), kCas.rc hC R12 lo (by decide), ?_⟩ ?_
      · refine ⟨?_, ?_, ?_⟩
        · show am_fI s12 13063 o = Int32.ofNat (o_hel M ++ [(n, a)]).length
          rw [List.length_append, List.length_singleton, r12.fI (by decide), q9]
          exact rI_same
        · refine hHe.2.1.push (fun i => ?_)
          rw [r12.aI lo (by simp) (by decide), r9.aI lo (by simp) (by simp), rs.aI lo (by simp) (by decide)]
          exact saI_all q4 i
        · intro i h hh q hq
          rw [r12.aL lo (by simp) (by decide), r9.aL lo (by simp) (by simp)]
          rcases get_push hh with ⟨e1, e2⟩ | ⟨e1, e2⟩
          · rw [e1, e2]
            exact hs2 q (by omega)
          · rw [hs1 _ (by omega), r4.aL lo (by simp) (by decide)]
            exact hHe.2.2 i h e2 q hq
      · have e1 : m_rlog M = o_log M ++ m_batchLog (o_hel M) := by unfold m_rlog; rw [if_pos hu]
        have e2 : m_rlog (m_setHel M (o_hel M ++ [(n, a)])) = m_rlog M ++ m_note n a [] := by
          rw [e1]
          unfold m_rlog
          rw [if_pos (show o_und (m_setHel M (o_hel M ++ [(n, a)])) = true from hu)]
          show o_log M ++ m_batchLog (o_hel M ++ [(n, a)]) = _
          unfold m_batchLog
          rw [List.flatMap_append, List.append_assoc, List.append_assoc]
          simp
        rw [e2]
        exact L12
    | succ j ih =>
      intro k s hk rs hs1 hs2
      have r := r4.mono (fs' := []) (as' := [50, 51]) (ms' := []) (by simp) (by decide) (by simp) |>.trans (rs.mono (by simp) (by decide) (by simp))
      have hKs := hK.rc r
      have As := hA.rc hm lo r (by decide) (by decide) (by simp)
      have bk : 0 ≤ (Int32.ofNat k).toInt ∧ (Int32.ofNat k).toInt < 6 := by rw [n32 (by omega)]; omega
      have bx : 0 ≤ (Int32.ofNat (6 * (o_hel M).length + k)).toInt ∧ (Int32.ofNat (6 * (o_hel M).length + k)).toInt < 360 := by rw [n32 (by omega)]; omega
      refine w_Ro_hold_24 ⟨fun _ => ⟨is_mk hKs.2.1, ar_mk As.1 bk.1 (by omega), ?_⟩, fun q => absurd (by rw [show (6 : Int32) = Int32.ofNat 6 from rfl, n32lt (by omega) (by omega)]; omega) q⟩
      rw [(r.fI (by simp)).trans hHe.1, six, oG_13065 hKs, n32c (by omega), n32c (by omega)]
      refine ⟨oA_13065 hKs bx.1 bx.2, ?_⟩
      have va : am_aL s ((some m).getD 0) k = a k := As.2 k (by omega)
      rw [va]
      intro s5 q5
      have r5 : Rc o [] [51] [] s s5 := by rw [q5]; exact Rc.saL (by decide)
      rw [n32s]
      refine ih (k + 1) s5 (by omega) (rs.trans r5) ?_ ?_
      · intro q hq
        rw [saL_all q5 q, if_neg (by omega)]
        exact hs1 q hq
      · intro q hq
        rw [saL_all q5]
        by_cases e : q = k
        · rw [if_pos (by omega), e]
        · rw [if_neg (by omega)]
          exact hs2 q (by omega)
  exact loop 6 0 s4 (by omega) Rc.rf (fun q _ => rfl) (fun q hq => by omega)
theorem r_batch {m : Nat} {a : mArg} {F : Int32 → am_S → Prop} (R : OffR σ o M) (hu : o_und M = false) (hl : (o_log M).length ≤ 440000) (hA : ArgR σ m a) (hm : m = 1060 ∨ m = o + 61)
    (K : ∀ σ', OffR σ' o ((o_per M, o_now M, o_bat M + 1, o_tri M, true), o_pol M, o_tel M, o_los M, o_cas M, [], o_log M) → Rc o raF raA [] σ σ' → F (o_bat M + 1) σ') : k_Ro_batch nl Ln xs (d + 3) o (some m) σ F := by
  obtain ⟨X, hG⟩ := R.x
  rw [m_rlog0 hu] at hG
  obtain ⟨hK, hN, hP, hRk, hPl, hPe, hRu, hSe, hLs, hC, hHe⟩ := X
  have lo := hK.lo
  refine w_Ro_batch ⟨is_mk hK.2.1, ?_⟩
  rw [hN.2.2.1]
  intro s2 q2 s5 q5 s8 q8
  have r2 : Rc o [13060] [] [] σ s2 := by rw [q2]; exact Rc.sfI (by decide) (Or.inl rfl)
  have r5 : Rc o [13062] [] [] s2 s5 := by rw [q5]; exact Rc.sfI (by decide) (Or.inl rfl)
  have r8 : Rc o [13063] [] [] s5 s8 := by rw [q8]; exact Rc.sfI (by decide) (Or.inl rfl)
  have up : ∀ {fs as : List Nat} {s1 s2 : am_S}, Rc o fs as [] s1 s2 → (∀ x ∈ fs, x ∈ [13060, 13062, 13063, 13067]) → (∀ x ∈ as, x ∈ [52]) → Rc o [13060, 13062, 13063, 13067] [52] [] s1 s2 := fun h h1 h2 => h.mono h1 h2 (by simp)
  have R8 : Rc o [13060, 13062, 13063, 13067] [52] [] σ s8 := ((up r2 (by decide) (by simp)).trans (up r5 (by decide) (by simp))).trans (up r8 (by decide) (by simp))
  have n8 : Rc o [13060, 13062, 13063] [] [] σ s8 := ((r2.mono (by decide) (by simp) (by simp)).trans (r5.mono (by decide) (by simp) (by simp))).trans (r8.mono (by decide) (by simp) (by simp))
  have A8 := hA.rc hm lo n8 (by simp) (by simp) (by simp)
  have e20 := note20 20 (by omega) a
  have hnl := note_le 20 a
  refine (r_note (d := d) (n := 20) (t := []) (hK.rc n8) (hG.rc n8 lo (by simp) (by decide) (by simp)) A8 (by omega) (by omega) (by omega) (fun q => by omega) (by omega) (fun s11 L11 r11 _ => ?_))
  have f60 : am_fI s11 13060 o = o_bat M + 1 := (r11.fI (by decide)).trans ((r8.fI (by decide)).trans ((r5.fI (by decide)).trans (by rw [q2]; exact rI_same)))
  rw [f60]
  have R11 := R8.trans (up r11 (by decide) (by decide))
  refine K s11 ?_ (R11.all (by decide))
  refine OfX.r ⟨hK.rc R11, ⟨(R11.fI (by decide)).trans hN.1, (R11.fI (by decide)).trans hN.2.1, f60, (R11.fI (by decide)).trans hN.2.2.2.1, (r11.fI (by decide)).trans ((r8.fI (by decide)).trans (by rw [q5]; exact rI_same))⟩, kPol.rc hP R11 lo (by decide), kRnk.rc hRk R11 lo (by decide), kPla.rc hPl R11 lo (by decide), kPer.rc hPe R11 lo (by decide), kRul.rc hRu R11 lo (by decide), kSet.rc hSe R11 lo (by decide), kLos.rc hLs R11 lo (by decide), kCas.rc hC R11 lo (by decide), ⟨(r11.fI (by decide)).trans (by rw [q8]; exact rI_same), fun i x hx => absurd (lt_of_get hx) (Nat.not_lt_zero _), fun i x hx => absurd (lt_of_get hx) (Nat.not_lt_zero _)⟩⟩ ?_
  rw [e20] at L11
  show LogR s11 o (o_log M ++ m_batchLog [])
  unfold m_batchLog
  rw [List.flatMap_nil, List.append_nil]
  exact L11
/-- the batch is over, by either act -/
theorem r_over {m n : Nat} {a : mArg} {L : List Int32} {F : am_S → Prop} (X : OfX σ o M) (hG : LogR σ o L) (hl : L.length ≤ 440000) (hA : ArgR σ m a) (hm : m = 1060 ∨ m = o + 61) (hn : n = 21 ∨ n = 22)
    (K : ∀ σ', OfX σ' o ((o_per M, o_now M, o_bat M, o_tri M + 1, false), o_pol M, o_tel M, o_los M, o_cas M, [], o_log M) → LogR σ' o (L ++ m_enc (Int64.ofNat n)) → Rc o [13061, 13062, 13063, 13067] [52] [] σ σ' → F σ') : k_Ro_over nl Ln xs (d + 3) o (Int32.ofNat n) (some m) σ F := by
  obtain ⟨hK, hN, hP, hRk, hPl, hPe, hRu, hSe, hLs, hC, hHe⟩ := X
  have lo := hK.lo
  refine w_Ro_over ⟨is_mk hK.2.1, ?_⟩
  intro s2 q2 s5 q5
  have r2 : Rc o [13062] [] [] σ s2 := by rw [q2]; exact Rc.sfI (by decide) (Or.inl rfl)
  have r5 : Rc o [13063] [] [] s2 s5 := by rw [q5]; exact Rc.sfI (by decide) (Or.inl rfl)
  rw [(r5.fI (by decide)).trans ((r2.fI (by decide)).trans hN.2.2.2.1)]
  intro s8 q8
  have r8 : Rc o [13061] [] [] s5 s8 := by rw [q8]; exact Rc.sfI (by decide) (Or.inl rfl)
  have up : ∀ {fs as : List Nat} {s1 s2 : am_S}, Rc o fs as [] s1 s2 → (∀ x ∈ fs, x ∈ [13061, 13062, 13063, 13067]) → (∀ x ∈ as, x ∈ [52]) → Rc o [13061, 13062, 13063, 13067] [52] [] s1 s2 := fun h h1 h2 => h.mono h1 h2 (by simp)
  have R8 : Rc o [13061, 13062, 13063, 13067] [52] [] σ s8 := ((up r2 (by decide) (by simp)).trans (up r5 (by decide) (by simp))).trans (up r8 (by decide) (by simp))
  have n8 : Rc o [13061, 13062, 13063] [] [] σ s8 := ((r2.mono (by decide) (by simp) (by simp)).trans (r5.mono (by decide) (by simp) (by simp))).trans (r8.mono (by decide) (by simp) (by simp))
  have A8 := hA.rc hm lo n8 (by simp) (by simp) (by simp)
  have e20 := note20 n (by omega) a
  have hnl := note_le n a
  refine (r_note (d := d) (t := []) (hK.rc n8) (hG.rc n8 lo (by simp) (by decide) (by simp)) A8 (by omega) (by omega) (by omega) (fun q => by omega) (by omega) (fun s11 L11 r11 _ => ?_))
  have R11 := R8.trans (up r11 (by decide) (by decide))
  rw [e20] at L11
  refine K s11 ⟨hK.rc R11, ⟨(R11.fI (by decide)).trans hN.1, (R11.fI (by decide)).trans hN.2.1, (R11.fI (by decide)).trans hN.2.2.1, (r11.fI (by decide)).trans (by rw [q8]; exact rI_same), (r11.fI (by decide)).trans ((r8.fI (by decide)).trans ((r5.fI (by decide)).trans (by rw [q2]; exact rI_same)))⟩, kPol.rc hP R11 lo (by decide), kRnk.rc hRk R11 lo (by decide), kPla.rc hPl R11 lo (by decide), kPer.rc hPe R11 lo (by decide), kRul.rc hRu R11 lo (by decide), kSet.rc hSe R11 lo (by decide), kLos.rc hLs R11 lo (by decide), kCas.rc hC R11 lo (by decide), ⟨(r11.fI (by decide)).trans ((r8.fI (by decide)).trans (by rw [q5]; exact rI_same)), fun i x hx => absurd (lt_of_get hx) (Nat.not_lt_zero _), fun i x hx => absurd (lt_of_get hx) (Nat.not_lt_zero _)⟩⟩ L11 R11
theorem r_undo {m : Nat} {a : mArg} {F : Int32 → am_S → Prop} (R : OffR σ o M) (hu : o_und M = true) (hl : (m_rlog M).length ≤ 440000) (hA : ArgR σ m a) (hm : m = 1060 ∨ m = o + 61)
    (K : ∀ σ', OffR σ' o (m_over M (o_now M) (o_cas M) 22) → Rc o raF raA [] σ σ' → F (Int32.ofNat (o_hel M).length) σ') : k_Ro_undo nl Ln xs (d + 4) o (some m) σ F := by
  obtain ⟨X, hG⟩ := R.x
  have hK := X.1
  have hN := X.2.1
  have hHe : rHel σ o (o_hel M) := X.2.2.2.2.2.2.2.2.2.2
  have h62 : am_fI σ 13062 o = b2i (o_und M) := hN.2.2.2.2
  refine w_Ro_undo ⟨is_mk hK.2.1, ?_⟩
  rw [h62, hu, hHe.1]
  refine ⟨fun q => absurd q (by decide), fun _ => ?_⟩
  rintro v3 rfl
  refine r_over X hG hl hA hm (n := 22) (Or.inr rfl) (fun s5 X5 L5 r5 _ => ?_)
  refine K s5 (OfX.r X5 ?_) (r5.all (by decide))
  have e1 : m_rlog M = o_log M ++ m_batchLog (o_hel M) := by unfold m_rlog; rw [if_pos hu]
  rw [e1, List.append_assoc] at L5
  exact L5
end
