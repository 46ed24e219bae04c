/-! THE CLASS: the desk at the start -/
theorem i_start : ∀ nl : Bool, (∀ i, i < 8 → am_aI (i_2 nl) 1045 i = 0) ∧ ∀ c ∈ [1002, 1004, 1006, 1041], ∀ i, i < 64 → am_aI (i_2 nl) c i = 0 := by decide +kernel
def ow0 : ow_T := fun c => if c < 1000 then (9, 9) else if c = 1002 then (2, 1001) else if c = 1004 then (2, 1003) else if c = 1006 then (2, 1005) else if c = 1039 ∨ (1042 ≤ c ∧ c ≤ 1047) then (1039, 2) else if c = 1040 ∨ c = 1041 then (1039, 3) else if c < 1053 then (2, c) else if c < 1189 then (9, 9) else (0, 0)
theorem ow0_2 {c : Nat} (h : (1007 ≤ c ∧ c ≤ 1038) ∨ (1048 ≤ c ∧ c ≤ 1052)) : ow0 c = (2, c) := by
  unfold ow0
  rw [if_neg (by omega), if_neg (by omega), if_neg (by omega), if_neg (by omega), if_neg (by omega), if_neg (by omega), if_pos (by omega)]
section
variable {σ : am_S}
theorem by_new {w : ow_T} {k : Nat × Nat} {n m : Nat} (h1 : w n = k) (h2 : am_kd σ n = (2, 0)) (h3 : am_fI σ 1001 n = 0) (h4 : am_fR σ 1000 n = some m) (h5 : w m = k) (h6 : am_kd σ m = (1002, 64)) (h7 : ∀ i, i < 64 → am_aI σ m i = 0) : ByR σ w k n 0 [] := ⟨h1, h2, by decide, by simp, h3, m, h4, h5, h6, fun i hi => absurd hi (by simp), fun i hi => by rw [h7 i hi]; rfl⟩
theorem dskC_init (h0 : i_fc σ) (hx : am_nx σ = 1189 ∧ am_sl σ = 1704035) (hr : (∀ i, i < 8 → am_aI σ 1045 i = 0) ∧ ∀ c ∈ [1002, 1004, 1006, 1041], ∀ i, i < 64 → am_aI σ c i = 0) : DskC σ σ ow0 1022 ([], [], [], [], []) 1039 none (0, 0, 0, 0) 0 0 d_new := by
  have kd : ∀ n k l, i_lk1.contains (n, k, l) = true → am_kd σ n = (k, l) := fun n k l h => i_K h0 n k l h
  have fR : ∀ g n r, i_lR1.contains (g, n, r) = true → am_fR σ g n = r := fun g n r h => i_R h0 g n r h
  have fI : ∀ g n, i_lI1.contains (g, n) = true → am_fI σ g n = 0 := fun g n h => i_I h0 g n h
  have vw : ∀ v, (v = 1010 ∨ v = 1022 ∨ v = 1048) → VwK σ v := fun v hv => by
    rcases hv with rfl | rfl | rfl
    · exact ⟨kd _ _ _ (by decide +kernel), ⟨fR _ _ _ (by decide +kernel), fR _ _ _ (by decide +kernel), fR _ _ _ (by decide +kernel), fR _ _ _ (by decide +kernel)⟩, kd _ _ _ (by decide +kernel), kd _ _ _ (by decide +kernel), kd _ _ _ (by decide +kernel), kd _ _ _ (by decide +kernel)⟩
    · exact ⟨kd _ _ _ (by decide +kernel), ⟨fR _ _ _ (by decide +kernel), fR _ _ _ (by decide +kernel), fR _ _ _ (by decide +kernel), fR _ _ _ (by decide +kernel)⟩, kd _ _ _ (by decide +kernel), kd _ _ _ (by decide +kernel), kd _ _ _ (by decide +kernel), kd _ _ _ (by decide +kernel)⟩
    · exact ⟨kd _ _ _ (by decide +kernel), ⟨fR _ _ _ (by decide +kernel), fR _ _ _ (by decide +kernel), fR _ _ _ (by decide +kernel), fR _ _ _ (by decide +kernel)⟩, kd _ _ _ (by decide +kernel), kd _ _ _ (by decide +kernel), kd _ _ _ (by decide +kernel), kd _ _ _ (by decide +kernel)⟩
  have W1 : Wst σ 1008 1027 1022 := ⟨kd _ _ _ (by decide +kernel), fR _ _ _ (by decide +kernel), vw 1022 (by omega), ⟨⟨fR _ _ _ (by decide +kernel), fR _ _ _ (by decide +kernel), fR _ _ _ (by decide +kernel), fR _ _ _ (by decide +kernel), fR _ _ _ (by decide +kernel), fR _ _ _ (by decide +kernel)⟩, kd _ _ _ (by decide +kernel), kd _ _ _ (by decide +kernel), kd _ _ _ (by decide +kernel), kd _ _ _ (by decide +kernel), kd _ _ _ (by decide +kernel), kd _ _ _ (by decide +kernel)⟩, fR _ _ _ (by decide +kernel), kd _ _ _ (by decide +kernel)⟩
  have W2 : Wst σ 1009 1015 1010 := ⟨kd _ _ _ (by decide +kernel), fR _ _ _ (by decide +kernel), vw 1010 (by omega), ⟨⟨fR _ _ _ (by decide +kernel), fR _ _ _ (by decide +kernel), fR _ _ _ (by decide +kernel), fR _ _ _ (by decide +kernel), fR _ _ _ (by decide +kernel), fR _ _ _ (by decide +kernel)⟩, kd _ _ _ (by decide +kernel), kd _ _ _ (by decide +kernel), kd _ _ _ (by decide +kernel), kd _ _ _ (by decide +kernel), kd _ _ _ (by decide +kernel), kd _ _ _ (by decide +kernel)⟩, fR _ _ _ (by decide +kernel), kd _ _ _ (by decide +kernel)⟩
  have J : WkJ σ ow0 1022 := ⟨Or.inl rfl, fun c hc => ow0_2 (by unfold fixW at hc; omega), W1, W2, fR _ _ _ (by decide +kernel)⟩
  have own : OwI σ ow0 := fun c hc => by
    rw [hx.1] at hc
    unfold ow0
    rw [if_neg (by omega), if_neg (by omega), if_neg (by omega), if_neg (by omega), if_neg (by omega), if_neg (by omega), if_neg (by omega), if_neg (by omega)]
  have St : Stk σ ow0 [] [] [] [] := ⟨⟨ow0_2 (by omega), kd _ _ _ (by decide +kernel)⟩, fR _ _ _ (by decide +kernel), fR _ _ _ (by decide +kernel), fR _ _ _ (by decide +kernel), fR _ _ _ (by decide +kernel)⟩
  have Rd : RdK σ ow0 := ⟨fun c c1 c2 => ow0_2 (by omega), kd _ _ _ (by decide +kernel), ⟨fR _ _ _ (by decide +kernel), fR _ _ _ (by decide +kernel), fR _ _ _ (by decide +kernel)⟩, kd _ _ _ (by decide +kernel), kd _ _ _ (by decide +kernel), kd _ _ _ (by decide +kernel)⟩
  have ba : ∀ g c, am_fR σ g 1039 = some c → bA σ 1039 g = c := fun g c h => by unfold bA; rw [h]; rfl
  have ark : ∀ g c k l, am_fR σ g 1039 = some c → ow0 c = (1039, 2) → am_kd σ c = (k, l) → ArK σ ow0 1039 g k l := fun g c k l h1 h2 h3 => by
    unfold ArK
    rw [ba g c h1]
    exact ⟨h1, h2, h3⟩
  have hK : BkK σ ow0 1039 := ⟨by decide, kd _ _ _ (by decide +kernel), by decide, ⟨fR _ _ _ (by decide +kernel), fR _ _ _ (by decide +kernel), fR _ _ _ (by decide +kernel)⟩, ark 6004 1042 _ _ (fR _ _ _ (by decide +kernel)) (by decide) (kd _ _ _ (by decide +kernel)), ark 6005 1043 _ _ (fR _ _ _ (by decide +kernel)) (by decide) (kd _ _ _ (by decide +kernel)), ark 6006 1044 _ _ (fR _ _ _ (by decide +kernel)) (by decide) (kd _ _ _ (by decide +kernel)), ark 6007 1045 _ _ (fR _ _ _ (by decide +kernel)) (by decide) (kd _ _ _ (by decide +kernel)), ark 6008 1046 _ _ (fR _ _ _ (by decide +kernel)) (by decide) (kd _ _ _ (by decide +kernel)), ark 6009 1047 _ _ (fR _ _ _ (by decide +kernel)) (by decide) (kd _ _ _ (by decide +kernel))⟩
  have lg : ByR σ ow0 (1039, 3) 1040 0 [] := by_new (by decide) (kd _ _ _ (by decide +kernel)) (fI _ _ (by decide +kernel)) (fR 1000 1040 (some 1041) (by decide +kernel)) (by decide) (kd _ _ _ (by decide +kernel)) (hr.2 1041 (by decide))
  have B : BookR σ ow0 1039 m_new 0 0 := by
    refine ⟨⟨hK, ⟨fI _ _ (by decide +kernel), fI _ _ (by decide +kernel), fI _ _ (by decide +kernel)⟩, fun i p hp => absurd hp (by show ¬ ([] : List mPol)[i]? = some p; simp), fun i p hp => absurd hp (by show ¬ ([] : List mLoss)[i]? = some p; simp), fun i p hp => absurd hp (by show ¬ ([] : List mCase)[i]? = some p; simp), fun q hq => ?_, fR _ _ _ (by decide +kernel)⟩, ⟨fI _ _ (by decide +kernel), fI _ _ (by decide +kernel), fI _ _ (by decide +kernel), fI _ _ (by decide +kernel), fI _ _ (by decide +kernel), fI _ _ (by decide +kernel), fI _ _ (by decide +kernel), fI _ _ (by decide +kernel), fI _ _ (by decide +kernel)⟩, fun i p hp => absurd hp (by show ¬ ([] : List mDeed)[i]? = some p; simp), ⟨1040, fR _ _ _ (by decide +kernel), lg⟩, fun _ => [], fun i hi => absurd hi (by show ¬ i < 0; omega), rfl⟩
    rw [ba 6007 1045 (fR _ _ _ (by decide +kernel)), hr.1 q (by omega)]
    rfl
  refine ⟨⟨⟨by decide, kd _ _ _ (by decide +kernel)⟩, ⟨fR _ _ _ (by decide +kernel), fR _ _ _ (by decide +kernel), fR _ _ _ (by decide +kernel), fR _ _ _ (by decide +kernel)⟩, ⟨fR _ _ _ (by decide +kernel), fR _ _ _ (by decide +kernel), fR _ _ _ (by decide +kernel)⟩, fR _ _ _ (by decide +kernel), fR _ _ _ (by decide +kernel), fR 9 1000 (some 1048) (by decide +kernel), by decide, kd _ _ _ (by decide +kernel)⟩, Or.inr rfl, fI _ _ (by decide +kernel), ?_, ⟨[], ?_⟩, ?_, ⟨⟨false, vw 1048 (by omega), ⟨fI _ _ (by decide +kernel), fun i x hx => absurd hx (by show ¬ ([] : List mRow)[i]? = some x; simp), fun i x hx => absurd hx (by show ¬ ([] : List mRow)[i]? = some x; simp), fun i x hx => absurd hx (by show ¬ ([] : List mRow)[i]? = some x; simp)⟩, ⟨fI _ _ (by decide +kernel), fun i _ x hx => absurd hx (by show ¬ ([] : List Int32)[i]? = some x; simp)⟩, fI _ _ (by decide +kernel), fI _ _ (by decide +kernel)⟩, Nat.zero_le _⟩, ⟨⟨⟨own, by rw [hx.1]; exact Nat.le_refl _⟩, St, ⟨Rd, fR _ _ _ (by decide +kernel)⟩, J⟩, B, ?_⟩, fI _ _ (by decide +kernel), fun b2 h2 => absurd h2 (by simp), ⟨fun c c1 c2 => ⟨?_, am_eqc.rf⟩, fun c hc => ?_⟩⟩
  · exact by_new (by decide) (kd _ _ _ (by decide +kernel)) (fI _ _ (by decide +kernel)) (fR 1000 1001 (some 1002) (by decide +kernel)) (by decide) (kd _ _ _ (by decide +kernel)) (hr.2 1002 (by decide))
  · exact by_new (by decide) (kd _ _ _ (by decide +kernel)) (fI _ _ (by decide +kernel)) (fR 1000 1003 (some 1004) (by decide +kernel)) (by decide) (kd _ _ _ (by decide +kernel)) (hr.2 1004 (by decide))
  · exact by_new (by decide) (kd _ _ _ (by decide +kernel)) (fI _ _ (by decide +kernel)) (fR 1000 1005 (some 1006) (by decide +kernel)) (by decide) (kd _ _ _ (by decide +kernel)) (hr.2 1006 (by decide))
  · refine ⟨by decide, ?_, ?_⟩
    · rw [hx.1]
      decide
    · rw [hx.2]
      decide
  · unfold ow0
    rw [if_neg (by omega), if_neg (by omega), if_neg (by omega), if_neg (by omega), if_neg (by omega), if_neg (by omega), if_neg (by omega), if_pos (by omega)]
  · unfold ow0
    rw [if_pos hc]
end
/-- the goal out of the loop of the law: both desks stand -/
theorem i_goalC {N : Nat} (H : ∀ (nl : Bool) (Ln : Nat) (xs : Nat → Int32) (σ : am_S), Ln ≤ N → am_I σ → i_fact σ → DskR σ 1063 1126 d_new → DskC σ σ ow0 1022 ([], [], [], [], []) 1039 none (0, 0, 0, 0) 0 0 d_new → c_Law_law_18 nl Ln xs 1600 (some 1000) (some 1053) (0 : Int32) σ (fun b σ => b = true ∧ am_nx σ ≤ 61000 ∧ am_sl σ ≤ 8922250)) : wg N := by
  intro nl L xs hL
  have h : am_C (TT nl L xs) (1599 + 1) 352 0 [some (am_ov (some 999)), none, none, none] [] am_s0 (am_qB (fun b σ => b = true ∧ am_nx σ ≤ 61000 ∧ am_sl σ ≤ 8922250)) := by
    refine w_Law_law ?_
    rintro _ rfl _ _
    refine i_kCo (by decide) ?_
    intro _ v5 e5
    rintro _ rfl _ _
    refine i_kRm (by decide) ?_
    intro _ v11 e11
    rw [e5, e11, i_nx1]
    exact fun hI => H nl L xs _ hL hI (i_fact2 nl) (dsk_init (i_fact2 nl).2.1 (i_kw nl).1 (i_kw nl).2) (dskC_init (i_fact2 nl).1 ⟨(i_fact2 nl).2.2.1, (i_fact2 nl).2.2.2.1⟩ (i_start nl)) hI
  obtain ⟨f, v, σ1, h1, h2⟩ := h am_s0_I 2048 84000 ⟨by decide, by decide⟩
  unfold am_qB at h2
  split at h2
  · rcases h2 with ⟨_, h2, _⟩ | ⟨rfl, _, h2⟩
    · cases h2
    · exact ⟨f, σ1, h1, h2⟩
  · exact h2.elim
