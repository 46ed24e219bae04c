/-! THE FIRST CALL: what stays of the reference's cells; notes of acts that are done -/
def i_st (σ : am_S) : Prop := ∀ n, n < 1000 → (am_kd σ n).1 = 0
abbrev am_m (c : Nat) : Prop := c < 1000 ∨ (1053 ≤ c ∧ c < 1189)
/-- the class has run: the reference's cells are as they were -/
def CR (σ σ2 : am_S) : Prop := (∀ c, am_m c → am_eqc σ σ2 c) ∧ am_nx σ2 ≤ am_nx σ + 30 ∧ am_sl σ2 ≤ am_sl σ + 3000
theorem CR_fm {σ σ2 : am_S} (h : CR σ σ2) (h0 : i_fm σ) : i_fm σ2 := by
  have hk : ∀ q ∈ i_lk2, am_m q.1 := by
    have h : (i_lk2.all fun q => decide (q.1 < 1000 ∨ (1053 ≤ q.1 ∧ q.1 < 1189))) = true := by decide +kernel
    exact fun q hq => of_decide_eq_true (List.all_eq_true.mp h q hq)
  have hR : ∀ q ∈ i_lR2, am_m q.2.1 := by
    have h : (i_lR2.all fun q => decide (q.2.1 < 1000 ∨ (1053 ≤ q.2.1 ∧ q.2.1 < 1189))) = true := by decide +kernel
    exact fun q hq => of_decide_eq_true (List.all_eq_true.mp h q hq)
  have hI : ∀ q ∈ i_lI2, am_m q.2 := by
    have h : (i_lI2.all fun q => decide (q.2 < 1000 ∨ (1053 ≤ q.2 ∧ q.2 < 1189))) = true := by decide +kernel
    exact fun q hq => of_decide_eq_true (List.all_eq_true.mp h q hq)
  have hL : ∀ q ∈ i_lL2, am_m q.2 := by
    have h : (i_lL2.all fun q => decide (q.2 < 1000 ∨ (1053 ≤ q.2 ∧ q.2 < 1189))) = true := by decide +kernel
    exact fun q hq => of_decide_eq_true (List.all_eq_true.mp h q hq)
  exact ⟨fun q hq => (h.1 _ (hk q hq)).1.trans (h0.1 q hq), fun q hq => ((h.1 _ (hR q hq)).2 _).2.2.1.trans (h0.2.1 q hq), fun q hq => ((h.1 _ (hI q hq)).2 _).1.trans (h0.2.2.1 q hq), fun q hq => ((h.1 _ (hL q hq)).2 _).2.1.trans (h0.2.2.2 q hq)⟩
theorem CR_st {σ σ2 : am_S} (h : CR σ σ2) (h0 : i_st σ) : i_st σ2 := fun n hn => by rw [(h.1 n (Or.inl hn)).1]; exact h0 n hn
theorem eqm_fill {σ : am_S} {a : Int32} {p1 p2 p3 p4 : Int64} {c : Nat} (h : am_m c) : am_eqc σ (st_fill σ a p1 p2 p3 p4) c := by
  have hc : c ≠ 1007 := by omega
  exact (eqc_saL hc).trans ((eqc_saL hc).trans ((eqc_saL hc).trans ((eqc_saL hc).trans ((eqc_saL hc).trans ((eqc_saL hc).trans (eqc_saL hc))))))
theorem CR_fill {σ : am_S} {a : Int32} {p1 p2 p3 p4 : Int64} : CR σ (st_fill σ a p1 p2 p3 p4) := ⟨fun _ h => eqm_fill h, Nat.le_add_right _ _, Nat.le_add_right _ _⟩
section
variable {nl : Bool} {Ln : Nat} {xs : Nat → Int32} {d : Nat} {σ : am_S}
/-- the log of the first office, empty or nearly so -/
def lg0 (σ : am_S) (k : Int32) : Prop := am_kd σ 1039 = (7, 0) ∧ am_fR σ 6003 1039 = some 1040 ∧ am_kd σ 1040 = (2, 0) ∧ am_fR σ 1000 1040 = some 1041 ∧ am_kd σ 1041 = (1002, 64) ∧ am_fI σ 1001 1040 = k ∧ am_kd σ 1007 = (1001, 7) ∧ (am_kd σ 506).1 = 0
theorem lg0.pb {σ' : am_S} {k k' : Int32} (h : lg0 σ k) (hp : PB 1001 1040 1041 σ σ') (hk : am_fI σ' 1001 1040 = k') : lg0 σ' k' := by
  obtain ⟨a1, a2, a3, a4, a5, a6, a7, a8⟩ := h
  refine ⟨by rw [hp.1]; exact a1, by rw [hp.2.1]; exact a2, by rw [hp.1]; exact a3, by rw [hp.2.1]; exact a4, by rw [hp.1]; exact a5, hk, by rw [hp.1]; exact a7, by rw [hp.1]; exact a8⟩
theorem f_logDeed {o : Option Nat} {a n : Int32} {F : am_S → Prop} (h0 : lg0 σ 0) (ha : am_aL σ 1007 0 = a.toInt64) (h6 : ¬ a = 6) (a0 : 0 ≤ a.toInt) (a1 : a.toInt < am_rl (am_tz (TT nl Ln xs)) 506) (hn : am_rv (am_tz (TT nl Ln xs)) 506 a.toNatClampNeg = n) (hn0 : 0 ≤ n.toInt) (hn4 : n.toInt ≤ 4)
    (h : ∀ σ', PB 1001 1040 1041 σ σ' → F σ') : k_Bk_logDeed nl Ln xs (d + 4) 1039 (some 1007) 0 o σ F := by
  have z : (0 : Int32).toInt = 0 := by decide
  have loop : ∀ (j : Nat) (x5 : Int32) (s : am_S) (k : Int32), x5.toInt + j = n.toInt + 1 → 1 ≤ x5.toInt → lg0 s k → PB 1001 1040 1041 σ s → 0 ≤ k.toInt → k.toInt ≤ 10 * x5.toInt → c_Bk_logDeed_19 nl Ln xs (d + 4) 1039 (some 1007) 0 o a x5 s F := by
    intro j
    induction j with
    | zero =>
      intro x5 s k hj h1 hl hp hk hk2
      refine w_Bk_logDeed_19 ⟨hl.2.2.2.2.2.2.2, a0, a1, ?_⟩
      rw [hn]
      exact ⟨fun _ => ⟨fun q => absurd q h6, fun _ => h s hp⟩, fun q => absurd (Int32.lt_iff_toInt_lt.mpr (by omega)) q⟩
    | succ j ih =>
      intro x5 s k hj h1 hl hp hk hk2
      have hl' := hl
      obtain ⟨b1, b2, b3, b4, b5, b6, b7, b8⟩ := hl
      refine w_Bk_logDeed_19 ⟨b8, a0, a1, ?_⟩
      rw [hn]
      refine ⟨fun _ => ⟨fun q => absurd q h6, fun _ => h s hp⟩, fun q => ?_⟩
      have ex : ((0 : Int32) + x5).toInt = x5.toInt := by rw [Int32.zero_add]
      rw [b2, Option.getD_some]
      refine ⟨is_mk b1, ar_mk b7 (by omega) (by omega), is_mk b3, f_putNumber b3 b4 b5 (by decide) b6 hk (by omega) ?_⟩
      intro s' k' hp' hk' e1 e2 _
      have e5 := i32_add1 (x := x5) (by omega) (by omega)
      exact ih _ s' k' (by omega) (by omega) (hl'.pb hp' hk') (hp.trans hp') (by omega) (by omega)
  have h0' := h0
  obtain ⟨b1, b2, b3, b4, b5, b6, b7, b8⟩ := h0
  refine w_Bk_logDeed ⟨ar_mk b7 (by decide) (by decide), ?_⟩
  intro v2 e2
  rw [Option.getD_some, z0, ha, i64_32] at e2
  subst e2
  rw [b2, Option.getD_some]
  refine ⟨is_mk b1, is_mk b3, f_putNumber b3 b4 b5 (by decide) b6 (by omega) (by omega) ?_⟩
  intro s' k' hp' hk' e1 e2 _
  have o1 : (1 : Int32).toInt = 1 := by decide
  exact loop n.toInt.toNat 1 s' k' (by omega) (by omega) (h0'.pb hp' hk') hp' (by omega) (by omega)
/-- the log of the reference's office -/
def lg1 (σ : am_S) (k : Int32) : Prop := am_kd σ 1063 = (14, 0) ∧ am_fR σ 13066 1063 = some 1115 ∧ am_kd σ 1115 = (1002, 450000) ∧ am_fI σ 13067 1063 = k ∧ am_kd σ 1060 = (1001, 6)
theorem lg1.pb {σ' : am_S} {k k' : Int32} (h : lg1 σ k) (hp : PB 13067 1063 1115 σ σ') (hk : am_fI σ' 13067 1063 = k') : lg1 σ' k' := by
  obtain ⟨a1, a2, a3, a4, a5⟩ := h
  exact ⟨by rw [hp.1]; exact a1, by rw [hp.2.1]; exact a2, by rw [hp.1]; exact a3, hk, by rw [hp.1]; exact a5⟩
theorem f_note {a n : Int32} {F : am_S → Prop} (h0 : lg1 σ 0) (h6 : ¬ a = 6) (hA : ∀ (s : am_S) (G : Int32 → am_S → Prop), G n s → k_Rm_argumentsOf nl Ln xs (d + 1) a s G) (hn0 : 0 ≤ n.toInt) (hn6 : n.toInt ≤ 6)
    (h : ∀ σ', PB 13067 1063 1115 σ σ' → F σ') : k_Ro_note nl Ln xs (d + 2) 1063 a (some 1060) σ F := by
  have z : (0 : Int32).toInt = 0 := by decide
  have loop : ∀ (j : Nat) (x4 : Int32) (s : am_S) (k : Int32), x4.toInt + j = n.toInt → 0 ≤ x4.toInt → lg1 s k → PB 13067 1063 1115 σ s → 0 ≤ k.toInt → k.toInt ≤ 10 * (x4.toInt + 1) → c_Ro_note_14 nl Ln xs (d + 2) 1063 a (some 1060) n x4 s F := by
    intro j
    induction j with
    | zero =>
      intro x4 s k hj h1 hl hp hk hk2
      exact w_Ro_note_14 ⟨fun q => absurd (Int32.lt_iff_toInt_lt.mp q) (by omega), fun _ => w_Ro_note_37 ⟨fun q => absurd q h6, fun _ => h s hp⟩⟩
    | succ j ih =>
      intro x4 s k hj h1 hl hp hk hk2
      have hl' := hl
      obtain ⟨b1, b2, b3, b4, b5⟩ := hl
      refine w_Ro_note_14 ⟨fun q => ⟨ar_mk b5 (by omega) (by omega), is_mk b1, f_noteNumber b1 b2 b3 (by decide) b4 hk (by omega) ?_⟩, fun _ => w_Ro_note_37 ⟨fun q => absurd q h6, fun _ => h s hp⟩⟩
      intro s' k' hp' hk' e1 e2 _
      have e5 := i32_add1 (x := x4) (by omega) (by omega)
      exact ih _ s' k' (by omega) (by omega) (hl'.pb hp' hk') (hp.trans hp') (by omega) (by omega)
  have h0' := h0
  obtain ⟨b1, b2, b3, b4, b5⟩ := h0
  refine w_Ro_note ⟨is_mk b1, f_noteNumber b1 b2 b3 (by decide) b4 (by omega) (by omega) ?_⟩
  intro s' k' hp' hk' e1 e2 _
  refine hA s' _ ?_
  intro _
  exact loop n.toInt.toNat 0 s' k' (by omega) (by omega) (h0'.pb hp' hk') hp' (by omega) (by omega)
end
