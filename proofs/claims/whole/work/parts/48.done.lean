/-! THE FIRST CALL: acts that are done, of the class -/
theorem CR.trans {σ σ1 σ2 : am_S} {a b c e : Nat} (h : ∀ q, am_m q → am_eqc σ σ1 q) (k : ∀ q, am_m q → am_eqc σ1 σ2 q) : ∀ q, am_m q → am_eqc σ σ2 q := fun q hq => (h q hq).trans (k q hq)
theorem tz_rv {nl : Bool} {Ln : Nat} {xs : Nat → Int32} : am_rv (am_tz (TT nl Ln xs)) = dd_rv xs := rfl
theorem tz_rl {nl : Bool} {Ln : Nat} {xs : Nat → Int32} : am_rl (am_tz (TT nl Ln xs)) = dd_rl Ln := rfl
theorem rv5 {nl : Bool} {Ln : Nat} {xs : Nat → Int32} {n j : Nat} (h : 500 ≤ n) (h9 : n ≠ 999) : am_rv (am_tz (TT nl Ln xs)) n j = (dd_sr.getD (n - 500) []).getD j 0 := by
  rw [tz_rv]
  unfold dd_rv
  rw [if_neg (by omega), if_neg h9]
theorem rl5 {nl : Bool} {Ln : Nat} {xs : Nat → Int32} {n : Nat} (h : 500 ≤ n) (h9 : n ≠ 999) : am_rl (am_tz (TT nl Ln xs)) n = (dd_sr.getD (n - 500) []).length := by
  rw [tz_rl]
  unfold dd_rl
  rw [if_neg (by omega), if_neg h9]
theorem rl6 {nl : Bool} {Ln : Nat} {xs : Nat → Int32} : am_rl (am_tz (TT nl Ln xs)) 506 = 23 := by
  rw [rl5 (by decide) (by decide)]
  decide +kernel
theorem rl0 {nl : Bool} {Ln : Nat} {xs : Nat → Int32} : am_rl (am_tz (TT nl Ln xs)) 500 = 8 := by
  rw [rl5 (by decide) (by decide)]
  decide +kernel
section
variable {nl : Bool} {Ln : Nat} {xs : Nat → Int32} {d : Nat} {σ : am_S}
/-- behind an act that is done: the moment, the log -/
theorem p_done {a r n : Int32} {x2 : Option Nat} {s : am_S} {F : Int32 → am_S → Prop} (hr : ¬ r < 0) (h0 : lg0 s 0) (ha : am_aL s 1007 0 = a.toInt64) (h6 : ¬ a = 6) (a0 : 0 ≤ a.toInt) (a1 : a.toInt < am_rl (am_tz (TT nl Ln xs)) 506) (hn : am_rv (am_tz (TT nl Ln xs)) 506 a.toNatClampNeg = n) (hn0 : 0 ≤ n.toInt) (hn4 : n.toInt ≤ 4)
    (h : ∀ s', (∀ q, am_m q → am_eqc s s' q) → am_nx s' = am_nx s → am_sl s' = am_sl s → F r s') : c_Bk_perform_235 nl Ln xs (d + 5) 1039 (some 1007) x2 a r s F := by
  refine w_Bk_perform_235 ⟨fun k => absurd k hr, fun _ => ⟨is_mk h0.1, ?_⟩⟩
  intro s3 e3
  obtain ⟨b1, b2, b3, b4, b5, b6, b7, b8⟩ := h0
  have l3 : lg0 s3 0 := by
    rw [e3]
    exact ⟨b1, b2, b3, b4, b5, (rI_g (by decide)).trans b6, b7, b8⟩
  refine f_logDeed l3 (by rw [e3]; exact ha) h6 a0 a1 hn hn0 hn4 ?_
  intro s' hp _
  refine h s' (fun q hq => ?_) ?_ ?_
  · have q1 : am_eqc s s3 q := by rw [e3]; exact eqc_sfI (by omega)
    exact q1.trans (hp.eqc (by omega) (by omega))
  · rw [hp.2.2.2.2.2.1, e3]
  · rw [hp.2.2.2.2.2.2.1, e3]
theorem p_lg0 (h0 : i_fc σ) (hs : i_st σ) : lg0 σ 0 := ⟨ik_1039 h0, ir_6003_1039 h0, ik_1040 h0, ir_1000_1040 h0, ik_1041 h0, ii_1001_1040 h0, ik_1007 h0, hs 506 (by decide)⟩
def FL (σ s : am_S) (a : Int32) (p1 p2 p3 p4 : Int64) : Prop := i_fc s ∧ i_st s ∧ am_aL s 1007 0 = a.toInt64 ∧ am_aL s 1007 1 = p1 ∧ am_aL s 1007 2 = p2 ∧ am_aL s 1007 3 = p3 ∧ am_aL s 1007 4 = p4 ∧ (∀ q, am_m q → am_eqc σ s q) ∧ am_nx s = am_nx σ ∧ am_sl s = am_sl σ ∧ am_aI s = am_aI σ
theorem p_FL {a : Int32} {p1 p2 p3 p4 : Int64} (h0 : i_fc σ) (hs : i_st σ) : FL σ (st_fill σ a p1 p2 p3 p4) a p1 p2 p3 p4 := ⟨h0, hs, fl_0, fl_1, fl_2, fl_3, fl_4, fun _ h => eqm_fill h, rfl, rfl, rfl⟩
theorem f_fillV {a : Int32} {p1 p2 p3 p4 : Int64} {F : am_S → Prop} (h0 : i_fc σ) (hs : i_st σ) (h : ∀ s, FL σ s a p1 p2 p3 p4 → F s) : k_Co_fill nl Ln xs (d + 1) 1000 a p1 p2 p3 p4 σ F := f_fill (ik_1000 h0) (ik_1007 h0) (ir_3_1000 h0) (h _ (p_FL h0 hs))
theorem p_Co_person {F : Int32 → am_S → Prop} (h0 : i_fc σ) (hs : i_st σ) (h : ∀ σ', CR σ σ' → F 0 σ') : k_Co_person nl Ln xs (d + 10) 1000 σ F := by
  refine w_Co_person ⟨is_mk (ik_1000 h0), f_fillV h0 hs ?_⟩
  intro s1 H _
  obtain ⟨h1, hs1, a1, -, -, -, -, hq, hx, hl, -⟩ := H
  rw [ir_7_1000 h1, ir_3_1000 h1, ir_1_1000 h1, Option.getD_some]
  refine ⟨is_mk (ik_1039 h1), p_perf h1 a1 (by decide) (by decide) (p_tom1 h1 a1 (w_Bk_tellOrMake_64 ⟨is_mk (ik_1039 h1), w_Bk_makePerson ⟨is_mk (ik_1039 h1), ?_⟩⟩))⟩
  rw [ii_6011_1039 h1]
  refine ⟨fun _ => ?_, fun k => absurd (by decide) k⟩
  intro s3 e3 _ _
  have f3 : am_fI s3 6011 1039 = 0 + 1 := by rw [e3]; exact rI_same
  rw [f3]
  obtain ⟨b1, b2, b3, b4, b5, b6, b7, b8⟩ := p_lg0 h1 hs1
  have l3 : lg0 s3 0 := by rw [e3]; exact ⟨b1, b2, b3, b4, b5, (rI_g (by decide)).trans b6, b7, b8⟩
  have a3 : am_aL s3 1007 0 = (1 : Int32).toInt64 := by rw [e3]; exact a1
  refine p_done (n := 0) (by decide) l3 a3 (by decide) (by decide) (by rw [rl6]; decide) (by rw [rv5 (by decide) (by decide)]; decide +kernel) (by decide) (by decide) ?_
  intro s' e1 e2 e4 _
  refine h s' ⟨fun q hq' => (hq q hq').trans (am_eqc.trans (σ1 := s3) (by rw [e3]; exact eqc_sfI (by omega)) (e1 q hq')), ?_, ?_⟩
  · rw [e2, e3]; exact Nat.le_trans (Nat.le_of_eq hx) (Nat.le_add_right _ _)
  · rw [e4, e3]; exact Nat.le_trans (Nat.le_of_eq hl) (Nat.le_add_right _ _)
theorem p_Co_batch {F : Int32 → am_S → Prop} (h0 : i_fc σ) (hs : i_st σ) (h : ∀ σ', CR σ σ' → F 1 σ') : k_Co_batch nl Ln xs (d + 10) 1000 σ F := by
  refine w_Co_batch ⟨is_mk (ik_1000 h0), f_fillV h0 hs ?_⟩
  intro s1 H _
  obtain ⟨h1, hs1, a1, -, -, -, -, hq, hx, hl, -⟩ := H
  rw [ir_7_1000 h1, ir_3_1000 h1, ir_1_1000 h1, Option.getD_some]
  refine ⟨is_mk (ik_1039 h1), w_Bk_perform ⟨p_ar h1 (by decide) (by decide), ?_⟩⟩
  intro v2 e2
  rw [Option.getD_some, z0, a1, i64_32] at e2
  subst e2
  refine ⟨fun k => absurd k (by decide), fun _ => ⟨fun _ => ?_, fun k => absurd (by decide) k⟩⟩
  refine w_Bk_perform_56 ⟨is_mk (ik_1039 h1), ?_⟩
  rw [if_neg (by decide), ii_6019_1039 h1]
  refine w_Bk_perform_77 ⟨fun _ => ⟨fun _ => ⟨is_mk (ik_1039 h1), ?_⟩, fun k => absurd rfl k⟩, fun k => absurd rfl k⟩
  intro s4 e4 s7 e7
  have f4 : am_fI s4 6016 1039 = 0 := by rw [e4]; exact (rI_g (by decide)).trans (ii_6016_1039 h1)
  rw [f4] at e7
  have f7 : am_fI s7 6016 1039 = 0 + 1 := by rw [e7]; exact rI_same
  rw [f7]
  intro _
  refine h s7 ⟨fun q hq' => (hq q hq').trans (am_eqc.trans (σ1 := s4) (by rw [e4]; exact eqc_sfI (by omega)) (by rw [e7]; exact eqc_sfI (by omega))), ?_, ?_⟩
  · rw [e7, e4]; exact Nat.le_trans (Nat.le_of_eq hx) (Nat.le_add_right _ _)
  · rw [e7, e4]; exact Nat.le_trans (Nat.le_of_eq hl) (Nat.le_add_right _ _)
end
