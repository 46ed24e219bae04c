/-! THE DESK of the reference: what is asked -/
section
variable {nl : Bool} {Ln : Nat} {xs : Nat → Int32} {d : Nat} {σ : am_S} {o o' : Nat} {D : mTop}
/-- places of a row -/
theorem ix_in {i : Int32} {n : Nat} (hn : n < 1000000) : (decide (¬ i.toInt64 < 0 ∧ ¬ (Int32.ofNat n - 1).toInt64 < i.toInt64)) = decide (0 ≤ i.toInt ∧ i.toInt < n) := by
  apply decide_eq_decide.mpr
  have e : (Int32.ofNat n - 1).toInt = n - 1 := by rw [i32sub] <;> rw [n32 (by omega)] <;> (have : (1 : Int32).toInt = 1 := by decide) <;> omega
  have z : (0 : Int64).toInt = 0 := by decide
  rw [i64lt, i64lt, t64, t64, e, z]
  omega
theorem ix_n {i : Int32} (h : 0 ≤ i.toInt) : i.toNatClampNeg = i.toInt.toNat := by have := n32z h; omega
theorem r_finding {F : Int32 → am_S → Prop} (R : DskR σ o o' D) (K : F (d_lok D).1 σ) : k_Rm_finding nl Ln xs (d + 1) 1053 σ F := by
  refine w_Rm_finding ⟨is_mk R.m.1, ?_⟩
  rw [R.2.2.2.2.2.2.1.2.2]
  exact K
theorem r_rmRow {i what : Int32} {F : Int32 → am_S → Prop} (w : DskW D) (R : DskR σ o o' D) (K : F (d_row D i what) σ) : k_Rm_row nl Ln xs (d + 2) 1053 i what σ F := by
  unfold d_row at K
  have h16 : (d_lok D).2.1.length ≤ 16 := w.2.2.2.2.2.1
  have hk := R.2.2.2.2.2.2.2
  have z0 : (0 : Int32).toInt = 0 := by decide
  have z1 : (1 : Int32).toInt = 1 := by decide
  refine w_Rm_row ⟨fun q => ?_, fun q => ⟨fun q2 => ?_, fun q2 => ⟨is_mk R.m.1, ?_⟩⟩⟩
  · rw [i32lt, z0] at q
    rw [if_pos (Or.inl q)] at K
    exact K
  · rw [i32lt, z1] at q2
    rw [if_pos (Or.inr q2)] at K
    exact K
  · rw [i32lt, z0] at q
    rw [i32lt, z1] at q2
    rw [if_neg (by omega)] at K
    rw [hk.1.1]
    refine w_Rm_in (fun _ => ?_)
    rw [ix_in (by omega)]
    by_cases h : 0 ≤ i.toInt ∧ i.toInt < (d_lok D).2.1.length
    · rw [if_pos h] at K
      dsimp only at K
      rw [decide_eq_true h]
      have hg := getD_some ((0, 0, 0) : mRow) (show i.toInt.toNat < (d_lok D).2.1.length by omega)
      refine ⟨fun _ _ => mA_12009 R.m h.1 (by omega), fun _ _ => mA_12010 R.m h.1 (by omega), ?_⟩
      rintro w11 rfl
      rw [if_pos rfl, mG_12009 R.m, mG_12010 R.m, ix_n h.1, hk.1.2.1 _ _ hg, hk.1.2.2.1 _ _ hg]
      by_cases hw : what = 0
      · rw [if_pos hw]
        rw [if_pos (show what.toInt = 0 by rw [hw]; decide)] at K
        exact K
      · rw [if_neg hw]
        rw [if_neg (fun q => hw (by rw [i32e, q]; decide))] at K
        exact K
    · rw [if_neg h] at K
      rw [decide_eq_false h]
      refine ⟨fun q => absurd q (by decide), fun q => absurd q (by decide), ?_⟩
      rintro w11 rfl
      exact K
theorem r_rmCents {i : Int32} {F : Int64 → am_S → Prop} (w : DskW D) (R : DskR σ o o' D) (K : F (d_cents D i) σ) : k_Rm_cents nl Ln xs (d + 2) 1053 i σ F := by
  unfold d_cents at K
  have h16 : (d_lok D).2.1.length ≤ 16 := w.2.2.2.2.2.1
  have hk := R.2.2.2.2.2.2.2
  refine w_Rm_cents ⟨is_mk R.m.1, ?_⟩
  rw [hk.1.1]
  refine w_Rm_in (fun _ => ?_)
  rw [ix_in (by omega)]
  by_cases h : 0 ≤ i.toInt ∧ i.toInt < (d_lok D).2.1.length
  · rw [if_pos h] at K
    rw [decide_eq_true h]
    have hg := getD_some ((0, 0, 0) : mRow) (show i.toInt.toNat < (d_lok D).2.1.length by omega)
    refine ⟨fun _ => mA_12011 R.m h.1 (by omega), ?_⟩
    rintro w7 rfl
    rw [if_pos rfl, mG_12011 R.m, ix_n h.1, hk.1.2.2.2 _ _ hg]
    exact K
  · rw [if_neg h] at K
    rw [decide_eq_false h]
    refine ⟨fun q => absurd q (by decide), ?_⟩
    rintro w7 rfl
    exact K
theorem r_trace {i : Int32} {F : Int32 → am_S → Prop} (R : DskR σ o o' D) (K : F (d_trace D i) σ) : k_Rm_trace nl Ln xs (d + 2) 1053 i σ F := by
  unfold d_trace at K
  have hk := R.2.2.2.2.2.2.2
  refine w_Rm_trace ⟨is_mk R.m.1, ?_⟩
  rw [hk.2.1]
  refine w_Rm_in (fun _ => ?_)
  rw [ix_in (by omega)]
  by_cases h : 0 ≤ i.toInt ∧ i.toInt < (min (d_lok D).2.2.length 200 : Nat)
  · rw [if_pos h] at K
    rw [decide_eq_true h]
    have hg := getD_some (0 : Int32) (show i.toInt.toNat < (d_lok D).2.2.length by omega)
    refine ⟨fun _ => mA_12013 R.m h.1 (by omega), ?_⟩
    rintro w7 rfl
    rw [if_pos rfl, mG_12013 R.m, ix_n h.1, hk.2.2 _ (by omega) _ hg]
    exact K
  · rw [if_neg h] at K
    rw [decide_eq_false h]
    refine ⟨fun q => absurd q (by decide), ?_⟩
    rintro w7 rfl
    exact K
theorem sb_back {b : Int32} (h0 : 0 ≤ b.toInt) (h1 : b.toInt ≤ 255) : d_sb b &&& 255 = b := by
  unfold d_sb
  rw [b255, n32of h0, bsm (by omega)]
theorem r_letter {i : Int32} {F : Int32 → am_S → Prop} (hl : (d_let D).length ≤ 500000) (R : DskR σ o o' D) (K : F (d_letter D i) σ) : k_Rm_letter nl Ln xs (d + 2) 1053 i σ F := by
  unfold d_letter at K
  obtain ⟨l1, l2, l3⟩ := R.2.2.2.2.2.1
  refine w_Rm_letter ⟨is_mk R.m.1, ?_⟩
  rw [l1]
  refine w_Rm_in (fun _ => ?_)
  rw [ix_in (by omega)]
  by_cases h : 0 ≤ i.toInt ∧ i.toInt < (d_let D).length
  · rw [if_pos h] at K
    rw [decide_eq_true h]
    have hg := getD_some (0 : Int32) (show i.toInt.toNat < (d_let D).length by omega)
    have hb := l2 _ (List.mem_of_getElem? hg)
    refine ⟨fun _ => mA_12004 R.m h.1 (by omega), ?_⟩
    rintro w7 rfl
    rw [if_pos rfl, mG_12004 R.m, ix_n h.1, l3 _ _ hg, sb_back hb.1 hb.2]
    exact K
  · rw [if_neg h] at K
    rw [decide_eq_false h]
    refine ⟨fun q => absurd q (by decide), ?_⟩
    rintro w7 rfl
    exact K
theorem r_of {k what : Int32} {F : Int32 → am_S → Prop} (w : DskW D) (R : DskR σ o o' D) (K : F (d_of D k what) σ) : k_Rm_of nl Ln xs (d + 3) 1053 k what σ F := by
  have wo := w.1.1
  have hK := R.k
  have hC : rCas σ o (o_cas (d_off D)) := R.2.2.1.1.2.2.2.2.2.2.2.2.2.1
  have hc100 := wo.1.c100
  unfold d_of at K
  have z : (0 : Int64).toInt = 0 := by decide
  have z6 : (6 : Int64).toInt = 6 := by decide
  have bad : ¬ ((0 ≤ k.toInt ∧ k.toInt < (o_cas (d_off D)).length) ∧ (0 ≤ what.toInt ∧ what.toInt ≤ 6)) → F (-2) σ := fun h => by
    rw [if_neg h] at K
    exact K
  refine w_Rm_of ⟨is_mk R.m.1, R.nowis, ?_⟩
  rw [R.g]
  refine (r_isCase (d := d) hK hC hc100 (fun _ => ⟨fun c0 => ?_, fun c => bad (fun q => c (decide_eq_true (by rw [t64]; exact q.1)))⟩))
  have c0 := of_decide_eq_true c0
  rw [t64] at c0
  refine (r_in (fun c1 c2 => ?_) (fun c => bad (fun q => c (by rw [t64, z, z6]; exact q.2))))
  rw [t64, z] at c1
  rw [t64, z6] at c2
  rw [if_pos ⟨c0, c1, c2⟩] at K
  have hg : (o_cas (d_off D))[k.toInt.toNat]? = some (d_case (d_off D) k) := getD_some mCase0 (by omega)
  have h40 : (d_case (d_off D) k).2.2.2.2.2.length ≤ 40 := (wo.1.2.2.2.2 _ (List.mem_of_getElem? hg)).2.2.2.2.1.1
  have bk : 0 ≤ k.toInt ∧ k.toInt < 100 := by omega
  generalize d_case (d_off D) k = c at K hg h40
  dsimp only at K
  obtain ⟨-, v36, v37, v38, v39, v40, v41, -⟩ := hC
  have e : ∀ q : Nat, q < 100 → (what = Int32.ofNat q ↔ what.toInt = q) := fun q hq => by rw [i32e, n32 (by omega)]
  rw [R.g, oG_13046 hK, oG_13047 hK, oG_13048 hK, oG_13049 hK, oG_13050 hK, oG_13051 hK, ix_n c0.1, v36 _ _ hg, v37 _ _ hg, v38 _ _ hg, v39 _ _ hg, v40 _ _ hg, v41 _ _ hg]
  refine ⟨fun q => ⟨R.nowis, oA_13046 hK bk.1 bk.2, ?_⟩, fun q => ⟨R.nowis, oA_13047 hK bk.1 bk.2, ?_⟩, fun q => ⟨R.nowis, oA_13048 hK bk.1 bk.2, ?_⟩, fun q => ⟨R.nowis, oA_13049 hK bk.1 bk.2, ?_⟩, fun q => ⟨R.nowis, ?_⟩, fun q => ⟨R.nowis, oA_13051 hK bk.1 bk.2, ?_⟩, fun q => ⟨R.nowis, oA_13050 hK bk.1 bk.2, ?_⟩⟩
  · rw [if_pos q] at K; exact K
  · rw [if_neg (by rw [q]; decide), if_pos q] at K; exact K
  · rw [if_neg (by rw [q]; decide), if_neg (by rw [q]; decide), if_pos q] at K; exact K
  · rw [if_neg (by rw [q]; decide), if_neg (by rw [q]; decide), if_neg (by rw [q]; decide), if_pos q] at K; exact K
  · rw [if_neg (by rw [q]; decide), if_neg (by rw [q]; decide), if_neg (by rw [q]; decide), if_neg (by rw [q]; decide), if_pos q] at K
    have ek := n32of c0.1
    have now : am_fI σ 13000 o = o_now (d_off D) := R.2.2.1.1.2.1.1
    rw [now]
    generalize k.toInt.toNat = kn at ek hg
    rw [ek]
    refine (r_isOpen (d := d) hK R.2.2.1.1.2.2.2.2.2.2.2.2.2.1 hc100 hg h40 (fun _ => ?_))
    cases hb : m_open c.2.2.2.2.2 10950 (o_now (d_off D)) <;> rw [hb] at K <;> exact K
  · rw [if_neg (by rw [q]; decide), if_neg (by rw [q]; decide), if_neg (by rw [q]; decide), if_neg (by rw [q]; decide), if_neg (by rw [q]; decide), if_pos q] at K; exact K
  · have t5 : (5 : Int32).toInt = 5 := by decide
    have t0 : (0 : Int32).toInt = 0 := by decide
    have ne : ∀ x : Int32, x.toInt ≤ 5 → 0 ≤ x.toInt → ¬ what = x := fun x h1 h2 hx => by rw [hx] at q; rcases q with q | q <;> omega
    rw [if_neg (ne 0 (by decide) (by decide)), if_neg (ne 1 (by decide) (by decide)), if_neg (ne 2 (by decide) (by decide)), if_neg (ne 3 (by decide) (by decide)), if_neg (ne 4 (by decide) (by decide)), if_neg (ne 5 (by decide) (by decide))] at K
    exact K
theorem r_count {what : Int32} {F : Int32 → am_S → Prop} (R : DskR σ o o' D) (K : F (d_count D what) σ) : k_Rm_count nl Ln xs (d + 1) 1053 what σ F := by
  unfold d_count at K
  obtain ⟨-, -, ⟨Ro, -⟩, -, Rt, Rl, Rf, -⟩ := id R
  have m1 := R.m.1
  have ni := R.nowis
  refine w_Rm_count ?_
  rw [R.g, Ro.2.1.1, Ro.2.1.2.1, Ro.2.1.2.2.1, Ro.2.1.2.2.2.1, Ro.2.2.1.1, Ro.2.2.2.2.2.2.2.2.1.1, Ro.2.2.2.2.2.2.2.2.2.1.1, Ro.2.2.2.2.2.2.2.2.2.2.1.1, Rt.1, Rl.1, Rf.1]
  refine ⟨fun q => ⟨is_mk m1, ni, ?_⟩, fun q => ⟨is_mk m1, ni, ?_⟩, fun q => ⟨is_mk m1, ni, ?_⟩, fun q => ⟨is_mk m1, ni, ?_⟩, fun q => ⟨is_mk m1, ni, ?_⟩, fun q => ⟨is_mk m1, ni, ?_⟩, fun q => ⟨is_mk m1, ni, ?_⟩, fun q => ⟨is_mk m1, ni, ?_⟩, fun q => ⟨is_mk m1, ?_⟩, fun q => ⟨is_mk m1, ?_⟩, fun q => ⟨is_mk m1, ?_⟩, fun q => ?_⟩
  · rw [q] at K; exact K
  · rw [q] at K; exact K
  · rw [q] at K; exact K
  · rw [q] at K; exact K
  · rw [q] at K; exact K
  · rw [q] at K; exact K
  · rw [q] at K; exact K
  · rw [q] at K; exact K
  · rw [q] at K; exact K
  · rw [q] at K; exact K
  · rw [q] at K; exact K
  · have ne : ∀ x : Int32, x.toInt ≤ 10 → 0 ≤ x.toInt → ¬ what = x := fun x h1 h2 hx => by
      rw [hx] at q
      have t0 : (0 : Int32).toInt = 0 := by decide
      have t10 : (10 : Int32).toInt = 10 := by decide
      rcases q with q | q <;> omega
    rw [if_neg (ne 0 (by decide) (by decide)), if_neg (ne 1 (by decide) (by decide)), if_neg (ne 2 (by decide) (by decide)), if_neg (ne 3 (by decide) (by decide)), if_neg (ne 4 (by decide) (by decide)), if_neg (ne 5 (by decide) (by decide)), if_neg (ne 6 (by decide) (by decide)), if_neg (ne 7 (by decide) (by decide)), if_neg (ne 8 (by decide) (by decide)), if_neg (ne 9 (by decide) (by decide)), if_neg (ne 10 (by decide) (by decide))] at K
    exact K
end
