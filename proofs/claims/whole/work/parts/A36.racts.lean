/-! THE DESK of the reference: acts, by their names -/
section
variable {nl : Bool} {Ln : Nat} {xs : Nat → Int32} {d : Nat} {σ : am_S} {o o' : Nat} {D : mTop}
theorem rm_person {F : Int32 → am_S → Prop} (w : DskW D) (R : DskR σ o o' D) (K : ∀ σ', DskR σ' o o' (d_act D 1 [0, 0, 0, 0]).2 → Rc o reF raA [1060] σ σ' → F (d_act D 1 [0, 0, 0, 0]).1 σ') : k_Rm_person nl Ln xs (d + 425) 1053 σ F := by
  refine w_Rm_person ⟨is_mk R.m.1, (r_rmAct (d := d) (n := 1) (t := []) w.1 w.2.1 w.2.2.1 R (by decide) (by decide) (fun h => absurd h (by decide)) (fun r hr σ' R' c' _ => ?_))⟩
  have := K σ'
  unfold d_act at this
  rw [← hr] at this
  exact this R' c'
theorem rm_rank {p0 : Int32} {p1 : Int32} {F : Int32 → am_S → Prop} (w : DskW D) (R : DskR σ o o' D) (K : ∀ σ', DskR σ' o o' (d_act D 2 [p0.toInt64, p1.toInt64, 0, 0]).2 → Rc o reF raA [1060] σ σ' → F (d_act D 2 [p0.toInt64, p1.toInt64, 0, 0]).1 σ') : k_Rm_rank nl Ln xs (d + 425) 1053 p0 p1 σ F := by
  refine w_Rm_rank ⟨is_mk R.m.1, (r_rmAct (d := d) (n := 2) (t := []) w.1 w.2.1 w.2.2.1 R (by decide) (by decide) (fun h => absurd h (by decide)) (fun r hr σ' R' c' _ => ?_))⟩
  have := K σ'
  unfold d_act at this
  rw [← hr] at this
  exact this R' c'
theorem rm_policy {p0 : Int32} {p1 : Int32} {p2 : Int32} {p3 : Int32} {F : Int32 → am_S → Prop} (w : DskW D) (R : DskR σ o o' D) (K : ∀ σ', DskR σ' o o' (d_act D 3 [p0.toInt64, p1.toInt64, p2.toInt64, p3.toInt64]).2 → Rc o reF raA [1060] σ σ' → F (d_act D 3 [p0.toInt64, p1.toInt64, p2.toInt64, p3.toInt64]).1 σ') : k_Rm_policy nl Ln xs (d + 425) 1053 p0 p1 p2 p3 σ F := by
  refine w_Rm_policy ⟨is_mk R.m.1, (r_rmAct (d := d) (n := 3) (t := []) w.1 w.2.1 w.2.2.1 R (by decide) (by decide) (fun h => absurd h (by decide)) (fun r hr σ' R' c' _ => ?_))⟩
  have := K σ'
  unfold d_act at this
  rw [← hr] at this
  exact this R' c'
theorem rm_bundle {p0 : Int32} {p1 : Int32} {p2 : Int32} {F : Int32 → am_S → Prop} (w : DskW D) (R : DskR σ o o' D) (K : ∀ σ', DskR σ' o o' (d_act D 4 [p0.toInt64, p1.toInt64, p2.toInt64, 0]).2 → Rc o reF raA [1060] σ σ' → F (d_act D 4 [p0.toInt64, p1.toInt64, p2.toInt64, 0]).1 σ') : k_Rm_bundle nl Ln xs (d + 425) 1053 p0 p1 p2 σ F := by
  refine w_Rm_bundle ⟨is_mk R.m.1, (r_rmAct (d := d) (n := 4) (t := []) w.1 w.2.1 w.2.2.1 R (by decide) (by decide) (fun h => absurd h (by decide)) (fun r hr σ' R' c' _ => ?_))⟩
  have := K σ'
  unfold d_act at this
  rw [← hr] at this
  exact this R' c'
theorem rm_period {p0 : Int32} {p1 : Int32} {p2 : Int64} {F : Int32 → am_S → Prop} (w : DskW D) (R : DskR σ o o' D) (K : ∀ σ', DskR σ' o o' (d_act D 5 [p0.toInt64, p1.toInt64, p2, 0]).2 → Rc o reF raA [1060] σ σ' → F (d_act D 5 [p0.toInt64, p1.toInt64, p2, 0]).1 σ') : k_Rm_period nl Ln xs (d + 425) 1053 p0 p1 p2 σ F := by
  refine w_Rm_period ⟨is_mk R.m.1, (r_rmAct (d := d) (n := 5) (t := []) w.1 w.2.1 w.2.2.1 R (by decide) (by decide) (fun h => absurd h (by decide)) (fun r hr σ' R' c' _ => ?_))⟩
  have := K σ'
  unfold d_act at this
  rw [← hr] at this
  exact this R' c'
theorem rm_shareRule {p0 : Int32} {p1 : Int32} {F : Int32 → am_S → Prop} (w : DskW D) (R : DskR σ o o' D) (K : ∀ σ', DskR σ' o o' (d_act D 7 [p0.toInt64, p1.toInt64, 0, 0]).2 → Rc o reF raA [1060] σ σ' → F (d_act D 7 [p0.toInt64, p1.toInt64, 0, 0]).1 σ') : k_Rm_shareRule nl Ln xs (d + 425) 1053 p0 p1 σ F := by
  refine w_Rm_shareRule ⟨is_mk R.m.1, (r_rmAct (d := d) (n := 7) (t := []) w.1 w.2.1 w.2.2.1 R (by decide) (by decide) (fun h => absurd h (by decide)) (fun r hr σ' R' c' _ => ?_))⟩
  have := K σ'
  unfold d_act at this
  rw [← hr] at this
  exact this R' c'
theorem rm_loss {p0 : Int32} {p1 : Int32} {F : Int32 → am_S → Prop} (w : DskW D) (R : DskR σ o o' D) (K : ∀ σ', DskR σ' o o' (d_act D 8 [p0.toInt64, p1.toInt64, 0, 0]).2 → Rc o reF raA [1060] σ σ' → F (d_act D 8 [p0.toInt64, p1.toInt64, 0, 0]).1 σ') : k_Rm_loss nl Ln xs (d + 425) 1053 p0 p1 σ F := by
  refine w_Rm_loss ⟨is_mk R.m.1, (r_rmAct (d := d) (n := 8) (t := []) w.1 w.2.1 w.2.2.1 R (by decide) (by decide) (fun h => absurd h (by decide)) (fun r hr σ' R' c' _ => ?_))⟩
  have := K σ'
  unfold d_act at this
  rw [← hr] at this
  exact this R' c'
theorem rm_part {p0 : Int32} {p1 : Int32} {F : Int32 → am_S → Prop} (w : DskW D) (R : DskR σ o o' D) (K : ∀ σ', DskR σ' o o' (d_act D 9 [p0.toInt64, p1.toInt64, 0, 0]).2 → Rc o reF raA [1060] σ σ' → F (d_act D 9 [p0.toInt64, p1.toInt64, 0, 0]).1 σ') : k_Rm_part nl Ln xs (d + 425) 1053 p0 p1 σ F := by
  refine w_Rm_part ⟨is_mk R.m.1, (r_rmAct (d := d) (n := 9) (t := []) w.1 w.2.1 w.2.2.1 R (by decide) (by decide) (fun h => absurd h (by decide)) (fun r hr σ' R' c' _ => ?_))⟩
  have := K σ'
  unfold d_act at this
  rw [← hr] at this
  exact this R' c'
theorem rm_item {p0 : Int32} {p1 : Int32} {p2 : Int64} {p3 : Int64} {F : Int32 → am_S → Prop} (w : DskW D) (R : DskR σ o o' D) (K : ∀ σ', DskR σ' o o' (d_act D 10 [p0.toInt64, p1.toInt64, p2, p3]).2 → Rc o reF raA [1060] σ σ' → F (d_act D 10 [p0.toInt64, p1.toInt64, p2, p3]).1 σ') : k_Rm_item nl Ln xs (d + 425) 1053 p0 p1 p2 p3 σ F := by
  refine w_Rm_item ⟨is_mk R.m.1, (r_rmAct (d := d) (n := 10) (t := []) w.1 w.2.1 w.2.2.1 R (by decide) (by decide) (fun h => absurd h (by decide)) (fun r hr σ' R' c' _ => ?_))⟩
  have := K σ'
  unfold d_act at this
  rw [← hr] at this
  exact this R' c'
theorem rm_notify {p0 : Int32} {p1 : Int32} {p2 : Int32} {p3 : Int32} {F : Int32 → am_S → Prop} (w : DskW D) (R : DskR σ o o' D) (K : ∀ σ', DskR σ' o o' (d_act D 11 [p0.toInt64, p1.toInt64, p2.toInt64, p3.toInt64]).2 → Rc o reF raA [1060] σ σ' → F (d_act D 11 [p0.toInt64, p1.toInt64, p2.toInt64, p3.toInt64]).1 σ') : k_Rm_notify nl Ln xs (d + 425) 1053 p0 p1 p2 p3 σ F := by
  refine w_Rm_notify ⟨is_mk R.m.1, (r_rmAct (d := d) (n := 11) (t := []) w.1 w.2.1 w.2.2.1 R (by decide) (by decide) (fun h => absurd h (by decide)) (fun r hr σ' R' c' _ => ?_))⟩
  have := K σ'
  unfold d_act at this
  rw [← hr] at this
  exact this R' c'
theorem rm_reserve {p0 : Int32} {p1 : Int32} {p2 : Int32} {p3 : Int64} {F : Int32 → am_S → Prop} (w : DskW D) (R : DskR σ o o' D) (K : ∀ σ', DskR σ' o o' (d_act D 12 [p0.toInt64, p1.toInt64, p2.toInt64, p3]).2 → Rc o reF raA [1060] σ σ' → F (d_act D 12 [p0.toInt64, p1.toInt64, p2.toInt64, p3]).1 σ') : k_Rm_reserve nl Ln xs (d + 425) 1053 p0 p1 p2 p3 σ F := by
  refine w_Rm_reserve ⟨is_mk R.m.1, (r_rmAct (d := d) (n := 12) (t := []) w.1 w.2.1 w.2.2.1 R (by decide) (by decide) (fun h => absurd h (by decide)) (fun r hr σ' R' c' _ => ?_))⟩
  have := K σ'
  unfold d_act at this
  rw [← hr] at this
  exact this R' c'
theorem rm_pay {p0 : Int32} {p1 : Int32} {p2 : Int64} {F : Int32 → am_S → Prop} (w : DskW D) (R : DskR σ o o' D) (K : ∀ σ', DskR σ' o o' (d_act D 13 [p0.toInt64, p1.toInt64, p2, 0]).2 → Rc o reF raA [1060] σ σ' → F (d_act D 13 [p0.toInt64, p1.toInt64, p2, 0]).1 σ') : k_Rm_pay nl Ln xs (d + 425) 1053 p0 p1 p2 σ F := by
  refine w_Rm_pay ⟨is_mk R.m.1, (r_rmAct (d := d) (n := 13) (t := []) w.1 w.2.1 w.2.2.1 R (by decide) (by decide) (fun h => absurd h (by decide)) (fun r hr σ' R' c' _ => ?_))⟩
  have := K σ'
  unfold d_act at this
  rw [← hr] at this
  exact this R' c'
theorem rm_close {p0 : Int32} {p1 : Int32} {F : Int32 → am_S → Prop} (w : DskW D) (R : DskR σ o o' D) (K : ∀ σ', DskR σ' o o' (d_act D 14 [p0.toInt64, p1.toInt64, 0, 0]).2 → Rc o reF raA [1060] σ σ' → F (d_act D 14 [p0.toInt64, p1.toInt64, 0, 0]).1 σ') : k_Rm_close nl Ln xs (d + 425) 1053 p0 p1 σ F := by
  refine w_Rm_close ⟨is_mk R.m.1, (r_rmAct (d := d) (n := 14) (t := []) w.1 w.2.1 w.2.2.1 R (by decide) (by decide) (fun h => absurd h (by decide)) (fun r hr σ' R' c' _ => ?_))⟩
  have := K σ'
  unfold d_act at this
  rw [← hr] at this
  exact this R' c'
theorem rm_reopen {p0 : Int32} {p1 : Int32} {p2 : Int32} {F : Int32 → am_S → Prop} (w : DskW D) (R : DskR σ o o' D) (K : ∀ σ', DskR σ' o o' (d_act D 15 [p0.toInt64, p1.toInt64, p2.toInt64, 0]).2 → Rc o reF raA [1060] σ σ' → F (d_act D 15 [p0.toInt64, p1.toInt64, p2.toInt64, 0]).1 σ') : k_Rm_reopen nl Ln xs (d + 425) 1053 p0 p1 p2 σ F := by
  refine w_Rm_reopen ⟨is_mk R.m.1, (r_rmAct (d := d) (n := 15) (t := []) w.1 w.2.1 w.2.2.1 R (by decide) (by decide) (fun h => absurd h (by decide)) (fun r hr σ' R' c' _ => ?_))⟩
  have := K σ'
  unfold d_act at this
  rw [← hr] at this
  exact this R' c'
theorem rm_share {p0 : Int32} {p1 : Int32} {p2 : Int32} {p3 : Int64} {F : Int32 → am_S → Prop} (w : DskW D) (R : DskR σ o o' D) (K : ∀ σ', DskR σ' o o' (d_act D 17 [p0.toInt64, p1.toInt64, p2.toInt64, p3]).2 → Rc o reF raA [1060] σ σ' → F (d_act D 17 [p0.toInt64, p1.toInt64, p2.toInt64, p3]).1 σ') : k_Rm_share nl Ln xs (d + 425) 1053 p0 p1 p2 p3 σ F := by
  refine w_Rm_share ⟨is_mk R.m.1, (r_rmAct (d := d) (n := 17) (t := []) w.1 w.2.1 w.2.2.1 R (by decide) (by decide) (fun h => absurd h (by decide)) (fun r hr σ' R' c' _ => ?_))⟩
  have := K σ'
  unfold d_act at this
  rw [← hr] at this
  exact this R' c'
theorem rm_salvage {p0 : Int32} {p1 : Int32} {p2 : Int64} {F : Int32 → am_S → Prop} (w : DskW D) (R : DskR σ o o' D) (K : ∀ σ', DskR σ' o o' (d_act D 18 [p0.toInt64, p1.toInt64, p2, 0]).2 → Rc o reF raA [1060] σ σ' → F (d_act D 18 [p0.toInt64, p1.toInt64, p2, 0]).1 σ') : k_Rm_salvage nl Ln xs (d + 425) 1053 p0 p1 p2 σ F := by
  refine w_Rm_salvage ⟨is_mk R.m.1, (r_rmAct (d := d) (n := 18) (t := []) w.1 w.2.1 w.2.2.1 R (by decide) (by decide) (fun h => absurd h (by decide)) (fun r hr σ' R' c' _ => ?_))⟩
  have := K σ'
  unfold d_act at this
  rw [← hr] at this
  exact this R' c'
theorem rm_recourse {p0 : Int32} {p1 : Int32} {p2 : Int64} {F : Int32 → am_S → Prop} (w : DskW D) (R : DskR σ o o' D) (K : ∀ σ', DskR σ' o o' (d_act D 19 [p0.toInt64, p1.toInt64, p2, 0]).2 → Rc o reF raA [1060] σ σ' → F (d_act D 19 [p0.toInt64, p1.toInt64, p2, 0]).1 σ') : k_Rm_recourse nl Ln xs (d + 425) 1053 p0 p1 p2 σ F := by
  refine w_Rm_recourse ⟨is_mk R.m.1, (r_rmAct (d := d) (n := 19) (t := []) w.1 w.2.1 w.2.2.1 R (by decide) (by decide) (fun h => absurd h (by decide)) (fun r hr σ' R' c' _ => ?_))⟩
  have := K σ'
  unfold d_act at this
  rw [← hr] at this
  exact this R' c'
theorem rm_batch {F : Int32 → am_S → Prop} (w : DskW D) (R : DskR σ o o' D) (K : ∀ σ', DskR σ' o o' (d_act D 20 [0, 0, 0, 0]).2 → Rc o reF raA [1060] σ σ' → F (d_act D 20 [0, 0, 0, 0]).1 σ') : k_Rm_batch nl Ln xs (d + 425) 1053 σ F := by
  refine w_Rm_batch ⟨is_mk R.m.1, (r_rmAct (d := d) (n := 20) (t := []) w.1 w.2.1 w.2.2.1 R (by decide) (by decide) (fun h => absurd h (by decide)) (fun r hr σ' R' c' _ => ?_))⟩
  have := K σ'
  unfold d_act at this
  rw [← hr] at this
  exact this R' c'
theorem rm_end {F : Int32 → am_S → Prop} (w : DskW D) (R : DskR σ o o' D) (K : ∀ σ', DskR σ' o o' (d_act D 21 [0, 0, 0, 0]).2 → Rc o reF raA [1060] σ σ' → F (d_act D 21 [0, 0, 0, 0]).1 σ') : k_Rm_end nl Ln xs (d + 425) 1053 σ F := by
  refine w_Rm_end ⟨is_mk R.m.1, (r_rmAct (d := d) (n := 21) (t := []) w.1 w.2.1 w.2.2.1 R (by decide) (by decide) (fun h => absurd h (by decide)) (fun r hr σ' R' c' _ => ?_))⟩
  have := K σ'
  unfold d_act at this
  rw [← hr] at this
  exact this R' c'
theorem rm_undo {F : Int32 → am_S → Prop} (w : DskW D) (R : DskR σ o o' D) (K : ∀ σ', DskR σ' o o' (d_act D 22 [0, 0, 0, 0]).2 → Rc o reF raA [1060] σ σ' → F (d_act D 22 [0, 0, 0, 0]).1 σ') : k_Rm_undo nl Ln xs (d + 425) 1053 σ F := by
  refine w_Rm_undo ⟨is_mk R.m.1, (r_rmAct (d := d) (n := 22) (t := []) w.1 w.2.1 w.2.2.1 R (by decide) (by decide) (fun h => absurd h (by decide)) (fun r hr σ' R' c' _ => ?_))⟩
  have := K σ'
  unfold d_act at this
  rw [← hr] at this
  exact this R' c'

theorem rm_correct {p0 p1 p2 p3 p5 : Int32} {p4 : Int64} {F : Int32 → am_S → Prop} (w : DskW D) (R : DskR σ o o' D)
    (K : ∀ σ', DskR σ' o o' (d_act D 16 [p0.toInt64, p1.toInt64, p2.toInt64, p3.toInt64, p4, p5.toInt64]).2 → Rc o reF raA [1060] σ σ' → F (d_act D 16 [p0.toInt64, p1.toInt64, p2.toInt64, p3.toInt64, p4, p5.toInt64]).1 σ') : k_Rm_correct nl Ln xs (d + 424) 1053 p0 p1 p2 p3 p4 p5 σ F := by
  have hM := R.m
  have lo := R.lo
  obtain ⟨R1, R2, R3, R4, R5, R6, R7, R8⟩ := R
  refine w_Rm_correct ⟨is_mk hM.1, mA_12018 hM (by decide) (by decide), ?_⟩
  rw [mG_12018 hM]
  intro s3 q3
  have r3 : Rc o [] [] [1060] σ s3 := by rw [q3]; exact Rc.saLm (by decide)
  have hM3 := hM.rc r3
  refine ⟨mA_12018 hM3 (by decide) (by decide), ?_⟩
  rw [mG_12018 hM3]
  intro s7 q7
  have r7 : Rc o [] [] [1060] s3 s7 := by rw [q7]; exact Rc.saLm (by decide)
  have hM7 := hM3.rc r7
  refine ⟨mA_12018 hM7 (by decide) (by decide), ?_⟩
  rw [mG_12018 hM7]
  intro s11 q11
  have r11 : Rc o [] [] [1060] s7 s11 := by rw [q11]; exact Rc.saLm (by decide)
  have hM11 := hM7.rc r11
  refine ⟨mA_12018 hM11 (by decide) (by decide), ?_⟩
  rw [mG_12018 hM11]
  intro s15 q15
  have r15 : Rc o [] [] [1060] s11 s15 := by rw [q15]; exact Rc.saLm (by decide)
  have hM15 := hM11.rc r15
  refine ⟨mA_12018 hM15 (by decide) (by decide), ?_⟩
  rw [mG_12018 hM15]
  intro s19 q19
  have r19 : Rc o [] [] [1060] s15 s19 := by rw [q19]; exact Rc.saLm (by decide)
  have hM19 := hM15.rc r19
  refine ⟨mA_12018 hM19 (by decide) (by decide), ?_⟩
  rw [mG_12018 hM19]
  intro s23 q23
  have r23 : Rc o [] [] [1060] s19 s23 := by rw [q23]; exact Rc.saLm (by decide)
  have hM23 := hM19.rc r23
  have rr : Rc o [] [] [1060] σ s23 := ((((r3.trans r7).trans r11).trans r15).trans r19).trans r23
  have hA : ArgR s23 1060 (d_arg [p0.toInt64, p1.toInt64, p2.toInt64, p3.toInt64, p4, p5.toInt64]) := by
    refine ⟨mK_12018 hM23, fun j hj => ?_⟩
    rw [saL_all q23, saL_all q19, saL_all q15, saL_all q11, saL_all q7, saL_all q3]
    have e0 : (0 : Int32).toNatClampNeg = 0 := by decide
    have e1 : (1 : Int32).toNatClampNeg = 1 := by decide
    have e2 : (2 : Int32).toNatClampNeg = 2 := by decide
    have e3 : (3 : Int32).toNatClampNeg = 3 := by decide
    have e4 : (4 : Int32).toNatClampNeg = 4 := by decide
    have e5 : (5 : Int32).toNatClampNeg = 5 := by decide
    rw [e0, e1, e2, e3, e4, e5]
    have hj' : j = 0 ∨ j = 1 ∨ j = 2 ∨ j = 3 ∨ j = 4 ∨ j = 5 := by omega
    rcases hj' with h | h | h | h | h | h <;> subst h <;> rfl
  have now23 : am_fR s23 12016 1053 = some o := by rw [rr.fR]; exact R2.1
  rw [now23, mR_12018 hM23]
  have Ro23 : OffR s23 o (d_off D) := R3.1.rm rr (by decide)
  refine ⟨is_mk Ro23.1.2.1, (r_act (d := d) (n := 16) (t := []) w.1 Ro23 hM23 (R4.2.1.rc rr) w.2.1 w.2.2.1 hA (Or.inl rfl) ((rr.fI (by simp)).trans R7.1) (by decide) (by decide) (fun h => absurd h (by decide)) (fun r hr s27 R27 f27 r27 _ => ?_))⟩
  have r27' : Rc o reF raA [1060] σ s27 := (rr.mono (by simp) (by simp) (by simp)).trans (r27.mono (fun x h => h) (fun x h => h) (by simp))
  have := K s27
  unfold d_act at this
  rw [← hr] at this
  exact this ⟨R1, ⟨by rw [r27'.fR]; exact R2.1, by rw [r27'.fR]; exact R2.2⟩, ⟨R27, R3.2.rco r27'⟩, ⟨hM.rc r27', R4.2.1.rc r27', R4.2.2.rc r27'⟩, R5.rc r27' lo (by decide) (by decide), R6.rc r27' lo (by decide) (by decide), ⟨f27, (r27'.fI (by decide)).trans R7.2.1, (r27'.fI (by decide)).trans R7.2.2⟩, R8.rc r27' lo (by decide) (by decide)⟩ r27'
theorem rm_clauses {p : Int32} {F : Int32 → am_S → Prop} (w : DskW D) (R : DskR σ o o' D) (K : ∀ σ', DskR σ' o o' (d_clauses D p).2 → Rc o (12003 :: reF) raA [1060] σ σ' → F (d_clauses D p).1 σ') : k_Rm_clauses nl Ln xs (d + 425) 1053 p σ F := by
  have lo := R.lo
  have h62 := und_fi R.2.2.1.1
  have hT := R.2.2.2.2.1
  have hK := R.k
  have z4 : (400 : Int32).toInt = 400 := by decide
  obtain ⟨E, hE⟩ : ∃ E, E = d_clauses D p := ⟨_, rfl⟩
  rw [← hE] at K
  unfold d_clauses at hE
  rw [d_arg2] at hE
  refine w_Rm_clauses ⟨is_mk R.m.1, R.nowis, ?_⟩
  rw [R.g, h62]
  refine ⟨fun q => ?_, fun q => ?_⟩
  · have hu : o_und (d_off D) = false := by
      cases hb : o_und (d_off D)
      · rfl
      · rw [hb] at q; exact absurd q (by decide)
    have nst : ¬ (o_und (d_off D) ≠ decide (6 = 21 ∨ 6 = 22)) := by rw [hu]; decide
    obtain ⟨t1, t2, t3, t4⟩ := hT
    refine ⟨fun q4 => ?_, fun q4 => ?_⟩
    · rw [i32lt, t1, n32 (by omega), z4] at q4
      have em : m_act (d_off D) (d_fnd D) 6 (d_arg [p.toInt64, Int64.ofNat (d_tap D).length, 0, 0]) (d_tap D) = (-2, d_off D, d_fnd D) := by
        unfold m_act
        rw [if_neg (by decide), if_neg nst]
        simp only [Nat.reduceEqDiff, if_true, if_false]
        rw [if_pos (fun z => by have := z.2; omega)]
      rw [em] at hE
      have e2 : (-2 : Int32).toInt < 0 := by decide
      simp only [if_pos e2] at hE
      rw [hE] at K
      exact K σ R Rc.rf
    · rw [i32lt, t1, n32 (by omega), z4] at q4
      have copy : ∀ (m k : Nat) (s1 : am_S), k + m = (d_tap D).length → Rc o [] [62] [] σ s1 → rwI s1 (o + 62) ((d_tap D).take k) (fun b => b) → c_Rm_clauses_28 nl Ln xs (d + 425) 1053 p (Int32.ofNat k) s1 F := by
        intro m
        induction m with
        | zero =>
          intro k s1 hk r1 h1
          have R1 : DskR s1 o o' D := by
            obtain ⟨R1, R2, R3, R4, R5, R6, R7, R8⟩ := id R
            refine ⟨R1, ⟨by rw [r1.fR]; exact R2.1, by rw [r1.fR]; exact R2.2⟩, ⟨R3.1.rc r1 (by decide), R3.2.rco r1⟩, ⟨R4.1.rc r1, R4.2.1.rc r1, R4.2.2.rc r1⟩, R5.rc r1 lo (by decide) (by decide), R6.rc r1 lo (by decide) (by decide), ⟨(r1.fI (by decide)).trans R7.1, (r1.fI (by decide)).trans R7.2.1, (r1.fI (by decide)).trans R7.2.2⟩, R8.rc r1 lo (by decide) (by decide)⟩
          rw [List.take_of_length_le (by omega)] at h1
          refine w_Rm_clauses_28 ⟨is_mk R1.m.1, ?_⟩
          rw [R1.2.2.2.2.1.1]
          refine ⟨fun z => ?_, fun _ => ?_⟩
          · rw [n32lt (by omega) (by omega)] at z
            omega
          have e64 : (Int32.ofNat (d_tap D).length).toInt64 = Int64.ofNat (d_tap D).length := by rw [i64e, t64, n32 (by omega), n64 (by omega)]
          rw [e64]
          refine (r_rmAct (d := d) (n := 6) (t := d_tap D) w.1 w.2.1 w.2.2.1 R1 (by decide) (by decide) (fun _ => ⟨h1, by omega, fun b hb => (t3 b hb).1, rfl⟩) (fun r hr s9 R9 r9 _ => ?_))
          rw [← hr] at hE
          rintro w13 rfl s15 q15
          have r15 : Rc o [12003] [] [1054] s9 s15 := by rw [q15]; exact Rc.sfI (by decide) (Or.inr rfl)
          have T9 := R9.2.2.2.2.1
          have T15 : TapR s15 (if r.1.toInt < 0 then d_tap D else []) := by
            have z0 : (0 : Int32).toInt = 0 := by decide
            by_cases hneg : r.1.toInt < 0
            · rw [if_pos hneg]
              rw [if_pos (by rw [i32lt, z0]; exact hneg)] at q15
              obtain ⟨u1, u2, u3, u4⟩ := T9
              exact ⟨by rw [q15, rI_same]; exact u1, u2, u3, u4.eq fun i => by rw [q15]⟩
            · rw [if_neg hneg]
              rw [if_neg (by rw [i32lt, z0]; exact hneg)] at q15
              exact ⟨by rw [q15]; exact rI_same, by simp, fun b hb => by simp at hb, fun i x hx => by simp at hx⟩
          rw [hE] at K
          have r15' : Rc o [12003] [] [] s9 s15 := by rw [q15]; exact Rc.sfI (by decide) (Or.inr rfl)
          exact K s15 (R9.tap r15 T15) (((r1.mono (by simp) (by decide) (by simp)).trans (r9.mono (fun x h => List.mem_cons_of_mem _ h) (fun x h => h) (fun x h => h))).trans (r15'.mono (by simp) (by simp) (by simp)))
        | succ m ih =>
          intro k s1 hk r1 h1
          obtain ⟨b, hb⟩ := get_ex (show k < (d_tap D).length by omega)
          have M1 := R.m.rc r1
          have K1 := hK.rc r1
          have now1 : am_fR s1 12016 1053 = some o := by rw [r1.fR]; exact R.now
          have bk : 0 ≤ (Int32.ofNat k).toInt ∧ (Int32.ofNat k).toInt < 400 := by rw [n32 (by omega)]; omega
          have v1 : am_aI s1 1054 k = b := (r1.aIm lo (by decide) (by simp)).trans (t4 _ _ hb)
          refine w_Rm_clauses_28 ⟨is_mk M1.1, ?_⟩
          rw [(r1.fI (by simp)).trans t1, now1, Option.getD_some, mG_12002 M1, oG_13090 K1, n32c (by omega), v1]
          refine ⟨fun _ => ⟨is_mk K1.2.1, mA_12002 M1 bk.1 (by omega), oA_13090 K1 bk.1 bk.2, ?_⟩, fun z => absurd (by rw [n32lt (by omega) (by omega)]; omega) z⟩
          intro s6 q6
          rw [n32s]
          refine ih (k + 1) s6 (by omega) (r1.trans (by rw [q6]; exact Rc.saI (by decide))) ?_
          rw [List.take_add_one, hb]
          refine h1.push fun i => ?_
          rw [saI_all q6, List.length_take, Nat.min_eq_left (by omega)]
      exact copy (d_tap D).length 0 σ (by omega) Rc.rf (fun i x hx => by simp at hx)
  · have hu : o_und (d_off D) = true := by
      cases hb : o_und (d_off D)
      · rw [hb] at q; exact absurd rfl q
      · rfl
    have em : m_act (d_off D) (d_fnd D) 6 (d_arg [p.toInt64, Int64.ofNat (d_tap D).length, 0, 0]) (d_tap D) = (-3, d_off D, d_fnd D) := act_state (by decide) (by rw [hu]; decide)
    rw [em] at hE
    have e2 : (-3 : Int32).toInt < 0 := by decide
    simp only [if_pos e2] at hE
    rw [hE] at K
    exact K σ R Rc.rf
end
