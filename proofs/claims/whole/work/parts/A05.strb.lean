/-! TEXTS of the program: length and charAt, as methods -/
def txt (n : Nat) : List Int32 := dd_tx.getD n []
theorem txt_ok : dd_tx.all (fun l => l.all (fun c => decide (((c &&& 255).toUInt32 % 65536).toInt32 = c) && decide (vp_nar .char c = c))) = true := by decide +kernel
theorem txt_len : dd_tx.length = 38 := by decide +kernel
theorem dk_ck1 {nl : Bool} {Ln : Nat} {xs : Nat → Int32} {x : Nat} {l : List (Nat × Instr × Nat × List Nat)} (h : am_ck (am_tbl (dd_T nl 0 fun _ => 0)) x l = true) : am_Jl (TT nl Ln xs) x l := by
  refine am_ck_ok ?_
  unfold dd_T at h
  unfold TT dd_T
  rw [am_ck_z _ _ _ _ _ _ _ _ (dd_Z nl 0 fun _ => 0) _]
  exact h
section
variable {nl : Bool} {Ln : Nat} {xs : Nat → Int32} {d : Nat} {σ : am_S}
theorem rk_txt {n : Nat} (h : n < 38) : am_rk (am_tz (TT nl Ln xs)) n = 1 := by
  show dd_rk n = 1
  unfold dd_rk
  rw [if_pos h]
theorem rk_byt {n : Nat} (h : n < 38) : am_rk (am_tz (TT nl Ln xs)) (n + 200) = 1002 := by
  show dd_rk (n + 200) = 1002
  unfold dd_rk
  rw [if_neg (by omega), if_pos (by omega)]
theorem rl_byt {n : Nat} (h : n < 38) : am_rl (am_tz (TT nl Ln xs)) (n + 200) = (txt n).length := by
  show dd_rl Ln (n + 200) = _
  unfold dd_rl txt
  rw [if_pos (by omega), Nat.add_sub_cancel]
theorem rv_byt {n j : Nat} (h : n < 38) : am_rv (am_tz (TT nl Ln xs)) (n + 200) j = (txt n).getD j 0 := by
  show dd_rv xs (n + 200) j = _
  unfold dd_rv txt
  rw [if_pos (by omega), Nat.add_sub_cancel]
theorem li_158 : am_li (TT nl Ln xs) 158 38 = 1 := by rfl
theorem li_88 : am_li (TT nl Ln xs) 88 38 = 1 := by rfl
theorem s_coder {n : Nat} {F : Int32 → am_S → Prop} (hn : n < 38) (K : F 0 σ) : am_C (TT nl Ln xs) (d + 1) 158 0 (am_lo 1 [am_ov (some n)]) [] σ (am_qI F) := by
  obtain ⟨j0, j3, j6, j7, j10, j14, -⟩ := P_coder nl Ln xs
  have elo : am_lo 1 [am_ov (some n)] = [some (am_ov (some n))] := by simp only [am_lo, am_in_ov, am_in_nil]; rfl
  rw [elo]
  refine s_staticI j0 rfl li_158 ?_
  refine s_if j3 rfl rfl am_cc_eq (fun q => absurd q (by decide)) (fun _ => ?_)
  refine s_aload_n j6 rfl rfl ?_
  refine s_gfT j7 rfl ⟨by omega, rk_txt hn⟩ rfl ?_
  refine s_goto j10 rfl rfl ?_
  exact s_retB j14 rfl (by decide) K
theorem r_strlen {n : Nat} {F : Int32 → am_S → Prop} (hn : n < 38) (K : F (Int32.ofNat (txt n).length) σ) : k_Str_length nl Ln xs (d + 2) n σ F := by
  show am_C (TT nl Ln xs) (d + 2) 157 0 (am_lo 1 [am_ov (some n)]) [] σ (am_qI F)
  obtain ⟨j0, j1, j4, j5, j6, j9, j10, -⟩ := P_length nl Ln xs
  have elo : am_lo 1 [am_ov (some n)] = [some (am_ov (some n))] := by simp only [am_lo, am_in_ov, am_in_nil]; rfl
  rw [elo]
  refine s_aload_n j0 rfl rfl ?_
  refine s_gfT j1 rfl ⟨by omega, rk_txt hn⟩ (v := am_ov (some (n + 200))) rfl ?_
  refine s_lenR' j4 rfl (by omega) (Or.inr (rk_byt hn)) (v := Int32.ofNat (txt n).length) (by rw [rl_byt hn]) ?_
  refine s_aload_n j5 rfl rfl ?_
  refine s_virtS j6 rfl rfl rfl rfl ⟨by omega, rk_txt hn⟩ (by decide) (by simp only [am_in_ov, am_in_nil]; exact Nat.le_refl 1) (am_r8 rfl) (am_bI (F := fun a s => a = 0 ∧ s = σ) (s_coder hn ⟨rfl, rfl⟩) (fun a s h hx => ?_))
  obtain ⟨rfl, rfl⟩ := h
  refine s_g j9 rfl rfl rfl rfl rfl rfl ?_
  have e : Int32.ofNat (txt n).length >>> ((0 : Int32) &&& 31) = Int32.ofNat (txt n).length := by
    apply Int32.toBitVec_inj.mp
    simp
  rw [e]
  exact s_retI j10 rfl K
theorem in_3 (i n : Int32) (v : Option Nat) : (am_in [.int i, .int n, am_ov v]).length ≤ 3 := by simp only [am_in_ov, am_in_int, am_in_nil]; exact Nat.le_refl 3
theorem in_2 (i n : Int32) : (am_in [.int i, .int n]).length ≤ 2 := by simp only [am_in_int, am_in_nil]; exact Nat.le_refl 2
theorem in_2r (o : Nat) (i : Int32) : (am_in [am_ov (some o), .int i]).length ≤ 2 := by simp only [am_in_ov, am_in_int, am_in_nil]; exact Nat.le_refl 2
theorem s_isLatin {n : Nat} {F : Bool → am_S → Prop} (hn : n < 38) (K : F true σ) : am_C (TT nl Ln xs) (d + 1) 88 0 (am_lo 1 [am_ov (some n)]) [] σ (am_qB F) := by
  obtain ⟨j0, j3, j6, j7, j10, j13, j14, j18, -⟩ := P_isLatin1 nl Ln xs
  have elo : am_lo 1 [am_ov (some n)] = [some (am_ov (some n))] := by simp only [am_lo, am_in_ov, am_in_nil]; rfl
  rw [elo]
  refine s_staticI j0 rfl li_88 ?_
  refine s_if j3 rfl rfl am_cc_eq (fun q => absurd q (by decide)) (fun _ => ?_)
  refine s_aload_n j6 rfl rfl ?_
  refine s_gfT j7 rfl ⟨by omega, rk_txt hn⟩ rfl ?_
  refine s_if j10 rfl rfl am_cc_ne (fun q => absurd rfl q) (fun _ => ?_)
  refine s_iconst j13 rfl kc_ic_1 ?_
  refine s_goto j14 rfl rfl ?_
  exact s_retZ1 j18 rfl K
theorem s_pre {i n : Int32} {v : Option Nat} {F : Int32 → am_S → Prop} (h0 : ¬ i < 0) (h1 : i < n) (K : F i σ) : am_C (TT nl Ln xs) (d + 1) 91 0 (am_lo 3 [.int i, .int n, am_ov v]) [] σ (am_qI F) := by
  obtain ⟨j0, j1, j4, j5, j6, j16, j17, -⟩ := P_pre nl Ln xs
  have elo : am_lo 3 [.int i, .int n, am_ov v] = [some (.int i), some (.int n), some (am_ov v)] := by simp only [am_lo, am_in_ov, am_in_int, am_in_nil]; rfl
  rw [elo]
  refine s_iload_n j0 rfl rfl ?_
  refine s_if j1 rfl rfl am_cc_lt (fun q => absurd q h0) (fun _ => ?_)
  refine s_iload_n j4 rfl rfl ?_
  refine s_iload_n j5 rfl rfl ?_
  refine s_ic j6 rfl rfl am_cc_lt (fun _ => ?_) (fun q => absurd h1 q)
  refine s_iload_n j16 rfl rfl ?_
  exact s_retI j17 rfl K
theorem s_check {i n : Int32} {F : am_S → Prop} (h0 : ¬ i < 0) (h1 : i < n) (K : F σ) : am_C (TT nl Ln xs) (d + 2) 90 0 (am_lo 2 [.int i, .int n]) [] σ (am_qV F) := by
  obtain ⟨j0, j1, j5, j8, j9, -⟩ := P_check nl Ln xs
  have elo : am_lo 2 [.int i, .int n] = [some (.int i), some (.int n)] := by simp only [am_lo, am_in_int, am_in_nil]; rfl
  rw [elo]
  refine s_iload_n j0 rfl rfl ?_
  refine s_iload_n j1 rfl rfl ?_
  have go : ∀ v : Option Nat, am_C (TT nl Ln xs) (d + 2) 90 5 [some (.int i), some (.int n)] [am_ov v, .int n, .int i] σ (am_qV F) := by
    intro v
    refine s_stat j5 rfl rfl rfl rfl (by decide) (in_3 _ _ _) (am_r8 rfl) (am_bI (F := fun a s => s = σ) (s_pre h0 h1 rfl) (fun a s h hx => ?_))
    have h : s = σ := h
    subst h
    refine s_pop j8 rfl rfl ?_
    exact s_retV j9 rfl K
  cases nl with
  | false =>
    have j2 : am_Jl (TT false Ln xs) 90 [(2, .getstatic 1053, 5, [7, 998, 0])] := dk_ck1 (by decide +kernel)
    exact s_static j2.1 rfl (go (some 998))
  | true =>
    have j2 : am_Jl (TT true Ln xs) 90 [(2, .getstatic 1053, 5, [7, 998, 2])] := dk_ck1 (by decide +kernel)
    exact s_staticN j2.1 rfl (go none)
theorem txt_get {n j : Nat} {c : Int32} (hn : n < 38) (h : (txt n)[j]? = some c) : ((c &&& 255).toUInt32 % 65536).toInt32 = c ∧ vp_nar .char c = c := by
  have hl : txt n ∈ dd_tx := by
    unfold txt
    exact List.mem_of_getElem? (getD_some [] (by rw [txt_len]; exact hn))
  have := List.all_eq_true.mp (List.all_eq_true.mp txt_ok _ hl) c (List.mem_of_getElem? h)
  rw [Bool.and_eq_true] at this
  exact ⟨of_decide_eq_true this.1, of_decide_eq_true this.2⟩
theorem s_charAtL {n j : Nat} {c : Int32} {F : Int32 → am_S → Prop} (hn : n < 38) (hj : (txt n)[j]? = some c) (h200 : (txt n).length < 1000) (K : F c σ) : am_C (TT nl Ln xs) (d + 3) 89 0 (am_lo 2 [am_ov (some (n + 200)), .int (Int32.ofNat j)]) [] σ (am_qI F) := by
  obtain ⟨j0, j1, j2, j3, j6, j7, j8, j9, j12, j13, j14, -⟩ := P_charAtL nl Ln xs
  have elo : am_lo 2 [am_ov (some (n + 200)), .int (Int32.ofNat j)] = [some (am_ov (some (n + 200))), some (.int (Int32.ofNat j))] := by simp only [am_lo, am_in_ov, am_in_int, am_in_nil]; rfl
  have hlt := lt_of_get hj
  have ht := txt_get hn hj
  have nj : (Int32.ofNat j).toInt = j := n32 (by omega)
  have hj0 : ¬ Int32.ofNat j < 0 := by rw [i32lt, nj, show (0 : Int32).toInt = 0 by decide]; omega
  have hj1 : Int32.ofNat j < Int32.ofNat (txt n).length := by rw [n32lt (by omega) (by omega)]; exact hlt
  rw [elo]
  refine s_iload_n j0 rfl rfl ?_
  refine s_aload_n j1 rfl rfl ?_
  refine s_lenR' j2 rfl (by omega) (Or.inr (rk_byt hn)) (v := Int32.ofNat (txt n).length) (by rw [rl_byt hn]) ?_
  refine s_stat j3 rfl rfl rfl rfl (by decide) (in_2 _ _) (am_r8 rfl) (am_bV (F := fun s => s = σ) (s_check hj0 hj1 rfl) (fun s h hx => ?_))
  have h : s = σ := h
  subst h
  refine s_aload_n j6 rfl rfl ?_
  refine s_iload_n j7 rfl rfl ?_
  refine s_baloadR j8 rfl (by omega) (rk_byt hn) (by omega) (by rw [rl_byt hn]; omega) ?_
  rw [rv_byt hn, n32c (by omega), getD_of 0 hj]
  refine s_sipush j9 rfl (v := 255) (by decide) ?_
  refine s_g j12 rfl rfl rfl rfl rfl rfl ?_
  refine s_g j13 rfl rfl rfl rfl rfl rfl ?_
  rw [ht.1]
  exact s_retC j14 rfl ht.2 K
theorem txt_1000 : dd_tx.all (fun l => decide (l.length < 1000)) = true := by decide +kernel
theorem txt_lt {n : Nat} (hn : n < 38) : (txt n).length < 1000 := by
  have hl : txt n ∈ dd_tx := by
    unfold txt
    exact List.mem_of_getElem? (getD_some [] (by rw [txt_len]; exact hn))
  exact of_decide_eq_true (List.all_eq_true.mp txt_1000 _ hl)
theorem r_charAt {n j : Nat} {c : Int32} {F : Int32 → am_S → Prop} (hn : n < 38) (hj : (txt n)[j]? = some c) (K : F c σ) : k_Str_charAt nl Ln xs (d + 4) n (Int32.ofNat j) σ F := by
  show am_C (TT nl Ln xs) (d + 4) 87 0 (am_lo 2 [am_ov (some n), .int (Int32.ofNat j)]) [] σ (am_qI F)
  obtain ⟨j0, j1, j4, j7, j8, j11, j12, j15, -⟩ := P_charAt nl Ln xs
  have elo : am_lo 2 [am_ov (some n), .int (Int32.ofNat j)] = [some (am_ov (some n)), some (.int (Int32.ofNat j))] := by simp only [am_lo, am_in_ov, am_in_int, am_in_nil]; rfl
  rw [elo]
  refine s_aload_n j0 rfl rfl ?_
  refine s_virtS j1 rfl rfl rfl rfl ⟨by omega, rk_txt hn⟩ (by decide) (by simp only [am_in_ov, am_in_nil]; exact Nat.le_refl 1) (am_r8 rfl) (am_bB (F := fun a s => a = true ∧ s = σ) (s_isLatin hn ⟨rfl, rfl⟩) (fun a s h hx => ?_))
  obtain ⟨rfl, rfl⟩ := h
  refine s_if j4 rfl rfl am_cc_eq (fun q => absurd q (by decide)) (fun _ => ?_)
  refine s_aload_n j7 rfl rfl ?_
  refine s_gfT j8 rfl ⟨by omega, rk_txt hn⟩ (v := am_ov (some (n + 200))) rfl ?_
  refine s_iload_n j11 rfl rfl ?_
  refine s_stat j12 rfl rfl rfl rfl (by decide) (in_2r _ _) (am_r8 rfl) (am_bI (F := fun a s' => a = c ∧ s' = s) (s_charAtL hn hj (txt_lt hn) ⟨rfl, rfl⟩) (fun a s' h hx => ?_))
  obtain ⟨rfl, rfl⟩ := h
  exact s_retC j15 rfl (txt_get hn hj).2 K
end
