/-! THE CLASS: the rows in letters -/
theorem row_word : ∀ c, c < 13 → (((txt 1).drop (8 * c)).take 8).takeWhile (fun x => decide (x ≠ 32)) = txt (c + 8) := by decide +kernel
theorem row_len : (txt 1).length = 104 := by decide +kernel
theorem row_byte : ∀ j, j < 104 → (txt 1).getD j 0 &&& 255 = (txt 1).getD j 0 := by decide +kernel
theorem txt_short : ∀ c, c < 13 → (txt (c + 8)).length ≤ 8 := by decide +kernel
section
variable {nl : Bool} {Ln : Nat} {xs : Nat → Int32} {d : Nat} {σ : am_S} {w : ow_T} {τ : am_S} {v b gl nu : Nat} {X : Stx} {sp : Option Nat} {g : Grw} {D : mTop}
theorem by_word3 {k : Nat × Nat} {n p q : Nat} {g0 : Nat} {T : List Int32} {F : am_S → Prop} (hk : k ≠ (0, 0)) (hq : p + q ≤ 104) (hT : T.length < 200000) (K : ∀ σ' w' g', ByR σ' w' k n g' T → ByC σ w σ' w' k g0 g' → F σ') : ∀ (m i : Nat) (s : am_S) (ws : ow_T) (gs : Nat) (L : List Int32), i + m = p + q → L ++ (((txt 1).drop i).take m).takeWhile (fun x => decide (x ≠ 32)) = T → ByR s ws k n gs L → ByC σ w s ws k g0 gs → c_By_putWord_3 nl Ln xs (d + 5) n (some 1) (Int32.ofNat p) (Int32.ofNat q) (Int32.ofNat i) s F := by
  intro m
  induction m with
  | zero =>
    intro i s ws gs L hi hL B C
    have hL : L = T := by
      rw [← hL]
      simp
    subst hL
    refine w_By_putWord_3 ?_
    rw [n32a, n32lt (by omega) (by omega)]
    exact ⟨fun h => absurd h (by omega), fun _ => K s ws gs B C⟩
  | succ m ih =>
    intro i s ws gs L hi hL B C
    obtain ⟨c, hc⟩ := get_ex (show i < (txt 1).length by rw [row_len]; omega)
    have hb : c &&& 255 = c := by
      have := row_byte i (by omega)
      rw [getD_of 0 hc] at this
      exact this
    rw [drop_get hc, List.take_succ_cons] at hL
    refine w_By_putWord_3 ?_
    rw [n32a, n32lt (by omega) (by omega), Option.getD_some]
    refine ⟨fun _ => ⟨⟨1, rfl⟩, ⟨by decide, rk_txt (by decide)⟩, r_strlen (d := d + 2) (by decide) (fun _ => ?_)⟩, fun h => absurd (by omega) h⟩
    rw [row_len, n32lt (by omega) (by omega)]
    refine ⟨fun _ => ⟨⟨1, rfl⟩, ⟨by decide, rk_txt (by decide)⟩, r_charAt (d := d) (by decide) hc (fun _ => ⟨fun h32 => ?_, fun h32 => ?_⟩)⟩, fun h => absurd (by omega) h⟩
    · rw [List.takeWhile_cons_of_neg (by simp [h32]), List.append_nil] at hL
      subst hL
      exact K s ws gs B C
    · rw [List.takeWhile_cons_of_pos (by simp [h32])] at hL
      have hll : L.length < 200000 := by rw [← hL, List.length_append] at hT; omega
      refine ⟨⟨1, rfl⟩, ⟨by decide, rk_txt (by decide)⟩, r_charAt (d := d) (by decide) hc (fun _ => ⟨is_mk B.2.1, by_put (d := d + 1) B C.1.1 hk (by omega) (fun s6 w6 g6 B6 c6 _ => ?_)⟩)⟩
      rw [hb] at B6
      rw [n32s]
      refine ih (i + 1) s6 w6 g6 _ (by omega) ?_ B6 (C.trans c6)
      rw [← hL, List.append_assoc]
      rfl
theorem by_word {k : Nat × Nat} {n c g0 : Nat} {L : List Int32} {F : am_S → Prop} (hk : k ≠ (0, 0)) (hc : c < 13) (hl : L.length < 190000) (B : ByR σ w k n g0 L) (ho : OwI σ w) (K : ∀ σ' w' g', ByR σ' w' k n g' (L ++ txt (c + 8)) → ByC σ w σ' w' k g0 g' → F σ') : k_By_putWord nl Ln xs (d + 5) n (some 1) (Int32.ofNat (8 * c)) 8 σ F := by
  have hs := txt_short c hc
  refine w_By_putWord (by_word3 (d := d) (p := 8 * c) (q := 8) (T := L ++ txt (c + 8)) hk (by omega) (by rw [List.length_append]; omega) K 8 (8 * c) σ w g0 L rfl (by rw [row_word c hc]) B (ByC.rf ho))
theorem co_say {F : Int32 → am_S → Prop} (hrw : ∀ r ∈ (d_lok D).2.1, (0 ≤ r.1.toInt ∧ r.1.toInt ≤ 12) ∧ -9223372036854775808 < r.2.2.toInt) (R : DskC τ σ w v X b sp g gl nu D) (K : ∀ s ws g', DskC τ s ws v X b sp g' gl nu (d_say D).2 → F (d_say D).1 s) : k_Co_say nl Ln xs (d + 6) 1000 σ F := by
  have A := R.2.2.2.2.2.2.2.1
  have S := R.2.2.2.2.2.1
  have h13 : (d_lok D).2.1.length ≤ 13 := R.2.2.2.2.2.2.1.2
  obtain ⟨rows, hrows⟩ : ∃ rows, rows = (d_lok D).2.1 := ⟨_, rfl⟩
  rw [← hrows] at hrw h13
  unfold d_say at K
  rw [← hrows] at K
  have rl : ∀ r ∈ rows, (d_sayR r).length ≤ 40 := fun r hr => by
    have h1 := (hrw r hr).1
    have h2 := txt_short r.1.toInt.toNat (by omega)
    have h3 := num_le r.2.2
    unfold d_sayR d_rowW
    rw [List.length_append, List.length_cons, List.length_append, List.length_singleton]
    omega
  have fl : ∀ l : List mRow, (∀ r ∈ l, r ∈ rows) → (l.flatMap d_sayR).length ≤ 40 * l.length := by
    intro l
    induction l with
    | nil => intro _; simp
    | cons r l ih =>
      intro h
      have h1 := rl r (h r List.mem_cons_self)
      have h2 := ih (fun x hx => h x (List.mem_cons_of_mem _ hx))
      rw [List.flatMap_cons, List.length_append, List.length_cons]
      omega
  refine w_Co_say ⟨is_mk R.1.1.2, ?_⟩
  rw [R.1.2.1.2.2.1, Option.getD_some]
  refine ⟨is_mk S.2.1, by_clr (d := d + 4) S A.1.1.1 (fun s3 S3 c3 hext => ?_)⟩
  have R3 := R.let S3 c3 hext.2
  have loop : ∀ (j m : Nat) (s : am_S) (ws : ow_T) (g' : Nat), m + j = rows.length → DskC τ s ws v X b sp (g.1, g.2.1, g', g.2.2.2) gl nu (d_setLet D ((rows.take m).flatMap d_sayR)) → c_Co_say_9 nl Ln xs (d + 6) 1000 (Int32.ofNat m) s F := by
    intro j
    induction j with
    | zero =>
      intro m s ws g' hm R1
      obtain ⟨⟨ov, L1⟩, -⟩ := R1.2.2.2.2.2.2.1
      have e4 : am_fI s 3004 (2070 - v) = Int32.ofNat rows.length := by rw [hrows]; exact L1.2.1.1
      have S1 := R1.2.2.2.2.2.1
      refine w_Co_say_9 ⟨is_mk R1.1.1.2, ?_⟩
      rw [R1.1.2.2.2.2.2.1, Option.getD_some, e4, R1.1.2.1.2.2.1, Option.getD_some, n32lt (by omega) (by omega), S1.2.2.2.2.1]
      refine ⟨is_mk L1.1.1, fun h => absurd h (by omega), fun _ => ⟨is_mk S1.2.1, ?_⟩⟩
      have et : rows.take m = rows := List.take_of_length_le (by omega)
      rw [et] at R1
      have e2 : d_let (d_setLet D ((rows.take m).flatMap d_sayR)) = rows.flatMap d_sayR := by rw [et]; rfl
      rw [e2]
      exact K s ws _ R1
    | succ j ih =>
      intro m s ws g' hm R1
      obtain ⟨⟨ov, L1⟩, -⟩ := R1.2.2.2.2.2.2.1
      have e4 : am_fI s 3004 (2070 - v) = Int32.ofNat rows.length := by rw [hrows]; exact L1.2.1.1
      obtain ⟨r, hr⟩ := get_ex (show m < rows.length by omega)
      have hrm := hrw r (List.mem_of_getElem? hr)
      have hrr : (d_lok D).2.1[m]? = some r := by rw [← hrows]; exact hr
      obtain ⟨⟨k1, ⟨k2, k3, k4, k5⟩, k6, k7, k8, k9⟩, ⟨l1, l2, l3, l4⟩, -⟩ := id L1
      have S1 := R1.2.2.2.2.2.1
      have O1 := R1.2.2.2.2.2.2.2.1.1.1.1
      obtain ⟨c, hc⟩ : ∃ c, c = r.1.toInt.toNat := ⟨_, rfl⟩
      have ec : r.1 * 8 = Int32.ofNat (8 * c) := by
        rw [i32e, n32 (by omega), i32mul (by rw [show (8 : Int32).toInt = 8 by decide]; omega) (by rw [show (8 : Int32).toInt = 8 by decide]; omega), show (8 : Int32).toInt = 8 by decide]
        omega
      have hlen := fl (rows.take m) (fun x hx => List.mem_of_mem_take hx)
      rw [List.length_take] at hlen
      have hrl := rl r (List.mem_of_getElem? hr)
      refine w_Co_say_9 ⟨is_mk R1.1.1.2, ?_⟩
      rw [R1.1.2.2.2.2.2.1, Option.getD_some, e4, R1.1.2.1.2.2.1, Option.getD_some, n32lt (by omega) (by omega), k2, Option.getD_some, n32c (by omega), l2 m r hrr, ec]
      refine ⟨is_mk L1.1.1, fun _ => ⟨ar_mk k6 (by rw [n32 (by omega)]; omega) (by rw [n32 (by omega)]; omega), is_mk S1.2.1, by_word (d := d) (c := c) (by simp) (by omega) (by show ((rows.take m).flatMap d_sayR).length < 190000; omega) S1 O1 (fun s6 w6 g6 S6 c6 hx6 => ?_)⟩, fun h => absurd (by omega) h⟩
      have R6 := R1.let S6 c6 hx6.2
      have t8 := txt_short c (by omega)
      have R6' : DskC τ s6 w6 v X b sp (g.1, g.2.1, g6, g.2.2.2) gl nu (d_setLet D ((rows.take m).flatMap d_sayR ++ txt (c + 8))) := R6
      refine co_put1 (d := d + 2) (g := g) (by rw [List.length_append]; omega) R6' (fun s9 w9 g9 R9 => ?_)
      rw [show (32 : Int32) &&& 255 = 32 by decide] at R9
      obtain ⟨⟨ov9, L9⟩, -⟩ := R9.2.2.2.2.2.2.1
      obtain ⟨⟨k1', ⟨k2', k3', k4', k5'⟩, k6', k7', k8', k9'⟩, ⟨l1', l2', l3', l4'⟩, -⟩ := id L9
      have S9 := R9.2.2.2.2.2.1
      have O9 := R9.2.2.2.2.2.2.2.1.1.1.1
      rw [R9.1.2.2.2.2.2.1, Option.getD_some, R9.1.2.1.2.2.1, Option.getD_some, k4', Option.getD_some, l4' m r hrr]
      refine ⟨is_mk k1', ar_mk k8' (by rw [n32 (by omega)]; omega) (by rw [n32 (by omega)]; omega), is_mk S9.2.1, by_dec (d := d + 1) hrm.2 (by simp) (by show ((rows.take m).flatMap d_sayR ++ txt (c + 8) ++ [32]).length < 190000; rw [List.length_append, List.length_append, List.length_singleton]; omega) S9 O9 (fun s14 w14 g14 S14 c14 hx14 => ?_)⟩
      have R14 : DskC τ s14 w14 v X b sp (g.1, g.2.1, g14, g.2.2.2) gl nu (d_setLet D ((rows.take m).flatMap d_sayR ++ txt (c + 8) ++ [32] ++ d_num r.2.2)) := R9.let S14 c14 hx14.2
      have hnl := num_le r.2.2
      refine co_put1 (d := d + 2) (g := g) (by rw [List.length_append, List.length_append, List.length_append, List.length_singleton]; omega) R14 (fun s17 w17 g17 R17 => ?_)
      rw [show (10 : Int32) &&& 255 = 10 by decide] at R17
      rw [n32s]
      refine ih (m + 1) s17 w17 g17 (by omega) ?_
      have et : (rows.take (m + 1)).flatMap d_sayR = (rows.take m).flatMap d_sayR ++ txt (c + 8) ++ [32] ++ d_num r.2.2 ++ [10] := by
        rw [List.take_add_one, hr, List.flatMap_append]
        unfold d_sayR d_rowW
        rw [hc]
        simp
      rw [et]
      exact R17
  exact loop rows.length 0 s3 w _ (by omega) R3
end
