/-! LETTERS of the reference: tokens, rows said -/
theorem sb_256 : ∀ k, k < 256 → (d_sb (Int32.ofNat k) = 10 ↔ k = 10) ∧ (d_sb (Int32.ofNat k) = 40 ↔ k = 40) := by decide +kernel
theorem sb_eq {b : Int32} (h0 : 0 ≤ b.toInt) (h1 : b.toInt ≤ 255) : (d_sb b = 10 ↔ b = 10) ∧ (d_sb b = 40 ↔ b = 40) := by
  have e := n32of h0
  have h := sb_256 b.toInt.toNat (by omega)
  rw [← e] at h
  have k : ∀ q : Nat, q < 1000 → (b.toInt.toNat = q ↔ b = Int32.ofNat q) := fun q hq => by
    rw [i32e, n32 (by omega)]
    omega
  exact ⟨h.1.trans (k 10 (by decide)), h.2.trans (k 40 (by decide))⟩
theorem txt_hd : ∀ n, n < 38 → 2 ≤ n → ∃ c l, txt n = c :: l ∧ c ≠ 10 := by
  have h : (List.range 38).all (fun n => decide (n < 2) || (match txt n with | [] => false | c :: _ => decide (c ≠ 10))) = true := by decide +kernel
  intro n hn h2
  have := List.all_eq_true.mp h n (List.mem_range.mpr hn)
  rw [Bool.or_eq_true, decide_eq_true_eq] at this
  rcases this with q | q
  · omega
  · cases ht : txt n with
    | nil => rw [ht] at q; cases q
    | cons c l => rw [ht] at q; exact ⟨c, l, rfl, of_decide_eq_true q⟩
theorem lastD_snoc {l : List Int32} {z : Int32} (h : l ≠ []) : ∃ b, l[l.length - 1]? = some b ∧ l.getLastD z = b ∧ b ∈ l := by
  refine ⟨l.getLast h, ?_, ?_, List.getLast_mem h⟩
  · rw [← List.getLast?_eq_getElem?, List.getLast?_eq_some_getLast h]
  · rw [List.getLastD_eq_getLast?, List.getLast?_eq_some_getLast h]; rfl
section
variable {nl : Bool} {Ln : Nat} {xs : Nat → Int32} {d : Nat} {σ : am_S} {o : Nat} {L : List Int32}
theorem tok_len (L s : List Int32) : (d_tok L s).length ≤ L.length + s.length + 1 := by
  unfold d_tok
  split <;> simp <;> omega
theorem r_putToken {n : Nat} {F : am_S → Prop} (hn : n < 38) (h2 : 2 ≤ n) (hM : ModK σ) (h : LetR σ L) (hl : L.length + (txt n).length + 1 ≤ 500000) (K : ∀ σ', LetR σ' (d_tok L (txt n)) → Rc o leF [] [1055] σ σ' → F σ') : k_Rm_putToken nl Ln xs (d + 6) 1053 (some n) σ F := by
  obtain ⟨c, l, hc, hc10⟩ := txt_hd n hn h2
  have hget : (txt n)[0]? = some c := by rw [hc]; rfl
  have hhd : (txt n).headD 0 = c := by rw [hc]; rfl
  have h0 := h
  obtain ⟨h1, hb, h3⟩ := h
  have nz : am_fI σ 12005 1053 = 0 ↔ L = [] := by
    rw [h1, show (0 : Int32) = Int32.ofNat 0 from rfl, n32i (by omega) (by decide), List.length_eq_zero_iff]
  -- what is written last
  obtain ⟨w, hw1, hw2⟩ : ∃ w : Int32, (w = if am_fI σ 12005 1053 = 0 then 10 else am_aI σ ((am_fR σ 12004 1053).getD 0) (am_fI σ 12005 1053 - 1).toNatClampNeg) ∧ ((w = 10 ↔ L.getLastD 10 = 10) ∧ (w = 40 ↔ L.getLastD 10 = 40)) := by
    refine ⟨_, rfl, ?_⟩
    by_cases hL : L = []
    · rw [if_pos (nz.mpr hL), hL]
      exact ⟨⟨fun _ => rfl, fun _ => rfl⟩, ⟨fun q => absurd q (by decide), fun q => absurd q (by decide)⟩⟩
    · have hp : 1 ≤ L.length := by
        rcases Nat.eq_zero_or_pos L.length with q | q
        · exact absurd (List.length_eq_zero_iff.mp q) hL
        · exact q
      obtain ⟨b, b1, b2, b3⟩ := lastD_snoc (z := 10) hL
      have em : am_fI σ 12005 1053 - 1 = Int32.ofNat (L.length - 1) := by rw [h1, show L.length = L.length - 1 + 1 by omega, o32]; simp
      rw [if_neg (fun q => hL (nz.mp q)), em, n32c (by omega), mG_12004 hM, h3 _ b b1, b2]
      exact sb_eq (hb b b3).1 (hb b b3).2
  refine w_Rm_putToken ⟨is_mk hM.1, fun q => ?_, fun w5 e5 => ?_⟩
  · have hL : L ≠ [] := fun z => q (nz.mpr z)
    have hp : 1 ≤ L.length := by
      rcases Nat.eq_zero_or_pos L.length with q | q
      · exact absurd (List.length_eq_zero_iff.mp q) hL
      · exact q
    have em : am_fI σ 12005 1053 - 1 = Int32.ofNat (L.length - 1) := by rw [h1, show L.length = L.length - 1 + 1 by omega, o32]; simp
    rw [em]
    exact mA_12004 hM (by rw [n32 (by omega)]; omega) (by rw [n32 (by omega)]; omega)
  have e5 : w5 = w := e5.trans hw1.symm
  rw [e5]
  have plain : (L.getLastD 10 = 10 ∨ L.getLastD 10 = 40 ∨ c = 59 ∨ c = 41) → k_Rm_put nl Ln xs (d + 5) 1053 (some n) σ (fun σ7 => am_ext σ σ7 → F σ7) := fun q => by
    refine r_put (d := d) (o := o) hn hM h0 (by omega) (fun σ' L' r' _ => K σ' ?_ r')
    unfold d_tok
    rw [hhd, if_pos q]
    exact L'
  have fin : ∀ y0 : Int32, (y0 = 0 ↔ ¬ (c = 59 ∨ c = 41)) → c_Rm_putToken_59 nl Ln xs (d + 6) 1053 (some n) w y0 σ F := by
    intro y0 hy
    refine w_Rm_putToken_59 ⟨fun q => ⟨is_mk hM.1, plain (Or.inl (hw2.1.mp q))⟩, fun q1 => ⟨fun q => ⟨is_mk hM.1, plain (Or.inr (Or.inl (hw2.2.mp q)))⟩, fun q2 => ⟨fun q => ⟨is_mk hM.1, ?_⟩, fun q => ⟨is_mk hM.1, plain (Or.inr (Or.inr ?_))⟩⟩⟩⟩
    · refine r_put2 (o := o) hM h0 (by omega) (fun σ2 L2 r2 _ => ?_)
      refine r_put (d := d) (o := o) hn (hM.rc r2) L2 (by rw [List.length_append, List.length_singleton]; omega) (fun σ' L' r' _ => K σ' ?_ (r2.trans r'))
      unfold d_tok
      rw [hhd, if_neg (fun z => by rcases z with z | z | z; exact q1 (hw2.1.mpr z); exact q2 (hw2.2.mpr z); exact (hy.mp q) z)]
      rw [List.append_assoc] at L'
      exact L'
    · exact Classical.byContradiction fun z => q (hy.mpr z)
  refine w_Rm_putToken_23 ⟨⟨n, rfl⟩, ⟨by show n < 200; omega, rk_txt hn⟩, (r_charAt (d := d + 1) hn hget (fun _ => ⟨fun q => ?_, fun q1 => ⟨⟨n, rfl⟩, ⟨by show n < 200; omega, rk_txt hn⟩, (r_charAt (d := d + 1) hn hget (fun _ => ⟨fun q => ?_, fun q2 => ⟨⟨n, rfl⟩, ⟨by show n < 200; omega, rk_txt hn⟩, (r_charAt (d := d + 1) hn hget (fun _ => ?_))⟩⟩))⟩⟩))⟩
  · exact w_Rm_putToken_54 (fin 1 ⟨fun z => absurd z (by decide), fun z => absurd (Or.inl q) z⟩)
  · exact w_Rm_putToken_54 (fin 1 ⟨fun z => absurd z (by decide), fun z => absurd (Or.inr q) z⟩)
  · rw [if_neg hc10]
    exact fin 0 ⟨fun _ z => by rcases z with z | z; exact q1 z; exact q2 z, fun _ => rfl⟩
theorem r_putTokenNumber {v : Int64} {F : am_S → Prop} (hv : -9223372036854775808 < v.toInt) (hM : ModK σ) (h : LetR σ L) (hl : L.length + 21 ≤ 500000) (K : ∀ σ', LetR σ' (d_tokN L v) → Rc o leF [] [1055] σ σ' → (d_num v).length ≤ 20 → F σ') : k_Rm_putTokenNumber nl Ln xs (d + 3) 1053 v σ F := by
  refine w_Rm_putTokenNumber ⟨is_mk hM.1, r_put2 (o := o) hM h (by omega) (fun σ2 L2 r2 _ => ?_)⟩
  refine r_putNumber (d := d) (o := o) hv (hM.rc r2) L2 (by rw [List.length_append, List.length_singleton]; omega) (fun σ' L' r' hd _ => K σ' ?_ (r2.trans r') hd)
  unfold d_tokN
  rw [List.append_assoc] at L'
  exact L'
end
