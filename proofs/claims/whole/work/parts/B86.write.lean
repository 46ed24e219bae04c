/-! THE CLASS: all is written out -/
theorem wr_bv (x : BitVec 32) (s : Nat) (hs : s ≤ 24) : (((x >>> s) &&& 255#32) &&& 255#32) = ((x.sshiftRight s) &&& 255#32) := by
  apply BitVec.eq_of_getElem_eq
  intro i hi
  have h1 := b255_32 ⟨i, hi⟩
  simp only [Fin.getElem_fin] at h1
  rw [BitVec.getElem_and, BitVec.getElem_and, BitVec.getElem_and, h1]
  by_cases h8 : i < 8
  · rw [decide_eq_true h8, Bool.and_true, Bool.and_true, Bool.and_true, ← BitVec.getLsbD_eq_getElem, ← BitVec.getLsbD_eq_getElem, BitVec.getLsbD_ushiftRight, BitVec.getLsbD_sshiftRight]
    have : s + i < 32 := by omega
    simp [this, show ¬ 32 ≤ i by omega]
  · rw [decide_eq_false h8]
    simp
theorem wr_gen (h : Int32) (c : UInt32) (e : Int32) (s : Nat) (h1 : (UInt32.mod c 32).toBitVec.toNat = s) (h2 : (e.toBitVec.smod 32).toNat = s) (hs : s ≤ 24) : (((h.toUInt32 >>> c).toInt32 &&& 255) &&& 255) = (h >>> e) &&& 255 := by
  apply Int32.toBitVec_inj.mp
  show (((h.toBitVec >>> (UInt32.mod c 32).toBitVec.toNat) &&& 255#32) &&& 255#32) = ((h.toBitVec.sshiftRight (e.toBitVec.smod 32).toNat) &&& 255#32)
  rw [h1, h2]
  exact wr_bv _ s hs
theorem wr_0 (h : Int32) : h >>> (0 : Int32) = h := by
  apply Int32.toBitVec_inj.mp
  show h.toBitVec.sshiftRight ((0 : Int32).toBitVec.smod 32).toNat = _
  rw [show ((0 : Int32).toBitVec.smod 32).toNat = 0 by decide]
  simp
section
variable {nl : Bool} {Ln : Nat} {xs : Nat → Int32} {d : Nat} {σ : am_S} {w : ow_T} {τ : am_S} {v b gl nu : Nat} {X : Stx} {sp : Option Nat} {g : Grw} {D : mTop}
theorem byte_ok {k : Nat × Nat} {n gg : Nat} {L : List Int32} (h : ByR σ w k n gg L) {i : Nat} (hi : i < L.length) : L.getD i 0 &&& 255 = L.getD i 0 := by
  obtain ⟨-, -, -, -, -, m, -, -, -, b4, -⟩ := h
  rw [← b4 i hi]
  apply Int32.toBitVec_inj.mp
  simp only [Int32.toBitVec_and]
  rw [BitVec.and_assoc, BitVec.and_self]
theorem hash_app : ∀ (l : List Int32) (h x : Int32), d_hash h (l ++ [x]) = 31 * d_hash h l + x
  | [], _, _ => rfl
  | y :: l, h, x => hash_app l (31 * h + y) x
theorem by_check {k : Nat × Nat} {n gg : Nat} {L : List Int32} {F : Int32 → am_S → Prop} {e : Nat} (h : ByR σ w k n gg L) (he : e ≤ L.length) (hl : L.length < 1000000) (K : F (d_hash 0 (L.take e)) σ) : k_By_checkOf nl Ln xs (d + 1) n (Int32.ofNat e) σ F := by
  obtain ⟨a1, a2, a3, a4, a5, m, b1, b2, b3, b4, b5⟩ := id h
  have loop : ∀ (j i : Nat), i + j = e → c_By_checkOf_4 nl Ln xs (d + 1) n (Int32.ofNat e) (d_hash 0 (L.take i)) (Int32.ofNat i) σ F := by
    intro j
    induction j with
    | zero =>
      intro i hi
      have : i = e := by omega
      subst this
      refine w_By_checkOf_4 ⟨fun h => ?_, fun _ => K⟩
      rw [n32lt (by omega) (by omega)] at h
      omega
    | succ j ih =>
      intro i hi
      refine w_By_checkOf_4 ?_
      rw [a5, n32lt (by omega) (by omega), n32lt (by omega) (by omega), b1, Option.getD_some, n32c (by omega), b4 i (by omega)]
      refine ⟨fun _ => ⟨is_mk a2, fun _ => ⟨ar_mk b3 (by rw [n32 (by omega)]; omega) (by rw [n32 (by omega)]; omega), ?_⟩, fun z => absurd (by omega) z⟩, fun z => absurd (by omega) z⟩
      rintro v5 rfl
      rw [n32s]
      obtain ⟨x, hx⟩ := get_ex (show i < L.length by omega)
      have et : L.take (i + 1) = L.take i ++ [x] := by rw [List.take_add_one, hx]; rfl
      have := ih (i + 1) (by omega)
      rw [et, hash_app] at this
      rw [getD_of 0 hx]
      exact this
  exact w_By_checkOf (loop e 0 (by omega))
theorem co_put1 {x : Int32} {L : List Int32} {gg : Nat} {s : am_S} {ws : ow_T} {F : am_S → Prop} (hl : L.length < 300000) (R : DskC τ s ws v X b sp (g.1, g.2.1, gg, g.2.2.2) gl nu (d_setLet D L)) (K : ∀ s' w' g', DskC τ s' w' v X b sp (g.1, g.2.1, g', g.2.2.2) gl nu (d_setLet D (L ++ [x &&& 255])) → F s') : (am_is s (am_fR s 2 1000) 1) ∧ k_By_put nl Ln xs (d + 3) ((am_fR s 2 1000).getD 0) x s (fun s' => am_ext s s' → F s') := by
  have S := R.2.2.2.2.2.1
  have O := R.2.2.2.2.2.2.2.1.1.1.1
  rw [R.1.2.1.2.2.1, Option.getD_some]
  exact ⟨is_mk S.2.1, by_put (d := d) S O (by simp) hl (fun s6 w6 g6 S6 c6 hext => K s6 w6 g6 (R.let S6 c6 hext.2))⟩
theorem co_write {F : Int32 → am_S → Prop} (hl : (o_log (d_off D)).length < 200000) (R : DskC τ σ w v X b sp g gl nu D) (K : ∀ s ws g', DskC τ s ws v X b sp g' gl nu (d_write D).2 → F (d_write D).1 s) : k_Co_write nl Ln xs (d + 4) 1000 σ F := by
  have A := R.2.2.2.2.2.2.2.1
  have S := R.2.2.2.2.2.1
  have n9 : am_fI σ 6019 b = b2i (o_und (d_off D)) := A.2.1.2.1.2.2.2.2.2.2.2.2
  unfold d_write at K
  refine w_Co_write ⟨is_mk R.1.1.2, ?_⟩
  rw [R.1.2.2.2.1, Option.getD_some, n9]
  refine ⟨is_mk A.2.1.1.1.2.1, fun hu => ?_, fun hu => ?_⟩
  · have hun : ¬ (o_und (d_off D) = true) := fun z => by rw [z] at hu; exact absurd hu (by decide)
    rw [if_neg hun] at K
    rw [R.1.2.1.2.2.1, Option.getD_some]
    refine ⟨is_mk S.2.1, by_clr (d := d + 2) S A.1.1.1 (fun s5 S5 c5 hext => ?_)⟩
    have R5 := R.let S5 c5 hext.2
    obtain ⟨L, hL⟩ : ∃ L, L = o_log (d_off D) := ⟨_, rfl⟩
    obtain ⟨h, hh⟩ : ∃ h, h = d_hash 0 L := ⟨_, rfl⟩
    rw [← hL] at K hl
    rw [← hh] at K
    have l84 : ∀ s ws g', DskC τ s ws v X b sp (g.1, g.2.1, g', g.2.2.2) gl nu (d_setLet D L) → c_Co_write_84 nl Ln xs (d + 4) 1000 h 24 s F := by
      intro s ws g' R1
      refine w_Co_write_84 ⟨fun z => absurd z (by decide), fun _ => ⟨is_mk R1.1.1.2, co_put1 (d := d) (g := g) (by omega) R1 (fun s2 w2 g2 R2 => ?_)⟩⟩
      rw [wr_gen h _ 24 24 (by decide) (by decide) (by decide)] at R2
      refine w_Co_write_84 ⟨fun z => absurd z (by decide), fun _ => ⟨is_mk R2.1.1.2, co_put1 (d := d) (g := g) (by rw [List.length_append, List.length_singleton]; omega) R2 (fun s3 w3 g3 R3 => ?_)⟩⟩
      rw [wr_gen h _ 16 16 (by decide) (by decide) (by decide)] at R3
      refine w_Co_write_84 ⟨fun z => absurd z (by decide), fun _ => ⟨is_mk R3.1.1.2, co_put1 (d := d) (g := g) (by rw [List.length_append, List.length_append, List.length_singleton]; show L.length + 1 + 1 < _; omega) R3 (fun s4 w4 g4 R4 => ?_)⟩⟩
      rw [wr_gen h _ 8 8 (by decide) (by decide) (by decide)] at R4
      refine w_Co_write_84 ⟨fun z => absurd z (by decide), fun _ => ⟨is_mk R4.1.1.2, co_put1 (d := d) (g := g) (by rw [List.length_append, List.length_append, List.length_append, List.length_singleton]; show L.length + 1 + 1 + 1 < _; omega) R4 (fun s5 w5 g5 R5 => ?_)⟩⟩
      rw [wr_gen h _ 0 0 (by decide) (by decide) (by decide), wr_0] at R5
      have S5 := R5.2.2.2.2.2.1
      refine w_Co_write_84 ⟨fun _ => ⟨is_mk R5.1.1.2, ?_⟩, fun z => absurd (by decide) z⟩
      rw [R5.1.2.1.2.2.1, Option.getD_some, S5.2.2.2.2.1]
      have ee : L ++ [(h >>> 24) &&& 255] ++ [(h >>> 16) &&& 255] ++ [(h >>> 8) &&& 255] ++ [h &&& 255] = L ++ d_hb h := by
        unfold d_hb
        simp
      refine ⟨is_mk S5.2.1, ?_⟩
      have R5' : DskC τ s5 w5 v X b sp (g.1, g.2.1, g5, g.2.2.2) gl nu (d_setLet D (L ++ d_hb h)) := by
        rw [← ee]
        exact R5
      have K' := K s5 w5 _ R5'
      have e2 : d_let (d_setLet D (L ++ [(h >>> 24) &&& 255] ++ [(h >>> 16) &&& 255] ++ [(h >>> 8) &&& 255] ++ [h &&& 255])) = L ++ d_hb h := ee
      rw [e2]
      exact K'
    have l22 : ∀ (j m : Nat) (s : am_S) (ws : ow_T) (g' : Nat), m + j = L.length → DskC τ s ws v X b sp (g.1, g.2.1, g', g.2.2.2) gl nu (d_setLet D (L.take m)) → c_Co_write_22 nl Ln xs (d + 4) 1000 (Int32.ofNat m) s F := by
      intro j
      induction j with
      | zero =>
        intro m s ws g' hm R1
        obtain ⟨lg, l1, l2⟩ := R1.2.2.2.2.2.2.2.1.2.1.2.2.2.1
        have l2 : ByR s ws (b, 3) lg gl L := by rw [hL]; exact l2
        refine w_Co_write_22 ⟨is_mk R1.1.1.2, ?_⟩
        rw [R1.1.2.2.2.1, Option.getD_some, l1, Option.getD_some, l2.2.2.2.2.1, n32lt (by omega) (by omega)]
        refine ⟨is_mk R1.2.2.2.2.2.2.2.1.2.1.1.1.2.1, is_mk l2.2.1, fun z => absurd z (by omega), fun _ => by_check (d := d + 2) l2 (Nat.le_refl _) (by omega) (fun _ => ?_)⟩
        rw [List.take_length, ← hh]
        rw [List.take_of_length_le (by omega)] at R1
        exact l84 s ws g' R1
      | succ j ih =>
        intro m s ws g' hm R1
        obtain ⟨lg, l1, l2⟩ := R1.2.2.2.2.2.2.2.1.2.1.2.2.2.1
        have l2 : ByR s ws (b, 3) lg gl L := by rw [hL]; exact l2
        refine w_Co_write_22 ⟨is_mk R1.1.1.2, ?_⟩
        rw [R1.1.2.2.2.1, Option.getD_some, l1, Option.getD_some, l2.2.2.2.2.1, n32lt (by omega) (by omega)]
        refine ⟨is_mk R1.2.2.2.2.2.2.2.1.2.1.1.1.2.1, is_mk l2.2.1, fun _ => by_at (d := d + 2) l2 (by omega) (fun _ => ?_), fun z => absurd (by omega) z⟩
        rw [if_pos (by omega)]
        refine co_put1 (d := d) (g := g) (by rw [List.length_take]; omega) R1 (fun s2 w2 g2 R2 => ?_)
        rw [byte_ok l2 (by omega)] at R2
        rw [n32s]
        refine ih (m + 1) s2 w2 g2 (by omega) ?_
        obtain ⟨x, hx⟩ := get_ex (show m < L.length by omega)
        have et : L.take (m + 1) = L.take m ++ [x] := by rw [List.take_add_one, hx]; rfl
        rw [getD_of 0 hx] at R2
        rw [et]
        exact R2
    exact l22 L.length 0 s5 w _ (by omega) R5
  · have hun : o_und (d_off D) = true := by
      cases h : o_und (d_off D)
      · rw [h] at hu
        exact absurd rfl hu
      · rfl
    rw [if_pos hun] at K
    exact K σ w g R
end
