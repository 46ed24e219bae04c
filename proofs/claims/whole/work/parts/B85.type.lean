/-! THE CLASS: the tape is typed -/
theorem b255_32 : ∀ i : Fin 32, (255#32)[i] = decide (i.val < 8) := by decide
theorem b255_64 : ∀ i : Fin 64, (255#64)[i] = decide (i.val < 8) := by decide
theorem ty_bv (x : BitVec 64) (s : Nat) (hs : s ≤ 56) : (((x >>> s).setWidth 32 &&& 255#32) &&& 255#32) = ((x.sshiftRight s) &&& 255#64).setWidth 32 := by
  apply BitVec.eq_of_getElem_eq
  intro i hi
  have h1 := b255_32 ⟨i, hi⟩
  have h2 := b255_64 ⟨i, by omega⟩
  simp only [Fin.getElem_fin] at h1 h2
  rw [BitVec.getElem_and, BitVec.getElem_and, h1, BitVec.getElem_setWidth, BitVec.getElem_setWidth, BitVec.getLsbD_and, BitVec.getLsbD_eq_getElem (x := 255#64) (by omega), h2]
  by_cases h8 : i < 8
  · rw [decide_eq_true h8, Bool.and_true, Bool.and_true, Bool.and_true, BitVec.getLsbD_ushiftRight, BitVec.getLsbD_sshiftRight]
    have : s + i < 64 := by omega
    simp [this, show ¬ 64 ≤ i by omega]
  · rw [decide_eq_false h8]
    simp
theorem ty_gen (w : Int64) (c : UInt64) (e : Int64) (s : Nat) (h1 : (UInt64.mod c 64).toBitVec.toNat = s) (h2 : (e.toBitVec.smod 64).toNat = s) (hs : s ≤ 56) : ((((w.toUInt64 >>> c).toInt64).toInt32 &&& 255) &&& 255) = ((w >>> e) &&& 255).toInt32 := by
  apply Int32.toBitVec_inj.mp
  show (((w.toBitVec >>> (UInt64.mod c 64).toBitVec.toNat).signExtend 32 &&& 255#32) &&& 255#32) = ((w.toBitVec.sshiftRight (e.toBitVec.smod 64).toNat) &&& 255#64).signExtend 32
  rw [h1, h2, BitVec.signExtend_eq_setWidth_of_le _ (by decide), BitVec.signExtend_eq_setWidth_of_le _ (by decide)]
  exact ty_bv _ s hs
theorem ty_bit (w : Int64) (k : Nat) (hk : k < 8) : ((((w.toUInt64 >>> ((8 * Int32.ofNat k).toInt64.toUInt64 &&& Int64.toUInt64 63)).toInt64).toInt32 &&& 255) &&& 255) = ((w >>> ((8 * Int32.ofNat k).toInt64 &&& 63)) &&& 255).toInt32 := by
  have hk' : k = 0 ∨ k = 1 ∨ k = 2 ∨ k = 3 ∨ k = 4 ∨ k = 5 ∨ k = 6 ∨ k = 7 := by omega
  rcases hk' with rfl | rfl | rfl | rfl | rfl | rfl | rfl | rfl
  · exact ty_gen w _ _ 0 (by decide) (by decide) (by decide)
  · exact ty_gen w _ _ 8 (by decide) (by decide) (by decide)
  · exact ty_gen w _ _ 16 (by decide) (by decide) (by decide)
  · exact ty_gen w _ _ 24 (by decide) (by decide) (by decide)
  · exact ty_gen w _ _ 32 (by decide) (by decide) (by decide)
  · exact ty_gen w _ _ 40 (by decide) (by decide) (by decide)
  · exact ty_gen w _ _ 48 (by decide) (by decide) (by decide)
  · exact ty_gen w _ _ 56 (by decide) (by decide) (by decide)
section
variable {nl : Bool} {Ln : Nat} {xs : Nat → Int32} {d : Nat} {σ : am_S} {w : ow_T} {τ : am_S} {v b gl nu : Nat} {X : Stx} {sp : Option Nat} {g : Grw} {D : mTop}
theorem co_type47 {x1 : Int64} {x3 : Int32} {T0 : List Int32} {F : Int32 → am_S → Prop} (K : ∀ s ws g', DskC τ s ws v X b sp (g', g.2) gl nu (d_setTap D T0) → F (Int32.ofNat T0.length) s) (h6 : T0.length ≤ 6000) : ∀ (j : Nat) (s : am_S) (ws : ow_T) (g' : Nat) (L : List Int32), j ≤ 8 → L ++ d_bytes x1 j = T0 → DskC τ s ws v X b sp (g', g.2) gl nu (d_setTap D L) → c_Co_type_47 nl Ln xs (d + 4) 1000 x1 x3 (Int32.ofNat j - 1) s F := by
  have z0 : (0 : Int32).toInt = 0 := by decide
  intro j
  induction j with
  | zero =>
    intro s ws g' L hj hL R
    have hL' : L = T0 := by rw [← hL]; simp [d_bytes]
    subst hL'
    have T := R.2.2.2.1
    refine w_Co_type_47 ⟨fun _ => ⟨is_mk R.1.1.2, ?_⟩, fun h => absurd (show (Int32.ofNat 0 - 1 : Int32) < 0 by decide) h⟩
    rw [R.1.2.1.1, Option.getD_some, T.2.2.2.2.1]
    exact ⟨is_mk T.2.1, K s ws g' R⟩
  | succ j ih =>
    intro s ws g' L hj hL R
    have T := R.2.2.2.1
    have O := R.2.2.2.2.2.2.2.1.1.1.1
    have ej : Int32.ofNat (j + 1) - 1 = Int32.ofNat j := by rw [← n32s, Int32.add_sub_cancel]
    rw [ej]
    have hneg : ¬ Int32.ofNat j < 0 := by rw [i32lt, n32 (by omega), z0]; omega
    refine w_Co_type_47 ⟨fun h => absurd h hneg, fun _ => ⟨is_mk R.1.1.2, ?_⟩⟩
    rw [R.1.2.1.1, Option.getD_some]
    have hll : L.length ≤ 6000 := by
      rw [← hL, List.length_append] at h6
      omega
    refine ⟨is_mk T.2.1, by_put (d := d) T O (by simp) (by show L.length < 300000; omega) (fun s6 w6 g6 T6 c6 hext => ?_)⟩
    have e1 : Int32.ofNat j + -1 = Int32.ofNat j - 1 := (Int32.sub_eq_add_neg _ _).symm
    rw [e1]
    rw [ty_bit x1 j (by omega)] at T6
    refine ih s6 w6 g6 _ (by omega) ?_ (R.tap T6 c6 hext.2)
    rw [← hL]
    show (L ++ [_]) ++ d_bytes x1 j = L ++ (_ :: d_bytes x1 j)
    rw [List.append_assoc]
    rfl
theorem co_type {wv : Int64} {n : Int32} {F : Int32 → am_S → Prop} (htap : (d_tap D).length ≤ 6000) (R : DskC τ σ w v X b sp g gl nu D) (K : ∀ s ws g', DskC τ s ws v X b sp g' gl nu (d_type D wv n).2 → F (d_type D wv n).1 s) : k_Co_type nl Ln xs (d + 4) 1000 wv n σ F := by
  have z0 : (0 : Int32).toInt = 0 := by decide
  have z8 : (8 : Int32).toInt = 8 := by decide
  have z6 : (6000 : Int32).toInt = 6000 := by decide
  have T := R.2.2.2.1
  have O := R.2.2.2.2.2.2.2.1.1.1.1
  unfold d_type at K
  refine w_Co_type ?_
  rw [i32lt, i32lt, z0, z8]
  refine ⟨fun h => ?_, fun h0 => ⟨fun h => ?_, fun h8 => ⟨fun hn => ?_, fun hn => ?_⟩⟩⟩
  · rw [if_pos (Or.inl h)] at K
    exact K σ w g R
  · rw [if_pos (Or.inr h)] at K
    exact K σ w g R
  · rw [if_neg (by omega), if_pos (by rw [hn]; exact z0)] at K
    rw [R.1.2.1.1, Option.getD_some]
    refine ⟨is_mk R.1.1.2, is_mk T.2.1, by_clr (d := d + 2) T O (fun s6 T6 c6 hext => ?_)⟩
    have R6 := R.tap T6 c6 hext.2
    rw [R6.1.2.1.1, Option.getD_some, T6.2.2.2.2.1, hn]
    refine ⟨is_mk T6.2.1, fun h => absurd h (by decide), fun _ => ?_⟩
    rintro v10 rfl
    exact co_type47 (d := d) (T0 := []) (D := D) (fun s ws g' R' => K s ws (g', g.2) R') (by simp) 0 s6 w g.1 [] (by omega) (by simp [d_bytes]) R6
  · have hn0 : n.toInt ≠ 0 := fun z => hn (by rw [i32e, z0]; exact z)
    rw [if_neg (by omega), if_neg hn0] at K
    obtain ⟨m, hm⟩ : ∃ m, m = n.toInt.toNat := ⟨_, rfl⟩
    have en : n = Int32.ofNat m := by rw [i32e, n32 (by omega)]; omega
    rw [← hm] at K
    rw [R.1.2.1.1, Option.getD_some, T.2.2.2.2.1, en, n32a, show (6000 : Int32) = Int32.ofNat 6000 from rfl, n32lt (by omega) (by omega)]
    refine ⟨is_mk R.1.1.2, is_mk T.2.1, fun h => ?_, fun h => ?_⟩
    · rw [if_pos h] at K
      exact K σ w g R
    · rw [if_neg h] at K
      rintro v15 rfl
      have hlb : ∀ k, (d_bytes wv k).length = k := by
        intro k
        induction k with
        | zero => rfl
        | succ k ih => rw [d_bytes, List.length_cons, ih]
      have hT0 : (d_tap D ++ d_bytes wv m).length = (d_tap D).length + m := by rw [List.length_append, hlb]
      refine co_type47 (d := d) (T0 := d_tap D ++ d_bytes wv m) (D := D) (fun s ws g' R' => ?_) (by omega) m σ w g.1 (d_tap D) (by omega) rfl R
      rw [hT0]
      exact K s ws (g', g.2) R'
end
