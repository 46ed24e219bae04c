/-! THE CLASS: numbers are read from a row of bytes -/
theorem b127 : ∀ k, k < 256 → (Int32.ofNat k &&& 127).toInt = ((k % 128 : Nat) : Int) := by decide +kernel
theorem sh7 : ∀ g, g < 10 → ((7 * Int32.ofNat g).toInt64 &&& 63) = Int64.ofNat (7 * g) := by decide +kernel
theorem x_m1 (y : Int64) : y ^^^ (-1) = -y - 1 := by
  apply Int64.toBitVec_inj.mp
  have h2 : (-1 : Int64).toBitVec = BitVec.allOnes 64 := by decide
  rw [Int64.toBitVec_xor, h2, BitVec.xor_allOnes]
  show ~~~ y.toBitVec = -y.toBitVec - 1#64
  rw [BitVec.neg_eq_not_add]
  exact (BitVec.add_sub_cancel _ _).symm
theorem and1 (u : Int64) : u &&& 1 = 0 ∨ u &&& 1 = 1 := by
  have h : (u &&& 1).toBitVec = 0#64 ∨ (u &&& 1).toBitVec = 1#64 := by
    rw [Int64.toBitVec_and]
    show u.toBitVec &&& 1#64 = 0#64 ∨ u.toBitVec &&& 1#64 = 1#64
    have e : u.toBitVec &&& 1#64 = BitVec.ofNat 64 (u.toBitVec.toNat % 2) := by
      apply BitVec.eq_of_toNat_eq
      rw [BitVec.toNat_and]
      simp
      omega
    rw [e]
    rcases Nat.mod_two_eq_zero_or_one u.toBitVec.toNat with h | h
    · left; rw [h]
    · right; rw [h]
  rcases h with h | h
  · left; exact Int64.toBitVec_inj.mp h
  · right; exact Int64.toBitVec_inj.mp h
theorem zz_rd (u : Int64) : ((u.toUInt64 >>> ((1 : Int32).toInt64.toUInt64 &&& Int64.toUInt64 63)).toInt64) ^^^ (-(u &&& 1)) = d_zz u := by
  have e1 : ((1 : Int32).toInt64.toUInt64 &&& Int64.toUInt64 63) = 1 := by decide
  rw [e1]
  unfold d_zz
  rcases and1 u with h | h
  · rw [if_pos h, h]
    show _ ^^^ (0 : Int64) = _
    rw [Int64.xor_zero]
  · rw [if_neg (by rw [h]; decide), h, x_m1]
theorem rd_big (l : List Int32) {sh : Nat} (u : Int64) (h : 63 < sh) : d_rd l sh u = none := by
  cases l with
  | nil => rfl
  | cons b l => rw [d_rd, if_pos (Or.inl h)]
/-- only where it is read, and whether it broke -/
def RdF (n : Nat) (σ s : am_S) : Prop := am_kd s = am_kd σ ∧ am_nx s = am_nx σ ∧ am_sl s = am_sl σ ∧ (∀ c, c ≠ n → am_eqc σ s c) ∧ (∀ g, am_fR s g n = am_fR σ g n) ∧ am_fI s 1001 n = am_fI σ 1001 n
section
variable {nl : Bool} {Ln : Nat} {xs : Nat → Int32} {d : Nat} {σ s s2 : am_S} {w : ow_T} {k : Nat × Nat} {n g : Nat} {L : List Int32}
theorem RdF.rf : RdF n σ σ := ⟨rfl, rfl, rfl, fun _ _ => am_eqc.rf, fun _ => rfl, rfl⟩
theorem RdF.trans (h : RdF n σ s) (h2 : RdF n s s2) : RdF n σ s2 := ⟨h2.1.trans h.1, h2.2.1.trans h.2.1, h2.2.2.1.trans h.2.2.1, fun c hc => (h.2.2.2.1 c hc).trans (h2.2.2.2.1 c hc), fun g => (h2.2.2.2.2.1 g).trans (h.2.2.2.2.1 g), h2.2.2.2.2.2.trans h.2.2.2.2.2⟩
theorem RdF.sfI {q : Nat} {x : Int32} (hq : q ≠ 1001) : RdF n σ (am_sfI σ q n x) := ⟨rfl, rfl, rfl, fun c hc => eqc_sfI hc, fun _ => rfl, rI_g (fun z => hq z.symm)⟩
theorem RdF.eff (h : RdF n σ s) (ho : OwI σ w) (hk : w n = k) : Eff (fun q => q = k) σ w s w := ⟨fun c hc => ho c (by rw [← h.2.1]; exact hc), fun q hq _ c hc => ⟨hc, h.2.2.2.1 c (fun z => hq (by rw [← hc, z]; exact hk))⟩⟩
theorem RdF.by (h : RdF n σ s) (B : ByR σ w k n g L) : ByR s w k n g L := by
  obtain ⟨a1, a2, a3, a4, a5, m, b1, b2, b3, b4, b5⟩ := B
  have mn : m ≠ n := fun z => by
    rw [z, a2] at b3
    exact absurd (congrArg Prod.fst b3) (show ¬ (2 : Nat) = 1002 by decide)
  have e := h.2.2.2.1 m mn
  exact ⟨a1, by rw [h.1]; exact a2, a3, a4, h.2.2.2.2.2.trans a5, m, (h.2.2.2.2.1 1000).trans b1, b2, by rw [h.1]; exact b3, fun i hi => by rw [e.aI]; exact b4 i hi, fun i hi => by rw [e.aI]; exact b5 i hi⟩
/-- a number is read, or none stands there -/
theorem by_rd {e at' : Nat} {F : Int64 → am_S → Prop} (B : ByR σ w k n g L) (hat : at' ≤ e) (he : e ≤ L.length) (hl : L.length ≤ 6000) (h2 : am_fI σ 1002 n = Int32.ofNat at') (h3 : am_fI σ 1003 n = 0)
    (K1 : ∀ v r s, d_rd ((L.take e).drop at') 0 0 = some (v, r) → RdF n σ s → am_fI s 1002 n = Int32.ofNat (e - r.length) → am_fI s 1003 n = 0 → r = (L.take e).drop (e - r.length) → at' + 1 ≤ e - r.length → F v s)
    (K2 : ∀ v s, d_rd ((L.take e).drop at') 0 0 = none → RdF n σ s → am_fI s 1003 n = 1 → F v s) : k_By_readNumber nl Ln xs (d + 1) n (Int32.ofNat e) σ F := by
  have t128 : (128 : Int32).toInt = 128 := by decide
  have t1 : (1 : Int32).toInt = 1 := by decide
  have loop : ∀ (m gr a : Nat) (u : Int64) (x5 : Option Value) (s : am_S), gr + m = 10 → 0 < m → at' ≤ a → a ≤ e → RdF n σ s → am_fI s 1002 n = Int32.ofNat a → am_fI s 1003 n = 0 → d_rd ((L.take e).drop a) (7 * gr) u = d_rd ((L.take e).drop at') 0 0 → c_By_readNumber_5 nl Ln xs (d + 1) n (Int32.ofNat e) u (Int32.ofNat gr) x5 s F := by
    intro m
    induction m with
    | zero => intro gr a u x5 s _ h0; omega
    | succ m ih =>
      intro gr a u x5 s hg _ ha1 ha fs s2 s3 hd
      have Bs := fs.by B
      obtain ⟨a1, a2, a3, a4, a5, md, b1, b2, b3, b4, b5⟩ := Bs
      refine w_By_readNumber_5 ⟨fun _ => ⟨is_mk a2, ?_⟩, fun z => absurd (show Int32.ofNat gr < Int32.ofNat 10 by rw [n32lt (by omega) (by omega)]; omega) z⟩
      rw [s2, a5, b1, Option.getD_some, n32lt (by omega) (by omega), n32lt (by omega) (by omega)]
      refine ⟨fun hlt => ⟨fun _ => ⟨ar_mk b3 (by rw [n32 (by omega)]; omega) (by rw [n32 (by omega)]; omega), ?_⟩, fun z => absurd (by omega) z⟩, fun hge => ?_⟩
      · rw [n32c (by omega), b4 a (by omega)]
        obtain ⟨x, hx⟩ := get_ex (show a < (L.take e).length by rw [List.length_take]; omega)
        have hxL : L[a]? = some x := by rw [List.getElem?_take_of_lt hlt] at hx; exact hx
        have ex : L.getD a 0 = x := getD_of 0 hxL
        have hb : 0 ≤ x.toInt ∧ x.toInt ≤ 255 := by
          have := b4 a (by omega)
          rw [ex] at this
          rw [← this]
          exact b255r _
        have h127 : (x &&& 127).toInt = x.toInt % 128 := by
          have := b127 x.toInt.toNat (by omega)
          rw [← n32of hb.1] at this
          rw [this]
          omega
        rw [drop_get hx, d_rd] at hd
        rw [ex]
        intro v6 ev6
        rw [ev6]
        intro s8 e8
        have f8 : RdF n σ s8 := fs.trans (by rw [e8]; exact RdF.sfI (by decide))
        have s82 : am_fI s8 1002 n = Int32.ofNat (a + 1) := by rw [e8, n32s]; exact rI_same
        have s83 : am_fI s8 1003 n = 0 := by rw [e8, rI_g (by decide)]; exact s3
        have k8 : am_kd s8 n = (2, 0) := by rw [f8.1]; exact B.2.1
        have elast : ∀ r, r = (L.take e).drop (a + 1) → e - r.length = a + 1 := fun r hr => by rw [hr, List.length_drop, List.length_take]; omega
        -- behind the check of the last group
        have g72 : (gr = 9 → x.toInt ≤ 1) → c_By_readNumber_72 nl Ln xs (d + 1) n (Int32.ofNat e) u (Int32.ofNat gr) x s8 F := by
          intro h9
          refine w_By_readNumber_72 ?_
          rintro v1 rfl
          rw [sh7 gr (by omega), i32lt, t128]
          have n1 : ¬ 63 < 7 * gr := by omega
          have n2 : ¬ (7 * gr = 63 ∧ 1 < (x &&& 127).toInt) := by
            rintro ⟨z1, z2⟩
            have := h9 (by omega)
            omega
          refine ⟨fun hs => ⟨is_mk k8, ?_⟩, fun hs => ?_⟩
          · intro s11 e11
            have f11 : RdF n σ s11 := f8.trans (by rw [e11]; exact RdF.sfI (by decide))
            have s112 : am_fI s11 1002 n = Int32.ofNat (a + 1) := by rw [e11, rI_g (by decide)]; exact s82
            rw [zz_rd]
            have e0 : x = 0 ↔ x.toInt = 0 := by rw [i32e]; rfl
            have e127 : x &&& 127 = 0 ↔ x.toInt = 0 := by
              rw [i32e, h127]
              show _ = (0 : Int32).toInt ↔ _
              rw [show (0 : Int32).toInt = 0 by decide]
              omega
            by_cases hz : x.toInt = 0 ∧ 0 < gr
            · rw [if_pos (Or.inr (Or.inr ⟨hs, e127.mpr hz.1, by omega⟩))] at hd
              refine K2 _ s11 hd.symm f11 ?_
              rw [e11, if_pos (Or.inr ⟨e0.mpr hz.1, by
                show Int32.ofNat 0 < Int32.ofNat gr
                rw [n32lt (by omega) (by omega)]
                exact hz.2⟩)]
              exact rI_same
            · rw [if_neg (by
                rintro (z | z | z)
                · exact n1 z
                · exact n2 z
                · exact hz ⟨e127.mp z.2.1, by have := z.2.2; omega⟩), if_pos hs] at hd
              refine K1 _ _ s11 hd.symm f11 ?_ ?_ ?_ ?_
              · rw [elast _ rfl]
                exact s112
              · rw [e11, if_neg]
                · exact rI_same
                · rintro (z | z)
                  · exact z s83
                  · have hz2 : 0 < gr := by
                      have : Int32.ofNat 0 < Int32.ofNat gr := z.2
                      rw [n32lt (by omega) (by omega)] at this
                      exact this
                    exact hz ⟨e0.mp z.1, hz2⟩
              · rw [elast _ rfl]
              · rw [elast _ rfl]
                omega
          · have hg9 : gr ≠ 9 := fun z => by have := h9 z; omega
            rw [if_neg (by
              rintro (z | z | z)
              · exact n1 z
              · exact n2 z
              · exact hs z.1), if_neg hs] at hd
            rw [n32s]
            exact ih (gr + 1) (a + 1) _ _ s8 (by omega) (by omega) (by omega) (by omega) f8 s82 s83 (by rw [show 7 * (gr + 1) = 7 * gr + 7 by omega]; exact hd)
        have e9 : Int32.ofNat gr = 9 ↔ gr = 9 := n32i (b := 9) (by omega) (by decide)
        refine ⟨fun z9 => ⟨fun h1 => ?_, fun h1 => g72 (fun _ => by rw [i32lt, t1] at h1; omega)⟩, fun z9 => g72 (fun q => absurd (e9.mpr q) z9)⟩
        intro s13 e13
        rw [i32lt, t1] at h1
        have hg9 := e9.mp z9
        refine K2 _ s13 ?_ (f8.trans (by rw [e13]; exact RdF.sfI (by decide))) (by rw [e13]; exact rI_same)
        rw [← hd, hg9]
        split
        · rfl
        · rename_i hno
          split
          · rename_i hlt2
            exfalso
            refine hno (Or.inr (Or.inl ⟨by omega, ?_⟩))
            rw [h127]
            omega
          · exact rd_big _ _ (by decide)
      · intro s19 e19
        have hae : a = e := by omega
        refine K2 _ s19 ?_ (fs.trans (by rw [e19]; exact RdF.sfI (by decide))) (by rw [e19]; exact rI_same)
        rw [← hd, List.drop_of_length_le (by rw [List.length_take]; omega)]
        rfl
  exact w_By_readNumber (loop 10 0 at' 0 none σ (by omega) (by omega) (Nat.le_refl _) hat RdF.rf h2 h3 rfl)
end
