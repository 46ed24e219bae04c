/-! TAKING IN, by the reference: numbers read -/
theorem sh63 : ∀ sh, sh < 64 → (Int32.ofNat sh).toInt64 &&& 63 = Int64.ofNat sh := by decide +kernel
section
variable {nl : Bool} {Ln : Nat} {xs : Nat → Int32} {d : Nat} {σ : am_S} {o : Nat}
def rdF : List Nat := [12019, 12020]
theorem r_reads {t : List Int32} {e p : Nat} {F : Bool → am_S → Prop} (hM : ModK σ) (hT : TapR σ t) (he : e ≤ t.length) (hp : am_fI σ 12019 1053 = Int32.ofNat p) (hpe : p ≤ e)
    (K1 : d_rd ((t.take e).drop p) 0 0 = none → ∀ σ', Rc o rdF [] [] σ σ' → F false σ')
    (K2 : ∀ v r, d_rd ((t.take e).drop p) 0 0 = some (v, r) → ∀ σ' p', Rc o rdF [] [] σ σ' → am_fL σ' 12020 1053 = v → am_fI σ' 12019 1053 = Int32.ofNat p' → p < p' → p' ≤ e → r = (t.take e).drop p' → F true σ') : k_Rm_reads nl Ln xs (d + 1) 1053 (Int32.ofNat e) σ F := by
  have h6 := hT.2.1
  have z63 : (63 : Int32).toInt = 63 := by decide
  have z0 : (0 : Int32).toInt = 0 := by decide
  have z128 : (128 : Int32).toInt = 128 := by decide
  have z1 : (1 : Int64).toInt = 1 := by decide
  have loop : ∀ (l : List Int32) (p1 sh : Nat) (u : Int64) (x6 x7 : Option Value) (σ1 : am_S), l = (t.take e).drop p1 → p ≤ p1 → p1 ≤ e → sh ≤ 77 → am_fI σ1 12019 1053 = Int32.ofNat p1 → Rc o rdF [] [] σ σ1 → d_rd l sh u = d_rd ((t.take e).drop p) 0 0 → (l = [] ∨ True) → c_Rm_reads_8 nl Ln xs (d + 1) 1053 (Int32.ofNat e) u (Int32.ofNat sh) 1 x6 x7 σ1 F := by
    intro l
    induction l with
    | nil =>
      intro p1 sh u x6 x7 σ1 hl h1 h2 h3 h4 r1 hd _
      have hlen : p1 = e := by
        have := congrArg List.length hl
        simp at this
        omega
      refine w_Rm_reads_8 ⟨fun q => absurd q (by decide), fun _ => ⟨is_mk (hM.rc r1).1, ?_⟩⟩
      rw [h4]
      refine ⟨fun q => ?_, fun _ => K1 (by rw [← hd]; rfl) σ1 r1⟩
      rw [n32lt (by omega) (by omega)] at q
      omega
    | cons b l ih =>
      intro p1 sh u x6 x7 σ1 hl h1 h2 h3 h4 r1 hd _
      have M1 := hM.rc r1
      have hlt : p1 < e := by
        have := congrArg List.length hl
        simp at this
        omega
      have hget : (t.take e)[p1]? = some b := by
        have := congrArg List.head? hl
        rw [List.head?_cons, List.head?_drop] at this
        exact this.symm
      have hgt' : t[p1]? = some b := by rw [List.getElem?_take] at hget; rw [if_pos hlt] at hget; exact hget
      have htl : l = (t.take e).drop (p1 + 1) := by
        have := congrArg List.tail hl
        rw [List.tail_cons, List.tail_drop] at this
        exact this
      have vb : am_aI σ1 1054 p1 = b := by rw [show am_aI σ1 1054 p1 = am_aI σ 1054 p1 from (r1.2.2.2.2.2.2 1054 p1 (fun k hk => by simp at hk) (by simp)).1]; exact hT.2.2.2 _ _ hgt'
      have bp : 0 ≤ (Int32.ofNat p1).toInt ∧ (Int32.ofNat p1).toInt < 6000 := by rw [n32 (by omega)]; omega
      have tsh : (Int32.ofNat sh).toInt = sh := n32 (by omega)
      rw [d_rd] at hd
      refine w_Rm_reads_8 ⟨fun q => absurd q (by decide), fun _ => ⟨is_mk M1.1, ?_⟩⟩
      rw [h4, mG_12002 M1, n32c (by omega), vb]
      refine ⟨fun _ => ⟨mA_12002 M1 bp.1 bp.2, ?_⟩, fun q => absurd (by rw [n32lt (by omega) (by omega)]; omega) q⟩
      rintro v13 rfl
      refine ⟨mA_12002 M1 bp.1 bp.2, ?_⟩
      refine w_Rm_reads_58 ⟨is_mk M1.1, ?_⟩
      rw [h4, n32s]
      intro s2 q2
      have r2 : Rc o rdF [] [] σ s2 := r1.trans (by rw [q2]; exact Rc.sfI (by decide) (Or.inr rfl))
      have h42 : am_fI s2 12019 1053 = Int32.ofNat (p1 + 1) := by rw [q2]; exact rI_same
      have no : (63 < sh ∨ (sh = 63 ∧ 1 < (b &&& 127).toInt) ∨ (b.toInt < 128 ∧ b &&& 127 = 0 ∧ 0 < sh)) → F false s2 := fun q => by
        rw [if_pos q] at hd
        exact K1 hd.symm s2 r2
      have go : ¬ (63 < sh ∨ (sh = 63 ∧ 1 < (b &&& 127).toInt)) → c_Rm_reads_91 nl Ln xs (d + 1) 1053 (Int32.ofNat e) u (Int32.ofNat sh) (if ¬ (b < 128) then 1 else 0) (b &&& 127).toInt64 s2 F := by
        intro hn
        have e63 : (Int32.ofNat sh).toInt64 &&& 63 = Int64.ofNat sh := sh63 sh (by omega)
        have hbl : b < 128 ↔ b.toInt < 128 := by rw [i32lt, z128]
        have hz : (b &&& 127).toInt64 = 0 ↔ b &&& 127 = 0 := by
          rw [i64e, i32e, t64, z0]
          exact Iff.rfl
        -- the last group
        have fin : ¬ (b.toInt < 128 ∧ b &&& 127 = 0 ∧ 0 < sh) → b.toInt < 128 → ∀ x6 x7, c_Rm_reads_8 nl Ln xs (d + 1) 1053 (Int32.ofNat e) (u ||| ((b &&& 127).toInt64 <<< Int64.ofNat sh)) (Int32.ofNat sh + 7) 0 x6 x7 s2 F := by
          intro g1 g2 x6 x7
          refine w_Rm_reads_8 ⟨fun _ => ?_, fun q => absurd rfl q⟩
          rintro w4 rfl
          rw [if_neg (by rintro (q | q | q); exact hn (Or.inl q); exact hn (Or.inr q); exact g1 q), if_pos g2] at hd
          refine ⟨is_mk (hM.rc r2).1, fun s7 q7 => ?_⟩
          have r7 : Rc o rdF [] [] σ s7 := r2.trans (by rw [q7]; exact Rc.sfL (by decide) (Or.inr rfl))
          refine K2 _ l hd.symm s7 (p1 + 1) r7 ?_ (by rw [q7]; exact h42) (by omega) (by omega) htl
          rw [q7]
          rw [rL_same]
          unfold d_zz
          rw [show ((1 : Int32).toInt64.toUInt64 &&& Int64.toUInt64 63) = 1 by decide]
        refine w_Rm_reads_91 ?_
        rw [e63]
        by_cases hb : b.toInt < 128
        · have e0 : (if ¬ (b < 128) then (1 : Int32) else 0) = 0 := if_neg (fun q => q (hbl.mpr hb))
          rw [e0]
          refine ⟨fun _ => ⟨fun q => ⟨fun q2 => no (Or.inr (Or.inr ⟨hb, hz.mp q, ?_⟩)), fun q2 => ?_⟩, fun q => ?_⟩, fun q => absurd rfl q⟩
          · rw [i32lt, tsh, z0] at q2
            omega
          · rintro v4 rfl
            rw [i32lt, tsh, z0] at q2
            exact fin (fun z => by omega) hb _ _
          · rintro v6 rfl
            exact fin (fun z => q (hz.mpr z.2.1)) hb _ _
        · have e1 : (if ¬ (b < 128) then (1 : Int32) else 0) = 1 := if_pos (fun q => hb (hbl.mp q))
          rw [e1]
          refine ⟨fun q => absurd q (by decide), fun _ => ?_⟩
          rintro v8 rfl
          rw [if_neg (by rintro (q | q | q); exact hn (Or.inl q); exact hn (Or.inr q); exact hb q.1), if_neg hb] at hd
          have e7 : Int32.ofNat sh + 7 = Int32.ofNat (sh + 7) := n32a sh 7
          rw [e7]
          exact ih (p1 + 1) (sh + 7) _ _ _ s2 htl (by omega) (by omega) (by omega) h42 r2 hd (Or.inr trivial)
      refine ⟨fun q => no (Or.inl (by rw [i32lt, tsh, z63] at q; omega)), fun q => ⟨fun q3 => ⟨fun q4 => no (Or.inr (Or.inl ⟨?_, ?_⟩)), fun q4 => go ?_⟩, fun q3 => go ?_⟩⟩
      · rw [i32e, tsh, z63] at q3
        omega
      · rw [i64lt, t64, z1] at q4
        exact q4
      · rw [i32lt, tsh, z63] at q
        rw [i64lt, t64, z1] at q4
        omega
      · rw [i32lt, tsh, z63] at q
        rw [i32e, tsh, z63] at q3
        omega
  exact w_Rm_reads (loop _ p 0 0 none none σ rfl (Nat.le_refl _) hpe (by omega) hp Rc.rf rfl (Or.inr trivial))
/-- which arguments are long -/
theorem r_isLong {n k : Nat} {F : Bool → am_S → Prop} (hn : n ≤ 22) (hk : k < 6) (K : ∀ b : Bool, (b = true ↔ d_isLong n k) → F b σ) : k_Rm_isLong nl Ln xs (d + 1) (Int32.ofNat n) (Int32.ofNat k) σ F := by
  have en : ∀ q : Nat, q < 100 → (Int32.ofNat n = Int32.ofNat q ↔ n = q) := fun q hq => n32i (by omega) (by omega)
  have ek : ∀ q : Nat, q < 100 → (Int32.ofNat k = Int32.ofNat q ↔ k = q) := fun q hq => n32i (by omega) (by omega)
  have k2 : Int32.ofNat k < 2 ↔ k < 2 := n32lt (b := 2) (by omega) (by decide)
  have n5 := en 5 (by decide)
  have n10 := en 10 (by decide)
  have n12 := en 12 (by decide)
  have n13 := en 13 (by decide)
  have n16 := en 16 (by decide)
  have n17 := en 17 (by decide)
  have n18 := en 18 (by decide)
  have n19 := en 19 (by decide)
  have k2' := ek 2 (by decide)
  have k3 := ek 3 (by decide)
  have k4 := ek 4 (by decide)
  have f56 : n = 13 ∨ n = 18 → c_Rm_isLong_56 nl Ln xs (d + 1) (Int32.ofNat n) (Int32.ofNat k) σ F := fun h => w_Rm_isLong_56 (K _ (by
    rw [decide_eq_true_eq]
    unfold d_isLong
    show (Int32.ofNat k = Int32.ofNat 2 ∨ (Int32.ofNat n = Int32.ofNat 16 ∧ Int32.ofNat k = Int32.ofNat 4)) ↔ _
    rw [k2', n16, k4]
    omega))
  have f38 : n ≠ 5 → n ≠ 10 → n ≠ 12 ∧ n ≠ 17 ∨ k ≠ 3 → c_Rm_isLong_38 nl Ln xs (d + 1) (Int32.ofNat n) (Int32.ofNat k) σ F := fun h5 h10 h12 => w_Rm_isLong_38 ⟨fun q => f56 (Or.inl (n13.mp q)), fun q1 => ⟨fun q => f56 (Or.inr (n18.mp q)), fun q2 => K _ (by
    rw [decide_eq_true_eq]
    have g1 : n ≠ 13 := fun h => q1 (n13.mpr h)
    have g2 : n ≠ 18 := fun h => q2 (n18.mpr h)
    unfold d_isLong
    show ((Int32.ofNat n = Int32.ofNat 19 ∧ (Int32.ofNat k = Int32.ofNat 2 ∨ (Int32.ofNat n = Int32.ofNat 16 ∧ Int32.ofNat k = Int32.ofNat 4))) ∨ (¬ (Int32.ofNat n = Int32.ofNat 19) ∧ (Int32.ofNat n = Int32.ofNat 16 ∧ Int32.ofNat k = Int32.ofNat 4))) ↔ _
    rw [n19, k2', n16, k4]
    omega)⟩⟩
  have f33 : n = 12 ∨ n = 17 → c_Rm_isLong_33 nl Ln xs (d + 1) (Int32.ofNat n) (Int32.ofNat k) σ F := fun h => w_Rm_isLong_33 ⟨fun q => K true ⟨fun _ => by have := k3.mp q; unfold d_isLong; omega, fun _ => rfl⟩, fun q => f38 (by omega) (by omega) (Or.inr (fun z => q (k3.mpr z)))⟩
  have f21 : n ≠ 5 → ¬ (n = 10 ∧ 2 ≤ k) → c_Rm_isLong_21 nl Ln xs (d + 1) (Int32.ofNat n) (Int32.ofNat k) σ F := fun h5 h10 => by
    by_cases g10 : n = 10
    · have hk2 : k < 2 := by omega
      refine w_Rm_isLong_21 ⟨fun q => absurd (n12.mp q) (by omega), fun _ => ⟨fun q => absurd (n17.mp q) (by omega), fun _ => ?_⟩⟩
      refine w_Rm_isLong_38 ⟨fun q => absurd (n13.mp q) (by omega), fun q1 => ⟨fun q => absurd (n18.mp q) (by omega), fun q2 => K _ ?_⟩⟩
      rw [decide_eq_true_eq]
      unfold d_isLong
      show ((Int32.ofNat n = Int32.ofNat 19 ∧ (Int32.ofNat k = Int32.ofNat 2 ∨ (Int32.ofNat n = Int32.ofNat 16 ∧ Int32.ofNat k = Int32.ofNat 4))) ∨ (¬ (Int32.ofNat n = Int32.ofNat 19) ∧ (Int32.ofNat n = Int32.ofNat 16 ∧ Int32.ofNat k = Int32.ofNat 4))) ↔ _
      rw [n19, k2', n16, k4]
      omega
    · exact w_Rm_isLong_21 ⟨fun q => f33 (Or.inl (n12.mp q)), fun q1 => ⟨fun q => f33 (Or.inr (n17.mp q)), fun q2 => f38 h5 g10 (Or.inl ⟨fun h => q1 (n12.mpr h), fun h => q2 (n17.mpr h)⟩)⟩⟩
  have f10 : (n = 5 → k ≠ 2) → c_Rm_isLong_10 nl Ln xs (d + 1) (Int32.ofNat n) (Int32.ofNat k) σ F := fun h5 => by
    by_cases g5 : n = 5
    · refine w_Rm_isLong_10 ⟨fun q => absurd (n10.mp q) (by omega), fun _ => ?_⟩
      refine w_Rm_isLong_21 ⟨fun q => absurd (n12.mp q) (by omega), fun _ => ⟨fun q => absurd (n17.mp q) (by omega), fun _ => ?_⟩⟩
      refine w_Rm_isLong_38 ⟨fun q => absurd (n13.mp q) (by omega), fun q1 => ⟨fun q => absurd (n18.mp q) (by omega), fun q2 => K _ ?_⟩⟩
      have := h5 g5
      rw [decide_eq_true_eq]
      unfold d_isLong
      show ((Int32.ofNat n = Int32.ofNat 19 ∧ (Int32.ofNat k = Int32.ofNat 2 ∨ (Int32.ofNat n = Int32.ofNat 16 ∧ Int32.ofNat k = Int32.ofNat 4))) ∨ (¬ (Int32.ofNat n = Int32.ofNat 19) ∧ (Int32.ofNat n = Int32.ofNat 16 ∧ Int32.ofNat k = Int32.ofNat 4))) ↔ _
      rw [n19, k2', n16, k4]
      omega
    · exact w_Rm_isLong_10 ⟨fun q => ⟨fun q2 => f21 g5 (by have := k2.mp q2; omega), fun q2 => K true ⟨fun _ => by have := n10.mp q; rw [k2] at q2; unfold d_isLong; omega, fun _ => rfl⟩⟩, fun q => f21 g5 (fun h => q (n10.mpr h.1))⟩
  exact w_Rm_isLong ⟨fun q => ⟨fun q2 => K true ⟨fun _ => by have := n5.mp q; have := k2'.mp q2; unfold d_isLong; omega, fun _ => rfl⟩, fun q2 => f10 (fun _ h => q2 (k2'.mpr h))⟩, fun q => f10 (fun h => absurd (n5.mpr h) q)⟩
end
