/-! LETTERS of the reference: clauses told -/
def clsz (c : mCl) : Nat := 70 + (match c.2.2 with
  | none => 0
  | some f => csz f)
def cszs : List mCl → Nat
  | [] => 0
  | c :: C => clsz c + cszs C
section
variable {nl : Bool} {Ln : Nat} {xs : Nat → Int32} {d : Nat} {o o' : Nat}
theorem clA_le {σ : am_S} {k nn : Nat} {c : mCl} (L : List Int32) (hc : ClA σ o k nn c) (w : WfCl c) : (d_clA L c).length ≤ L.length + clsz c - 20 := by
  have t10 : ∀ (L : List Int32) (n : Nat), n < 38 → 2 ≤ n → (d_tok L (txt n)).length ≤ L.length + 10 := fun L n h1 h2 => tok9 L h1 h2
  obtain ⟨w1, w2, w3, w4, w5⟩ := w
  unfold d_clA clsz
  split
  · rename_i h1
    have h5 := w5 h1
    have e1 : (d_tok L (if c.1 = 0 then txt 21 else txt 9)).length ≤ L.length + 10 := by
      split
      · exact t10 _ _ (by decide) (by decide)
      · exact t10 _ _ (by decide) (by decide)
    generalize d_tok L (if c.1 = 0 then txt 21 else txt 9) = L1 at e1 ⊢
    have e2 : (d_tok L1 (d_kindW c.2.1.toInt.toNat)).length ≤ L1.length + 10 := t10 _ _ (by omega) (by omega)
    generalize d_tok L1 (d_kindW c.2.1.toInt.toNat) = L2 at e2 ⊢
    obtain ⟨-, -, h3⟩ := hc
    cases hcc : c.2.2 with
    | none => simp only []; omega
    | some f =>
      rw [hcc] at h3
      obtain ⟨x, -, -, hx⟩ := h3
      have e3 := t10 L2 22 (by decide) (by decide)
      have e4 := cnd_le f σ o 0 x 0 (d_tok L2 (txt 22)) hx
      simp only []
      omega
  · split
    · have := t10 L 11 (by decide) (by decide)
      omega
    · split
      · have e1 := t10 L 31 (by decide) (by decide)
        have e2 : (d_tok (d_tok L (txt 31)) (if c.1 = 10 then txt 32 else txt 33)).length ≤ (d_tok L (txt 31)).length + 10 := by
          split
          · exact t10 _ _ (by decide) (by decide)
          · exact t10 _ _ (by decide) (by decide)
        omega
      · have e1 : (if c.1 = 5 ∨ c.1 = 6 then d_tok L (txt 13) else L).length ≤ L.length + 10 := by
          split
          · exact t10 _ _ (by decide) (by decide)
          · omega
        generalize (if c.1 = 5 ∨ c.1 = 6 then d_tok L (txt 13) else L) = L1 at e1 ⊢
        have e2 : (d_tok L1 (if c.1 = 2 then txt 34 else if c.1 = 3 ∨ c.1 = 5 then txt 33 else if c.1 = 4 ∨ c.1 = 6 then txt 17 else if c.1 = 7 then txt 10 else txt 19)).length ≤ L1.length + 9 := by
          have g9 : ∀ n, n = 34 ∨ n = 33 ∨ n = 17 ∨ n = 10 ∨ n = 19 → (d_tok L1 (txt n)).length ≤ L1.length + 9 := by
            intro n hn
            have h8 : (txt n).length ≤ 8 := by
              rcases hn with h | h | h | h | h <;> subst h <;> decide +kernel
            have := tok_len L1 (txt n)
            omega
          split
          · exact g9 _ (by omega)
          · split
            · exact g9 _ (by omega)
            · split
              · exact g9 _ (by omega)
              · split
                · exact g9 _ (by omega)
                · exact g9 _ (by omega)
        have e3 := num_le c.2.1.toInt64
        unfold d_tokN
        rw [List.length_append, List.length_cons]
        omega
theorem r_putClause {σ : am_S} {k nn : Nat} {c : mCl} {L : List Int32} {F : am_S → Prop} (hk : k < 4560) (hnn : nn ≤ 30400) (hc : ClA σ o k nn c) (w : WfCl c) (hh : ∀ f, c.2.2 = some f → hgt f ≤ 400) (P : PtR σ o) (h : LetR σ L) (hl : L.length + clsz c ≤ 500000) (K : ∀ σ', LetR σ' (d_cl L c) → Rc o leF [] [1055] σ σ' → F σ') : k_Rm_putClause nl Ln xs (d + 409) 1053 (Int32.ofNat k) σ F := by
  have lo := P.2.2.1.lo
  have hle := clA_le L hc w
  have h60 : 70 ≤ clsz c := by unfold clsz; omega
  have hw5 := w
  obtain ⟨w1, w2, w3, w4, w5⟩ := hw5
  have bk : 0 ≤ (Int32.ofNat k).toInt ∧ (Int32.ofNat k).toInt < 4560 := by rw [n32 (by omega)]; omega
  have hc0 := hc
  obtain ⟨h1, h2, h3⟩ := hc
  have zz : ∀ q : Int32, q.toInt = q.toInt := fun _ => rfl
  -- the end of every clause
  have fin : ∀ {σ1 : am_S}, LetR σ1 (d_clA L c) → Rc o leF [] [1055] σ σ1 → c_Rm_putClause_226 nl Ln xs (d + 409) 1053 (Int32.ofNat k) c.1 σ1 F := by
    intro σ1 hL1 r1
    have P1 := P.rc r1
    have t9 := txt9 (n := 37) (by decide) (by decide)
    refine w_Rm_putClause_226 ⟨is_mk P1.1.1, (r_putToken (d := d + 402) (o := o) (n := 37) (by decide) (by decide) P1.1 hL1 (by omega) (fun σ2 hL2 r2 _ => ?_))⟩
    have tl := tok9 (d_clA L c) (n := 37) (by decide) (by decide)
    refine r_put2 (o := o) (P.rc (r1.trans r2)).1 hL2 (by omega) (fun σ3 hL3 r3 _ => K σ3 ?_ ((r1.trans r2).trans r3))
    rw [show (10 : Int32) &&& 255 = 10 by decide] at hL3
    exact hL3
  refine w_Rm_putClause ⟨is_mk P.1.1, P.is, ?_⟩
  rw [P.g, oG_13028 P.2.2.1, n32c (by omega), h1]
  refine ⟨oA_13028 P.2.2.1 bk.1 bk.2, ?_⟩
  rintro v4 rfl
  have t1 : (1 : Int32).toInt = 1 := by decide
  have tkA : ∀ {σ1 : am_S} {L1 : List Int32} {n : Nat} {G : am_S → Prop}, n < 38 → 2 ≤ n → LetR σ1 L1 → Rc o leF [] [1055] σ σ1 → L1.length + 10 ≤ 500000 → (∀ σ2, LetR σ2 (d_tok L1 (txt n)) → Rc o leF [] [1055] σ σ2 → (d_tok L1 (txt n)).length ≤ L1.length + 10 → G σ2) → k_Rm_putToken nl Ln xs (d + 408) 1053 (some n) σ1 (fun σ2 => am_ext σ1 σ2 → G σ2) := by
    intro σ1 L1 n G hn hn2 hL1 r1 hl1 KG
    have t9 := txt9 hn hn2
    exact (r_putToken (d := d + 402) (o := o) hn hn2 (P.rc r1).1 hL1 (by omega) (fun σ2 hL2 r2 _ => KG σ2 hL2 (r1.trans r2) (tok9 L1 hn hn2)))
  refine ⟨fun q => ?_, fun q => ?_⟩
  · rw [i32lt, t1] at q
    have hA : d_clA L c = (if c.1 = 8 then d_tok L (txt 11)
      else if c.1 = 10 ∨ c.1 = 11 then d_tok (d_tok L (txt 31)) (if c.1 = 10 then txt 32 else txt 33)
      else d_tokN (d_tok (if c.1 = 5 ∨ c.1 = 6 then d_tok L (txt 13) else L) (if c.1 = 2 then txt 34 else if c.1 = 3 ∨ c.1 = 5 then txt 33 else if c.1 = 4 ∨ c.1 = 6 then txt 17 else if c.1 = 7 then txt 10 else txt 19)) c.2.1.toInt64) := by
      unfold d_clA
      rw [if_neg (by omega)]
    refine ⟨fun q8 => ?_, fun n8 => ?_⟩
    · rw [if_pos q8] at hA
      refine tkA (by decide) (by decide) h Rc.rf (by omega) (fun σ1 hL1 r1 _ => fin ?_ r1)
      rw [hA]; exact hL1
    rw [if_neg n8] at hA
    have by1 : (c.1 = 10 ∨ c.1 = 11) → c_Rm_putClause_111 nl Ln xs (d + 409) 1053 (Int32.ofNat k) c.1 σ F := by
      intro qq
      rw [if_pos qq] at hA
      refine w_Rm_putClause_111 ⟨is_mk P.1.1, tkA (by decide) (by decide) h Rc.rf (by omega) (fun σ1 hL1 r1 l1 => ?_)⟩
      rintro w6 rfl
      have go : ∀ {n : Nat}, n < 38 → 2 ≤ n → txt n = (if c.1 = 10 then txt 32 else txt 33) → c_Rm_putClause_131 nl Ln xs (d + 409) 1053 (Int32.ofNat k) c.1 (some 1053) (some n) σ1 F := by
        intro n hn hn2 en
        rw [← en] at hA
        refine w_Rm_putClause_131 ⟨is_mk (P.rc r1).1.1, tkA hn hn2 hL1 r1 (by omega) (fun σ2 hL2 r2 _ => fin ?_ r2)⟩
        rw [hA]; exact hL2
      by_cases g : c.1 = 10
      · rw [if_pos g]; exact go (by decide) (by decide) (by rw [if_pos g])
      · rw [if_neg g]; exact go (by decide) (by decide) (by rw [if_neg g])
    refine ⟨fun q10 => by1 (Or.inl q10), fun n10 => ⟨fun q11 => by1 (Or.inr q11), fun n11 => ?_⟩⟩
    rw [if_neg (by rintro (z | z); exact n10 z; exact n11 z)] at hA
    -- the word and the number
    have num : ∀ {σ1 : am_S} {L1 : List Int32}, L1 = (if c.1 = 5 ∨ c.1 = 6 then d_tok L (txt 13) else L) → LetR σ1 L1 → Rc o leF [] [1055] σ σ1 → L1.length ≤ L.length + 10 → c_Rm_putClause_154 nl Ln xs (d + 409) 1053 (Int32.ofNat k) c.1 σ1 F := by
      intro σ1 L1 e1 hL1 r1 l1
      rw [← e1] at hA
      refine w_Rm_putClause_154 ?_
      rintro w8 rfl
      have go : ∀ {n : Nat}, n < 38 → 2 ≤ n → txt n = (if c.1 = 2 then txt 34 else if c.1 = 3 ∨ c.1 = 5 then txt 33 else if c.1 = 4 ∨ c.1 = 6 then txt 17 else if c.1 = 7 then txt 10 else txt 19) → c_Rm_putClause_209 nl Ln xs (d + 409) 1053 (Int32.ofNat k) c.1 (some 1053) (some n) σ1 F := by
        intro n hn hn2 en
        rw [← en] at hA
        refine w_Rm_putClause_209 ⟨is_mk (P.rc r1).1.1, tkA hn hn2 hL1 r1 (by omega) (fun σ2 hL2 r2 l2 => ?_)⟩
        have P2 := P.rc r2
        have v2 : am_aI σ2 (o + 22) k = c.2.1 := (r2.aI lo (by decide) (by simp)).trans h2
        rw [P2.g, oG_13029 P2.2.2.1, n32c (by omega), v2]
        refine ⟨is_mk P2.1.1, P2.is, oA_13029 P2.2.2.1 bk.1 bk.2, (r_putTokenNumber (d := d + 405) (o := o) (by rw [t64]; omega) P2.1 hL2 (by omega) (fun σ3 hL3 r3 _ _ => fin ?_ (r2.trans r3)))⟩
        rw [hA]; exact hL3
      by_cases g2 : c.1 = 2
      · rw [if_pos g2]; exact go (by decide) (by decide) (by rw [if_pos g2])
      rw [if_neg g2]
      by_cases g3 : c.1 = 3
      · rw [if_pos g3]; exact go (by decide) (by decide) (by rw [if_neg g2, if_pos (Or.inl g3)])
      rw [if_neg g3]
      by_cases g5 : c.1 = 5
      · rw [if_pos g5]; exact go (by decide) (by decide) (by rw [if_neg g2, if_pos (Or.inr g5)])
      rw [if_neg g5]
      have n35 : ¬ (c.1 = 3 ∨ c.1 = 5) := by rintro (z | z); exact g3 z; exact g5 z
      by_cases g4 : c.1 = 4
      · rw [if_pos g4]; exact go (by decide) (by decide) (by rw [if_neg g2, if_neg n35, if_pos (Or.inl g4)])
      rw [if_neg g4]
      by_cases g6 : c.1 = 6
      · rw [if_pos g6]; exact go (by decide) (by decide) (by rw [if_neg g2, if_neg n35, if_pos (Or.inr g6)])
      rw [if_neg g6]
      have n46 : ¬ (c.1 = 4 ∨ c.1 = 6) := by rintro (z | z); exact g4 z; exact g6 z
      by_cases g7 : c.1 = 7
      · rw [if_pos g7]; exact go (by decide) (by decide) (by rw [if_neg g2, if_neg n35, if_neg n46, if_pos g7])
      rw [if_neg g7]; exact go (by decide) (by decide) (by rw [if_neg g2, if_neg n35, if_neg n46, if_neg g7])
    have own : (c.1 = 5 ∨ c.1 = 6) → c_Rm_putClause_148 nl Ln xs (d + 409) 1053 (Int32.ofNat k) c.1 σ F := fun qq =>
      w_Rm_putClause_148 ⟨is_mk P.1.1, tkA (by decide) (by decide) h Rc.rf (by omega) (fun σ1 hL1 r1 l1 => num (by rw [if_pos qq]) hL1 r1 l1)⟩
    exact ⟨fun q5 => own (Or.inl q5), fun n5 => ⟨fun q6 => own (Or.inr q6), fun n6 => num (by rw [if_neg (by rintro (z | z); exact n5 z; exact n6 z)]) h Rc.rf (by omega)⟩⟩
  · rw [i32lt, t1] at q
    have hle1 : c.1.toInt ≤ 1 := by omega
    have h5 := w5 hle1
    have hA : d_clA L c = (fun l2 => match c.2.2 with
      | none => l2
      | some f => d_cnd f 0 0 (d_tok l2 (txt 22))) (d_tok (d_tok L (if c.1 = 0 then txt 21 else txt 9)) (d_kindW c.2.1.toInt.toNat)) := by
      unfold d_clA
      rw [if_pos hle1]
      cases c.2.2 <;> rfl
    rintro w16 rfl
    have go : ∀ {n : Nat}, n < 38 → 2 ≤ n → txt n = (if c.1 = 0 then txt 21 else txt 9) → c_Rm_putClause_27 nl Ln xs (d + 409) 1053 (Int32.ofNat k) c.1 (some 1053) (some n) σ F := by
      intro n hn hn2 en
      rw [← en] at hA
      refine w_Rm_putClause_27 ⟨is_mk P.1.1, tkA hn hn2 h Rc.rf (by omega) (fun σ1 hL1 r1 l1 => ?_)⟩
      have P1 := P.rc r1
      have v1 : am_aI σ1 (o + 22) k = c.2.1 := (r1.aI lo (by decide) (by simp)).trans h2
      have en2 : c.2.1 = Int32.ofNat c.2.1.toInt.toNat := n32of w3
      have ec : c.2.1.toNatClampNeg = c.2.1.toInt.toNat := by have := n32z w3; omega
      rw [P1.g, oG_13029 P1.2.2.1, n32c (by omega), v1, mG_12000 P1.1, ec, P1.2.1 _ (by omega)]
      refine ⟨is_mk P1.1.1, P1.is, oA_13029 P1.2.2.1 bk.1 bk.2, mA_12000 P1.1 (by omega) (by omega), tkA (by omega) (by omega) hL1 r1 (by omega) (fun σ2 hL2 r2 l2 => ?_)⟩
      have P2 := P.rc r2
      rw [P2.g, oG_13030 P2.2.2.1]
      refine ⟨P2.is, oA_13030 P2.2.2.1 bk.1 bk.2, ?_⟩
      cases hcc : c.2.2 with
      | none =>
        rw [hcc] at h3 hA
        have v3 : am_aI σ2 (o + 23) k = -1 := (r2.aI lo (by decide) (by simp)).trans h3
        refine ⟨fun _ => fin ?_ r2, fun z => absurd v3 z⟩
        rw [hA]; exact hL2
      | some f =>
        rw [hcc] at h3 hA
        obtain ⟨x, hx1, hx2, hx3⟩ := h3
        have v3 : am_aI σ2 (o + 23) k = Int32.ofNat x := (r2.aI lo (by decide) (by simp)).trans hx2
        have hf4 := hh f hcc
        have hdp : d + hgt f + 8 ≤ d + 408 := by omega
        have hsz : clsz c = 70 + csz f := by unfold clsz; rw [hcc]
        refine ⟨fun z => absurd (v3.symm.trans z) (ne_m1 (by omega)), fun _ => tkA (by decide) (by decide) hL2 r2 (by omega) (fun σ3 hL3 r3 l3 => ?_)⟩
        have P3 := P.rc r3
        have v4 : am_aI σ3 (o + 23) k = Int32.ofNat x := (r3.aI lo (by decide) (by simp)).trans hx2
        rw [P3.g, oG_13030 P3.2.2.1, v4]
        have hx3' := r3.nodes lo (by decide) (by simp) (by simp) (by simp) hx3
        refine ⟨P3.is, oA_13030 P3.2.2.1 bk.1 bk.2, (r_putCond (d := d) (o := o) f 0 0 x σ3 _ _ hx3' (by omega) (by decide) P3 hL3 (by omega) (fun σ4 hL4 r4 _ => ?_)).dn hdp⟩
        refine fin ?_ (r3.trans r4)
        rw [hA]; exact hL4
    by_cases g : c.1 = 0
    · rw [if_pos g]; exact go (by decide) (by decide) (by rw [if_pos g])
    · rw [if_neg g]; exact go (by decide) (by decide) (by rw [if_neg g])
end
