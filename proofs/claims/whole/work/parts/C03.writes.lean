/-! THE CLASS: words and numbers of clauses are written -/
section
variable {nl : Bool} {Ln : Nat} {xs : Nat → Int32} {d : Nat} {σ : am_S} {w : ow_T}
theorem nm_3 {k : Nat × Nat} {n p q : Nat} {g0 : Nat} {T : List Int32} {F : am_S → Prop} (hk : k ≠ (0, 0)) (hq : p + q ≤ 208) (hT : T.length < 200000) (K : ∀ σ' w' g', ByR σ' w' k n g' T → ByC σ w σ' w' k g0 g' → F σ') : ∀ (m i : Nat) (s : am_S) (ws : ow_T) (gs : Nat) (L : List Int32), i + m = p + q → L ++ (((txt 0).drop i).take m).takeWhile (fun x => decide (x ≠ 32)) = T → ByR s ws k n gs L → ByC σ w s ws k g0 gs → c_By_putWord_3 nl Ln xs (d + 5) n (some 0) (Int32.ofNat p) (Int32.ofNat q) (Int32.ofNat i) s F := by
  intro m
  induction m with
  | zero =>
    intro i s ws gs L hi hL B C
    have hL : L = T := by
      rw [← hL]
      simp
    subst hL
    refine w_By_putWord_3 ?_
    rw [n32a, n32lt (by omega) (by omega)]
    exact ⟨fun h => absurd h (by omega), fun _ => K s ws gs B C⟩
  | succ m ih =>
    intro i s ws gs L hi hL B C
    obtain ⟨c, hc⟩ := get_ex (show i < (txt 0).length by rw [nm_len]; omega)
    have hb : c &&& 255 = c := by
      have := nm_byte i (by omega)
      rw [getD_of 0 hc] at this
      exact this
    rw [drop_get hc, List.take_succ_cons] at hL
    refine w_By_putWord_3 ?_
    rw [n32a, n32lt (by omega) (by omega), Option.getD_some]
    refine ⟨fun _ => ⟨⟨0, rfl⟩, ⟨by decide, rk_txt (by decide)⟩, r_strlen (d := d + 2) (by decide) (fun _ => ?_)⟩, fun h => absurd (by omega) h⟩
    rw [nm_len, n32lt (by omega) (by omega)]
    refine ⟨fun _ => ⟨⟨0, rfl⟩, ⟨by decide, rk_txt (by decide)⟩, r_charAt (d := d) (by decide) hc (fun _ => ⟨fun h32 => ?_, fun h32 => ?_⟩)⟩, fun h => absurd (by omega) h⟩
    · rw [List.takeWhile_cons_of_neg (by simp [h32]), List.append_nil] at hL
      subst hL
      exact K s ws gs B C
    · rw [List.takeWhile_cons_of_pos (by simp [h32])] at hL
      have hll : L.length < 200000 := by rw [← hL, List.length_append] at hT; omega
      refine ⟨⟨0, rfl⟩, ⟨by decide, rk_txt (by decide)⟩, r_charAt (d := d) (by decide) hc (fun _ => ⟨is_mk B.2.1, by_put (d := d + 1) B C.1.1 hk (by omega) (fun s6 w6 g6 B6 c6 _ => ?_)⟩)⟩
      rw [hb] at B6
      rw [n32s]
      refine ih (i + 1) s6 w6 g6 _ (by omega) ?_ B6 (C.trans c6)
      rw [← hL, List.append_assoc]
      rfl
theorem wt_len {c : Nat} (hc : c < 26) : (txt (wT c)).length ≤ 9 := txt9 (by have := (wT_ok c hc).2; omega) (wT_ok c hc).1
theorem by_nm {k : Nat × Nat} {n c g0 : Nat} {L : List Int32} {F : am_S → Prop} (hk : k ≠ (0, 0)) (hc : c < 26) (hl : L.length < 190000) (B : ByR σ w k n g0 L) (ho : OwI σ w) (K : ∀ σ' w' g', ByR σ' w' k n g' (L ++ txt (wT c)) → ByC σ w σ' w' k g0 g' → F σ') : k_By_putWord nl Ln xs (d + 5) n (some 0) (Int32.ofNat (8 * c)) 8 σ F := by
  have hs := wt_len hc
  refine w_By_putWord (nm_3 (d := d) (p := 8 * c) (q := 8) (T := L ++ txt (wT c)) hk (by omega) (by rw [List.length_append]; omega) K 8 (8 * c) σ w g0 L rfl (by rw [nm_word c hc]) B (ByC.rf ho))
end
/-- letters were written behind σ: they are L now -/
def WdS (σ : am_S) (w : ow_T) (k : Nat × Nat) (n g0 : Nat) (L : List Int32) (s : am_S) (ws : ow_T) : Prop := ∃ g', ByR s ws k n g' L ∧ ByC σ w s ws k g0 g' ∧ am_nx σ ≤ am_nx s
section
variable {nl : Bool} {Ln : Nat} {xs : Nat → Int32} {d : Nat} {σ : am_S} {w : ow_T} {k kn : Nat × Nat} {n g0 : Nat} {L : List Int32} {s : am_S} {ws : ow_T}
theorem WdS.kd (h : WdS σ w k n g0 L s ws) : am_kd s n = (2, 0) := by
  obtain ⟨_, B, _⟩ := h
  exact B.2.1
theorem WdS.fr (h : WdS σ w k n g0 L s ws) (h1 : kn ≠ k) (h0 : kn ≠ (0, 0)) : Fr σ w s ws kn := by
  obtain ⟨g', B, C, -⟩ := h
  exact C.1.2 kn h1 h0
theorem wd_put {x : Int32} {G : am_S → Prop} (hk : k ≠ (0, 0)) (hx : x &&& 255 = x) (h : WdS σ w k n g0 L s ws) (hl : L.length < 190000) (K : ∀ s' ws', WdS σ w k n g0 (L ++ [x]) s' ws' → G s') : k_By_put nl Ln xs (d + 3) n x s (fun s' => am_ext s s' → G s') := by
  obtain ⟨g', B, C, hn⟩ := h
  refine by_put (d := d) B C.1.1 hk (by omega) (fun s' ws' g2 B2 C2 hx2 => K s' ws' ⟨g2, ?_, C.trans C2, Nat.le_trans hn hx2.2⟩)
  rw [hx] at B2
  exact B2
theorem wd_word {c : Nat} {F : am_S → Prop} (hk : k ≠ (0, 0)) (hc : c < 26) (h : WdS σ w k n g0 L s ws) (hl : L.length < 190000) (K : ∀ s' ws', WdS σ w k n g0 (L ++ txt (wT c)) s' ws' → F s') : k_Nd_writeWord nl Ln xs (d + 6) (Int32.ofNat c) (some n) s F := by
  obtain ⟨g', B, C, hn⟩ := h
  have t8 : (8 : Int32).toInt = 8 := by decide
  have e8 : Int32.ofNat c * 8 = Int32.ofNat (8 * c) := by
    rw [i32e, n32 (by omega), i32mul (by rw [n32 (by omega), t8]; omega) (by rw [n32 (by omega), t8]; omega), n32 (by omega), t8]
    omega
  refine w_Nd_writeWord ⟨is_mk B.2.1, ?_⟩
  rw [Option.getD_some, e8]
  exact by_nm (d := d) hk hc hl B C.1.1 (fun s' ws' g2 B2 C2 hx2 => K s' ws' ⟨g2, B2, C.trans C2, Nat.le_trans hn hx2.2⟩)
theorem wd_dec {v : Int64} {G : am_S → Prop} (hk : k ≠ (0, 0)) (hv : -9223372036854775808 < v.toInt) (h : WdS σ w k n g0 L s ws) (hl : L.length < 190000) (K : ∀ s' ws', WdS σ w k n g0 (L ++ d_num v) s' ws' → G s') : k_By_putDecimal nl Ln xs (d + 4) n v s (fun s' => am_ext s s' → G s') := by
  obtain ⟨g', B, C, hn⟩ := h
  exact by_dec (d := d) hv hk hl B C.1.1 (fun s' ws' g2 B2 C2 hx2 => K s' ws' ⟨g2, B2, C.trans C2, Nat.le_trans hn hx2.2⟩)
theorem wd_16 {c : Nat} {p0 v : Int32} {F : am_S → Prop} (hk : k ≠ (0, 0)) (hc : c < 26) (h : WdS σ w k n g0 L s ws) (hl : L.length < 180000) (K : ∀ s' ws', WdS σ w k n g0 (L ++ (txt (wT c) ++ ([32] ++ d_num v.toInt64))) s' ws' → F s') : c_Nd_writeNumbered_16 nl Ln xs (d + 7) p0 (Int32.ofNat c) v (some n) s F := by
  have hs := wt_len hc
  have hr := r32 v
  refine w_Nd_writeNumbered_16 (wd_word (d := d) hk hc h (by omega) (fun s1 w1 h1 _ => ⟨is_mk h1.kd, ?_⟩))
  rw [Option.getD_some]
  refine wd_put (d := d + 3) hk (by decide) h1 (by rw [List.length_append]; omega) (fun s2 w2 h2 => ?_)
  refine wd_dec (d := d + 2) hk (by rw [t64]; omega) h2 (by rw [List.length_append, List.length_append, List.length_singleton]; omega) (fun s3 w3 h3 => K s3 w3 ?_)
  rw [List.append_assoc, List.append_assoc] at h3
  exact h3
theorem wd_num {c : Nat} {v : Int32} {F : am_S → Prop} (hk : k ≠ (0, 0)) (hc : c < 26) (h : WdS σ w k n g0 L s ws) (hl : L.length < 180000) (K : ∀ s' ws', WdS σ w k n g0 (L ++ (txt (wT c) ++ ([32] ++ d_num v.toInt64))) s' ws' → F s') : k_Nd_writeNumbered nl Ln xs (d + 7) (-1) (Int32.ofNat c) v (some n) s F := w_Nd_writeNumbered ⟨fun _ => wd_16 (d := d) hk hc h hl K, fun z => absurd rfl z⟩
theorem wd_num2 {a c : Nat} {v : Int32} {F : am_S → Prop} (hk : k ≠ (0, 0)) (ha : a < 26) (hc : c < 26) (h : WdS σ w k n g0 L s ws) (hl : L.length < 170000) (K : ∀ s' ws', WdS σ w k n g0 (L ++ (txt (wT a) ++ ([32] ++ (txt (wT c) ++ ([32] ++ d_num v.toInt64))))) s' ws' → F s') : k_Nd_writeNumbered nl Ln xs (d + 7) (Int32.ofNat a) (Int32.ofNat c) v (some n) s F := by
  have hs := wt_len ha
  refine w_Nd_writeNumbered ⟨fun z => ?_, fun _ => wd_word (d := d) hk ha h (by omega) (fun s1 w1 h1 _ => ⟨is_mk h1.kd, ?_⟩)⟩
  · have hz : (Int32.ofNat a).toInt = -1 := by rw [z]; decide
    rw [n32 (by omega)] at hz
    omega
  rw [Option.getD_some]
  refine wd_put (d := d + 3) hk (by decide) h1 (by rw [List.length_append]; omega) (fun s2 w2 h2 => ?_)
  refine wd_16 (d := d) hk hc h2 (by rw [List.length_append, List.length_append, List.length_singleton]; omega) (fun s3 w3 h3 => K s3 w3 ?_)
  rw [List.append_assoc, List.append_assoc] at h3
  exact h3
/-- two words -/
theorem wd_two {a c : Nat} {x : am_S → Int32} {F : am_S → Prop} (hk : k ≠ (0, 0)) (ha : a < 26) (hc : c < 26) (h : WdS σ w k n g0 L s ws) (hl : L.length < 170000) (hx : ∀ s' ws' L', WdS σ w k n g0 L' s' ws' → x s' = Int32.ofNat c) (K : ∀ s' ws', WdS σ w k n g0 (L ++ (txt (wT a) ++ ([32] ++ txt (wT c)))) s' ws' → F s') : k_Nd_writeWord nl Ln xs (d + 6) (Int32.ofNat a) (some n) s (fun σ3 => am_ext s σ3 → (am_is σ3 (some n) 1) ∧ k_By_put nl Ln xs (d + 6) ((some n).getD 0) 32 σ3 (fun σ6 => am_ext σ3 σ6 → k_Nd_writeWord nl Ln xs (d + 6) (x σ6) (some n) σ6 (fun σ8 => am_ext σ6 σ8 → F σ8))) := by
  have hs := wt_len ha
  refine wd_word (d := d) hk ha h (by omega) (fun s1 w1 h1 _ => ⟨is_mk h1.kd, ?_⟩)
  rw [Option.getD_some]
  refine wd_put (d := d + 3) hk (by decide) h1 (by rw [List.length_append]; omega) (fun s2 w2 h2 => ?_)
  rw [hx s2 w2 _ h2]
  refine wd_word (d := d) hk hc h2 (by rw [List.length_append, List.length_append, List.length_singleton]; omega) (fun s3 w3 h3 _ => K s3 w3 ?_)
  rw [List.append_assoc, List.append_assoc] at h3
  exact h3
end
/-! a chain to its end, counted -/
def StO (σ : am_S) (w : ow_T) (kn : Nat × Nat) : Nat → Nat → Prop
  | 0, x => w x = kn ∧ am_fR σ 8003 x = none
  | m + 1, x => w x = kn ∧ ∃ y, am_fR σ 8003 x = some y ∧ StO σ w kn m y
def cnN : mF → Nat
  | .append a _ => cnN a + 1
  | _ => 0
section
variable {σ : am_S} {w : ow_T} {kn : Nat × Nat}
theorem StO.uniq : ∀ (m m' x : Nat), StO σ w kn m x → StO σ w kn m' x → m = m'
  | 0, 0, _, _, _ => rfl
  | 0, m' + 1, x, h, h' => by
    obtain ⟨-, y, e, -⟩ := h'
    rw [h.2] at e
    exact absurd e (by simp)
  | m + 1, 0, x, h, h' => by
    obtain ⟨-, y, e, -⟩ := h
    rw [h'.2] at e
    exact absurd e (by simp)
  | m + 1, m' + 1, x, h, h' => by
    obtain ⟨-, y, e, g⟩ := h
    obtain ⟨-, y', e', g'⟩ := h'
    rw [e] at e'
    obtain rfl := Option.some.inj e'
    rw [StO.uniq m m' y g g']
theorem NdS.piece {f : mF} {x z : Nat} (hp : isP f) (h : NdS σ w kn f x z) : x = z ∧ NdK σ w kn x := by
  cases f with
  | append _ _ => exact hp.elim
  | tag _ _ => exact ⟨h.1, h.2.1⟩
  | nest _ a =>
    cases a with
    | nest _ b =>
      cases b with
      | nil => exact ⟨h.1, h.2.1⟩
      | _ => exact h.elim
    | _ => exact h.elim
  | _ => exact h.elim
theorem NdS.sto : ∀ (f : mF) (x z m : Nat), tgO f → NdS σ w kn f x z → StO σ w kn m z → StO σ w kn (m + cnN f) x := by
  intro f
  induction f with
  | append a b iha _ =>
    intro x z m hf h hz
    obtain ⟨y, h1, h2, hp, h3⟩ := h
    have := iha x y (m + 1) hf.1 h1 ⟨(NdS.own a x y h1).2, z, h2, hz⟩
    rw [show m + cnN (.append a b) = m + 1 + cnN a by show m + (cnN a + 1) = _; omega]
    exact this
  | tag q a _ =>
    intro x z m hf h hz
    obtain ⟨rfl, -⟩ := NdS.piece (f := .tag q a) trivial h
    exact hz
  | nest c a _ =>
    intro x z m hf h hz
    obtain ⟨rfl, -⟩ := NdS.piece (f := .nest c a) trivial h
    exact hz
  | _ => intro x z m hf h hz; exact h.elim
end
/-! brackets -/
def brp (f : mF) (ar : Nat) : Bool := match f with
  | .tag k _ => if k = 2 then false else bra k ar
  | _ => false
theorem tx_br : ∀ (f : mF) (op ar : Nat), isP f → tgO f → tx f op ar = (if brp f ar = true then [40] else []) ++ (tx f 0 0 ++ (if brp f ar = true then [41] else [])) := by
  intro f op ar hp hf
  cases f with
  | append _ _ => exact hp.elim
  | tag k a =>
    obtain ⟨h1, h2⟩ := hf
    unfold brp
    dsimp only
    rw [tx, tx]
    by_cases hk : k = 2
    · simp only [if_pos hk, Bool.false_eq_true, if_false, List.nil_append, List.append_nil]
    · simp only [if_neg hk]
      rw [if_neg hk] at h1
      obtain ⟨hk1, x, y, rfl⟩ := h1
      have b0 : bra k 0 = false := by
        unfold bra
        exact decide_eq_false (by omega)
      rw [tx, tx, b0]
      simp only [Bool.false_eq_true, if_false, List.nil_append, List.append_nil, List.append_assoc]
  | nest c a =>
    cases a with
    | nest n b =>
      cases b with
      | nil =>
        unfold brp
        rw [tx, tx]
        simp
      | _ => exact absurd hf (by simp [tgO])
    | _ => exact absurd hf (by simp [tgO])
  | _ => exact absurd hf (by simp [tgO])
theorem tx_len : ∀ (f : mF) (op ar : Nat), tgO f → op ≤ 1 → (tx f op ar).length ≤ csz f := by
  intro f
  induction f with
  | append a b iha ihb =>
    intro op ar hf hop
    have e1 := iha op op hf.1 hop
    have e2 := ihb op op hf.2.1 hop
    have e3 := wt_len (c := 12 + op) (by omega)
    have e4 : (if bra op ar = true then [(40 : Int32)] else []).length ≤ 1 := by split <;> simp
    have e5 : (if bra op ar = true then [(41 : Int32)] else []).length ≤ 1 := by split <;> simp
    rw [tx, csz]
    simp only [List.length_append, List.length_singleton]
    omega
  | tag k a iha =>
    intro op ar hf hop
    obtain ⟨h1, h2⟩ := hf
    rw [tx, csz]
    by_cases hk : k = 2
    · rw [if_pos hk]
      have e1 := iha 0 2 h2 (by omega)
      have e3 := wt_len (c := 14) (by omega)
      have e4 : (txt (wT 14)).length = 3 := by decide +kernel
      simp only [List.length_append, List.length_singleton]
      omega
    · rw [if_neg hk]
      rw [if_neg hk] at h1
      have e1 := iha k ar h2 h1.1
      omega
  | nest c a _ =>
    intro op ar hf hop
    cases a with
    | nest n b =>
      cases b with
      | nil =>
        obtain ⟨c1, c2, n1, n2, n3⟩ := hf
        rw [tx, csz]
        have e3 := wt_len (c := c.toNat + 12) (by omega)
        have e4 : (if c = 7 then txt (wT (n.toNat + 20)) else d_num (Int64.ofInt n)).length ≤ 21 := by
          split
          · rename_i h7
            have := n3 h7
            have := wt_len (c := n.toNat + 20) (by omega)
            omega
          · exact num_le _
        simp only [List.length_append, List.length_singleton]
        omega
      | _ => exact absurd hf (by simp [tgO])
    | _ => exact absurd hf (by simp [tgO])
  | _ => intro op ar hf hop; exact absurd hf (by simp [tgO])
