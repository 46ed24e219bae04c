/-! THE CLASS: the tokens of a text -/
theorem tw_mem {q : Int32 → Bool} : ∀ {l : List Int32} {b : Int32}, b ∈ l.takeWhile q → q b = true
  | [], b, h => absurd h (by simp)
  | x :: l, b, h => by
    rw [List.takeWhile_cons] at h
    split at h
    · rename_i hx
      rcases List.mem_cons.mp h with rfl | h
      · exact hx
      · exact tw_mem h
    · exact absurd h (by simp)
section
variable {t : List Int32}
theorem tkv (hl : t.length ≤ 400) : ∀ (n s : Nat), s + n = t.length → (m_tk t s).length ≤ n + 1 ∧ (∀ y ∈ m_tk t s, y.1 ≤ 31 ∧ y.2.2 ≤ 400 ∧ 0 ≤ y.2.1.toInt ∧ y.2.1.toInt < 1000000000) ∧ ∃ e, m_tk t s = e ++ [(30, 0, t.length)] ∧ ∀ y ∈ e, y.1 ≠ 30 := by
  intro n
  induction n using Nat.strongRecOn with
  | _ n ih =>
    intro s hs
    have z0 : (0 : Int32).toInt = 0 := by decide
    by_cases h0 : n = 0
    · subst h0
      rw [tk_end (by omega)]
      have hs : s = t.length := by omega
      subst hs
      exact ⟨by simp, fun y hy => by
        have hy : y = (30, 0, t.length) := by simpa using hy
        subst hy
        exact ⟨by show 30 ≤ 31; decide, by show t.length ≤ 400; omega, by show 0 ≤ (0 : Int32).toInt; omega, by show (0 : Int32).toInt < _; omega⟩, [], rfl, by simp⟩
    · obtain ⟨b, hb⟩ := get_ex (show s < t.length by omega)
      -- one token, then the rest
      have one : ∀ (y : mTok) (m : Nat), 1 ≤ m → m ≤ n → m_tk t s = y :: m_tk t (s + m) → y.1 ≤ 31 → y.1 ≠ 30 → y.2.2 ≤ 400 → 0 ≤ y.2.1.toInt → y.2.1.toInt < 1000000000 → (m_tk t s).length ≤ n + 1 ∧ (∀ y ∈ m_tk t s, y.1 ≤ 31 ∧ y.2.2 ≤ 400 ∧ 0 ≤ y.2.1.toInt ∧ y.2.1.toInt < 1000000000) ∧ ∃ e, m_tk t s = e ++ [(30, 0, t.length)] ∧ ∀ y ∈ e, y.1 ≠ 30 := by
        intro y m m1 m2 e y1 y2 y3 y4 y5
        obtain ⟨i1, i2, e', i3, i4⟩ := ih (n - m) (by omega) (s + m) (by omega)
        rw [e]
        refine ⟨by rw [List.length_cons]; omega, fun x hx => ?_, y :: e', by rw [i3]; rfl, fun x hx => ?_⟩
        · rcases List.mem_cons.mp hx with rfl | h
          · exact ⟨y1, y3, y4, y5⟩
          · exact i2 x h
        · rcases List.mem_cons.mp hx with rfl | h
          · exact y2
          · exact i4 x h
      have hdr : t.drop s = b :: t.drop (s + 1) := drop_get hb
      have hdl : (t.drop s).length = n := by rw [List.length_drop]; omega
      by_cases hbl : m_blank b
      · rw [tk_blank hb hbl]
        obtain ⟨i1, i2, i3⟩ := ih (n - 1) (by omega) (s + 1) (by omega)
        exact ⟨by omega, i2, i3⟩
      · by_cases hlt : m_let b = true
        · have h1 : 1 ≤ (m_wl t s).length := by unfold m_wl; rw [hdr]; exact tw_len_pos hlt
          have h2 : (m_wl t s).length ≤ n := by unfold m_wl; rw [← hdl]; exact tw_le _
          have hwr := word_rng (m_wl t s)
          exact one _ _ h1 h2 (tk_word hb hbl hlt) (by show m_word (m_wl t s) ≤ 31; omega) (by show m_word (m_wl t s) ≠ 30; omega) (by show s ≤ 400; omega) (by show 0 ≤ (0 : Int32).toInt; omega) (by show (0 : Int32).toInt < _; omega)
        · by_cases hdg : m_dig b = true
          · have h1 : 1 ≤ (m_dg t s).length := by unfold m_dg; rw [hdr]; exact tw_len_pos hdg
            have h2 : (m_dg t s).length ≤ n := by unfold m_dg; rw [← hdl]; exact tw_le _
            have ht : ((m_dg t s).take 9).length = min 9 (m_dg t s).length := List.length_take
            have hr := num_rng ((m_dg t s).take 9).length ((m_dg t s).take 9) (by rw [ht]; omega) (fun x hx => by
              have := List.mem_of_mem_take hx
              unfold m_dg at this
              exact tw_mem this) rfl
            have h10 : (10 : Int) ^ ((m_dg t s).take 9).length ≤ 1000000000 := by
              have hp : (10 : Nat) ^ ((m_dg t s).take 9).length ≤ 10 ^ 9 := Nat.pow_le_pow_right (by decide) (by rw [ht]; omega)
              have : ((10 : Nat) ^ ((m_dg t s).take 9).length : Nat) = ((10 : Int) ^ ((m_dg t s).take 9).length) := by push_cast; rfl
              rw [← this]
              have : (10 : Nat) ^ 9 = 1000000000 := by decide
              omega
            exact one _ _ (by rw [ht]; omega) (by rw [ht]; omega) (tk_num hb hbl hlt hdg) (by show 26 ≤ 31; omega) (by show 26 ≠ 30; omega) (by show s ≤ 400; omega) hr.1 (by show (m_num 0 ((m_dg t s).take 9)).toInt < _; omega)
          · have hsg : m_sgn b ≤ 31 ∧ m_sgn b ≠ 30 := by
              unfold m_sgn
              split
              · omega
              · split
                · omega
                · split <;> omega
            exact one _ 1 (by omega) (by omega) (tk_sgn hb hbl hlt hdg) hsg.1 hsg.2 (by show s ≤ 400; omega) (by show 0 ≤ (0 : Int32).toInt; omega) (by show (0 : Int32).toInt < _; omega)
theorem tk_ok (hl : t.length ≤ 400) : TkW (m_tk t 0) ∧ (m_tk t 0).length ≤ t.length + 1 := by
  obtain ⟨h1, h2, e, h3, h4⟩ := tkv hl t.length 0 (by omega)
  refine ⟨⟨by omega, h2, fun i y hy => ?_⟩, h1⟩
  rw [h3, List.length_append, List.length_singleton]
  rw [h3] at hy
  by_cases hi : i < e.length
  · rw [List.getElem?_append_left hi] at hy
    have := h4 y (List.mem_of_getElem? hy)
    constructor
    · intro z; exact absurd z this
    · intro z; omega
  · rw [List.getElem?_append_right (by omega)] at hy
    have hi2 : i - e.length = 0 := by
      have := lt_of_get hy
      simp at this
      omega
    rw [hi2] at hy
    have hy : (30, 0, t.length) = y := Option.some.inj hy
    subst hy
    constructor
    · intro _; omega
    · intro _; rfl
end
/-- only the rows of tokens have changed -/
def ScC (σ σ' : am_S) : Prop := (am_kd σ' = am_kd σ ∧ am_nx σ' = am_nx σ ∧ am_sl σ' = am_sl σ) ∧ (∀ g c, am_fI σ' g c = am_fI σ g c ∧ am_fL σ' g c = am_fL σ g c ∧ am_fR σ' g c = am_fR σ g c) ∧ ∀ c, ¬ (1035 ≤ c ∧ c ≤ 1037) → am_eqc σ σ' c
section
variable {nl : Bool} {Ln : Nat} {xs : Nat → Int32} {d : Nat} {σ σ1 σ2 : am_S} {w : ow_T} {kt : Nat × Nat} {n g : Nat} {t : List Int32}
theorem ScC.rf : ScC σ σ := ⟨⟨rfl, rfl, rfl⟩, fun _ _ => ⟨rfl, rfl, rfl⟩, fun _ _ => am_eqc.rf⟩
theorem ScC.trans (h : ScC σ σ1) (h2 : ScC σ1 σ2) : ScC σ σ2 := ⟨⟨h2.1.1.trans h.1.1, h2.1.2.1.trans h.1.2.1, h2.1.2.2.trans h.1.2.2⟩, fun g c => ⟨(h2.2.1 g c).1.trans (h.2.1 g c).1, (h2.2.1 g c).2.1.trans (h.2.1 g c).2.1, (h2.2.1 g c).2.2.trans (h.2.1 g c).2.2⟩, fun c hc => (h.2.2 c hc).trans (h2.2.2 c hc)⟩
theorem ScC.saI {c i : Nat} {x : Int32} (hc : 1035 ≤ c ∧ c ≤ 1037) : ScC σ (am_saI σ c i x) := ⟨⟨rfl, rfl, rfl⟩, fun _ _ => ⟨rfl, rfl, rfl⟩, fun c' h => eqc_saI (fun e => h (by rw [e]; exact hc))⟩
def KtO (w : ow_T) (kt : Nat × Nat) : Prop := ∀ c, 1035 ≤ c → c ≤ 1037 → w c ≠ kt
theorem ByR.sc (h : ByR σ w kt n g t) (r : ScC σ σ1) (hk : KtO w kt) : ByR σ1 w kt n g t := h.fr (fun c hc => ⟨hc, r.2.2 c (fun z => hk c z.1 z.2 hc)⟩)
theorem by_at {i : Nat} {F : Int32 → am_S → Prop} (h : ByR σ w kt n g t) (hi : i < 2147483648) (K : F (if i < t.length then t.getD i 0 else -1) σ) : k_By_byteAt nl Ln xs (d + 1) n (Int32.ofNat i) σ F := by
  obtain ⟨a1, a2, a3, a4, a5, m, b1, b2, b3, b4, b5⟩ := h
  have hg := g13 a3
  have z0 : (0 : Int32).toInt = 0 := by decide
  have h0 : ¬ Int32.ofNat i < 0 := by rw [i32lt, n32 (by omega), z0]; omega
  refine w_By_byteAt ?_
  have hlt : Int32.ofNat i < Int32.ofNat t.length ↔ i < t.length := n32lt (by omega) (by omega)
  rw [a5, b1, Option.getD_some, n32c hi]
  refine ⟨fun _ => is_mk a2, fun _ _ => is_mk a2, fun _ hl => ar_mk b3 (by rw [n32 (by omega)]; omega) (by have := hlt.mp hl; rw [n32 (by omega)]; omega), ?_⟩
  rintro w7 rfl
  rw [if_neg h0]
  by_cases hl : i < t.length
  · rw [if_pos hl] at K
    rw [if_pos (hlt.mpr hl), b4 i hl]
    exact K
  · rw [if_neg hl] at K
    rw [if_neg (fun z => hl (hlt.mp z))]
    exact K
theorem at_get {i : Nat} {b : Int32} (h : t[i]? = some b) : (if i < t.length then t.getD i 0 else -1) = b := by
  rw [if_pos (lt_of_get h)]
  exact getD_of 0 h
/-- the end of a run of letters or digits -/
theorem rd_endOfRun {lo hi : Int32} {q : Int32 → Bool} {s most : Nat} {F : Int32 → am_S → Prop} (hq : ∀ b, q b = true ↔ lo.toInt ≤ b.toInt ∧ b.toInt ≤ hi.toInt) (hlo : 0 ≤ lo.toInt) (hm : most ≤ 400) (hl : t.length ≤ 6000) (h : ByR σ w kt n g t) (K : F (Int32.ofNat (s + (((t.drop s).takeWhile q).take most).length)) σ) : s ≤ t.length → k_Rd_endOfRun nl Ln xs (d + 2) (some n) (Int32.ofNat s) lo hi (Int32.ofNat most) σ F := by
  intro hs
  have hkd := h.2.1
  have ht : (((t.drop s).takeWhile q).take most).length = min most ((t.drop s).takeWhile q).length := List.length_take
  rw [ht] at K
  have hle : ((t.drop s).takeWhile q).length ≤ t.length - s := by rw [← List.length_drop]; exact tw_le _
  have loop : ∀ (m j : Nat), j + m = min most ((t.drop s).takeWhile q).length → c_Rd_endOfRun_6 nl Ln xs (d + 2) (some n) (Int32.ofNat s) lo hi (Int32.ofNat most) (Int32.ofNat (s + j)) (Int32.ofNat j) σ F := by
    intro m
    induction m with
    | zero =>
      intro j hj
      have hj : j = min most ((t.drop s).takeWhile q).length := by omega
      rw [← hj] at K
      refine w_Rd_endOfRun_6 ⟨fun hlt => ⟨is_mk hkd, ?_⟩, fun _ => K⟩
      rw [n32lt (by omega) (by omega)] at hlt
      have hjt : j = ((t.drop s).takeWhile q).length := by omega
      rw [Option.getD_some]
      refine by_at h (by omega) (fun _ => ⟨fun _ => K, fun hnlo => by_at h (by omega) (fun _ => ⟨fun _ => K, fun hnhi => ?_⟩)⟩)
      exfalso
      by_cases hin : s + j < t.length
      · obtain ⟨b, hb⟩ := get_ex hin
        rw [at_get hb, i32lt] at hnlo hnhi
        have hb2 : (t.drop s)[((t.drop s).takeWhile q).length]? = some b := by rw [List.getElem?_drop, ← hjt]; exact hb
        have := tw_stop _ b hb2
        rw [(hq b).mpr ⟨by omega, by omega⟩] at this
        exact absurd this (by decide)
      · rw [if_neg hin, i32lt, show (-1 : Int32).toInt = -1 by decide] at hnlo
        omega
    | succ m ih =>
      intro j hj
      obtain ⟨b, b1, b2, -⟩ := tw_get (q := q) (t.drop s) j (by omega)
      rw [List.getElem?_drop] at b1
      have hb := (hq b).mp b2
      refine w_Rd_endOfRun_6 ⟨fun hlt => ⟨is_mk hkd, ?_⟩, fun hlt => absurd ((n32lt (by omega) (by omega)).mpr (by omega)) hlt⟩
      rw [Option.getD_some]
      refine by_at h (by omega) (fun _ => ?_)
      rw [at_get b1, i32lt]
      refine ⟨fun z => absurd z (by omega), fun _ => by_at h (by omega) (fun _ => ?_)⟩
      rw [at_get b1, i32lt]
      refine ⟨fun z => absurd z (by omega), fun _ => ?_⟩
      rw [n32s, n32s]
      exact ih (j + 1) (by omega)
  exact w_Rd_endOfRun (loop (min most ((t.drop s).takeWhile q).length) 0 (by omega))
theorem nam_at : ∀ wd, wd < 26 → ∀ j, j < 8 → (txt 0)[8 * wd + j]? = some ((m_wd.getD wd []).getD j 32) := by decide +kernel
theorem nam_wd : m_wd.all (fun r => decide (r.length ≤ 8) && r.all (fun b => decide (b ≠ 32))) = true := by decide +kernel
theorem pad_eq : ∀ (l m : List Int32), (∀ b ∈ l, b ≠ 32) → (∀ b ∈ m, b ≠ 32) → (∀ j, j < l.length ∨ j < m.length → l.getD j 32 = m.getD j 32) → l = m
  | [], [], _, _, _ => rfl
  | [], b :: m, _, h2, h => by
    have := h 0 (by simp)
    exact absurd this.symm (h2 b List.mem_cons_self)
  | b :: l, [], h1, _, h => by
    have := h 0 (by simp)
    exact absurd this (h1 b List.mem_cons_self)
  | a :: l, b :: m, h1, h2, h => by
    have h0 : a = b := h 0 (by simp)
    rw [h0, pad_eq l m (fun x hx => h1 x (List.mem_cons_of_mem _ hx)) (fun x hx => h2 x (List.mem_cons_of_mem _ hx)) (fun j hj => h (j + 1) (by simpa using hj))]
theorem rd_wordIn {s : Nat} {r : List Int32} {F : Int32 → am_S → Prop} (hl : t.length ≤ 6000) (h : ByR σ w kt n g t) (hr : r = (t.drop s).takeWhile m_let) (hs : s ≤ t.length) (K : F (Int32.ofNat (m_word r)) σ) : k_Rd_wordIn nl Ln xs (d + 5) (some n) (Int32.ofNat s) (Int32.ofNat (s + r.length)) σ F := by
  have hkd := h.2.1
  have hle : r.length ≤ t.length - s := by rw [hr, ← List.length_drop]; exact tw_le _
  have rb : ∀ b ∈ r, b ≠ 32 := fun b hb e => by
    rw [hr] at hb
    have := of_decide_eq_true (tw_mem hb)
    rw [e] at this
    exact absurd this (by decide)
  have wdb := List.all_eq_true.mp nam_wd
  have hsub : (Int32.ofNat (s + r.length) - Int32.ofNat s) = Int32.ofNat r.length := by
    rw [i32e, i32sub (by rw [n32 (by omega), n32 (by omega)]; omega) (by rw [n32 (by omega), n32 (by omega)]; omega), n32 (by omega), n32 (by omega), n32 (by omega)]
    omega
  have at2 : ∀ (m wd : Nat) (x4 x5 x6 : Option Value), wd + m = 26 → (∀ i, i < wd → m_wd[i]? ≠ some r) → c_Rd_wordIn_2 nl Ln xs (d + 5) (some n) (Int32.ofNat s) (Int32.ofNat (s + r.length)) (Int32.ofNat wd) x4 x5 x6 σ F := by
    intro m
    induction m with
    | zero =>
      intro wd x4 x5 x6 hwd hno
      have hw : m_word r = 31 := by
        rcases word_rng r with h1 | h1
        · exact absurd ((word_eq h1).mp rfl) (hno _ (by omega))
        · exact h1
      rw [hw] at K
      exact w_Rd_wordIn_2 ⟨fun z => absurd ((n32lt (a := wd) (b := 26) (by omega) (by omega)).mp z) (by omega), fun _ => K⟩
    | succ m ih =>
      intro wd x4 x5 x6 hwd hno
      refine w_Rd_wordIn_2 ⟨fun _ => ⟨fun h8 => ?_, fun h8 => ?_⟩, fun z => absurd (show Int32.ofNat wd < Int32.ofNat 26 from (n32lt (by omega) (by omega)).mpr (by omega)) z⟩
      · rw [hsub] at h8
        have h8 : 8 < r.length := (n32lt (a := 8) (b := r.length) (by omega) (by omega)).mp h8
        have hw : m_word r = 31 := by
          rcases word_rng r with h1 | h1
          · have := (word_eq h1).mp rfl
            have := wdb r (List.mem_of_getElem? this)
            rw [Bool.and_eq_true] at this
            have := of_decide_eq_true this.1
            omega
          · exact h1
        rw [hw] at K
        exact K
      · rw [hsub] at h8
        have h8 : ¬ 8 < r.length := fun z => h8 ((n32lt (a := 8) (b := r.length) (by omega) (by omega)).mpr z)
        obtain ⟨v, hv⟩ : ∃ v, m_wd[wd]? = some v := get_ex (by show wd < m_wd.length; rw [show m_wd.length = 26 by decide]; omega)
        have gv : m_wd.getD wd [] = v := getD_of [] hv
        have hvb := wdb v (List.mem_of_getElem? hv)
        rw [Bool.and_eq_true] at hvb
        have v8 := of_decide_eq_true hvb.1
        have vb : ∀ b ∈ v, b ≠ 32 := fun b hb => of_decide_eq_true (List.all_eq_true.mp hvb.2 b hb)
        -- the next word
        have next : v ≠ r → ∀ x4 x5 x6, c_Rd_wordIn_2 nl Ln xs (d + 5) (some n) (Int32.ofNat s) (Int32.ofNat (s + r.length)) (Int32.ofNat wd + 1) x4 x5 x6 σ F := fun hne x4 x5 x6 => by
          rw [n32s]
          refine ih (wd + 1) x4 x5 x6 (by omega) (fun i hi => ?_)
          by_cases hiw : i = wd
          · rw [hiw, hv]
            exact fun z => hne (Option.some.inj z)
          · exact hno i (by omega)
        have at22 : ∀ (m j : Nat) (same : Bool) (x6 : Option Value), j + m = 8 → (same = true → ∀ i, i < j → r.getD i 32 = v.getD i 32) → (same = false → v ≠ r) → c_Rd_wordIn_22 nl Ln xs (d + 5) (some n) (Int32.ofNat s) (Int32.ofNat (s + r.length)) (Int32.ofNat wd) (b2i same) (Int32.ofNat j) x6 σ F := by
          intro m
          induction m with
          | zero =>
            intro j same x6 hj hsame hdiff
            refine w_Rd_wordIn_22 ⟨fun z => absurd ((n32lt (a := j) (b := 8) (by omega) (by omega)).mp z) (by omega), fun _ => ⟨fun z => ?_, fun z => ?_⟩⟩
            · cases same with
              | true => exact absurd z (by decide)
              | false => exact next (hdiff rfl) _ _ _
            · cases same with
              | true =>
                have : r = v := pad_eq r v rb vb (fun i hi => hsame rfl i (by omega))
                have hw : m_word r = wd := (word_eq (by omega)).mpr (by rw [this]; exact hv)
                rw [hw] at K
                exact K
              | false => exact absurd rfl z
          | succ m ih2 =>
            intro j same x6 hj hsame hdiff
            have lt8 : Int32.ofNat j < 8 := (n32lt (a := j) (b := 8) (by omega) (by omega)).mpr (by omega)
            refine w_Rd_wordIn_22 ⟨fun _ => ⟨fun z => ⟨fun _ => ?_, fun z' => absurd z z'⟩, fun z => ?_⟩, fun z => absurd lt8 z⟩
            · cases same with
              | true => exact absurd z (by decide)
              | false => exact next (hdiff rfl) _ _ _
            · have hst : same = true := by
                cases same with
                | true => rfl
                | false => exact absurd rfl z
              have ix : (Int32.ofNat wd * 8) + Int32.ofNat j = Int32.ofNat (8 * wd + j) := by
                have e1 : (Int32.ofNat wd * 8) = Int32.ofNat (8 * wd) := by
                  rw [i32e, i32mul (by rw [n32 (by omega), show (8 : Int32).toInt = 8 by decide]; omega) (by rw [n32 (by omega), show (8 : Int32).toInt = 8 by decide]; omega), n32 (by omega), n32 (by omega), show (8 : Int32).toInt = 8 by decide]
                  omega
                rw [e1, n32a]
              have at55 : ∀ (y : Int32), y = r.getD j 32 → c_Rd_wordIn_55 nl Ln xs (d + 5) (some n) (Int32.ofNat s) (Int32.ofNat (s + r.length)) (Int32.ofNat wd) (b2i same) (Int32.ofNat j) x6 y σ F := fun y hy => by
                refine w_Rd_wordIn_55 ⟨⟨by decide, rk_txt (by decide)⟩, ?_⟩
                rw [ix]
                refine r_charAt (d := d) (by decide) (nam_at wd (by omega) j (by omega)) (fun _ => ?_)
                rw [gv, n32s]
                by_cases he : y = v.getD j 32
                · rw [if_pos he]
                  refine ih2 (j + 1) true _ (by omega) (fun _ i hi => ?_) (fun z => absurd z (by decide))
                  by_cases hij : i = j
                  · rw [hij, ← hy, he]
                  · exact hsame hst i (by omega)
                · rw [if_neg he]
                  exact ih2 (j + 1) false _ (by omega) (fun z => absurd z (by decide)) (fun _ hvr => he (by rw [hy, hvr]))
              rw [n32a]
              refine ⟨fun hlt => ⟨is_mk hkd, ?_⟩, fun hlt => at55 32 ?_⟩
              · rw [n32lt (by omega) (by omega)] at hlt
                rw [Option.getD_some]
                refine by_at h (by omega) (fun _ => at55 _ ?_)
                obtain ⟨b, b1, b2, b3⟩ := tw_get (q := m_let) (t.drop s) j (by rw [← hr]; omega)
                rw [List.getElem?_drop] at b1
                rw [at_get b1]
                rw [← hr] at b3
                exact (getD_of 32 b3).symm
              · rw [n32lt (by omega) (by omega)] at hlt
                rw [List.getD_eq_getElem?_getD, List.getElem?_eq_none (by omega)]
                rfl
        exact at22 8 0 true x6 (by omega) (fun _ i hi => absurd hi (by omega)) (fun z => absurd z (by decide))
  exact w_Rd_wordIn (at2 26 0 none none none (by omega) (fun i hi => absurd hi (by omega)))
end
