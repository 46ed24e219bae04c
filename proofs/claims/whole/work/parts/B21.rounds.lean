/-! THE CLASS: shares by rounds -/
theorem min_least (a b : Int64) : (if b < a then b else a) = m_least a b := by
  unfold m_least
  by_cases h1 : b < a
  · rw [if_pos h1]
    rw [i64lt] at h1
    rw [if_neg (by rw [i64lt]; omega)]
  · rw [if_neg h1]
    rw [i64lt] at h1
    by_cases h2 : a < b
    · rw [if_pos h2]
    · rw [if_neg h2]
      rw [i64lt] at h2
      rw [i64e]
      omega
theorem n3264 {n : Nat} (h : n < 2147483648) : (Int32.ofNat n).toInt64 = Int64.ofNat n := by
  rw [i64e, t64, n32 h]
  rw [Int64.toInt_ofNat_of_lt (by omega)]
theorem up_id (g : Nat → Int64) (y : Nat) : va_up g y (g y) = g := by
  funext j
  by_cases h : j = y
  · rw [h, up_same]
  · rw [am_vup h]
theorem i64a0 (a : Int64) : a + 0 = a := by grind
theorem i64s0 (a : Int64) : a - 0 = a := by grind
theorem give_zero {al : Nat → Option Int64} : ∀ (l : List Nat) (x : (Nat → Int64) × Int64), (∀ y ∈ l, 0 ≤ (x.1 y).toInt ∧ (x.1 y).toInt ≤ (alv al y).toInt) → m_give al 0 l x = x
  | [], _, _ => rfl
  | y :: l, x, h => by
    have hy := h y List.mem_cons_self
    have e0 : m_least ((al y).getD 0 - x.1 y) 0 = 0 := by
      unfold m_least
      have z0 : (0 : Int64).toInt = 0 := by decide
      have hm : ((al y).getD 0).toInt ≤ 9223372036854775807 := Int64.toInt_le _
      have hy2 : (x.1 y).toInt ≤ ((al y).getD 0).toInt := hy.2
      rw [if_neg (by rw [i64lt, i64sub (by omega) (by omega), z0]; omega)]
    unfold m_give
    rw [e0, i64a0, i64s0, up_id]
    exact give_zero l x (fun z hz => h z (List.mem_cons_of_mem _ hz))
section
variable {nl : Bool} {Ln : Nat} {xs : Nat → Int32} {d : Nat} {σ σ1 : am_S} {wk ab v : Nat} {ord : List Nat} {al : Nat → Option Int64} {g : Nat → Int64}
/-- how many lack -/
theorem wk_lacking {x1 x4 : Int64} {x6 : Int32} {x9 x10 x11 x12 : Option Value} {F : am_S → Prop} (S : ShB σ wk ab v ord al) (G : GeW σ ab g) (K0 : m_lack al g ord = 0 → F σ) (K1 : m_lack al g ord ≠ 0 → c_Wk_shareByRounds_93 nl Ln xs (d + 2) wk x1 (Int32.ofNat ord.length) x4 x6 (Int32.ofNat (m_lack al g ord)) (x4 / Int64.ofNat (m_lack al g ord)) 0 x11 x12 σ F) : c_Wk_shareByRounds_26 nl Ln xs (d + 2) wk x1 (Int32.ofNat ord.length) x4 x6 0 0 x9 x10 x11 x12 σ F := by
  have hll := lack_le al g ord
  have h66 := S.2.2.2.2.2.1
  have loop : ∀ (n k a : Nat), k + n = ord.length → a + m_lack al g (ord.drop k) = m_lack al g ord → c_Wk_shareByRounds_26 nl Ln xs (d + 2) wk x1 (Int32.ofNat ord.length) x4 x6 (Int32.ofNat a) (Int32.ofNat k) x9 x10 x11 x12 σ F := by
    intro n
    induction n with
    | zero =>
      intro k a hk ha
      rw [List.drop_of_length_le (by omega)] at ha
      have ha : a = m_lack al g ord := ha
      subst ha
      refine w_Wk_shareByRounds_26 ⟨fun q => absurd ((n32lt (by omega) (by omega)).mp q) (by omega), fun _ => ⟨fun q => ?_, fun q => ?_⟩⟩
      · exact K0 ((n32i (by omega) (by omega)).mp q)
      · have q' : m_lack al g ord ≠ 0 := fun z => q (by rw [z]; rfl)
        rw [n3264 (by omega)]
        refine ⟨fun z => q' ?_, ?_⟩
        · have := congrArg Int64.toInt z
          rw [Int64.toInt_ofNat_of_lt (by omega), show (0 : Int64).toInt = 0 by decide] at this
          omega
        · rintro v15 rfl
          exact K1 q'
    | succ n ih =>
      intro k a hk ha
      obtain ⟨y, hyk⟩ := get_ex (show k < ord.length by omega)
      obtain ⟨hy6, hys⟩ := S.2.2.2.2.2.2 y (List.mem_of_getElem? hyk)
      have h66 := S.2.2.2.2.2.1
      have bk : 0 ≤ (Int32.ofNat k).toInt ∧ (Int32.ofNat k).toInt < 6 := by rw [n32 (by omega)]; omega
      have bz : 0 ≤ (Int32.ofNat y).toInt ∧ (Int32.ofNat y).toInt < 6 := by rw [n32 (by omega)]; omega
      have nk : (Int32.ofNat k).toNatClampNeg = k := n32c (by omega)
      have nz : (Int32.ofNat y).toNatClampNeg = y := n32c (by omega)
      have vt := S.2.2.2.1 k y hyk
      have va := (S.2.2.2.2.1 y hy6).trans (al_v hys)
      have vg := G y hy6
      obtain ⟨⟨-, -, -, f17, f18, f19⟩, -, -, -, k4, k5, k6⟩ := S.2.2.1
      rw [drop_get hyk, lack_cons] at ha
      refine w_Wk_shareByRounds_26 ⟨fun _ => ⟨is_mk S.2.1, ?_⟩, fun q => absurd ((n32lt (by omega) (by omega)).mpr (by omega)) q⟩
      rw [f17, f18, f19, Option.getD_some, Option.getD_some, Option.getD_some, nk, vt, nz, va, vg, n32s]
      refine ⟨ar_mk k6 bk.1 bk.2, ar_mk k5 bz.1 bz.2, ar_mk k6 bk.1 bk.2, ar_mk k4 bz.1 bz.2, ?_⟩
      rintro v11 rfl
      by_cases hl : g y < (al y).getD 0
      · rw [if_pos hl] at ha ⊢
        rw [n32s]
        exact ih (k + 1) (a + 1) (by omega) (by omega)
      · rw [if_neg hl] at ha ⊢
        rw [show Int32.ofNat a + 0 = Int32.ofNat a from n32a a 0]
        exact ih (k + 1) a (by omega) (by omega)
  exact loop ord.length 0 0 (by omega) (by rw [List.drop_zero]; omega)
/-- what each gets in a round -/
theorem wk_giveAll {x1 x4 each : Int64} {x6 x7 : Int32} {x11 x12 : Option Value} {F : am_S → Prop} (S : ShB σ wk ab v ord al) (G : GeW σ ab g) (K : ∀ σ', ShB σ' wk ab v ord al → GeW σ' ab (m_give al each ord (g, x4)).1 → ShC wk ab v σ σ' → ∀ y11 y12, c_Wk_shareByRounds_93 nl Ln xs (d + 2) wk x1 (Int32.ofNat ord.length) (m_give al each ord (g, x4)).2 x6 x7 each (Int32.ofNat ord.length) y11 y12 σ' F) : c_Wk_shareByRounds_93 nl Ln xs (d + 2) wk x1 (Int32.ofNat ord.length) x4 x6 x7 each 0 x11 x12 σ F := by
  have loop : ∀ (n k : Nat) (g : Nat → Int64) (x4 : Int64) (σ : am_S) (x11 x12 : Option Value), k + n = ord.length → ShB σ wk ab v ord al → GeW σ ab g → (∀ σ', ShB σ' wk ab v ord al → GeW σ' ab (m_give al each (ord.drop k) (g, x4)).1 → ShC wk ab v σ σ' → ∀ y11 y12, c_Wk_shareByRounds_93 nl Ln xs (d + 2) wk x1 (Int32.ofNat ord.length) (m_give al each (ord.drop k) (g, x4)).2 x6 x7 each (Int32.ofNat ord.length) y11 y12 σ' F) → c_Wk_shareByRounds_93 nl Ln xs (d + 2) wk x1 (Int32.ofNat ord.length) x4 x6 x7 each (Int32.ofNat k) x11 x12 σ F := by
    intro n
    induction n with
    | zero =>
      intro k g x4 σ x11 x12 hk S G K
      obtain rfl : k = ord.length := by omega
      rw [List.drop_of_length_le (by omega)] at K
      exact K σ S G Wc.rf x11 x12
    | succ n ih =>
      intro k g x4 σ x11 x12 hk S G K
      obtain ⟨y, hyk⟩ := get_ex (show k < ord.length by omega)
      obtain ⟨hy6, hys⟩ := S.2.2.2.2.2.2 y (List.mem_of_getElem? hyk)
      have h66 := S.2.2.2.2.2.1
      have bk : 0 ≤ (Int32.ofNat k).toInt ∧ (Int32.ofNat k).toInt < 6 := by rw [n32 (by omega)]; omega
      have bz : 0 ≤ (Int32.ofNat y).toInt ∧ (Int32.ofNat y).toInt < 6 := by rw [n32 (by omega)]; omega
      have nk : (Int32.ofNat k).toNatClampNeg = k := n32c (by omega)
      have nz : (Int32.ofNat y).toNatClampNeg = y := n32c (by omega)
      have vt := S.2.2.2.1 k y hyk
      have va := (S.2.2.2.2.1 y hy6).trans (al_v hys)
      have vg := G y hy6
      obtain ⟨⟨-, -, -, f17, f18, f19⟩, -, -, -, k4, k5, k6⟩ := S.2.2.1
      rw [drop_get hyk] at K
      refine w_Wk_shareByRounds_93 ⟨fun _ => ⟨is_mk S.2.1, ?_⟩, fun q => absurd ((n32lt (by omega) (by omega)).mpr (by omega)) q⟩
      rw [f17, f18, f19, Option.getD_some, Option.getD_some, Option.getD_some, nk, vt, nz, va, vg, n32s]
      refine ⟨ar_mk k6 bk.1 bk.2, ar_mk k4 bz.1 bz.2, ar_mk k6 bk.1 bk.2, ar_mk k5 bz.1 bz.2, w_Math_min ?_⟩
      intro w3 e3 _
      rw [min_least] at e3
      subst e3
      rw [f18, f19, Option.getD_some, Option.getD_some, vt, nz, vg]
      refine ⟨ar_mk k6 bk.1 bk.2, ar_mk k5 bz.1 bz.2, ar_mk k5 bz.1 bz.2, ?_⟩
      intro s12 q12
      have r12 : ShC wk ab v σ s12 := by rw [q12]; exact Wc.saL (k := 5) (by decide)
      rintro v15 rfl
      exact ih (k + 1) _ _ s12 _ _ (by omega) (S.wc r12) (G.set q12) (fun s2 S2 G2 r2 => K s2 S2 G2 (r12.trans r2))
  exact loop ord.length 0 g x4 σ x11 x12 (by omega) S G K
theorem wk_byRounds {x1 : Int64} {F : am_S → Prop} (hn : ord.Nodup) (hB : ∀ y ∈ ord, (alv al y).toInt ≤ 10000000000000) (hD : m_rdone al ord 14 (g, x1)) (hI : ∀ y ∈ ord, 0 ≤ (g y).toInt ∧ (g y).toInt ≤ (alv al y).toInt) (S : ShB σ wk ab v ord al) (G : GeW σ ab g) (K : ∀ σ', ShB σ' wk ab v ord al → GeW σ' ab (m_rounds al ord 14 (g, x1)).1 → ShC wk ab v σ σ' → F σ') : k_Wk_shareByRounds nl Ln xs (d + 3) wk x1 (Int32.ofNat ord.length) σ F := by
  have z0 : (0 : Int64).toInt = 0 := by decide
  have loop : ∀ (n r : Nat) (g : Nat → Int64) (x4 : Int64) (σ : am_S) (x7 x8 x9 x10 x11 x12 : Option Value), r + n = 14 → m_rdone al ord n (g, x4) → (∀ y ∈ ord, 0 ≤ (g y).toInt ∧ (g y).toInt ≤ (alv al y).toInt) → ShB σ wk ab v ord al → GeW σ ab g → (∀ σ', ShB σ' wk ab v ord al → GeW σ' ab (m_rounds al ord n (g, x4)).1 → ShC wk ab v σ σ' → F σ') → c_Wk_shareByRounds_6 nl Ln xs (d + 3) wk x1 (Int32.ofNat ord.length) x4 (Int32.ofNat r) x7 x8 x9 x10 x11 x12 σ F := by
    intro n
    induction n with
    | zero => intro r g x4 σ _ _ _ _ _ _ _ hD; exact hD.elim
    | succ n ih =>
      intro r g x4 σ x7 x8 x9 x10 x11 x12 hr hD hI S G K
      have hll := lack_le al g ord
      have h66 := S.2.2.2.2.2.1
      unfold m_rounds at K
      refine w_Wk_shareByRounds_6 ⟨fun _ => ⟨fun hx => ?_, fun hx => ?_⟩, fun q => absurd ((n32lt (a := r) (b := 14) (by omega) (by omega)).mpr (by omega)) q⟩
      · have hx' : 0 < x4.toInt := by rw [i64lt, z0] at hx; exact hx
        refine wk_lacking (d := d + 1) S G (fun h0 => ?_) (fun h0 => ?_)
        · rw [if_neg (fun z => z.2 h0)] at K
          exact K σ S G Wc.rf
        · rw [if_pos ⟨hx', h0⟩] at K
          have hD' := hD ⟨hx', h0⟩
          refine wk_giveAll (d := d + 1) S G (fun s2 S2 G2 r2 y11 y12 => ?_)
          refine w_Wk_shareByRounds_93 ⟨fun q => absurd ((n32lt (by omega) (by omega)).mp q) (by omega), fun _ => ⟨fun he => ⟨is_mk S2.2.1, ?_⟩, fun he => ?_⟩⟩
          · rw [if_pos he] at K
            rw [he, give_zero ord (g, x4) hI] at G2 ⊢
            refine wk_giveCents (d := d + 1) S2 G2 (fun s3 S3 G3 r3 _ => ?_)
            have hx3 := hD'.1 he
            refine w_Wk_shareByRounds_6 ⟨fun _ => ⟨fun hx => ?_, fun _ => K s3 S3 G3 (r2.trans r3)⟩, fun _ => K s3 S3 G3 (r2.trans r3)⟩
            rw [i64lt, z0] at hx
            have hx3' : (m_cent al ord ((g, x4).1, (g, x4).2)).2.toInt ≤ 0 := hx3
            exact absurd hx (by omega)
          · rw [if_neg he] at K
            have hlk : (Int64.ofNat (m_lack al g ord)).toInt = m_lack al g ord := Int64.toInt_ofNat_of_lt (by omega)
            have hlp : 0 < (Int64.ofNat (m_lack al g ord)).toInt := by rw [hlk]; omega
            have hev : (x4 / Int64.ofNat (m_lack al g ord)).toInt = x4.toInt / (m_lack al g ord : Int) := by rw [i64div (by omega) hlp, hlk]
            have he0 : 0 ≤ x4.toInt / (m_lack al g ord : Int) := Int.ediv_nonneg (by omega) (by omega)
            have hep : 0 < (x4 / Int64.ofNat (m_lack al g ord)).toInt := by
              have : (x4 / Int64.ofNat (m_lack al g ord)).toInt ≠ 0 := fun z => he (by rw [i64e, z, z0])
              omega
            have hem : (x4 / Int64.ofNat (m_lack al g ord)).toInt * (m_lack al g ord : Int) ≤ x4.toInt := by rw [hev]; exact Int.ediv_mul_le _ (by omega)
            obtain ⟨-, -, -, -, hI2, -⟩ := give_ok hn hB hep ord (g, x4) hn (fun y hy => hy) hI hem
            rw [n32s]
            exact ih (r + 1) _ _ s2 _ _ _ _ _ _ (by omega) (hD'.2 he) hI2 S2 G2 (fun s3 S3 G3 r3 => K s3 S3 G3 (r2.trans r3))
      · have hx' : ¬ 0 < x4.toInt := by rw [i64lt, z0] at hx; exact hx
        rw [if_neg (fun z => hx' z.1)] at K
        exact K σ S G Wc.rf
  exact w_Wk_shareByRounds (loop 14 0 g x1 σ none none none none none none (by omega) hD hI S G K)
end
