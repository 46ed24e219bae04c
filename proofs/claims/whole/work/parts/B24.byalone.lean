/-! THE CLASS: shares by what each has alone -/
section
variable {nl : Bool} {Ln : Nat} {xs : Nat → Int32} {d : Nat} {σ σ1 : am_S} {w : ow_T} {wk ab v b : Nat} {P : List mPol} {T : List mTell} {Ls : List mLoss} {Cs : List mCase} {i : Nat} {x : mCase} {cc lc : Nat} {day at' : Int32} {C : List mCl} {p pc : Nat} {q : mPol} {hd : Option Nat} {sum worth s : Int64} {rows : List mRow} {tr : List Int32} {fnd : Int32} {ov : Bool} {ord : List Nat} {al : Nat → Option Int64} {g : Nat → Int64}
theorem WkX.sh (X : WkX σ w wk ab v b P T Ls Cs i x cc lc day at' C p pc q hd sum worth s rows tr fnd ov) (r : Wc wk ab v [] [5] [] [] σ σ1) : WkX σ1 w wk ab v b P T Ls Cs i x cc lc day at' C p pc q hd sum worth s rows tr fnd ov :=
  X.al (Wc.mono r (by simp) (by decide) (by simp) (by simp))
theorem WkX.tm (X : WkX σ w wk ab v b P T Ls Cs i x cc lc day at' C p pc q hd sum worth s rows tr fnd ov) {fnd' : Int32} {ov' : Bool} (B : WkB σ1 w wk ab v b P T Ls Cs i x cc lc day at' s rows tr fnd' ov') (r : Wc wk ab v [] [] [3006, 3007] [] σ σ1) : WkX σ1 w wk ab v b P T Ls Cs i x cc lc day at' C p pc q hd sum worth s rows tr fnd' ov' :=
  X.wc r (by decide) (by simp) (by simp) (by simp) B.1.2.2.2.2.1 B.2.2.2.1.2.2 ((r.fL (by simp) (by decide)).trans X.2.2.2.2)
theorem sh6 {wk ab v : Nat} {σ σ' : am_S} (r : Wc wk ab v [] [] [3006, 3007] [] σ σ') : ShG wk ab v σ σ' := Wc.mono r (by simp) (by simp) (by decide) (by simp)
/-- a step: what one gets -/
theorem wk_part {x1 x3 x6 : Int64} {x9 : Option Value} {k y : Nat} {F : am_S → Prop} (h3 : x3 ≠ 0) (h1 : 0 ≤ x1.toInt) (hyk : ord[k]? = some y) (hy0 : 0 ≤ (alv al y).toInt) (X : WkX σ w wk ab v b P T Ls Cs i x cc lc day at' C p pc q hd sum worth s rows tr fnd ov) (S : ShB σ wk ab v ord al)
    (K1 : m_great x1 (alv al y) = true → ∀ σ' r' x9', WkX σ' w wk ab v b P T Ls Cs i x cc lc day at' C p pc q hd sum worth s rows tr 5 true → ShB σ' wk ab v ord al → ShG wk ab v σ σ' → c_Wk_shareByAlone_21 nl Ln xs (d + 2) wk x1 x3 (Int32.ofNat ord.length) r' (Int32.ofNat (k + 1)) x9' σ' F)
    (K2 : m_great x1 (alv al y) = false → ∀ σ' x9', WkX σ' w wk ab v b P T Ls Cs i x cc lc day at' C p pc q hd sum worth s rows tr fnd ov → ShB σ' wk ab v ord al → σ' = am_saL σ (ab + 5) y (x1 * alv al y / x3) → ShG wk ab v σ σ' → c_Wk_shareByAlone_21 nl Ln xs (d + 2) wk x1 x3 (Int32.ofNat ord.length) (x6 - x1 * alv al y / x3) (Int32.ofNat (k + 1)) x9' σ' F) : c_Wk_shareByAlone_21 nl Ln xs (d + 2) wk x1 x3 (Int32.ofNat ord.length) x6 (Int32.ofNat k) x9 σ F := by
  have hk : k < ord.length := (List.getElem?_eq_some_iff.mp hyk).1
  obtain ⟨hy6, hys⟩ := S.2.2.2.2.2.2 y (List.mem_of_getElem? hyk)
  have h66 := S.2.2.2.2.2.1
  have bk : 0 ≤ (Int32.ofNat k).toInt ∧ (Int32.ofNat k).toInt < 6 := by rw [n32 (by omega)]; omega
  have bz : 0 ≤ (Int32.ofNat y).toInt ∧ (Int32.ofNat y).toInt < 6 := by rw [n32 (by omega)]; omega
  have nz : (Int32.ofNat y).toNatClampNeg = y := n32c (by omega)
  have vt := S.2.2.2.1 k y hyk
  have va := (S.2.2.2.2.1 y hy6).trans (al_v hys)
  obtain ⟨⟨-, -, -, f17, f18, f19⟩, -, -, -, k4, k5, k6⟩ := S.2.2.1
  refine w_Wk_shareByAlone_21 ⟨fun _ => ⟨is_mk S.2.1, ?_⟩, fun z => absurd ((n32lt (by omega) (by omega)).mpr hk) z⟩
  rw [f17, f18, f19, Option.getD_some, Option.getD_some, Option.getD_some, n32c (show k < 2147483648 by omega), vt, n32s]
  refine ⟨ar_mk k6 bk.1 bk.2, ?_⟩
  rintro v4 rfl
  rw [nz, va]
  refine ⟨ar_mk k4 bz.1 bz.2, wk_times (d := d) X.1 h1 hy0 (fun hg s7 B7 r7 _ => ?_) (fun hg _ => ?_)⟩
  · have X7 := X.tm B7 r7
    refine ⟨h3, ar_mk (by rw [r7.kd]; exact k5) bz.1 bz.2, ?_⟩
    intro s11 q11
    have r11 : Wc wk ab v [] [5] [] [] s7 s11 := by rw [q11]; exact Wc.saL (k := 5) (by decide)
    have X11 := X7.sh r11
    have S11 := (S.wcG (sh6 r7)).wcG (sh5 r11)
    rw [X11.1.2.2.2.2.1.2.2.2.2.1]
    refine ⟨ar_mk (by rw [r11.kd, r7.kd]; exact k5) bz.1 bz.2, ?_⟩
    rintro v15 rfl
    exact K1 hg s11 _ _ X11 S11 (Wc.trans (sh6 r7) (sh5 r11))
  · refine ⟨h3, ar_mk k5 bz.1 bz.2, ?_⟩
    intro s11 q11
    have r11 : Wc wk ab v [] [5] [] [] σ s11 := by rw [q11]; exact Wc.saL (k := 5) (by decide)
    have X11 := X.sh r11
    have S11 := S.wcG (sh5 r11)
    rw [X11.1.2.2.2.2.1.2.2.2.2.1, Option.getD_some]
    refine ⟨ar_mk (by rw [r11.kd]; exact k5) bz.1 bz.2, ?_⟩
    rw [saL_all q11, if_pos rfl]
    rintro v15 rfl
    exact K2 hg s11 _ X11 S11 q11 (sh5 r11)
/-- a product is too great -/
theorem wk_partsG {x1 x3 : Int64} {F : am_S → Prop} (h3 : x3 ≠ 0) (h1 : 0 ≤ x1.toInt) (hB : ∀ y ∈ ord, 0 ≤ (alv al y).toInt) : ∀ (n k : Nat) (x6 : Int64) (x9 : Option Value) (σ : am_S) (fnd : Int32) (ov : Bool), k + n = ord.length → ((fnd = 5 ∧ ov = true) ∨ ((fnd = 0 ∧ ov = false) ∧ ∃ y ∈ ord.drop k, m_great x1 (alv al y) = true)) → WkX σ w wk ab v b P T Ls Cs i x cc lc day at' C p pc q hd sum worth s rows tr fnd ov → ShB σ wk ab v ord al → (∀ σ', WkX σ' w wk ab v b P T Ls Cs i x cc lc day at' C p pc q hd sum worth s rows tr 5 true → ShG wk ab v σ σ' → F σ') → c_Wk_shareByAlone_21 nl Ln xs (d + 2) wk x1 x3 (Int32.ofNat ord.length) x6 (Int32.ofNat k) x9 σ F := by
  intro n
  induction n with
  | zero =>
    intro k x6 x9 σ fnd ov hk hg X S K
    have h66 := S.2.2.2.2.2.1
    rcases hg with ⟨rfl, rfl⟩ | ⟨-, y, hy, -⟩
    · refine w_Wk_shareByAlone_21 ⟨fun z => absurd ((n32lt (by omega) (by omega)).mp z) (by omega), fun _ => w_Wk_shareByAlone_79 ⟨fun _ => ⟨fun _ => ⟨is_mk S.2.1, ?_⟩, fun _ => K σ X Wc.rf⟩, fun _ => K σ X Wc.rf⟩⟩
      have V := X.1.1.2.2.2.2.1
      rw [X.1.1.2.2.2.1, Option.getD_some, V.2.2.2.2]
      exact ⟨is_mk V.1.1, fun z => absurd z (by decide), fun _ => K σ X Wc.rf⟩
    · rw [List.drop_of_length_le (by omega)] at hy
      exact absurd hy (by simp)
  | succ n ih =>
    intro k x6 x9 σ fnd ov hk hg X S K
    obtain ⟨y, hyk⟩ := get_ex (show k < ord.length by omega)
    refine wk_part h3 h1 hyk (hB y (List.mem_of_getElem? hyk)) X S (fun hgr s1 r' x9' X1 S1 r1 => ?_) (fun hgr s1 x9' X1 S1 _ r1 => ?_)
    · exact ih (k + 1) _ _ s1 5 true (by omega) (Or.inl ⟨rfl, rfl⟩) X1 S1 (fun s2 X2 r2 => K s2 X2 (Wc.trans r1 r2))
    · refine ih (k + 1) _ _ s1 fnd ov (by omega) ?_ X1 S1 (fun s2 X2 r2 => K s2 X2 (Wc.trans r1 r2))
      rcases hg with hg | ⟨h0, z, hz, hzg⟩
      · exact Or.inl hg
      · refine Or.inr ⟨h0, z, ?_, hzg⟩
        rw [drop_get hyk] at hz
        rcases List.mem_cons.mp hz with e | e
        · rw [e, hgr] at hzg
          exact absurd hzg (by decide)
        · exact e
/-- none is: what each gets, and the cents behind -/
theorem wk_partsN {x1 x3 : Int64} {F : am_S → Prop} (h3 : x3 ≠ 0) (h1 : 0 ≤ x1.toInt) (hB : ∀ y ∈ ord, 0 ≤ (alv al y).toInt) (hg : ∀ y ∈ ord, m_great x1 (alv al y) = false) : ∀ (n k : Nat) (g : Nat → Int64) (x6 : Int64) (x9 : Option Value) (σ : am_S), k + n = ord.length → WkX σ w wk ab v b P T Ls Cs i x cc lc day at' C p pc q hd sum worth s rows tr 0 false → ShB σ wk ab v ord al → GeW σ ab g → (∀ σ' x9', WkX σ' w wk ab v b P T Ls Cs i x cc lc day at' C p pc q hd sum worth s rows tr 0 false → ShB σ' wk ab v ord al → GeW σ' ab (m_parts al x1 x3 (ord.drop k) (g, x6)).1 → ShG wk ab v σ σ' → c_Wk_shareByAlone_79 nl Ln xs (d + 2) wk x1 x3 (Int32.ofNat ord.length) (m_parts al x1 x3 (ord.drop k) (g, x6)).2 0 x9' σ' F) → c_Wk_shareByAlone_21 nl Ln xs (d + 2) wk x1 x3 (Int32.ofNat ord.length) x6 (Int32.ofNat k) x9 σ F := by
  intro n
  induction n with
  | zero =>
    intro k g x6 x9 σ hk X S G K
    have h66 := S.2.2.2.2.2.1
    rw [List.drop_of_length_le (by omega)] at K
    exact w_Wk_shareByAlone_21 ⟨fun z => absurd ((n32lt (by omega) (by omega)).mp z) (by omega), fun _ => K σ x9 X S G Wc.rf⟩
  | succ n ih =>
    intro k g x6 x9 σ hk X S G K
    obtain ⟨y, hyk⟩ := get_ex (show k < ord.length by omega)
    rw [drop_get hyk] at K
    have hgy := hg y (List.mem_of_getElem? hyk)
    refine wk_part h3 h1 hyk (hB y (List.mem_of_getElem? hyk)) X S (fun hgr => ?_) (fun _ s1 x9' X1 S1 e1 r1 => ?_)
    · rw [hgy] at hgr
      exact absurd hgr (by decide)
    · exact ih (k + 1) _ _ _ s1 (by omega) X1 S1 (G.set e1) (fun s2 x9'' X2 S2 G2 r2 => K s2 x9'' X2 S2 G2 (Wc.trans r1 r2))
theorem wk_cents {x1 x3 : Int64} {x9 : Option Value} {F : am_S → Prop} : ∀ (n r : Nat) (g : Nat → Int64) (x6 : Int64) (σ : am_S), r + n = 6 → WkX σ w wk ab v b P T Ls Cs i x cc lc day at' C p pc q hd sum worth s rows tr 0 false → ShB σ wk ab v ord al → GeW σ ab g → (∀ σ', WkX σ' w wk ab v b P T Ls Cs i x cc lc day at' C p pc q hd sum worth s rows tr 0 false → ShB σ' wk ab v ord al → GeW σ' ab (m_cents al ord n (g, x6)).1 → ShG wk ab v σ σ' → F σ') → c_Wk_shareByAlone_79 nl Ln xs (d + 2) wk x1 x3 (Int32.ofNat ord.length) x6 (Int32.ofNat r) x9 σ F := by
  have z0 : (0 : Int64).toInt = 0 := by decide
  intro n
  induction n with
  | zero =>
    intro r g x6 σ hr X S G K
    obtain rfl : r = 6 := by omega
    exact w_Wk_shareByAlone_79 ⟨fun z => absurd z (by decide), fun _ => K σ X S G Wc.rf⟩
  | succ n ih =>
    intro r g x6 σ hr X S G K
    have V := X.1.1.2.2.2.2.1
    unfold m_cents at K
    refine w_Wk_shareByAlone_79 ⟨fun _ => ⟨fun hx => ⟨is_mk S.2.1, ?_⟩, fun hx => ?_⟩, fun z => absurd ((n32lt (a := r) (b := 6) (by omega) (by omega)).mpr (by omega)) z⟩
    · have hx' : 0 < x6.toInt := by rw [i64lt, z0] at hx; exact hx
      rw [if_pos hx'] at K
      rw [X.1.1.2.2.2.1, Option.getD_some, V.2.2.2.2, n32s]
      refine ⟨is_mk V.1.1, fun _ => wk_giveCents (d := d) S G (fun s2 S2 G2 r2 _ => ?_), fun z => absurd rfl z⟩
      exact ih (r + 1) _ _ s2 (by omega) (X.sh r2) S2 G2 (fun s3 X3 S3 G3 r3 => K s3 X3 S3 G3 (Wc.trans (sh5 r2) r3))
    · have hx' : ¬ 0 < x6.toInt := by rw [i64lt, z0] at hx; exact hx
      rw [if_neg hx'] at K
      exact K σ X S G Wc.rf
end
