/-! THE CLASS: shares between insurers -/
def TnW (σ : am_S) (ab : Nat) (ord : List Nat) : Prop := ∀ k y, ord[k]? = some y → am_aI σ (ab + 6) k = Int32.ofNat y
def AlW (σ : am_S) (ab : Nat) (al : Nat → Option Int64) : Prop := ∀ y, y < 6 → am_aL σ (ab + 4) y = (al y).getD (-1)
def GeW (σ : am_S) (ab : Nat) (g : Nat → Int64) : Prop := ∀ y, y < 6 → am_aL σ (ab + 5) y = g y
def ShB (σ : am_S) (wk ab v : Nat) (ord : List Nat) (al : Nat → Option Int64) : Prop := WkV wk ab v ∧ am_kd σ wk = (3, 0) ∧ WkA σ wk ab ∧ TnW σ ab ord ∧ AlW σ ab al ∧ ord.length ≤ 6 ∧ ∀ y ∈ ord, y < 6 ∧ (al y).isSome = true
abbrev ShC (wk ab v : Nat) (σ σ' : am_S) : Prop := Wc wk ab v [] [5] [] [] σ σ'
abbrev ShG (wk ab v : Nat) (σ σ' : am_S) : Prop := Wc wk ab v [] [5] [3006, 3007] [] σ σ'
section
variable {nl : Bool} {Ln : Nat} {xs : Nat → Int32} {d : Nat} {σ σ1 : am_S} {wk ab v : Nat} {ord : List Nat} {al : Nat → Option Int64} {g : Nat → Int64}
theorem ShB.wcG (S : ShB σ wk ab v ord al) (r : ShG wk ab v σ σ1) : ShB σ1 wk ab v ord al := by
  obtain ⟨h1, h2, h3, h4, h5, h6⟩ := S
  refine ⟨h1, by rw [r.kd]; exact h2, h3.wc r (by decide), fun k y hk => ?_, fun y hy => ?_, h6⟩
  · rw [r.aI h1 (by decide) (by decide) (by simp)]
    exact h4 k y hk
  · rw [r.aL h1 (by decide) (by decide) (by simp)]
    exact h5 y hy
theorem sh5 {wk ab v : Nat} {σ σ' : am_S} (r : ShC wk ab v σ σ') : ShG wk ab v σ σ' := Wc.mono r (by simp) (by decide) (by simp) (by simp)
theorem ShB.wc (S : ShB σ wk ab v ord al) (r : ShC wk ab v σ σ1) : ShB σ1 wk ab v ord al := S.wcG (sh5 r)
theorem GeW.set {z : Nat} {x : Int64} (h : GeW σ ab g) (e : σ1 = am_saL σ (ab + 5) z x) : GeW σ1 ab (va_up g z x) := by
  intro q hq
  rw [saL_all e]
  by_cases hqz : q = z
  · rw [if_pos hqz, hqz, up_same]
  · rw [if_neg hqz, am_vup hqz]
    exact h q hq
theorem al_v {z : Nat} (h : (al z).isSome = true) : (al z).getD (-1) = (al z).getD 0 := by
  cases hq : al z with
  | none => rw [hq] at h; exact absurd h (by decide)
  | some y => rfl
theorem cent_stop (al : Nat → Option Int64) : ∀ (l : List Nat) (x : (Nat → Int64) × Int64), ¬ 0 < x.2.toInt → m_cent al l x = x
  | [], _, _ => rfl
  | y :: l, x, h => by
    unfold m_cent
    rw [if_neg (fun z => h z.1)]
    exact cent_stop al l x h
theorem wk_giveCents {x1 : Int64} {F : Int64 → am_S → Prop} (S : ShB σ wk ab v ord al) (G : GeW σ ab g) (K : ∀ σ', ShB σ' wk ab v ord al → GeW σ' ab (m_cent al ord (g, x1)).1 → ShC wk ab v σ σ' → F (m_cent al ord (g, x1)).2 σ') : k_Wk_giveCents nl Ln xs (d + 1) wk x1 (Int32.ofNat ord.length) σ F := by
  have z0 : (0 : Int64).toInt = 0 := by decide
  have loop : ∀ (n k : Nat) (g : Nat → Int64) (x4 : Int64) (σ : am_S), k + n = ord.length → ShB σ wk ab v ord al → GeW σ ab g → (∀ σ', ShB σ' wk ab v ord al → GeW σ' ab (m_cent al (ord.drop k) (g, x4)).1 → ShC wk ab v σ σ' → F (m_cent al (ord.drop k) (g, x4)).2 σ') → c_Wk_giveCents_6 nl Ln xs (d + 1) wk x1 (Int32.ofNat ord.length) x4 (Int32.ofNat k) σ F := by
    intro n
    induction n with
    | zero =>
      intro k g x4 σ hk S G K
      have h66 := S.2.2.2.2.2.1
      rw [List.drop_of_length_le (by omega)] at K
      exact w_Wk_giveCents_6 ⟨fun q => absurd ((n32lt (by omega) (by omega)).mp q) (by omega), fun _ => K σ S G Wc.rf⟩
    | succ n ih =>
      intro k g x4 σ hk S G K
      obtain ⟨y, hyk⟩ := get_ex (show k < ord.length by omega)
      obtain ⟨hy6, hys⟩ := S.2.2.2.2.2.2 y (List.mem_of_getElem? hyk)
      have h66 := S.2.2.2.2.2.1
      have bk : 0 ≤ (Int32.ofNat k).toInt ∧ (Int32.ofNat k).toInt < 6 := by rw [n32 (by omega)]; omega
      have bz : 0 ≤ (Int32.ofNat y).toInt ∧ (Int32.ofNat y).toInt < 6 := by rw [n32 (by omega)]; omega
      have nk : (Int32.ofNat k).toNatClampNeg = k := n32c (by omega)
      have nz : (Int32.ofNat y).toNatClampNeg = y := n32c (by omega)
      have vt := S.2.2.2.1 k y hyk
      have va := (S.2.2.2.2.1 y hy6).trans (al_v hys)
      have vg := G y hy6
      obtain ⟨⟨-, -, -, f17, f18, f19⟩, -, -, -, k4, k5, k6⟩ := S.2.2.1
      rw [drop_get hyk] at K
      refine w_Wk_giveCents_6 ⟨fun _ => ⟨fun hx => ⟨is_mk S.2.1, ?_⟩, fun hx => ?_⟩, fun q => absurd ((n32lt (by omega) (by omega)).mpr (by omega)) q⟩
      · have hx' : 0 < x4.toInt := by rw [i64lt, z0] at hx; exact hx
        rw [f17, f18, f19, Option.getD_some, Option.getD_some, Option.getD_some, nk, vt, nz, va, vg, n32s]
        refine ⟨ar_mk k6 bk.1 bk.2, ar_mk k5 bz.1 bz.2, ar_mk k6 bk.1 bk.2, ar_mk k4 bz.1 bz.2, fun hl => ⟨ar_mk k6 bk.1 bk.2, ar_mk k5 bz.1 bz.2, ar_mk k5 bz.1 bz.2, ?_⟩, fun hl => ?_⟩
        · intro s12 q12
          have r12 : ShC wk ab v σ s12 := by rw [q12]; exact Wc.saL (k := 5) (by decide)
          rintro v15 rfl
          unfold m_cent at K
          rw [if_pos ⟨hx', hl⟩] at K
          exact ih (k + 1) _ _ s12 (by omega) (S.wc r12) (G.set q12) (fun s2 S2 G2 r2 => K s2 S2 G2 (r12.trans r2))
        · unfold m_cent at K
          rw [if_neg (fun z => hl z.2)] at K
          exact ih (k + 1) _ _ σ (by omega) S G K
      · have hx' : ¬ 0 < x4.toInt := by rw [i64lt, z0] at hx; exact hx
        rw [cent_stop al _ _ hx'] at K
        exact K σ S G Wc.rf
  exact w_Wk_giveCents (loop ord.length 0 g x1 σ (by omega) S G K)
theorem wk_byRanks {x1 : Int64} {F : am_S → Prop} (S : ShB σ wk ab v ord al) (G : GeW σ ab g) (K : ∀ σ', ShB σ' wk ab v ord al → GeW σ' ab (m_ranks al ord (g, x1)).1 → ShC wk ab v σ σ' → F σ') : k_Wk_shareByRanks nl Ln xs (d + 2) wk x1 (Int32.ofNat ord.length) σ F := by
  have loop : ∀ (n k : Nat) (g : Nat → Int64) (x4 : Int64) (σ : am_S), k + n = ord.length → ShB σ wk ab v ord al → GeW σ ab g → (∀ σ', ShB σ' wk ab v ord al → GeW σ' ab (m_ranks al (ord.drop k) (g, x4)).1 → ShC wk ab v σ σ' → F σ') → c_Wk_shareByRanks_6 nl Ln xs (d + 2) wk x1 (Int32.ofNat ord.length) x4 (Int32.ofNat k) σ F := by
    intro n
    induction n with
    | zero =>
      intro k g x4 σ hk S G K
      have h66 := S.2.2.2.2.2.1
      rw [List.drop_of_length_le (by omega)] at K
      exact w_Wk_shareByRanks_6 ⟨fun q => absurd ((n32lt (by omega) (by omega)).mp q) (by omega), fun _ => K σ S G Wc.rf⟩
    | succ n ih =>
      intro k g x4 σ hk S G K
      obtain ⟨y, hyk⟩ := get_ex (show k < ord.length by omega)
      obtain ⟨hy6, hys⟩ := S.2.2.2.2.2.2 y (List.mem_of_getElem? hyk)
      have h66 := S.2.2.2.2.2.1
      have bk : 0 ≤ (Int32.ofNat k).toInt ∧ (Int32.ofNat k).toInt < 6 := by rw [n32 (by omega)]; omega
      have bz : 0 ≤ (Int32.ofNat y).toInt ∧ (Int32.ofNat y).toInt < 6 := by rw [n32 (by omega)]; omega
      have nk : (Int32.ofNat k).toNatClampNeg = k := n32c (by omega)
      have nz : (Int32.ofNat y).toNatClampNeg = y := n32c (by omega)
      have vt := S.2.2.2.1 k y hyk
      have va := (S.2.2.2.2.1 y hy6).trans (al_v hys)
      have vg := G y hy6
      obtain ⟨⟨-, -, -, f17, f18, f19⟩, -, -, -, k4, k5, k6⟩ := S.2.2.1
      rw [drop_get hyk] at K
      refine w_Wk_shareByRanks_6 ⟨fun _ => ⟨is_mk S.2.1, ?_⟩, fun q => absurd ((n32lt (by omega) (by omega)).mpr (by omega)) q⟩
      rw [f17, f18, f19, Option.getD_some, Option.getD_some, Option.getD_some, nk, vt, nz, va, n32s]
      refine ⟨ar_mk k6 bk.1 bk.2, ar_mk k6 bk.1 bk.2, ar_mk k4 bz.1 bz.2, w_Math_min ?_⟩
      intro w3 e3 _
      have el : w3 = m_least ((al y).getD 0) x4 := by
        rw [e3]
        unfold m_least
        by_cases h1 : x4 < (al y).getD 0
        · rw [if_pos h1]
          rw [i64lt] at h1
          rw [if_neg (by rw [i64lt]; omega)]
        · rw [if_neg h1]
          rw [i64lt] at h1
          by_cases h2 : (al y).getD 0 < x4
          · rw [if_pos h2]
          · rw [if_neg h2]
            rw [i64lt] at h2
            rw [i64e]
            omega
      refine ⟨ar_mk k5 bz.1 bz.2, ?_⟩
      intro s9 q9
      have r9 : ShC wk ab v σ s9 := by rw [q9]; exact Wc.saL (k := 5) (by decide)
      have S9 := S.wc r9
      have G9 := G.set q9
      have vt9 := S9.2.2.2.1 k y hyk
      obtain ⟨⟨-, -, -, g17, g18, g19⟩, -, -, -, j4, j5, j6⟩ := S9.2.2.1
      rw [g18, g19, Option.getD_some, Option.getD_some, vt9, nz, G9 y hy6, up_same]
      refine ⟨ar_mk j6 bk.1 bk.2, ar_mk j5 bz.1 bz.2, ?_⟩
      rintro v14 rfl
      rw [el] at G9 ⊢
      exact ih (k + 1) _ _ s9 (by omega) S9 G9 (fun s2 S2 G2 r2 => K s2 S2 G2 (r9.trans r2))
  exact w_Wk_shareByRanks (loop ord.length 0 g x1 σ (by omega) S G K)
end
