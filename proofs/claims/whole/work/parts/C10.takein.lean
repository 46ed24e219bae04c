/-! THE CLASS: acts are taken in -/
section
variable {nl : Bool} {Ln : Nat} {xs : Nat → Int32} {d : Nat} {σ s : am_S} {w ws : ow_T} {τ : am_S} {v b b2 gl nu gl2 nu2 : Nat} {X : Stx} {sp : Option Nat} {g : Grw} {D : mTop} {M2 : mOff} {fnd : Int32}
theorem room_turn {M : mOff} {g1 g2 g3 : Nat} (h : Room σ X M2 nu2 gl2 (vof M nu) (grC (g1, g2, g3, gl) (some b))) : Room σ X M nu gl (vof M2 nu2) (grC (g1, g2, g3, gl2) (some b2)) := by
  obtain ⟨⟨r1, r2, r3, r4, r5⟩, R2, R3⟩ := h
  unfold vof at r1 r2 r3 r4 r5 R2 R3
  unfold grC at R2 R3
  simp only at r1 r2 r3 r4 r5 R2 R3
  rw [if_neg (by simp)] at R2 R3
  refine ⟨?_, ?_, ?_⟩
  · unfold vof
    simp only
    omega
  · unfold vof grC
    simp only
    rw [if_neg (by simp)]
    omega
  · unfold vof grC
    simp only
    rw [if_neg (by simp)]
    generalize 128 * 2 ^ g1 = q1 at R3 ⊢
    generalize 128 * 2 ^ g2 = q2 at R3 ⊢
    generalize 128 * 2 ^ g3 = q3 at R3 ⊢
    generalize 128 * 2 ^ gl = q4 at R3 ⊢
    generalize 128 * 2 ^ gl2 = q5 at R3 ⊢
    omega
/-- the number of takings -/
theorem DskC.tak {n : Nat} (R : DskC τ σ w v X b sp g gl nu D) (e : s = am_sfI σ 10 1000 (Int32.ofNat n)) : DskC τ s w v X b sp g gl nu (d_setTak D n) := by
  obtain ⟨C, hb, ht, T, ⟨tx, Tx⟩, S, ⟨⟨ov, Lk⟩, hl13⟩, A, hf, hsp, hrf⟩ := R
  have hv := A.1.2.2.2.1
  have hO := A.1.2.2.2.2.1
  have E : Eff (fun q => q = (2, 1000)) σ w s w := by rw [e]; exact Eff.sfI A.1.1.1 C.1.1
  have e8 := E.2 (2, 1008) (snd_ne (by decide)) (by simp) 1008 (hO 1008 (by unfold fixW; omega))
  have hC : CoR s w v b sp := by
    obtain ⟨⟨c1, c2⟩, c3⟩ := C
    rw [e]
    exact ⟨⟨c1, c2⟩, c3⟩
  refine ⟨hC, hb, by rw [e]; exact rI_same, T.fr (E.2 (2, 1001) (snd_ne (by decide)) (by simp)), ⟨tx, Tx.fr (E.2 (2, 1003) (snd_ne (by decide)) (by simp))⟩, S.fr (E.2 (2, 1005) (snd_ne (by decide)) (by simp)), ⟨⟨ov, Lk.eqc (fun j hj => (E.2 (2, 2070 - v + j) (snd_ne (by omega)) (by simp) _ (hO _ (by unfold fixW; omega))).2)⟩, hl13⟩, A.byt hb E (by omega) (by rw [e]; exact Nat.le_refl _) (A.2.2.eq ⟨rfl, rfl, rfl, rfl⟩ (by rw [e]; exact ⟨rfl, rfl⟩)), e8.2.fI.trans hf, fun b2 h2 => ⟨(hsp b2 h2).1, (hsp b2 h2).2.1, (hsp b2 h2).2.2.fr (fun j => E.bk (fst_ne (by have := (hsp b2 h2).1; omega)) (by have := (hsp b2 h2).1; omega))⟩, hrf.eff E (fst_ne (by decide))⟩
theorem vof_new : vof m_new 0 = (0, 0, 0, 0, 0) := rfl
/-- a spare book stands ready -/
theorem DskC.tk (R : DskC τ σ w v X b (some b2) g gl nu D) : TkD τ σ w v X b b2 (some b2) g gl nu g.2.2.2 0 D m_new (d_fnd D) := by
  obtain ⟨C, hb, ht, T, Tx, S, Lk, A, hf, hsp, hrf⟩ := R
  obtain ⟨h1, h2, B2⟩ := hsp b2 rfl
  refine ⟨⟨C, hb, ht, T, S, Lk, A.2.1, hrf⟩, ⟨h1, h2⟩, Tx, ⟨A.1, B2, ?_⟩, hf⟩
  have := A.2.2
  rw [← vof_new] at this
  exact room_turn (b := b2) (b2 := b) this
/-- a new book is made -/
theorem DskC.tkn {n0 : Nat} (R : DskC τ σ w v X b none g gl nu D) (hn0 : am_nx σ = n0) (B : BookR s (owN w n0) n0 m_new 0 0) (E : Eff (fun _ => False) σ w s (owN w n0)) (hx : am_nx s = n0 + 9) (hy : am_sl s = am_sl σ + 1016) : TkD τ s (owN w n0) v X b n0 none g gl nu 0 0 D m_new (d_fnd D) := by
  obtain ⟨C, hb, ht, T, ⟨tx, Tx⟩, S, ⟨⟨ov, Lk⟩, hl13⟩, A, hf, -, hrf⟩ := R
  have hv := A.1.2.2.2.1
  have hO := A.1.2.2.2.2.1
  have h1189 : 1189 ≤ n0 := by rw [← hn0]; exact A.1.1.2
  have fr : ∀ q, q ≠ (0, 0) → Fr σ w s (owN w n0) q := fun q hq => E.2 q (fun z => z) hq
  have hbn : b ≠ n0 := fun z => by
    have := A.1.1.1 b (by rw [hn0]; omega)
    rw [A.2.1.1.1.1] at this
    have : b = 0 := congrArg Prod.fst this
    omega
  have e8 := fr (2, 1008) (by simp) 1008 (hO 1008 (by unfold fixW; omega))
  refine ⟨⟨C.eff E (fun z => z) (fun z => z), hb, ((fr (2, 1000) (by simp)) 1000 C.1.1).2.fI.trans ht, T.fr (fr (2, 1001) (by simp)), S.fr (fr (2, 1005) (by simp)), ⟨⟨ov, Lk.eqc (fun j hj => ((fr (2, 2070 - v + j) (by simp)) _ (hO _ (by unfold fixW; omega))).2)⟩, hl13⟩, A.2.1.fr (fun j => E.bk (fun z => z) (by omega)), hrf.eff E (fun z => z)⟩, ⟨Or.inl h1189, fun z => hbn z.symm⟩, ⟨tx, Tx.fr (fr (2, 1003) (by simp))⟩, ⟨⟨⟨E.1, by omega⟩, A.1.2.1.eff E (fun q hq z => z), rdl_eff A.1.2.2.1 E (fun c c1 c2 z => z) (fun z => z), A.1.2.2.2.eff E (fun c hc z => z)⟩, B, ?_⟩, e8.2.fI.trans hf⟩
  obtain ⟨⟨r1, r2, r3, r4, r5⟩, R2, R3⟩ := A.2.2
  unfold grC at R2 R3
  simp only at r1 r2 r3 r4 r5 R2 R3
  simp only [if_true] at R2 R3
  have z1 : ne m_new = 0 := rfl
  have z2 : (o_pol m_new).length = 0 := rfl
  have z3 : (o_los m_new).length = 0 := rfl
  have z4 : (o_cas m_new).length = 0 := rfl
  refine ⟨?_, ?_, ?_⟩
  · unfold vof
    simp only
    rw [z1, z2, z3, z4]
    omega
  · unfold vof grC
    simp only
    rw [if_neg (by simp), z1, z2, z3, z4]
    omega
  · unfold vof grC
    simp only
    rw [if_neg (by simp), z1, z2, z3, z4]
    generalize 128 * 2 ^ g.1 = q1 at R3 ⊢
    generalize 128 * 2 ^ g.2.1 = q2 at R3 ⊢
    generalize 128 * 2 ^ g.2.2.1 = q3 at R3 ⊢
    generalize 128 * 2 ^ gl = q4 at R3 ⊢
    omega
theorem tk_refused {n : Nat} {a' : mArg} {x : Int32} {F : Bool → am_S → Prop} (hn : n < 100) (C : CoR σ w v b sp) (hD : DdR σ 1007 0 7 n a') (K : ∀ bo : Bool, (bo = true ↔ ¬ d_good n x) → F bo σ) : k_Co_isRefused nl Ln xs (d + 1) 1000 x σ F := by
  have f3 := C.2.1.2.2.2
  refine w_Co_isRefused ⟨is_mk C.1.2, ?_⟩
  rw [f3, Option.getD_some, show (0 : Int32).toNatClampNeg = 0 from rfl, hD.2.2.2.1]
  refine ⟨ar_mk C.2.2.2.2.2.2.2 (by decide) (by decide), w_Co_isRefused_24 (K _ ?_)⟩
  have e21 : Int64.ofNat n = 21 ↔ n = 21 := by
    rw [i64e, n64 (by omega), show (21 : Int64).toInt = 21 by decide]
    omega
  have m8 : x = -8 ↔ x.toInt = -8 := by rw [i32e, show (-8 : Int32).toInt = -8 by decide]
  have l0 : x < 0 ↔ x.toInt < 0 := by rw [i32lt, show (0 : Int32).toInt = 0 by decide]
  have l20 : -20 < x ↔ -20 < x.toInt := by rw [i32lt, show (-20 : Int32).toInt = -20 by decide]
  rw [decide_eq_true_iff]
  unfold d_good
  by_cases hz : Int64.ofNat n = 21 ∧ ¬ (-20 < x)
  · rw [if_pos hz]
    rw [e21, l20] at hz
    constructor
    · intro z
      exact absurd z.2.2 (by decide)
    · intro z
      exact absurd (Or.inr (Or.inr ⟨hz.1, by omega⟩)) z
  · rw [if_neg hz]
    rw [e21, l20] at hz
    rw [m8, l0]
    constructor
    · rintro ⟨z1, z2, -⟩
      omega
    · intro z
      exact ⟨by omega, by omega, rfl⟩
theorem and255 (x : Int32) : (x &&& 255) &&& 255 = x &&& 255 := by
  apply Int32.toBitVec_inj.mp
  simp only [Int32.toBitVec_and]
  rw [BitVec.and_assoc, BitVec.and_self]
theorem sh_255 (h : Int32) : ∀ k, k < 4 → ((h.toUInt32 >>> ((24 - (8 * Int32.ofNat k)).toUInt32 &&& Int32.toUInt32 31)).toInt32 &&& 255) = (d_hb h).getD k 0 := by
  intro k hk
  have t : ∀ (c : UInt32) (e : Int32) (q : Nat), (UInt32.mod c 32).toBitVec.toNat = q → (e.toBitVec.smod 32).toNat = q → q ≤ 24 → ((h.toUInt32 >>> c).toInt32 &&& 255) = (h >>> e) &&& 255 := fun c e q h1 h2 hq => by
    rw [← wr_gen h c e q h1 h2 hq, and255]
  rcases (show k = 0 ∨ k = 1 ∨ k = 2 ∨ k = 3 by omega) with rfl | rfl | rfl | rfl
  · exact t _ 24 24 (by decide) (by decide) (by decide)
  · exact t _ 16 16 (by decide) (by decide) (by decide)
  · exact t _ 8 8 (by decide) (by decide) (by decide)
  · refine (t _ 0 0 (by decide) (by decide) (by decide)).trans ?_
    rw [wr_0]
    rfl
theorem tk_check {e : Nat} {F : Bool → am_S → Prop} (he : e + 4 = (d_tap D).length) (hl : (d_tap D).length ≤ 6000) (R : TkD τ σ w v X b b2 sp g gl nu gl2 nu2 D M2 fnd) (K : F (decide ((d_tap D).drop e = d_hb (d_hash 0 ((d_tap D).take e)))) σ) : k_Co_checkStandsAt nl Ln xs (d + 2) 1000 (Int32.ofNat e) σ F := by
  have T := R.tap
  obtain ⟨h, hh⟩ : ∃ h, h = d_hash 0 ((d_tap D).take e) := ⟨_, rfl⟩
  rw [← hh] at K
  have hlen : (d_hb h).length = 4 := rfl
  have key : ((d_tap D).drop e = d_hb h) ↔ ∀ k, k < 4 → (d_tap D).getD (e + k) 0 = (d_hb h).getD k 0 := by
    constructor
    · intro z k hk
      rw [← z, List.getD_eq_getElem?_getD, List.getD_eq_getElem?_getD, List.getElem?_drop]
    · intro z
      apply List.ext_getElem?
      intro k
      rw [List.getElem?_drop]
      by_cases hk : k < 4
      · have := z k hk
        rw [List.getD_eq_getElem?_getD, List.getD_eq_getElem?_getD, List.getElem?_eq_getElem (show e + k < (d_tap D).length by omega), List.getElem?_eq_getElem (show k < (d_hb h).length by omega)] at this
        rw [List.getElem?_eq_getElem (show e + k < (d_tap D).length by omega), List.getElem?_eq_getElem (show k < (d_hb h).length by omega)]
        exact congrArg some this
      · rw [List.getElem?_eq_none (by omega), List.getElem?_eq_none (by omega)]
  refine w_Co_checkStandsAt ⟨is_mk R.co.1.2, ?_⟩
  rw [R.co.2.1.1, Option.getD_some]
  refine ⟨is_mk T.2.1, by_check (d := d) T (by omega) (by omega) (fun _ => ?_)⟩
  rw [← hh]
  have loop : ∀ (m k : Nat), k + m = 4 → (∀ j, j < k → (d_tap D).getD (e + j) 0 = (d_hb h).getD j 0) → c_Co_checkStandsAt_11 nl Ln xs (d + 2) 1000 (Int32.ofNat e) h (Int32.ofNat k) σ F := by
    intro m
    induction m with
    | zero =>
      intro k hk hj
      have hk : k = 4 := by omega
      subst hk
      refine w_Co_checkStandsAt_11 ⟨fun z => absurd z (by decide), fun _ => ?_⟩
      rw [decide_eq_true (key.mpr hj)] at K
      exact K
    | succ m ih =>
      intro k hk hj
      refine w_Co_checkStandsAt_11 ⟨fun _ => ⟨is_mk R.co.1.2, ?_⟩, fun z => absurd (show Int32.ofNat k < Int32.ofNat 4 by rw [n32lt (by omega) (by omega)]; omega) z⟩
      rw [R.co.2.1.1, Option.getD_some, n32a]
      refine ⟨is_mk T.2.1, by_at (d := d) T (by omega) (fun _ => ?_)⟩
      rw [if_pos (by omega), sh_255 h k (by omega), n32s]
      refine ⟨fun z => ih (k + 1) (by omega) (fun j hj' => ?_), fun z => ?_⟩
      · by_cases q : j = k
        · rw [q]; exact z
        · exact hj j (by omega)
      · rw [decide_eq_false (fun y => z (key.mp y k (by omega)))] at K
        exact K
  exact loop 4 0 (by omega) (fun j hj => absurd hj (by omega))
/-- the arguments that are read are whole numbers where they must be -/
theorem rdA_fit (n : Nat) : ∀ (m k : Nat) (l : List Int32) (vs : List Int64) (r : List Int32), d_rdA n m k l = some (vs, r) → ∀ j, j < m → ¬ d_isLong n (k + j) → (vs.getD j 0).toInt32.toInt64 = vs.getD j 0
  | 0, _, _, _, _, _, j, hj, _ => absurd hj (by omega)
  | m + 1, k, l, vs, r, h, j, hj, hno => by
    rw [d_rdA] at h
    cases h1 : d_rd l 0 0 with
    | none => rw [h1] at h; exact absurd h (by simp)
    | some vr =>
      obtain ⟨v, r1⟩ := vr
      rw [h1] at h
      dsimp only at h
      by_cases hc : m_dec (¬ d_isLong n k ∧ v.toInt32.toInt64 ≠ v) = true
      · rw [if_pos hc] at h; exact absurd h (by simp)
      · rw [if_neg hc] at h
        cases h2 : d_rdA n m (k + 1) r1 with
        | none => rw [h2] at h; exact absurd h (by simp)
        | some wr =>
          obtain ⟨vs', r'⟩ := wr
          rw [h2] at h
          obtain ⟨rfl, rfl⟩ := Prod.mk.inj (Option.some.inj h)
          cases j with
          | zero =>
            show v.toInt32.toInt64 = v
            exact Classical.byContradiction (fun z => hc (m_dec_eq.mpr ⟨by simpa using hno, z⟩))
          | succ j =>
            show (vs'.getD j 0).toInt32.toInt64 = vs'.getD j 0
            exact rdA_fit n m (k + 1) r1 vs' r' h2 j (by omega) (by rw [show k + 1 + j = k + (j + 1) by omega]; exact hno)
theorem rd1_fit {l t r : List Int32} {vs : List Int64} (h : d_rd1 l = some (5, vs, t, r)) : (d_arg vs 1).toInt32.toInt64 = d_arg vs 1 := by
  unfold d_rd1 at h
  cases h1 : d_rd l 0 0 with
  | none => rw [h1] at h; exact absurd h (by simp)
  | some vr =>
    obtain ⟨v, r1⟩ := vr
    rw [h1] at h
    dsimp only at h
    split at h
    · exact absurd h (by simp)
    · cases h2 : d_rdA v.toInt.toNat (m_args v.toInt.toNat) 0 r1 with
      | none => rw [h2] at h; exact absurd h (by simp)
      | some wr =>
        obtain ⟨vs', l2⟩ := wr
        rw [h2] at h
        dsimp only at h
        split at h
        · split at h
          · exact absurd h (by simp)
          · cases h3 : d_rdT (vs'.getD 1 0).toInt.toNat l2 with
            | none => rw [h3] at h; exact absurd h (by simp)
            | some tr =>
              rw [h3] at h
              have := (Prod.mk.inj (Option.some.inj h)).1
              exact absurd this (by decide)
        · have g0 := Option.some.inj h
          obtain ⟨e5, g1⟩ := Prod.mk.inj g0
          obtain ⟨rfl, -⟩ := Prod.mk.inj g1
          rw [e5] at h2
          exact rdA_fit 5 3 0 r1 vs' l2 h2 1 (by decide) (by unfold d_isLong; omega)
end
