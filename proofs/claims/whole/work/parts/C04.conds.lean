/-! THE CLASS: conditions are written -/
/-- who owns what while a condition is written -/
def WdO (w : ow_T) (k kn : Nat × Nat) : Prop := k ≠ (0, 0) ∧ kn ≠ k ∧ kn ≠ (0, 0) ∧ ∀ x, w x = kn → 1000 ≤ x
def opn : mF → Nat
  | .tag k _ => 12 + k
  | .nest c _ => c.toNat + 12
  | _ => 0
section
variable {nl : Bool} {Ln : Nat} {xs : Nat → Int32} {d : Nat} {σ : am_S} {w : ow_T} {k kn : Nat × Nat} {n g0 : Nat}
theorem ofI (c : Int) (h0 : 0 ≤ c) (h1 : c < 1000000000) : Int32.ofInt c = Int32.ofNat c.toNat := by
  rw [i32e, ofInt_to h0 h1, n32 (by omega)]
  omega
theorem wq_len : ∀ q, q ≤ 1 → (txt (wT (12 + q))).length ≤ 3 := by decide +kernel
theorem NdS.op {f : mF} {x : Nat} (P : Nat) (hp : isP f) (hf : tgO f) (h : NdS σ w kn f x x) : am_fI σ 8000 x = Int32.ofNat (opn f) ∧ opn f < 26 ∧ (brp f P = true ↔ ((opn f = 12 ∧ P ≠ 0) ∨ (opn f = 13 ∧ P = 2))) := by
  cases f with
  | append _ _ => exact hp.elim
  | tag q a =>
    obtain ⟨-, -, h3⟩ := h
    obtain ⟨h1, h2⟩ := hf
    unfold brp opn
    dsimp only
    by_cases hq : q = 2
    · rw [if_pos hq] at h3
      subst hq
      refine ⟨h3.1, by omega, ⟨fun z => ?_, fun z => by omega⟩⟩
      rw [if_pos rfl] at z
      exact absurd z (by decide)
    · rw [if_neg hq] at h3
      rw [if_neg hq]
      refine ⟨h3.2.1, by have := h3.1; omega, ?_⟩
      unfold bra
      rw [decide_eq_true_iff]
      omega
  | nest c a =>
    cases a with
    | nest m b =>
      cases b with
      | nil =>
        obtain ⟨-, hk, h8, h81, h82, hc3, hc7, hn0, hn1, h7⟩ := h
        unfold brp opn
        dsimp only
        refine ⟨?_, by omega, ⟨fun z => absurd z (by decide), fun z => absurd z (by omega)⟩⟩
        rw [h8, ofI (c + 12) (by omega) (by omega)]
        congr 1
        omega
      | _ => exact h.elim
    | _ => exact h.elim
  | _ => exact h.elim
theorem wd_test {c m : Int} {r : Nat} {L : List Int32} {s : am_S} {ws : ow_T} {F : am_S → Prop} (O : WdO w k kn) (hN : NdS σ w kn (.nest c (.nest m .nil)) r r) (h : WdS σ w k n g0 L s ws) (hl : L.length < 150000) (K : ∀ s' ws', WdS σ w k n g0 (L ++ tx (.nest c (.nest m .nil)) 0 0) s' ws' → F s') : k_Nd_writeTest nl Ln xs (d + 8) (some r) (some n) s F := by
  obtain ⟨-, hk, h8, h81, h82, hc3, hc7, hn0, hn1, h7⟩ := hN
  have fr := h.fr O.2.1 O.2.2.1
  have e := (fr r hk.1).2
  rw [ofI (c + 12) (by omega) (by omega)] at h8
  have ec : (c + 12).toNat = c.toNat + 12 := by omega
  rw [ec] at h8
  rw [tx] at K
  have e19 : Int32.ofNat (c.toNat + 12) = 19 ↔ c = 7 := by
    rw [show (19 : Int32) = Int32.ofNat 19 from rfl, n32i (by omega) (by decide)]
    omega
  refine w_Nd_writeTest ⟨is_mk (hk.fr fr).2, ?_⟩
  rw [Option.getD_some, e.fI, h8]
  refine ⟨fun z => ?_, fun z => ?_⟩
  · have hc := e19.mp z
    rw [if_pos hc] at h81 K
    have h5 := h7 hc
    rw [ofI (m + 20) (by omega) (by omega), show (m + 20).toNat = m.toNat + 20 by omega] at h81
    have hw : c.toNat + 12 = 19 := by omega
    rw [hw] at K
    exact wd_two (d := d + 1) (a := 19) (c := m.toNat + 20) (x := fun s' => am_fI s' 8001 r) O.1 (by decide) (by omega) h (by omega) (fun s' ws' L' h' => by rw [((h'.fr O.2.1 O.2.2.1) r hk.1).2.fI]; exact h81) K
  · have hc : ¬ c = 7 := fun q => z (e19.mpr q)
    rw [if_neg hc] at h81 K
    rw [e.fI, h81]
    have ev : (Int32.ofInt m).toInt64 = Int64.ofInt m := by
      apply Int64.toInt_inj.mp
      rw [t64, ofInt_to hn0 hn1, Int64.toInt_ofInt]
      exact (Int.bmod_eq_of_le (by have : Int64.size = 18446744073709551616 := rfl; omega) (by have : Int64.size = 18446744073709551616 := rfl; omega)).symm
    refine wd_num (d := d) (c := c.toNat + 12) O.1 (by omega) h (by omega) (fun s' ws' h' _ => K s' ws' ?_)
    rw [ev] at h'
    exact h'
/-- a piece with its brackets -/
theorem wd_60 {f : mF} {x r P depth D m : Nat} {v4 : Option Value} {L : List Int32} {s : am_S} {ws : ow_T} {F : am_S → Prop} (O : WdO w k kn) (hp : isP f) (hf : tgO f) (hA : ∀ (r depth : Nat) (s : am_S) (ws : ow_T) (L : List Int32) (F : am_S → Prop), isP f → tgO f → NdS σ w kn f r r → depth + ndep f ≤ 64 → WdS σ w k n g0 L s ws → L.length + csz f ≤ 100000 → (∀ s' ws', WdS σ w k n g0 (L ++ tx f 0 0) s' ws' → F s') → k_Nd_writeCondition nl Ln xs (d + hgt f + 10) (some r) (some n) (Int32.ofNat depth) s F)
    (hP : P ≤ 2) (hr : NdK σ w kn r) (hr8 : am_fI σ 8000 r = Int32.ofNat (12 + P)) (hN : NdS σ w kn f x x) (hd : depth + 1 + ndep f ≤ 64) (hD : d + hgt f + 10 ≤ D) (hm : StO σ w kn m x) (h : WdS σ w k n g0 L s ws) (hl : L.length + csz f + 1 ≤ 100000)
    (K : ∀ s' ws' v4', WdS σ w k n g0 (L ++ (tx f 0 P ++ (if m = 0 then [] else [32]))) s' ws' → c_Nd_writeCondition_25 nl Ln xs (D + 1) (some r) (some n) (Int32.ofNat depth) (am_fR σ 8003 x) v4' s' F) : c_Nd_writeCondition_60 nl Ln xs (D + 1) (some r) (some n) (Int32.ofNat depth) (some x) v4 s F := by
  have fr := h.fr O.2.1 O.2.2.1
  obtain ⟨-, hx⟩ := NdS.piece hp hN
  have ex := (fr x hx.1).2
  have er := (fr r hr.1).2
  obtain ⟨o8, o26, obr⟩ := NdS.op P hp hf hN
  have en : ∀ a b : Nat, a < 100 → b < 100 → (Int32.ofNat a = Int32.ofNat b ↔ a = b) := fun a b ha hb => n32i (by omega) (by omega)
  rw [tx_br f 0 P hp hf] at K
  refine w_Nd_writeCondition_60 ⟨is_mk (hx.fr fr).2, fun _ => is_mk (hr.fr fr).2, fun _ _ _ => is_mk (hr.fr fr).2, fun _ _ => is_mk (hr.fr fr).2, ?_⟩
  rw [Option.getD_some, Option.getD_some, ex.fI, er.fI, o8, hr8]
  have ebr : (if ((Int32.ofNat (opn f) = 12) ∧ (¬ (Int32.ofNat (12 + P) = 12) ∨ ((Int32.ofNat (opn f) = 13) ∧ (Int32.ofNat (12 + P) = 14)))) ∨ (¬ (Int32.ofNat (opn f) = 12) ∧ ((Int32.ofNat (opn f) = 13) ∧ (Int32.ofNat (12 + P) = 14))) then (1 : Int32) else 0) = b2i (brp f P) := by
    have e1 : Int32.ofNat (opn f) = 12 ↔ opn f = 12 := en _ 12 (by omega) (by decide)
    have e2 : Int32.ofNat (opn f) = 13 ↔ opn f = 13 := en _ 13 (by omega) (by decide)
    have e3 : Int32.ofNat (12 + P) = 12 ↔ 12 + P = 12 := en _ 12 (by omega) (by decide)
    have e4 : Int32.ofNat (12 + P) = 14 ↔ 12 + P = 14 := en _ 14 (by omega) (by decide)
    simp only [e1, e2, e3, e4]
    cases hb : brp f P with
    | true =>
      have := obr.mp hb
      rw [if_pos (by omega)]
      rfl
    | false =>
      rw [if_neg (fun z => absurd (obr.mpr (by omega)) (by rw [hb]; decide))]
      rfl
  rw [ebr]
  -- behind the piece
  have g133 : ∀ (s2 : am_S) (w2 : ow_T) (y : Int32) (L2 : List Int32), L2.length < 150000 → WdS σ w k n g0 L2 s2 w2 → (∀ s' ws' v4', WdS σ w k n g0 (L2 ++ (if m = 0 then [] else [32])) s' ws' → c_Nd_writeCondition_25 nl Ln xs (D + 1) (some r) (some n) (Int32.ofNat depth) (am_fR σ 8003 x) v4' s' F) → c_Nd_writeCondition_133 nl Ln xs (D + 1) (some r) (some n) (Int32.ofNat depth) (some x) y s2 F := by
    intro s2 w2 y L2 hl2 h2 K2
    have fr2 := h2.fr O.2.1 O.2.2.1
    have ex2 := (fr2 x hx.1).2
    refine w_Nd_writeCondition_133 ⟨is_mk (hx.fr fr2).2, ?_⟩
    rw [Option.getD_some, ex2.fR]
    cases m with
    | zero =>
      rw [if_pos rfl, ] at K2
      refine ⟨fun _ => ?_, fun z => absurd hm.2 z⟩
      rintro _ rfl
      exact K2 s2 w2 _ (by rw [List.append_nil]; exact h2)
    | succ m =>
      obtain ⟨-, y', hy, -⟩ := hm
      rw [if_neg (by omega)] at K2
      refine ⟨fun z => absurd z (by rw [hy]; simp), fun _ => ⟨is_mk h2.kd, ?_⟩⟩
      rw [Option.getD_some]
      refine (wd_put (d := d + hgt f + 7) O.1 (by decide) h2 (by omega) (fun s3 w3 h3 => ?_)).dn hD
      rintro _ rfl
      have ex3 := ((h3.fr O.2.1 O.2.2.1) x hx.1).2
      rw [ex3.fR]
      exact K2 s3 w3 _ h3
  have lt := tx_len f 0 0 hf (by omega)
  -- the piece
  have g114 : ∀ (s1 : am_S) (w1 : ow_T) (L1 : List Int32), L1 = L ++ (if brp f P = true then [40] else []) → WdS σ w k n g0 L1 s1 w1 → c_Nd_writeCondition_114 nl Ln xs (D + 1) (some r) (some n) (Int32.ofNat depth) (some x) (b2i (brp f P)) s1 F := by
    intro s1 w1 L1 eL h1
    have l1 : L1.length ≤ L.length + 1 := by
      rw [eL, List.length_append]
      split <;> simp
    refine w_Nd_writeCondition_114 ?_
    rw [n32s]
    refine am_C.dn (hA x (depth + 1) s1 w1 L1 _ hp hf hN (by omega) h1 (by omega) (fun s2 w2 h2 _ => ?_)) hD
    cases hb : brp f P with
    | true =>
      rw [hb, if_pos rfl, if_pos rfl] at K
      rw [hb, if_pos rfl] at eL
      refine ⟨fun z => absurd z (by decide), fun _ => ⟨is_mk h2.kd, ?_⟩⟩
      rw [Option.getD_some]
      refine (wd_put (d := d + hgt f + 7) O.1 (by decide) h2 (by rw [List.length_append]; omega) (fun s3 w3 h3 => ?_)).dn hD
      refine g133 s3 w3 _ _ (by rw [List.length_append, List.length_append, List.length_singleton]; omega) h3 (fun s' ws' v4' h' => K s' ws' v4' ?_)
      rw [eL] at h'
      simp only [List.append_assoc] at h' ⊢
      exact h'
    | false =>
      rw [hb, if_neg (by decide), if_neg (by decide)] at K
      rw [hb, if_neg (by decide)] at eL
      refine ⟨fun _ => ?_, fun z => absurd rfl z⟩
      refine g133 s2 w2 _ _ (by rw [List.length_append]; omega) h2 (fun s' ws' v4' h' => K s' ws' v4' ?_)
      rw [eL] at h'
      simp only [List.append_assoc, List.nil_append] at h' ⊢
      exact h'
  cases hb : brp f P with
  | true =>
    refine w_Nd_writeCondition_101 ⟨fun z => absurd z (by decide), fun _ => ⟨is_mk h.kd, ?_⟩⟩
    rw [Option.getD_some]
    refine (wd_put (d := d + hgt f + 7) O.1 (by decide) h (by omega) (fun s1 w1 h1 => ?_)).dn hD
    have := g114 s1 w1 (L ++ [40]) (by rw [hb, if_pos rfl]) h1
    rw [hb] at this
    exact this
  | false =>
    refine w_Nd_writeCondition_101 ⟨fun _ => ?_, fun z => absurd rfl z⟩
    have := g114 s ws L (by rw [hb, if_neg (by decide), List.append_nil]) h
    rw [hb] at this
    exact this
theorem nd_cnd (O : WdO w k kn) : ∀ (f : mF),
    (∀ (r depth : Nat) (s : am_S) (ws : ow_T) (L : List Int32) (F : am_S → Prop), isP f → tgO f → NdS σ w kn f r r → depth + ndep f ≤ 64 → WdS σ w k n g0 L s ws → L.length + csz f ≤ 100000 → (∀ s' ws', WdS σ w k n g0 (L ++ tx f 0 0) s' ws' → F s') → k_Nd_writeCondition nl Ln xs (d + hgt f + 10) (some r) (some n) (Int32.ofNat depth) s F) ∧
    (∀ (x z r y1 q depth D N m : Nat) (fst : Bool) (v4 : Option Value) (s : am_S) (ws : ow_T) (L : List Int32) (F : am_S → Prop), d + hgt f + 10 ≤ D → q ≤ 1 → tgO f → NdS σ w kn f x z → NdK σ w kn r → am_fI σ 8000 r = Int32.ofNat (12 + q) → am_fR σ 8002 r = some y1 → depth + 1 + ndep f ≤ 64 → StO σ w kn N y1 → StO σ w kn m z → (fst = true → x = y1) → (fst = false → m + cnN f < N) → WdS σ w k n g0 L s ws → L.length + csz f + 5 ≤ 100000 → (∀ s' ws' v4', WdS σ w k n g0 (L ++ ((if fst = true then [] else txt (wT (12 + q)) ++ [32]) ++ (tx f q q ++ (if m = 0 then [] else [32])))) s' ws' → c_Nd_writeCondition_25 nl Ln xs (D + 1) (some r) (some n) (Int32.ofNat depth) (am_fR σ 8003 z) v4' s' F) → c_Nd_writeCondition_25 nl Ln xs (D + 1) (some r) (some n) (Int32.ofNat depth) (some x) v4 s F) := by
  have en : ∀ a b : Nat, a < 100 → b < 100 → (Int32.ofNat a = Int32.ofNat b ↔ a = b) := fun a b ha hb => n32i (by omega) (by omega)
  -- a piece among others
  have piece : ∀ (f : mF), isP f → (∀ (r depth : Nat) (s : am_S) (ws : ow_T) (L : List Int32) (F : am_S → Prop), isP f → tgO f → NdS σ w kn f r r → depth + ndep f ≤ 64 → WdS σ w k n g0 L s ws → L.length + csz f ≤ 100000 → (∀ s' ws', WdS σ w k n g0 (L ++ tx f 0 0) s' ws' → F s') → k_Nd_writeCondition nl Ln xs (d + hgt f + 10) (some r) (some n) (Int32.ofNat depth) s F) → (∀ (x z r y1 q depth D N m : Nat) (fst : Bool) (v4 : Option Value) (s : am_S) (ws : ow_T) (L : List Int32) (F : am_S → Prop), d + hgt f + 10 ≤ D → q ≤ 1 → tgO f → NdS σ w kn f x z → NdK σ w kn r → am_fI σ 8000 r = Int32.ofNat (12 + q) → am_fR σ 8002 r = some y1 → depth + 1 + ndep f ≤ 64 → StO σ w kn N y1 → StO σ w kn m z → (fst = true → x = y1) → (fst = false → m + cnN f < N) → WdS σ w k n g0 L s ws → L.length + csz f + 5 ≤ 100000 → (∀ s' ws' v4', WdS σ w k n g0 (L ++ ((if fst = true then [] else txt (wT (12 + q)) ++ [32]) ++ (tx f q q ++ (if m = 0 then [] else [32])))) s' ws' → c_Nd_writeCondition_25 nl Ln xs (D + 1) (some r) (some n) (Int32.ofNat depth) (am_fR σ 8003 z) v4' s' F) → c_Nd_writeCondition_25 nl Ln xs (D + 1) (some r) (some n) (Int32.ofNat depth) (some x) v4 s F) := by
    intro f hp hA x z r y1 q depth D N m fst v4 s ws L F hD hq hf hN hr hr8 hr2 hdep hN1 hm hf1 hf2 h hl K
    obtain ⟨rfl, hx⟩ := NdS.piece hp hN
    have fr := h.fr O.2.1 O.2.2.1
    have er := (fr r hr.1).2
    have hw := wq_len q hq
    have cn0 : cnN f = 0 := by
      cases f with
      | append _ _ => exact hp.elim
      | _ => rfl
    have tq : tx f 0 q = tx f q q := by rw [tx_br f 0 q hp hf, tx_br f q q hp hf]
    have hy1 : w y1 = kn := by
      cases N with
      | zero => exact hN1.1
      | succ N => exact hN1.1
    refine w_Nd_writeCondition_25 ⟨fun z => absurd z (by simp), fun _ => ⟨is_mk (hr.fr fr).2, ?_⟩⟩
    rw [Option.getD_some, er.fI, hr8, er.fR, hr2]
    refine ⟨fun z => ?_, fun _ => ⟨hi_some (O.2.2.2 x hx.1), hi_some (O.2.2.2 y1 hy1), fun z => ?_, fun z => ?_⟩⟩
    · have := (en (12 + q) 14 (by omega) (by decide)).mp z
      omega
    · have hxy : x = y1 := Option.some.inj z
      have hfst : fst = true := by
        cases fst with
        | true => rfl
        | false =>
          have h1 := hf2 rfl
          rw [hxy] at hm
          have := StO.uniq m N y1 hm hN1
          omega
      rw [hfst, if_pos rfl] at K
      refine wd_60 (d := d) (P := q) (m := m) O hp hf hA (by omega) hr hr8 hN hdep hD hm h (by omega) (fun s' ws' v4' h' => K s' ws' v4' ?_)
      rw [tq] at h'
      exact h'
    · have hfst : fst = false := by
        cases fst with
        | true => exact absurd (by rw [hf1 rfl]) z
        | false => rfl
      rw [hfst, if_neg (by decide)] at K
      refine w_Nd_writeCondition_46 ⟨is_mk (hr.fr fr).2, ?_⟩
      rw [Option.getD_some, er.fI, hr8]
      have hD6 : d + 6 ≤ D := by omega
      refine am_C.dn (wd_word (d := d) (c := 12 + q) O.1 (by omega) h (by omega) (fun s1 w1 h1 _ => ⟨is_mk h1.kd, ?_⟩)) hD6
      rw [Option.getD_some]
      refine am_C.dn (wd_put (d := d + 3) O.1 (by decide) h1 (by rw [List.length_append]; omega) (fun s2 w2 h2 => ?_)) hD6
      refine wd_60 (d := d) (P := q) (m := m) O hp hf hA (by omega) hr hr8 hN hdep hD hm h2 (by rw [List.length_append, List.length_append, List.length_singleton]; omega) (fun s' ws' v4' h' => K s' ws' v4' ?_)
      rw [tq] at h'
      simp only [List.append_assoc] at h' ⊢
      exact h'
  intro f
  induction f with
  | append a b iha ihb =>
    refine ⟨fun r depth s ws L F hp => hp.elim, ?_⟩
    intro x z r y1 q depth D N m fst v4 s ws L F hD hq hf hN hr hr8 hr2 hdep hN1 hm hf1 hf2 h hl K
    obtain ⟨y, h1, h2, hpb, h3⟩ := hN
    simp only [hgt] at hD
    simp only [ndep] at hdep
    simp only [csz] at hl
    have hca : cnN (.append a b) = cnN a + 1 := rfl
    rw [hca] at hf2
    have hy : StO σ w kn (m + 1) y := ⟨(NdS.own a x y h1).2, z, h2, hm⟩
    have la := tx_len a q q hf.1 hq
    have hw := wq_len q hq
    have cb : cnN b = 0 := by
      cases b with
      | append _ _ => exact hpb.elim
      | _ => rfl
    refine iha.2 x y r y1 q depth D N (m + 1) fst v4 s ws L F (by omega) hq hf.1 h1 hr hr8 hr2 (by omega) hN1 hy hf1 (fun q => by have := hf2 q; omega) h (by omega) (fun s1 w1 v1 h1' => ?_)
    rw [h2]
    refine ihb.2 z z r y1 q depth D N m false v1 s1 w1 _ F (by omega) hq hf.2.1 h3 hr hr8 hr2 (by omega) hN1 hm (fun z => absurd z (by decide)) (fun _ => ?_) h1' ?_ (fun s2 w2 v2 h2' => K s2 w2 v2 ?_)
    · rw [cb]
      cases fst with
      | true =>
        have hx := hf1 rfl
        have hs := NdS.sto a x y (m + 1) hf.1 h1 hy
        rw [hx] at hs
        have := StO.uniq _ _ y1 hs hN1
        omega
      | false =>
        have := hf2 rfl
        omega
    · rw [List.length_append, List.length_append, List.length_append]
      have e1 : (if fst = true then [] else txt (wT (12 + q)) ++ [(32 : Int32)]).length ≤ 4 := by
        split
        · simp
        · rw [List.length_append, List.length_singleton]
          omega
      have e2 : (if m + 1 = 0 then [] else [(32 : Int32)]).length ≤ 1 := by split <;> simp
      omega
    · rw [if_neg (show ¬ m + 1 = 0 by omega), if_neg (show ¬ false = true by decide)] at h2'
      have bq : bra q q = false := by
        unfold bra
        exact decide_eq_false (by omega)
      rw [tx, bq]
      simp only [Bool.false_eq_true, if_false, List.append_assoc, List.nil_append, List.append_nil] at h2' ⊢
      exact h2'
  | tag q a iha =>
    have A : ∀ (r depth : Nat) (s : am_S) (ws : ow_T) (L : List Int32) (F : am_S → Prop), isP (.tag q a) → tgO (.tag q a) → NdS σ w kn (.tag q a) r r → depth + ndep (.tag q a) ≤ 64 → WdS σ w k n g0 L s ws → L.length + csz (.tag q a) ≤ 100000 → (∀ s' ws', WdS σ w k n g0 (L ++ tx (.tag q a) 0 0) s' ws' → F s') → k_Nd_writeCondition nl Ln xs (d + hgt (.tag q a) + 10) (some r) (some n) (Int32.ofNat depth) s F := by
      intro r depth s ws L F _ hf hN hdep h hl K
      unfold NdS at hN
      obtain ⟨-, hk, h3⟩ := hN
      obtain ⟨hf1, hf2⟩ := hf
      simp only [ndep] at hdep
      simp only [csz] at hl
      rw [tx] at K
      have fr := h.fr O.2.1 O.2.2.1
      have er := (fr r hk.1).2
      have nd : ¬ (64 : Int32) < Int32.ofNat depth := fun g => by
        have := (n32lt (a := 64) (by omega) (by omega)).mp g
        omega
      have hD : d + hgt a + 10 ≤ d + hgt a + 10 := Nat.le_refl _
      have eh : d + hgt (.tag q a) + 10 = (d + hgt a + 10) + 1 := by simp only [hgt]; omega
      rw [eh]
      by_cases q2 : q = 2
      · rw [if_pos q2] at h3 hf1 K
        obtain ⟨g1, y, g2, gp, g3, g4⟩ := h3
        have hw := wt_len (c := 14) (by decide)
        have hm : StO σ w kn 0 y := ⟨(NdS.own a y y g3).1, g4⟩
        have e14 : (txt (wT 14)).length = 3 := by decide +kernel
        refine w_Nd_writeCondition ⟨fun g => absurd g nd, fun _ => ⟨is_mk (hk.fr fr).2, ?_⟩⟩
        rw [Option.getD_some, er.fR, g2]
        refine ⟨fun z => absurd z (by simp), fun _ => ?_⟩
        rintro _ rfl
        refine w_Nd_writeCondition_25 ⟨fun z => absurd z (by simp), fun _ => ⟨is_mk (hk.fr fr).2, ?_⟩⟩
        rw [Option.getD_some, er.fI, g1]
        refine ⟨fun _ => ?_, fun z => absurd rfl z⟩
        refine w_Nd_writeCondition_46 ⟨is_mk (hk.fr fr).2, ?_⟩
        rw [Option.getD_some, er.fI, g1]
        have hD6 : d + 6 ≤ d + hgt a + 10 := by omega
        refine am_C.dn (wd_word (d := d) (c := 14) O.1 (by decide) h (by omega) (fun s1 w1 h1 _ => ⟨is_mk h1.kd, ?_⟩)) hD6
        rw [Option.getD_some]
        refine am_C.dn (wd_put (d := d + 3) O.1 (by decide) h1 (by rw [List.length_append]; omega) (fun s2 w2 h2 => ?_)) hD6
        refine wd_60 (d := d) (P := 2) (m := 0) O gp hf2 iha.1 (by omega) hk g1 g3 (by omega) (Nat.le_refl _) hm h2 (by rw [List.length_append, List.length_append, List.length_singleton]; omega) (fun s' ws' v4' h' => ?_)
        rw [g4]
        refine w_Nd_writeCondition_25 ⟨fun _ => K s' ws' ?_, fun z => absurd rfl z⟩
        rw [if_pos rfl] at h'
        simp only [List.append_assoc, List.append_nil] at h' ⊢
        exact h'
      · rw [if_neg q2] at h3 hf1 K
        obtain ⟨g0', g1, y1, y2, g2, g3, g4⟩ := h3
        obtain ⟨-, xa, xb, hab⟩ := hf1
        have hm : StO σ w kn 0 y2 := ⟨(NdS.own a y1 y2 g3).2, g4⟩
        have hs := NdS.sto a y1 y2 0 hf2 g3 hm
        have tq : tx a q q = tx a q 0 := by
          have b1 : bra q q = false := by
            unfold bra
            exact decide_eq_false (by omega)
          have b2 : bra q 0 = false := by
            unfold bra
            exact decide_eq_false (by omega)
          rw [hab, tx, tx, b1, b2]
        refine w_Nd_writeCondition ⟨fun g => absurd g nd, fun _ => ⟨is_mk (hk.fr fr).2, ?_⟩⟩
        rw [Option.getD_some, er.fR, g2]
        refine ⟨fun z => absurd z (by simp), fun _ => ?_⟩
        rintro _ rfl
        refine iha.2 y1 y2 r y1 q depth (d + hgt a + 10) (0 + cnN a) 0 true none s ws L F (Nat.le_refl _) g0' hf2 g3 hk g1 g2 (by omega) hs hm (fun _ => rfl) (fun z => absurd z (by decide)) h (by omega) (fun s' ws' v4' h' => ?_)
        rw [g4]
        refine w_Nd_writeCondition_25 ⟨fun _ => K s' ws' ?_, fun z => absurd rfl z⟩
        rw [if_pos rfl, if_pos rfl, tq] at h'
        simp only [List.append_nil, List.nil_append] at h'
        exact h'
    exact ⟨A, piece (.tag q a) trivial A⟩
  | nest c a _ =>
    cases a with
    | nest m b =>
      cases b with
      | nil =>
        have A : ∀ (r depth : Nat) (s : am_S) (ws : ow_T) (L : List Int32) (F : am_S → Prop), isP (.nest c (.nest m .nil)) → tgO (.nest c (.nest m .nil)) → NdS σ w kn (.nest c (.nest m .nil)) r r → depth + ndep (.nest c (.nest m .nil)) ≤ 64 → WdS σ w k n g0 L s ws → L.length + csz (.nest c (.nest m .nil)) ≤ 100000 → (∀ s' ws', WdS σ w k n g0 (L ++ tx (.nest c (.nest m .nil)) 0 0) s' ws' → F s') → k_Nd_writeCondition nl Ln xs (d + hgt (.nest c (.nest m .nil)) + 10) (some r) (some n) (Int32.ofNat depth) s F := by
          intro r depth s ws L F _ hf hN hdep h hl K
          have hk := hN.2.1
          have h82 := hN.2.2.2.2.1
          have fr := h.fr O.2.1 O.2.2.1
          have er := (fr r hk.1).2
          have nd : ¬ (64 : Int32) < Int32.ofNat depth := fun g => by
            have := (n32lt (a := 64) (by omega) (by omega)).mp g
            omega
          refine w_Nd_writeCondition ⟨fun g => absurd g nd, fun _ => ⟨is_mk (hk.fr fr).2, ?_⟩⟩
          rw [Option.getD_some, er.fR, h82]
          exact ⟨fun _ => wd_test (d := d + 1) O hN h (by omega) (fun s' ws' h' _ => K s' ws' h'), fun z => absurd rfl z⟩
        exact ⟨A, piece (.nest c (.nest m .nil)) trivial A⟩
      | _ => exact ⟨fun r depth s ws L F _ _ hN => hN.elim, fun x z r y1 q depth D N m fst v4 s ws L F _ _ _ hN => hN.elim⟩
    | _ => exact ⟨fun r depth s ws L F _ _ hN => hN.elim, fun x z r y1 q depth D N m fst v4 s ws L F _ _ _ hN => hN.elim⟩
  | _ => exact ⟨fun r depth s ws L F _ _ hN => hN.elim, fun x z r y1 q depth D N m fst v4 s ws L F _ _ _ hN => hN.elim⟩
end
