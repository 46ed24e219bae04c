/-! THE CLASS: taking in -/
section
variable {nl : Bool} {Ln : Nat} {xs : Nat → Int32} {d : Nat} {σ s : am_S} {w ws : ow_T} {τ : am_S} {v b b2 gl nu gl2 nu2 : Nat} {X : Stx} {sp : Option Nat} {g : Grw} {D : mTop} {M2 : mOff} {fnd : Int32}
/-- the desk's cell gets another book to spare -/
theorem TkD.c8 {y : Option Nat} (R : TkD τ σ w v X b b2 sp g gl nu gl2 nu2 D M2 fnd) (e : s = am_sfR σ 8 1000 y) : TkD τ s w v X b b2 y g gl nu gl2 nu2 D M2 fnd := by
  obtain ⟨⟨C, hb, ht, T, S, ⟨⟨ov, L⟩, hl13⟩, B, hrf⟩, hb2, ⟨tx, Tx⟩, A, hf⟩ := id R
  have hv := R.vv
  have hO := R.fx
  have E : Eff (fun q => q = (2, 1000)) σ w s w := by rw [e]; exact Eff.sfR R.ow C.1.1
  have hC : CoR s w v b y := by
    obtain ⟨c1, ⟨c3, c4, c5, c6⟩, ⟨c7, c8, c9⟩, c10, c11, c12, c13⟩ := C
    rw [e]
    exact ⟨c1, ⟨(rR_g (by decide)).trans c3, (rR_g (by decide)).trans c4, (rR_g (by decide)).trans c5, (rR_g (by decide)).trans c6⟩, ⟨(rR_g (by decide)).trans c7, (rR_g (by decide)).trans c8, (rR_g (by decide)).trans c9⟩, (rR_g (by decide)).trans c10, rR_same, (rR_g (by decide)).trans c12, c13⟩
  have e8 := E.2 (2, 1008) (snd_ne (by decide)) (by simp) 1008 (hO 1008 (by unfold fixW; omega))
  exact ⟨⟨hC, hb, by rw [e]; exact ht, T.fr (E.2 (2, 1001) (snd_ne (by decide)) (by simp)), S.fr (E.2 (2, 1005) (snd_ne (by decide)) (by simp)), ⟨⟨ov, L.eqc (fun j hj => (E.2 (2, 2070 - v + j) (snd_ne (by omega)) (by simp) _ (hO _ (by unfold fixW; omega))).2)⟩, hl13⟩, B.fr (fun j => E.bk (fst_ne (by omega)) (by omega)), hrf.eff E (fst_ne (by decide))⟩, hb2, ⟨tx, Tx.fr (E.2 (2, 1003) (snd_ne (by decide)) (by simp))⟩, A.byt hb2.1 E (by omega) (by rw [e]; exact Nat.le_refl _) (A.2.2.eq ⟨rfl, rfl, rfl, rfl⟩ (by rw [e]; exact ⟨rfl, rfl⟩)), e8.2.fI.trans hf⟩
/-- nothing was taken in -/
theorem TkD.back (R : TkD τ σ w v X b b2 (some b2) g gl nu gl2 0 D m_new fnd) : DskC τ σ w v X b (some b2) (g.1, g.2.1, g.2.2.1, gl2) gl nu (d_setFnd D fnd) := by
  obtain ⟨⟨C, hb, ht, T, S, Lk, B, hrf⟩, hb2, Tx, A, hf⟩ := R
  refine ⟨C, hb, ht, T, Tx, S, Lk, ⟨A.1, B, ?_⟩, hf, fun b3 h3 => ?_, hrf⟩
  · have := room_turn (b2 := b2) A.2.2
    rw [vof_new] at this
    exact this
  · obtain rfl := Option.some.inj h3
    exact ⟨hb2.1, hb2.2, A.2.1⟩
/-- one act was refused, or the check does not stand -/
theorem tk_fault {p : Nat} {x1 x4 x5 : Int32} {x6 : Option Value} {F : Int32 → am_S → Prop} (hp : p < 100000) (hw : WfO M2) (R : TkD τ σ w v X b b2 sp g gl nu gl2 nu2 D M2 fnd) (K : ∀ s ws X', DskC τ s ws v X' b (some b2) (g.1, g.2.1, g.2.2.1, gl2) gl nu (d_setFnd D fnd) → F (-10 - Int32.ofNat p) s) : c_Co_takeIn_192 nl Ln xs (d + 6) 1000 x1 (some b2) (Int32.ofNat p) x4 x5 x6 σ F := by
  have hne : ¬ Int32.ofNat p = -1 := fun z => by
    have : (Int32.ofNat p).toInt = -1 := by rw [z]; decide
    rw [n32 (by omega)] at this
    omega
  refine w_Co_takeIn_192 ⟨fun z => absurd z hne, ?_⟩
  rintro _ rfl
  rw [if_neg hne]
  refine w_Co_takeIn_206 ⟨is_mk R.co.1.2, ?_⟩
  intro s2 e2
  have R2 := R.c8 (y := some b2) e2
  have f8 := R2.co.2.2.2.2.1
  rw [f8, Option.getD_some]
  refine ⟨is_mk R2.co.1.2, is_mk R2.2.2.2.1.2.1.1.1.2.1, bk_clear (d := d) R2.2.1.1 hw.1.1.1 hw.1.2.2.1.1 hw.1.2.2.2.1 R2.2.2.2.1 (fun s7 w7 X7 A7 E7 f7 _ => ⟨fun z => absurd z hne, fun _ => ?_⟩)⟩
  have R7 := R2.act E7 A7 (f7.trans R2.2.2.2.2)
  exact K s7 w7 X7 R7.back
/-- all was taken in -/
theorem tk_done {k : Nat} {x1 x5 : Int32} {x6 : Option Value} {F : Int32 → am_S → Prop} (hw : WfO (d_off D)) (R : TkD τ σ w v X b b2 sp g gl nu gl2 nu2 D M2 fnd) (K : ∀ s ws X', DskC τ s ws v X' b2 (some b) (g.1, g.2.1, g.2.2.1, gl) gl2 nu2 (d_setTap (d_setOff (d_setFnd D fnd) M2) []) → F (Int32.ofNat k) s) : c_Co_takeIn_192 nl Ln xs (d + 6) 1000 x1 (some b2) (-1) (Int32.ofNat k) x5 x6 σ F := by
  refine w_Co_takeIn_192 ⟨fun _ => is_mk R.co.1.2, ?_⟩
  rintro _ rfl
  rw [if_pos rfl, R.co.2.2.2.1]
  refine w_Co_takeIn_206 ⟨is_mk R.co.1.2, ?_⟩
  intro s2 e2
  have R2 := R.c8 (y := some b) e2
  have f8 := R2.co.2.2.2.2.1
  rw [f8, Option.getD_some]
  obtain ⟨⟨C, hb, ht, T, S, Lk, B, hrf⟩, hb2, Tx, A, hf⟩ := id R2
  have Ab : Bks s2 w v X b (d_off D) gl nu (vof M2 nu2) (grC (g.1, g.2.1, g.2.2.1, gl2) (some b2)) := ⟨A.1, B, room_turn A.2.2⟩
  have TB : TkB τ s2 w v b b2 (some b) g gl2 nu2 (d_setOff D M2) := ⟨C, hb2.1, ht, T, S, Lk, A.2.1, hrf⟩
  refine ⟨is_mk C.1.2, is_mk B.1.1.2.1, bk_clear (d := d) hb hw.1.1.1 hw.1.2.2.1.1 hw.1.2.2.2.1 Ab (fun s7 w7 X7 A7 E7 f7 _ => ⟨fun _ => ?_, fun z => absurd rfl z⟩)⟩
  have hv := R2.vv
  have hO := R2.fx
  have no : ∀ c, c < 1008 → ¬ bkK b v (2, c) := fun c hc z => by
    rcases z with z | z | z
    · have : 2 = b := z
      omega
    · exact absurd z (show ¬ (2 : Nat) = 1 by decide)
    · have z2 := z.2
      simp only at z2
      omega
  have e7 := E7.2 (2, 1007) (no 1007 (by decide)) (by simp) 1007 C.2.2.2.2.2.2.1
  have TB7 := TB.eff (b2 := b) hv hO ⟨hb, fun z => hb2.2 z.symm⟩ E7 (fun q hq => Or.inl hq) ⟨e7.1, e7.2.kd.trans C.2.2.2.2.2.2.2⟩ (T.fr (E7.2 (2, 1001) (no 1001 (by decide)) (by simp)))
  obtain ⟨tx, Tx⟩ := Tx
  have Tx7 := Tx.fr (E7.2 (2, 1003) (no 1003 (by decide)) (by simp))
  obtain ⟨C7, -, ht7, T7, S7, ⟨⟨ov, L7⟩, hl13⟩, B7, hrf7⟩ := TB7
  intro s10 e10
  have ow7 := A7.1.1.1
  have hO7 := A7.1.2.2.2.2.1
  have E10 : Eff (fun q => q = (2, 1000)) s7 w7 s10 w7 := by rw [e10]; exact Eff.sfR ow7 C7.1.1
  have C10 : CoR s10 w7 v b2 (some b) := by
    obtain ⟨c1, ⟨c3, c4, c5, c6⟩, ⟨c7, c8, c9⟩, c10, c11, c12, c13⟩ := C7
    rw [e10]
    exact ⟨c1, ⟨(rR_g (by decide)).trans c3, (rR_g (by decide)).trans c4, (rR_g (by decide)).trans c5, (rR_g (by decide)).trans c6⟩, ⟨(rR_g (by decide)).trans c7, (rR_g (by decide)).trans c8, (rR_g (by decide)).trans c9⟩, rR_same, (rR_g (by decide)).trans c11, (rR_g (by decide)).trans c12, c13⟩
  have e8 := E10.2 (2, 1008) (snd_ne (by decide)) (by simp) 1008 (hO7 1008 (by unfold fixW; omega))
  have Ab2 : Bks s7 w7 v X7 b2 M2 gl2 nu2 (0, 0, 0, 0, 0) (grC (g.1, g.2.1, g.2.2.1, gl) (some b)) := by
    have := room_turn (b2 := b) A7.2.2
    rw [vof_new] at this
    exact ⟨A7.1, B7, this⟩
  have R10 : DskC τ s10 w7 v X7 b2 (some b) (g.1, g.2.1, g.2.2.1, gl) gl2 nu2 (d_setOff (d_setFnd D fnd) M2) := by
    refine ⟨C10, hb2.1, by rw [e10]; exact ht7, T7.fr (E10.2 (2, 1001) (snd_ne (by decide)) (by simp)), ⟨tx, Tx7.fr (E10.2 (2, 1003) (snd_ne (by decide)) (by simp))⟩, S7.fr (E10.2 (2, 1005) (snd_ne (by decide)) (by simp)), ⟨⟨ov, L7.eqc (fun j hj => (E10.2 (2, 2070 - v + j) (snd_ne (by omega)) (by simp) _ (hO7 _ (by unfold fixW; omega))).2)⟩, hl13⟩, Ab2.byt hb2.1 E10 (by omega) (by rw [e10]; exact Nat.le_refl _) (Ab2.2.2.eq ⟨rfl, rfl, rfl, rfl⟩ (by rw [e10]; exact ⟨rfl, rfl⟩)), e8.2.fI.trans (f7.trans hf), fun b3 h3 => ?_, hrf7.eff E10 (fst_ne (by decide))⟩
    obtain rfl := Option.some.inj h3
    exact ⟨hb, fun z => hb2.2 z.symm, A7.2.1.fr (fun j => E10.bk (fst_ne (by omega)) (by omega))⟩
  have T10 := R10.2.2.2.1
  rw [R10.1.2.1.1, Option.getD_some]
  refine ⟨is_mk T10.2.1, by_clr (d := d + 4) T10 R10.2.2.2.2.2.2.2.1.1.1.1 (fun s14 T14 c14 hx14 => K s14 w7 X7 ?_)⟩
  exact R10.tap T14 c14 hx14.2
theorem co_takeIn {c : Nat} {F : Int32 → am_S → Prop} (hI : InvT D c) (hc : c ≤ 600) (hnu : nu ≤ 4900) (R : DskC τ σ w v X b sp g gl nu D) (K : ∀ s ws X' b' sp' g' gl' nu', nu' + (d_tap (d_takeIn D).2).length ≤ nu + (d_tap D).length → DskC τ s ws v X' b' sp' g' gl' nu' (d_takeIn D).2 → F (d_takeIn D).1 s) : k_Co_takeIn nl Ln xs (d + 417) 1000 σ F := by
  have hw := hI.1.1.1
  have hpot := hI.2.2.1
  have hl := hI.2.2.2.1
  have htak := hI.2.2.2.2
  have A := R.2.2.2.2.2.2.2.1
  have n9 : am_fI σ 6019 b = b2i (o_und (d_off D)) := A.2.1.2.1.2.2.2.2.2.2.2.2
  have ht := R.2.2.1
  unfold d_takeIn at K
  refine w_Co_takeIn ⟨is_mk R.1.1.2, ?_⟩
  rw [R.1.2.2.2.1, Option.getD_some, n9, ht]
  refine ⟨is_mk A.2.1.1.1.2.1, fun hu => ⟨fun h40 => ?_, fun h40 => ?_⟩, fun hu => ?_⟩
  · have hun : ¬ (o_und (d_off D) = true) := fun z => by rw [z] at hu; exact absurd hu (by decide)
    rw [show (40 : Int32) = Int32.ofNat 40 from rfl, n32lt (by omega) (by omega)] at h40
    rw [if_neg hun, if_neg (by omega)] at K
    intro s5 e5
    rw [n32s] at e5
    have R5 := R.tak e5
    obtain ⟨D5, hD5⟩ : ∃ D5, D5 = d_setTak D (d_tak D + 1) := ⟨_, rfl⟩
    rw [← hD5] at R5 K
    have et : d_tap D5 = d_tap D := by rw [hD5]; rfl
    have eo : d_off D5 = d_off D := by rw [hD5]; rfl
    have ef : d_fnd D5 = d_fnd D := by rw [hD5]; rfl
    have T5 := R5.2.2.2.1
    rw [R5.1.2.1.1, Option.getD_some, T5.2.2.2.2.1]
    refine ⟨is_mk T5.2.1, ?_⟩
    intro v9 e9
    have hV : Vok (vof (d_off D5) nu) := by
      rw [eo]
      exact ⟨ne_le hw hI.1.2.1.1, hw.1.1.1, hw.1.2.2.1.1, hw.1.2.2.2.1⟩
    -- behind the fresh book
    have go : ∀ (s : am_S) (ws : ow_T) (b2 : Nat) (sp2 : Option Nat) (g2 : Nat), TkD τ s ws v X b b2 sp2 g gl nu g2 0 D5 m_new (d_fnd D5) → c_Co_takeIn_78 nl Ln xs (d + 417) 1000 v9 (some b2) s F := by
      intro s ws b2 sp2 g2 R6
      refine w_Co_takeIn_78 ?_
      rintro _ rfl
      refine w_Co_takeIn_88 ⟨is_mk R6.co.1.2, ?_⟩
      rw [R6.co.2.1.1, Option.getD_some]
      refine ⟨is_mk R6.tap.2.1, w_By_startReading ⟨is_mk R6.tap.2.1, ?_⟩⟩
      intro s8 e8 s9 e10 _
      have f9 : RdF 1001 s s9 := by
        have a1 : RdF 1001 s s8 := by rw [e8]; exact RdF.sfI (by decide)
        have a2 : RdF 1001 s8 s9 := by rw [e10]; exact RdF.sfI (by decide)
        exact a1.trans a2
      have q9 : RdQ s9 0 := by
        refine ⟨?_, by rw [e10]; exact rI_same⟩
        rw [e10, rI_g (by decide), e8]
        exact rI_same
      have R9 := R6.rd f9
      by_cases h4 : (d_tap D).length < 4
      · -- too short
        rw [if_pos h4] at K
        have hneg : v9 < 0 := by
          rw [e9, et, i32lt, i32sub (by rw [n32 (by omega), show (4 : Int32).toInt = 4 by decide]; omega) (by rw [n32 (by omega), show (4 : Int32).toInt = 4 by decide]; omega), n32 (by omega), show (4 : Int32).toInt = 4 by decide, show (0 : Int32).toInt = 0 by decide]
          omega
        rw [if_pos hneg]
        refine w_Co_takeIn_102 ⟨fun _ => ⟨fun z => absurd z (by decide), fun _ => ?_⟩, fun z => absurd (by decide) z⟩
        refine w_Co_takeIn_177 ⟨fun z => absurd z (by decide), fun _ => ?_⟩
        refine tk_fault (d := d + 411) (p := 0) (by decide) inv_new.1.1 R9 (fun s' ws' X' R' => ?_)
        exact K s' ws' X' b (some b2) _ gl nu (by show nu + (d_tap D5).length ≤ _; rw [et]; exact Nat.le_refl _) R'
      · rw [if_neg h4] at K
        obtain ⟨e, he⟩ : ∃ e, e + 4 = (d_tap D).length := ⟨(d_tap D).length - 4, by omega⟩
        have hve : v9 = Int32.ofNat e := by
          rw [e9, et, i32e, i32sub (by rw [n32 (by omega), show (4 : Int32).toInt = 4 by decide]; omega) (by rw [n32 (by omega), show (4 : Int32).toInt = 4 by decide]; omega), n32 (by omega), show (4 : Int32).toInt = 4 by decide, n32 (by omega)]
          omega
        have hnn : ¬ v9 < 0 := by
          rw [hve, show (0 : Int32) = Int32.ofNat 0 from rfl, n32lt (by omega) (by omega)]
          omega
        rw [if_neg hnn, hve]
        rw [show (d_tap D).length - 4 = e by omega] at K
        dsimp only at K
        have hbl : ((d_tap D).take e).length = e := by rw [List.length_take]; omega
        rw [hbl] at K
        have erem : ∀ a, rem D5 e a = ((d_tap D).take e).drop a := fun a => by unfold rem; rw [et]
        have rlen : ∀ a, (rem D5 e a).length = e - a := fun a => by rw [erem, List.length_drop, hbl]
        have e0 : rem D5 e 0 = (d_tap D).take e := by rw [erem, List.drop_zero]
        obtain ⟨Q, hQ⟩ : ∃ Q, Q = d_acts e 0 m_new (d_fnd D) ((d_tap D).take e) := ⟨_, rfl⟩
        rw [← hQ] at K
        -- a fault
        have bad : ∀ {s1 : am_S} {w1 : ow_T} {X1 : Stx} {gt gl1 nu1 : Nat} {M1 : mOff} {f1 : Int32} {p : Nat} {x4 x5 : Int32} {x6 : Option Value}, TkD τ s1 w1 v X1 b b2 sp2 (g.1, gt, g.2.2) gl nu gl1 nu1 D5 M1 f1 → InvM M1 → Q = (.inl (e - p), f1) → p ≤ e → c_Co_takeIn_192 nl Ln xs (d + 417) 1000 (Int32.ofNat e) (some b2) (Int32.ofNat p) x4 x5 x6 s1 F := by
          intro s1 w1 X1 gt gl1 nu1 M1 f1 p x4 x5 x6 R1 I1 hq hp
          refine tk_fault (d := d + 411) (p := p) (by omega) I1.1.1 R1 (fun s' ws' X' R' => ?_)
          rw [hq] at K
          have K' := K s' ws' X' b (some b2) _ gl nu (by show nu + (d_tap D5).length ≤ _; rw [et]; exact Nat.le_refl _) R'
          dsimp only at K'
          rw [show e - (e - p) = p by omega] at K'
          exact K'
        have good : ∀ {s1 : am_S} {w1 : ow_T} {X1 : Stx} {gt gl1 nu1 k a : Nat} {M1 : mOff} {f1 : Int32} {x5 : Int32} {x6 : Option Value}, TkD τ s1 w1 v X1 b b2 sp2 (g.1, gt, g.2.2) gl nu gl1 nu1 D5 M1 f1 → InvM M1 → nu1 ≤ e → Q = (.inr (M1, k), f1) → c_Co_takeIn_177 nl Ln xs (d + 417) 1000 (Int32.ofNat e) (some b2) (-1) (Int32.ofNat k) x5 x6 s1 F := by
          intro s1 w1 X1 gt gl1 nu1 k a M1 f1 x5 x6 R1 I1 hn1 hq
          refine w_Co_takeIn_177 ⟨fun _ => ⟨is_mk R1.co.1.2, ?_⟩, fun z => absurd rfl z⟩
          refine tk_check (d := d + 414) (by rw [et]; exact he) (by rw [et]; exact hl) R1 (fun _ => ?_)
          rintro _ rfl
          rw [hq] at K
          dsimp only at K
          rw [et]
          by_cases hch : (d_tap D).drop e = d_hb (d_hash 0 ((d_tap D).take e))
          · rw [if_pos hch] at K
            rw [decide_eq_true hch, if_pos rfl]
            refine tk_done (d := d + 411) (by rw [eo]; exact hw) R1 (fun s' ws' X' R' => ?_)
            exact K s' ws' X' b2 (some b) _ gl1 nu1 (by show nu1 + 0 ≤ _; omega) R'
          · rw [if_neg hch] at K
            rw [decide_eq_false hch, if_neg (by decide)]
            refine tk_fault (d := d + 411) (p := e) (by omega) I1.1.1 R1 (fun s' ws' X' R' => ?_)
            exact K s' ws' X' b (some b2) _ gl nu (by show nu + (d_tap D5).length ≤ _; rw [et]; exact Nat.le_refl _) R'
        have loop : ∀ (m : Nat) (f k a st gt gl1 nu1 : Nat) (M1 : mOff) (f1 : Int32) (X1 : Stx) (x6 : Option Value) (s1 : am_S) (w1 : ow_T), e - a ≤ m → a ≤ e → e - a ≤ f → st ≤ a → k ≤ a → nu1 ≤ a → TkD τ s1 w1 v X1 b b2 sp2 (g.1, gt, g.2.2) gl nu gl1 nu1 D5 M1 f1 → RdQ s1 a → InvM M1 → pot M1 + 11 * (e - a) ≤ 66000 → d_acts f k M1 f1 (rem D5 e a) = Q → c_Co_takeIn_102 nl Ln xs (d + 417) 1000 (Int32.ofNat e) (some b2) (-1) (Int32.ofNat k) (Int32.ofNat st) x6 s1 F := by
          intro m
          induction m with
          | zero =>
            intro f k a st gt gl1 nu1 M1 f1 X1 x6 s1 w1 hm ha hf hst hk hn1 R1 q1 I1 hp hq
            have hae : a = e := by omega
            have hemp : rem D5 e a = [] := List.eq_nil_of_length_eq_zero (by rw [rlen]; omega)
            have hq2 : Q = (.inr (M1, k), f1) := by
              rw [← hq, hemp]
              cases f with
              | zero => rfl
              | succ f => rw [d_acts, if_pos rfl]
            refine w_Co_takeIn_102 ⟨fun _ => ⟨fun _ => ⟨is_mk R1.co.1.2, ?_⟩, fun z => absurd rfl z⟩, fun z => absurd (show Int32.ofNat st < Int32.ofNat 6000 by rw [n32lt (by omega) (by omega)]; omega) z⟩
            rw [R1.co.2.1.1, Option.getD_some, q1.1, n32lt (by omega) (by omega)]
            exact ⟨is_mk R1.tap.2.1, fun z => absurd z (by omega), fun _ => good (a := a) R1 I1 (by omega) hq2⟩
          | succ m ih =>
            intro f k a st gt gl1 nu1 M1 f1 X1 x6 s1 w1 hm ha hf hst hk hn1 R1 q1 I1 hp hq
            by_cases hae : a = e
            · have hemp : rem D5 e a = [] := List.eq_nil_of_length_eq_zero (by rw [rlen]; omega)
              have hq2 : Q = (.inr (M1, k), f1) := by
                rw [← hq, hemp]
                cases f with
                | zero => rfl
                | succ f => rw [d_acts, if_pos rfl]
              refine w_Co_takeIn_102 ⟨fun _ => ⟨fun _ => ⟨is_mk R1.co.1.2, ?_⟩, fun z => absurd rfl z⟩, fun z => absurd (show Int32.ofNat st < Int32.ofNat 6000 by rw [n32lt (by omega) (by omega)]; omega) z⟩
              rw [R1.co.2.1.1, Option.getD_some, q1.1, n32lt (by omega) (by omega)]
              exact ⟨is_mk R1.tap.2.1, fun z => absurd z (by omega), fun _ => good (a := a) R1 I1 (by omega) hq2⟩
            · have hne : rem D5 e a ≠ [] := fun z => by
                have := rlen a
                rw [z] at this
                simp only [List.length_nil] at this
                omega
              obtain ⟨f', rfl⟩ : ∃ f', f = f' + 1 := ⟨f - 1, by omega⟩
              rw [d_acts, if_neg hne] at hq
              refine w_Co_takeIn_102 ⟨fun _ => ⟨fun _ => ⟨is_mk R1.co.1.2, ?_⟩, fun z => absurd rfl z⟩, fun z => absurd (show Int32.ofNat st < Int32.ofNat 6000 by rw [n32lt (by omega) (by omega)]; omega) z⟩
              rw [R1.co.2.1.1, Option.getD_some, q1.1, n32lt (by omega) (by omega)]
              refine ⟨is_mk R1.tap.2.1, fun _ => ?_, fun z => absurd (by omega) z⟩
              intro v6 e6
              refine co_readDeed (d := d + 410) ha (by rw [et]; omega) (by rw [et]; exact hl) R1 q1 (fun n vs t r s2 w2 gt2 a' hrd R2 Tx2 q2 hr ha2 D2 ha' hA6 h61 _ => ?_) (fun s2 w2 gt2 hrd R2 _ => ?_)
              · rw [hrd] at hq
                dsimp only at hq
                obtain ⟨hn, hln, ht400, htn, hvl⟩ := rd1_len hrd
                rw [rlen] at hln
                have hrl : r.length ≤ e := by omega
                have haw : a + aW n t ≤ e - r.length := by omega
                have hpos := aW_pos (n := n) (t := t)
                have hact := inv_act (fnd := f1) (a := d_arg vs) (t := t) I1 hn.1 hn.2 (by have := now_le I1.1.1; omega)
                have hpot1 := hact.2
                have hlog : (o_log M1).length < 190000 := by
                  have : (o_log M1).length ≤ pot M1 := by unfold pot; omega
                  omega
                have hlog2 : (o_log (m_act M1 f1 n (d_arg vs) t).2.1).length < 198000 := by
                  have : (o_log (m_act M1 f1 n (d_arg vs) t).2.1).length ≤ pot (m_act M1 f1 n (d_arg vs) t).2.1 := by unfold pot; omega
                  omega
                have hv := R2.vv
                have no : ∀ c, c < 1008 → ¬ bkK b2 v (2, c) := fun c hc z => by
                  have := R2.2.1.1
                  rcases z with z | z | z
                  · have : 2 = b2 := z
                    omega
                  · exact absurd z (show ¬ (2 : Nat) = 1 by decide)
                  · have z2 := z.2
                    simp only at z2
                    omega
                have w7 := R2.co.2.2.2.2.2.2.1
                refine ⟨fun _ => ⟨is_mk R2.2.2.2.1.2.1.1.1.2.1, ?_⟩, fun z => absurd rfl z⟩
                rw [Option.getD_some, R2.co.2.1.2.2.2, R2.co.2.1.2.1]
                refine bk_perform (d := d) (a := d_arg vs) (a' := a') (kt := (2, 1003)) (tn := 1003) (gt := gt2) (t := t) R2.2.1.1 hV I1.ck hn.1 hn.2 hlog hlog2 (by have := now_le I1.1.1; omega) (by show nu1 + nu ≤ 11000; omega) (fun h5 => by subst h5; exact rd1_fit hrd) D2 ha' hA6 w7 (fun h6 => ⟨rfl, Tx2 h6, no 1003 (by decide), by simp, by omega, h61 h6⟩) R2.2.2.2.1 R2.2.2.2.2 (fun rr hrr s3 w3 X3 gl3 nu3 A3 hn3 E3 f3 _ => ?_)
                have R3 := R2.act E3 A3 f3
                have e37 := E3.2 (2, 1007) (no 1007 (by decide)) (by simp) 1007 w7
                have e31 := E3.2 (2, 1001) (no 1001 (by decide)) (by simp) 1001 R2.tap.1
                have D3 := D2.eq e37.2
                have q3 := RdQ.eqc q2 e31.2
                rw [← hrr] at hact hpot1 hq
                have htl : t.length ≤ aW n t := by
                  by_cases h6 : n = 6
                  · unfold aW
                    rw [if_pos h6]
                    omega
                  · rw [htn h6]
                    exact Nat.zero_le _
                refine tk_refused (d := d + 415) (by omega) R3.co D3 (fun bo hbo _ => ?_)
                rintro _ rfl _ rfl
                by_cases hb : bo = true
                · rw [if_pos hb, if_pos hb, e6]
                  rw [if_neg (fun z => hbo.mp hb (m_dec_eq.mp z)), rlen] at hq
                  refine w_Co_takeIn_102 ⟨fun _ => ⟨fun z => ?_, fun _ => ?_⟩, fun z => ?_⟩
                  · have : (Int32.ofNat a).toInt = -1 := by rw [z]; decide
                    rw [n32 (by omega)] at this
                    omega
                  · refine w_Co_takeIn_177 ⟨fun z => ?_, fun _ => bad R3 hact.1 hq.symm (by omega)⟩
                    have : (Int32.ofNat a).toInt = -1 := by rw [z]; decide
                    rw [n32 (by omega)] at this
                    omega
                  · rw [n32s] at z
                    exact absurd (show Int32.ofNat (st + 1) < Int32.ofNat 6000 by rw [n32lt (by omega) (by omega)]; omega) z
                · rw [if_neg hb, if_neg hb, n32s, n32s]
                  rw [if_pos (m_dec_eq.mpr (Classical.byContradiction (fun z => hb (hbo.mpr z))))] at hq
                  refine ih f' (k + 1) (e - r.length) (st + 1) gt2 gl3 nu3 rr.2.1 rr.2.2 X3 _ s3 w3 (by omega) (by omega) (by omega) (by omega) (by omega) (by have := hn3.1; omega) R3 q3 hact.1 (by omega) ?_
                  rw [← hr]
                  exact hq
              · rw [hrd] at hq
                dsimp only at hq
                rw [rlen] at hq
                refine ⟨fun z => absurd z (by decide), fun _ => ?_⟩
                rw [e6]
                refine w_Co_takeIn_102 ⟨fun _ => ⟨fun z => ?_, fun _ => ?_⟩, fun z => ?_⟩
                · have : (Int32.ofNat a).toInt = -1 := by rw [z]; decide
                  rw [n32 (by omega)] at this
                  omega
                · refine w_Co_takeIn_177 ⟨fun z => ?_, fun _ => bad R2 I1 hq.symm (by omega)⟩
                  have : (Int32.ofNat a).toInt = -1 := by rw [z]; decide
                  rw [n32 (by omega)] at this
                  omega
                · rw [n32s] at z
                  exact absurd (show Int32.ofNat (st + 1) < Int32.ofNat 6000 by rw [n32lt (by omega) (by omega)]; omega) z
        exact loop e e 0 0 0 g.2.1 g2 0 m_new (d_fnd D5) X none s9 ws (by omega) (by omega) (by omega) (by omega) (by omega) (by omega) R9 q9 inv_new (by show 0 + _ ≤ _; omega) (by rw [e0, ef]; exact hQ.symm)
    refine ⟨fun h8 => ?_, fun h8 => ?_⟩
    · intro s12 e12 _ z12
      have hsp : sp = none := R5.1.2.2.2.2.1.symm.trans h8
      subst hsp
      have c4 : am_fR s12 4 1000 = some 1008 ∧ am_fR s12 5 1000 = some 1034 ∧ am_fR s12 6 1000 = some 1038 := by
        rw [e12]
        exact R5.1.2.2.1
      rw [c4.1, c4.2.1, c4.2.2]
      have A5 := R5.2.2.2.2.2.2.2.1
      refine bk_init (d := d + 414) (w := w) rfl e12 z12 A5.1.1.1 A5.1.1.2 (fun s14 B14 E14 x14 y14 _ => ?_)
      exact go s14 _ _ none 0 (R5.tkn rfl B14 E14 x14 y14)
    · cases sp with
      | none => exact absurd R5.1.2.2.2.2.1 h8
      | some b2 =>
        rw [R5.1.2.2.2.2.1]
        exact go s5 w b2 (some b2) g.2.2.2 R5.tk
  · have hun : ¬ (o_und (d_off D) = true) := fun z => by rw [z] at hu; exact absurd hu (by decide)
    rw [show (40 : Int32) = Int32.ofNat 40 from rfl, n32lt (by omega) (by omega)] at h40
    rw [if_neg hun, if_pos (by omega)] at K
    exact K σ w X b sp g gl nu (Nat.le_refl _) R
  · have hun : o_und (d_off D) = true := by
      cases h : o_und (d_off D)
      · rw [h] at hu
        exact absurd rfl hu
      · rfl
    rw [if_pos hun] at K
    exact K σ w X b sp g gl nu (Nat.le_refl _) R
end
