/-! THE CLASS: bundles and clauses are told -/
theorem decp_iff {p : Prop} : m_dec p = true ↔ p := by
  unfold m_dec
  exact @decide_eq_true_iff p (Classical.propDecidable p)
section
variable {nl : Bool} {Ln : Nat} {xs : Nat → Int32} {d : Nat} {σ : am_S} {w : ow_T} {b v gl nu D len n : Nat} {X : Stx} {M : mOff} {V : Nat × Nat × Nat × Nat × Nat} {Cc : Nat × Nat} {fnd : Int32} {a : mArg}
theorem BookR.qu {σ' : am_S} (B : BookR σ w b M gl nu) (o : Only (bA σ b 6009) σ σ') : BookR σ' w b M gl nu := by
  obtain ⟨hD, hN, hH, ⟨lg, l1, l2⟩, ns, m1, m2⟩ := B
  have hK := hD.1
  have c := bc_only hK (by decide) o
  have wa := hK.2.2.2.2.2.2.2.2.2.2.1
  have fr : ∀ j, j ≠ 2 → Fr σ w σ' w (b, j) := fun j hj => fr_only o (by rw [wa]; exact fun z => hj (congrArg Prod.snd z).symm)
  exact ⟨hD.qu o, hN.bc c (by decide), hH.bc c (by decide), ⟨lg, (c.2.2.1 _ (by decide)).trans l1, l2.fr (fr 3 (by decide))⟩, ns, m1.bc c (by decide) (fun i _ => fr _ (by omega)), m2⟩
theorem Bks.qu {σ' : am_S} (hb : 1189 ≤ b ∨ b = 1039) (A : Bks σ w v X b M gl nu V Cc) (o : Only (bA σ b 6009) σ σ') : Bks σ' w v X b M gl nu V Cc ∧ Eff (bkK b v) σ w σ' w ∧ am_fI σ' 2001 1008 = am_fI σ 2001 1008 := by
  obtain ⟨Ev, B, R⟩ := A
  have wa := B.1.1.2.2.2.2.2.2.2.2.2.2.1
  have E : Eff (fun q => q = (b, 2)) σ w σ' w := ⟨fun c hc => Ev.1.1 c (by rw [← o.2.1]; exact hc), fun q hq _ c hc => ⟨hc, o.2.2.2.1 c (fun z => hq (by rw [← hc, z]; exact wa))⟩⟩
  exact ⟨⟨Ev.bk E hb (fun q hq => by rw [hq]) (by rw [o.2.1]; exact Ev.1.2), B.qu o, R.eq ⟨rfl, rfl, rfl, rfl⟩ ⟨o.2.1, o.2.2.1⟩⟩, E.mono (fun q hq => by rw [hq]; exact Or.inl rfl), (o.2.2.2.2 _ _).1⟩
theorem bk_tellBundle {F : Int32 → am_S → Prop} (hb : 1189 ≤ b ∨ b = 1039) (hV : Vok V) (hne : ne M ≤ 4860) (hw : WfD (o_pol M) (o_tel M) (o_los M) (o_cas M)) (hDw : w D = (2, 1007)) (hD : DdR σ D 0 len 4 a) (A : Bks σ w v X b M gl nu V Cc)
    (K : ∀ r, r = (if ¬ (m_isPol (o_pol M) (a 0) ∧ ((o_pol M).getD (m_ix (a 0)) mPol0).1 = 6 ∧ m_rg (a 1) 0 3 ∧ (a 2 = -1 ∨ m_isPol (o_pol M) (a 2))) then (-2, M, fnd)
    else if m_dec (a 2 ≠ -1 ∧ m_within (o_pol M) (o_tel M) (o_now M) (m_ix (a 0)) (m_ix (a 2))) = true then (-3, M, fnd)
    else m_tellA M fnd 4 200 a [] (m_ix (a 0)) (a 1).toInt32 (a 2) [] 1) → ∀ ans M1 σ' w' X', Stg M fnd 4 a [] r ans M1 → Bks σ' w' v X' b M1 gl nu V Cc → Eff (bkK b v) σ w σ' w' → am_fI σ' 2001 1008 = am_fI σ 2001 1008 → F ans σ') : k_Bk_tellBundle nl Ln xs (d + 4) b (some D) σ F := by
  have A0 := A
  obtain ⟨Ev, B, R⟩ := A
  have h100 := hw.1.1
  have t4 : (4 : Int64).toInt = 4 := by decide
  have m1i : (-1 : Int64).toInt = -1 := by decide
  have hc : m_cnt (o_tel M) (Int32.ofNat 4) ≤ 200 := hw.2.1.2.2.2.2.1
  have no : ¬ (m_isPol (o_pol M) (a 0) ∧ ((o_pol M).getD (m_ix (a 0)) mPol0).1 = 6 ∧ m_rg (a 1) 0 3 ∧ (a 2 = -1 ∨ m_isPol (o_pol M) (a 2))) → F (-2) σ := fun h => K _ rfl _ M σ w X (Or.inl ⟨by decide, by rw [if_pos h], rfl⟩) A0 (Eff.rf Ev.1.1) rfl
  refine w_Bk_tellBundle ⟨hD.r1, is_mk B.1.1.2.1, ?_⟩
  rw [Option.getD_some, hD.a1]
  refine bk_policyAt B.1 h100 (fun h _ => ⟨hD.r3, ?_⟩) (fun pc q h hq hpc hPo _ => ⟨hD.r3, ?_⟩)
  · have nn : ∀ a7, c_Bk_tellBundle_52 nl Ln xs (d + 4) b (some D) none a7 (if ¬ ((none : Option Nat) = none) ∧ (((am_fI σ 9001 ((none : Option Nat).getD 0)) = 6) ∧ (¬ ((am_aL σ D (2 : Int32).toNatClampNeg) < 0) ∧ ((am_aL σ D (2 : Int32).toNatClampNeg) < 4))) then 1 else 0) σ F := fun a7 => by
      rw [if_neg (fun z => z.1 rfl)]
      exact w_Bk_tellBundle_52 ⟨fun _ => no (fun z => h z.1), fun z => absurd rfl z⟩
    exact bk_policyAt B.1 h100 (fun _ _ => ⟨fun z => absurd rfl z, fun z => absurd rfl z, fun z => absurd rfl z, nn _⟩) (fun _ _ _ _ _ _ _ => ⟨fun z => absurd rfl z, fun z => absurd rfl z, fun z => absurd rfl z, nn _⟩)
  have gq : (o_pol M).getD (m_ix (a 0)) mPol0 = q := getD_of mPol0 hq
  subst gq
  -- it is told
  have fin : ∀ (σ1 : am_S) (x3 : Option Nat) (x4 : Int32), Bks σ1 w v X b M gl nu V Cc → DdR σ1 D 0 len 4 a → am_aR σ1 (bA σ1 b 6004) (m_ix (a 0)) = some pc → Eff (bkK b v) σ w σ1 w → am_fI σ1 2001 1008 = am_fI σ 2001 1008 → (m_isPol (o_pol M) (a 0) ∧ ((o_pol M).getD (m_ix (a 0)) mPol0).1 = 6 ∧ m_rg (a 1) 0 3 ∧ (a 2 = -1 ∨ m_isPol (o_pol M) (a 2))) → ¬ m_dec (a 2 ≠ -1 ∧ m_within (o_pol M) (o_tel M) (o_now M) (m_ix (a 0)) (m_ix (a 2))) = true → c_Bk_tellBundle_92 nl Ln xs (d + 4) b (some D) (some pc) x3 x4 σ1 F := by
    intro σ1 x3 x4 A1 D1 hpc1 E1 f1 hg hnd
    refine w_Bk_tellBundle_92 ?_
    rw [Option.getD_some, D1.a2, D1.a3]
    refine ⟨D1.r2, D1.r3, is_mk A1.2.1.1.1.2.1, ?_⟩
    refine bk_tellA (d := d) (n := 4) (most := 200) (fnd := fnd) (a := a) hb hV hne h100 (by decide) hc A1 (lt_of_get hq) hpc1 (fun ans M1 σ' w' X' S' A' E' f' _ => K _ rfl ans M1 σ' w' X' ?_ A' (E1.trans E') (f'.trans f1))
    rw [if_neg (fun z => z hg), if_neg hnd]
    exact S'
  have hpl : ∀ {s : am_S} {D : Prop}, (¬ (some pc = (none : Option Nat)) ∧ (((o_pol M).getD (m_ix (a 0)) mPol0).1 = 6 ∧ (¬ (a 1 < 0) ∧ (a 1 < 4)))) ↔ (((o_pol M).getD (m_ix (a 0)) mPol0).1 = 6 ∧ m_rg (a 1) 0 3) := fun {s D} => by
    unfold m_rg
    rw [i64lt, i64lt, z64i, t4]
    constructor
    · intro z
      exact ⟨z.2.1, by omega, by omega⟩
    · intro z
      exact ⟨by simp, z.1, by omega, by omega⟩
  rw [hD.a3]
  refine bk_policyAt B.1 h100 (fun h2 _ => ⟨fun _ => is_mk hPo.2.1, fun _ _ => hD.r2, fun _ _ _ => hD.r2, ?_⟩) (fun pc2 q2 h2 hq2 hpc2 hPo2 _ => ⟨fun _ => is_mk hPo.2.1, fun _ _ => hD.r2, fun _ _ _ => hD.r2, ?_⟩)
  · rw [Option.getD_some, hPo.2.2.2.2.1, hD.a2]
    by_cases hp : (¬ (some pc = (none : Option Nat)) ∧ (((o_pol M).getD (m_ix (a 0)) mPol0).1 = 6 ∧ (¬ (a 1 < 0) ∧ (a 1 < 4))))
    · rw [if_pos hp]
      have hp := (hpl (s := σ) (D := True)).mp hp
      refine w_Bk_tellBundle_52 ⟨fun z => absurd z (by decide), fun _ => ⟨fun _ => ⟨hD.r3, ?_⟩, fun z => absurd rfl z⟩⟩
      rw [Option.getD_some, hD.a3]
      refine ⟨fun hm => w_Bk_tellBundle_76 ⟨fun _ => fin σ _ _ A0 hD hpc (Eff.rf Ev.1.1) rfl ⟨h, hp.1, hp.2, Or.inl hm⟩ (fun z => ?_), fun z => absurd rfl z⟩, fun hm => no (fun z => ?_)⟩
      · exact (decp_iff.mp z).1 hm
      · rcases z.2.2.2 with z | z
        · exact hm z
        · exact h2 z
    · rw [if_neg hp]
      exact w_Bk_tellBundle_52 ⟨fun _ => no (fun z => hp ((hpl (s := σ) (D := True)).mpr ⟨z.2.1, z.2.2.1⟩)), fun z => absurd rfl z⟩
  · rw [Option.getD_some, hPo.2.2.2.2.1, hD.a2]
    by_cases hp : (¬ (some pc = (none : Option Nat)) ∧ (((o_pol M).getD (m_ix (a 0)) mPol0).1 = 6 ∧ (¬ (a 1 < 0) ∧ (a 1 < 4))))
    · rw [if_pos hp]
      have hp := (hpl (s := σ) (D := True)).mp hp
      have hg : m_isPol (o_pol M) (a 0) ∧ ((o_pol M).getD (m_ix (a 0)) mPol0).1 = 6 ∧ m_rg (a 1) 0 3 ∧ (a 2 = -1 ∨ m_isPol (o_pol M) (a 2)) := ⟨h, hp.1, hp.2, Or.inr h2⟩
      have h21 : a 2 ≠ -1 := fun z => by
        have := h2.1
        rw [z, m1i] at this
        omega
      refine w_Bk_tellBundle_52 ⟨fun z => absurd z (by decide), fun _ => ⟨fun z => absurd z (by simp), fun _ => w_Bk_tellBundle_76 ⟨fun z => absurd z (by simp), fun _ => ⟨is_mk B.1.1.2.1, ?_⟩⟩⟩⟩
      refine bk_standsWithin (d := d + 1) B.1 hw (lt_of_get hq) hpc (lt_of_get hq2) hpc2 B.2.1.2.2.2.2.1 (fun σ1 bo hbo o _ => ?_)
      obtain ⟨A1, E1, f1⟩ := A0.qu hb o
      refine ⟨fun ht => K _ rfl _ M σ1 w X (Or.inl ⟨by decide, ?_, rfl⟩) A1 E1 f1, fun hf => fin σ1 _ _ A1 (hD.eq (o.2.2.2.1 D (fun z => ?_))) ?_ E1 f1 hg (fun z => ?_)⟩
      · rw [if_neg (fun z => z hg), if_pos]
        exact decp_iff.mpr ⟨h21, hbo.mp ht⟩
      · have := B.1.1.2.2.2.2.2.2.2.2.2.2.1
        rw [← z, hDw] at this
        have : 2 = b := congrArg Prod.fst this
        omega
      · have e : bA σ1 b 6004 = bA σ b 6004 := by unfold bA; rw [(o.2.2.2.2 _ _).2.2]
        rw [e, (o.2.2.2.1 _ (B.1.1.ne (by decide) (by decide) (by decide))).aR]
        exact hpc
      · exact hf (hbo.mpr (decp_iff.mp z).2)
    · rw [if_neg hp]
      exact w_Bk_tellBundle_52 ⟨fun _ => no (fun z => hp ((hpl (s := σ) (D := True)).mpr ⟨z.2.1, z.2.2.1⟩)), fun z => absurd rfl z⟩
end
