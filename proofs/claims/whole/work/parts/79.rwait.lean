/-! WORKING OUT, by the reference: OUT, WAIT, AVERAGE as wholes -/
section
variable {nl : Bool} {Ln : Nat} {xs : Nat → Int32} {d : Nat} {σ : am_S} {o : Nat} {P : List mPol} {T : List mTell} {Ls : List mLoss} {Cs : List mCase} {i : Nat} {c : mCase} {day at' : Int32} {lk : Bool} {p : Nat} {st : Option Nat} {nf fnd : Int32} {ends : Bool} {s worth : Int64} {rows : List mRow} {tr : List Int32}
theorem r_cov8f {F : Bool → am_S → Prop} (w : WfD P T Ls Cs) (S : Es σ o P T Ls Cs i c day at' lk p st nf fnd ends s worth rows tr) (h4 : (Ls.getD c.2.2.1 mLoss0).1 ≠ 4)
    (K : ∀ σ', Es σ' o P T Ls Cs i c day at' lk p st (nf + 1) 2 ends s worth rows (tr ++ [80]) → Rc o (eF lk) eA (eM lk) σ σ' → F false σ') : k_Ro_covers nl Ln xs (d + 10) o 8 σ F := by
  have hl := (w.c S.1.2.1).2.1
  have h200 := w.l200
  have hg := getD_some mLoss0 hl
  have b : 0 ≤ (Int32.ofNat c.2.2.1).toInt ∧ (Int32.ofNat c.2.2.1).toInt < 200 := by rw [n32 (by omega)]; omega
  refine w_Ro_covers ⟨is_mk S.1.1.k.2.1, S.1.is1.1, ?_⟩
  rw [S.1.is1.2, show (10 : Int32) * 8 = 80 from rfl]
  refine r_traced S.1 (fun s1 E1 hr1 _ => ⟨fun q => ?_, fun q => ?_, fun q => ?_, fun q => ?_, fun q => ?_, fun q => ?_, fun q => ?_, fun q => ?_⟩) <;> (try exact absurd q (by decide))
  have S1 := S.te E1 hr1
  have v1 : am_aI s1 (o + 27) c.2.2.1 = (Ls.getD c.2.2.1 mLoss0).1 := E1.1.los.2.1 _ _ hg
  refine w_Ro_covers_207 ?_
  rw [E1.2.2.2.1, oG_13036 E1.1.k, n32c (by omega), v1]
  refine ⟨is_mk E1.1.k.2.1, oA_13036 E1.1.k b.1 b.2, fun q => absurd q h4, fun _ => r_meets S1 (fun s2 S2 hr2 _ => K s2 S2 (hr1.te.trans hr2))⟩
theorem kindOk {p : Nat} (w : WfD P T Ls Cs) (hp : p < P.length) (hp6 : (P.getD p mPol0).1 ≠ 6) : (P.getD p mPol0).1 = 0 ∨ (P.getD p mPol0).1 = 1 ∨ (P.getD p mPol0).1 = 2 ∨ (P.getD p mPol0).1 = 3 ∨ (P.getD p mPol0).1 = 4 ∨ (P.getD p mPol0).1 = 5 := by
  have := w.1.2 _ (List.mem_of_getElem? (getD_some mPol0 hp))
  exact kinds7 this.1 this.2.1 hp6
theorem r_outs {F : am_S → Prop} (w : WfD P T Ls Cs) (hH : WfH T) (hp : p < P.length) (hp6 : (P.getD p mPol0).1 ≠ 6) (hst : ∀ j, st = some j → j < (tlA T 6).length) (h16 : rows.length < 16) (S : Es σ o P T Ls Cs i c day at' lk p st nf 0 false s worth rows tr)
    (K1 : (m_ld Ls c < (P.getD p mPol0).2.1 ∨ (P.getD p mPol0).2.2 < m_ld Ls c) → ∀ σ', Es σ' o P T Ls Cs i c day at' lk p st nf 0 true s worth (rows ++ [(1, -2, -s)]) tr → Rc o (eF lk) eA (eM lk) σ σ' → F σ')
    (K2 : ¬ (m_ld Ls c < (P.getD p mPol0).2.1 ∨ (P.getD p mPol0).2.2 < m_ld Ls c) → ((P.getD p mPol0).1 = 3 ∧ (Ls.getD c.2.2.1 mLoss0).1 ≠ 4) → ∀ σ', Es σ' o P T Ls Cs i c day at' lk p st (nf + 1) 2 false s worth rows (tr ++ [80]) → Rc o (eF lk) eA (eM lk) σ σ' → F σ')
    (K3 : ¬ (m_ld Ls c < (P.getD p mPol0).2.1 ∨ (P.getD p mPol0).2.2 < m_ld Ls c) → ¬ ((P.getD p mPol0).1 = 3 ∧ (Ls.getD c.2.2.1 mLoss0).1 ≠ 4) → ∀ (ou : mTr (Bool × Int32)), ou = m_outs Ls c day at' (clOf T st) (m_covers (m_lis Ls c.2.2.1) (decide ((Ls.getD c.2.2.1 mLoss0).1 = 4)) (m_items Ls c.2.2.1).length (P.getD p mPol0).1) → ∀ σ', (if ou.1.1 = false then Es σ' o P T Ls Cs i c day at' lk p st nf 0 true s worth (rows ++ [(1, ou.1.2, -s)]) (tr ++ ou.2) else Es σ' o P T Ls Cs i c day at' lk p st nf 0 false s worth rows (tr ++ ou.2)) → Rc o (eF lk) eA (eM lk) σ σ' → F σ') : k_Ro_outs nl Ln xs (d + 412) o σ F := by
  have hl := (w.c S.1.2.1).2.1
  have h200 := w.l200
  have h100 := w.p100
  have hg := getD_some mLoss0 hl
  have hgp := getD_some mPol0 hp
  have b : 0 ≤ (Int32.ofNat c.2.2.1).toInt ∧ (Int32.ofNat c.2.2.1).toInt < 200 := by rw [n32 (by omega)]; omega
  have bp : 0 ≤ (Int32.ofNat p).toInt ∧ (Int32.ofNat p).toInt < 100 := by rw [n32 (by omega)]; omega
  have hK := S.1.1.k
  have v1 : am_aI σ (o + 28) c.2.2.1 = m_ld Ls c := S.1.1.los.2.2.1 _ _ hg
  have v2 : am_aI σ (o + 2) p = (P.getD p mPol0).2.1 := S.1.1.pol.2.2.1 _ _ hgp
  have v3 : am_aI σ (o + 3) p = (P.getD p mPol0).2.2 := S.1.1.pol.2.2.2 _ _ hgp
  have hk := kindOk w hp hp6
  refine w_Ro_outs ?_
  rw [S.1.2.2.2.1, S.2.1, oG_13037 hK, oG_13004 hK, oG_13005 hK, n32c (show c.2.2.1 < 2147483648 by omega), n32c (show p < 2147483648 by omega), v1, v2, v3]
  refine ⟨is_mk hK.2.1, oA_13037 hK b.1 b.2, oA_13004 hK bp.1 bp.2, oA_13005 hK bp.1 bp.2, ?_⟩
  refine r_in (fun c1 c2 => ?_) (fun cc => r_ends S h16 (K1 ?_))
  · rw [t64, t64] at c1 c2
    have hin : ¬ (m_ld Ls c < (P.getD p mPol0).2.1 ∨ (P.getD p mPol0).2.2 < m_ld Ls c) := by
      rw [i32lt, i32lt]
      omega
    refine r_owner w S.1 hp S.2.1 (fun _ => ?_)
    by_cases h8 : (P.getD p mPol0).1 = 3 ∧ (Ls.getD c.2.2.1 mLoss0).1 ≠ 4
    · rw [show m_ownr (P.getD p mPol0).1 = 8 from by rw [h8.1]; rfl]
      refine (r_cov8f (d := d + 401) w S h8.2 (fun s1 S1 hr1 _ => ⟨fun q => ?_, fun _ => K2 hin h8 s1 S1 hr1⟩))
      rw [S1.2.2.2.2.1] at q
      exact absurd q (by decide)
    · refine r_covers (d := d + 401) w S.1 hk h8 (fun s1 E1 hr1 _ => ⟨fun _ => ?_, fun q => ?_⟩)
      · have S1 := S.te E1 hr1
        have eb : ∀ b : Bool, (if b = true then (1 : Int32) else 0) = b2i b := fun b => by cases b <;> rfl
        rw [eb]
        have fin : ∀ {s2 : am_S} {tr2 : List Int32} {cv : Bool} {ar y3 : Int32} {y4 : Option Value}, Es s2 o P T Ls Cs i c day at' lk p st nf 0 false s worth rows (tr ++ tr2) → Rc o (eF lk) eA (eM lk) σ s2 → m_outs Ls c day at' (clOf T st) (m_covers (m_lis Ls c.2.2.1) (decide ((Ls.getD c.2.2.1 mLoss0).1 = 4)) (m_items Ls c.2.2.1).length (P.getD p mPol0).1) = ((cv, ar), tr2) → c_Ro_outs_219 nl Ln xs (d + 412) o (b2i cv) ar y3 y4 s2 F := by
          intro s2 tr2 cv ar y3 y4 S2 hr2 e
          have K3' := K3 hin h8 _ e.symm
          refine w_Ro_outs_219 ⟨fun h => ⟨is_mk S2.1.1.k.2.1, ?_⟩, fun h => ?_⟩
          · have hc := b2i0.mp h
            subst hc
            exact r_ends S2 h16 (fun s3 S3 hr3 => K3' s3 (by rw [if_pos rfl]; exact S3) (hr2.trans hr3))
          · have hc : cv = true := by
              cases cv
              · exact absurd rfl h
              · rfl
            subst hc
            exact K3' s2 (by rw [if_neg (by simp)]; exact S2) hr2
        rw [S1.2.2.1]
        cases st with
        | none =>
          refine ⟨fun q => absurd rfl q, fun w16 e16 => w_Ro_outs_95 ⟨is_mk S1.1.1.k.2.1, fun _ => fin S1 hr1.te ?_, fun q => absurd S1.2.2.1 q⟩⟩
          unfold m_outs
          show ((m_outL _ _ _ _ _ []).1, _ ++ (m_outL _ _ _ _ _ []).2) = _
          simp only [m_outL, List.append_nil]
        | some j =>
          have hj := hst j rfl
          have hn6 := w.n6
          obtain ⟨fr, g1, g2, g3, g4, g5⟩ := S1.1.1.cls w hj
          rw [oG_13027 S1.1.1.k, show (ixO (some j)).toNatClampNeg = j from n32c (by omega), g3]
          refine ⟨fun _ => oA_13027 S1.1.1.k (by rw [show ixO (some j) = Int32.ofNat j from rfl, n32 (by omega)]; omega) (by rw [show ixO (some j) = Int32.ofNat j from rfl, n32 (by omega)]; omega), fun w16 e16 => ?_⟩
          rw [if_neg (show ¬ ixO (some j) = -1 from ne_m1 (by omega))] at e16
          refine r_outsL w hH hj (clOf T (some j)).length 0 s1 _ _ _ _ _ F (by omega) S1 ⟨fr, g3, by omega, by rw [e16]; rfl⟩ (fun s2 S2 hr2 y3 y4 => ?_)
          rw [List.append_assoc] at S2
          refine fin S2 (hr1.te.trans hr2.te) ?_
          unfold m_outs
          rw [List.drop_zero]
      · rw [(S.te E1 hr1).2.2.2.2.1] at q
        exact absurd rfl q
  · rw [t64, t64, t64] at cc
    rw [i32lt, i32lt]
    omega
theorem r_toldE {code : Int32} {F : Int64 → am_S → Prop} (w : WfD P T Ls Cs) (hst : ∀ j, st = some j → j < (tlA T 6).length) (S : Es σ o P T Ls Cs i c day at' lk p st nf fnd ends s worth rows tr) (K : F (m_told (clOf T st) code) σ) : k_Ro_told nl Ln xs (d + 1) o (am_fI σ 13071 o) code σ F := by
  rw [S.2.2.1]
  refine r_told S.1.1.k S.1.1.set w.n6 (fun t ht => (w.te6 t ht).1) hst ?_
  unfold clOf at K
  cases st <;> exact K
theorem told_rng (w : WfD P T Ls Cs) (hst : ∀ j, st = some j → j < (tlA T 6).length) (code : Int32) : m_told (clOf T st) code = -1 ∨ (0 ≤ (m_told (clOf T st) code).toInt ∧ (m_told (clOf T st) code).toInt < 1000000000) := by
  unfold m_told
  refine m_last_mem _ _ (fun v : Int64 => v = -1 ∨ (0 ≤ v.toInt ∧ v.toInt < 1000000000)) _ _ (Or.inl rfl) ?_
  intro cl hcl
  cases st with
  | none => exact absurd hcl List.not_mem_nil
  | some j =>
    have := (w.te6 _ (List.mem_of_getElem? (getD_some tl0 (hst j rfl)))).2 cl hcl
    right
    rw [t64]
    exact ⟨this.2.2.1, this.2.2.2.1⟩
theorem waits_rng (is : Int32 → mTr Bool) (k : Int32) : 0 ≤ (m_waits is k).1.toInt ∧ (m_waits is k).1.toInt ≤ 14 := by
  unfold m_waits m_tr
  have a0 : (0 : Int32).toInt = 0 := by decide
  have a2 : (2 : Int32).toInt = 2 := by decide
  have a3 : (3 : Int32).toInt = 3 := by decide
  have a14 : (14 : Int32).toInt = 14 := by decide
  split
  · split <;> simp_all
  · split
    · simp_all
    · split
      · split <;> simp_all
      · simp_all
theorem r_waiting {F : am_S → Prop} (w : WfD P T Ls Cs) (hp : p < P.length) (hp6 : (P.getD p mPol0).1 ≠ 6) (hst : ∀ j, st = some j → j < (tlA T 6).length) (h16 : rows.length < 16) (S : Es σ o P T Ls Cs i c day at' lk p st nf 0 false s worth rows tr)
    (K : ∀ wt : mTr Int32, wt = m_waits (m_lis Ls c.2.2.1) (P.getD p mPol0).1 → ∀ σ', (if (m_ld Ls c).toInt < (P.getD p mPol0).2.1.toInt + (m_days (clOf T st) wt.1).toInt then Es σ' o P T Ls Cs i c day at' lk p st nf 0 true s worth (rows ++ [(2, (m_days (clOf T st) wt.1).toInt32, -s)]) (tr ++ wt.2) else Es σ' o P T Ls Cs i c day at' lk p st nf 0 false s worth rows (tr ++ wt.2)) → Rc o (eF lk) eA (eM lk) σ σ' → F σ') : k_Ro_waiting nl Ln xs (d + 9) o σ F := by
  have hl := (w.c S.1.2.1).2.1
  have h200 := w.l200
  have h100 := w.p100
  have hg := getD_some mLoss0 hl
  have hgp := getD_some mPol0 hp
  have b : 0 ≤ (Int32.ofNat c.2.2.1).toInt ∧ (Int32.ofNat c.2.2.1).toInt < 200 := by rw [n32 (by omega)]; omega
  have bp : 0 ≤ (Int32.ofNat p).toInt ∧ (Int32.ofNat p).toInt < 100 := by rw [n32 (by omega)]; omega
  have hk := kindOk w hp hp6
  refine w_Ro_waiting ⟨is_mk S.1.1.k.2.1, r_waits w S.1 hp S.2.1 rfl hk (fun s1 E1 hr1 _ => ?_)⟩
  have S1 := S.te E1 hr1
  refine r_toldE w hst S1 (fun _ w8 e8 => ?_)
  have e8' : w8 = m_days (clOf T st) (m_waits (m_lis Ls c.2.2.1) (P.getD p mPol0).1).1 := e8
  have hK := S1.1.1.k
  have v1 : am_aI s1 (o + 28) c.2.2.1 = m_ld Ls c := S1.1.1.los.2.2.1 _ _ hg
  have v2 : am_aI s1 (o + 2) p = (P.getD p mPol0).2.1 := S1.1.1.pol.2.2.1 _ _ hgp
  have hr0 : 0 ≤ w8.toInt ∧ w8.toInt < 1000000000 := by
    have h1 := waits_rng (m_lis Ls c.2.2.1) (P.getD p mPol0).1
    have h2 := told_rng w hst 7
    have hm1 : (-1 : Int64).toInt = -1 := by decide
    rw [e8]
    split
    · rename_i hlt
      rw [i64lt, t64] at hlt
      rcases h2 with h2 | h2
      · rw [h2] at hlt ⊢; omega
      · exact h2
    · rw [t64]; omega
  have hpr := w.1.2 _ (List.mem_of_getElem? hgp)
  refine w_Ro_waiting_29 ?_
  rw [S1.1.2.2.2.1, S1.2.1, oG_13037 hK, oG_13004 hK, n32c (show c.2.2.1 < 2147483648 by omega), n32c (show p < 2147483648 by omega), v1, v2]
  have ec : (m_ld Ls c).toInt64 < (P.getD p mPol0).2.1.toInt64 + w8 ↔ (m_ld Ls c).toInt < (P.getD p mPol0).2.1.toInt + w8.toInt := by
    rw [i64lt, t64, i64add (by rw [t64]; omega) (by rw [t64]; omega), t64]
  rw [ec]
  have K' := K _ rfl
  rw [← e8'] at K'
  refine ⟨is_mk hK.2.1, oA_13037 hK b.1 b.2, oA_13004 hK bp.1 bp.2, fun h => r_ends S1 h16 (fun s2 S2 hr2 => ?_), fun h => ?_⟩
  · exact K' s2 (by rw [if_pos h]; exact S2) (hr1.te.trans hr2)
  · exact K' s1 (by rw [if_neg h]; exact S1) hr1.te
theorem div_gt {a b : Nat} (ha : 0 < a) : 4611686018427387904 / a < b ↔ 4611686018427387904 < a * b := by
  rw [Nat.div_lt_iff_lt_mul ha, Nat.mul_comm]
theorem i64div {x y : Int64} (hx : 0 ≤ x.toInt) (hy : 0 < y.toInt) : (x / y).toInt = x.toInt / y.toInt := by
  rw [Int64.toInt_div]
  have h1 := r64 x
  have h2 : x.toInt / y.toInt ≤ x.toInt := Int.ediv_le_self _ hx
  have h3 : 0 ≤ x.toInt / y.toInt := Int.ediv_nonneg hx (by omega)
  rw [Int.tdiv_eq_ediv_of_nonneg hx]
  exact Int.bmod_eq_of_le (by omega) (by omega)
theorem great_iff {a b : Int64} (ha : 0 ≤ a.toInt) (hb : 0 ≤ b.toInt) : (¬ a = 0 ∧ (4611686018427387904 : Int64) / a < b) ↔ m_great a b = true := by
  unfold m_great
  rw [decide_eq_true_eq]
  have e : (4611686018427387904 : Int64).toInt = 4611686018427387904 := by decide
  by_cases h0 : a = 0
  · rw [h0]
    have : (0 : Int64).toInt = 0 := by decide
    rw [this]
    simp
  · have ha' : 0 < a.toInt := by
      rcases Int.lt_or_eq_of_le ha with h | h
      · exact h
      · exact absurd (Int64.toInt_inj.mp h.symm) h0
    rw [i64lt, i64div (by rw [e]; omega) ha', e]
    simp only [h0, not_false_eq_true, true_and]
    have h1 := div_gt (a := a.toInt.toNat) (b := b.toInt.toNat) (by omega)
    have e1 : (a.toInt.toNat : Int) = a.toInt := by omega
    have e2 : (b.toInt.toNat : Int) = b.toInt := by omega
    constructor
    · intro h
      have h2 : 4611686018427387904 / a.toInt.toNat < b.toInt.toNat := by
        have : ((4611686018427387904 / a.toInt.toNat : Nat) : Int) < (b.toInt.toNat : Int) := by
          rw [Int.natCast_ediv, e1, e2]
          exact h
        omega
      have h3 := h1.mp h2
      have h4 : ((4611686018427387904 : Nat) : Int) < ((a.toInt.toNat * b.toInt.toNat : Nat) : Int) := by omega
      rw [Int.natCast_mul, e1, e2] at h4
      exact h4
    · intro h
      have h3 : 4611686018427387904 < a.toInt.toNat * b.toInt.toNat := by
        have : ((4611686018427387904 : Nat) : Int) < ((a.toInt.toNat * b.toInt.toNat : Nat) : Int) := by
          rw [Int.natCast_mul, e1, e2]
          exact h
        omega
      have h2 := h1.mpr h3
      have : ((4611686018427387904 / a.toInt.toNat : Nat) : Int) < (b.toInt.toNat : Int) := by omega
      rw [Int.natCast_ediv, e1, e2] at this
      exact this
theorem r_isGreat {a b : Int64} {F : Bool → am_S → Prop} (ha : 0 ≤ a.toInt) (hb : 0 ≤ b.toInt) (K : F (m_great a b) σ) : k_Rm_isGreat nl Ln xs (d + 1) a b σ F := by
  refine w_Rm_isGreat ⟨fun h => h, ?_⟩
  have e : decide (¬ a = 0 ∧ (4611686018427387904 : Int64) / a < b) = m_great a b := by
    rw [decide_eq_decide.mpr (great_iff ha hb)]
    exact dtrue _
  rw [e]
  exact K
theorem r_average {sum : Int64} {F : am_S → Prop} (w : WfD P T Ls Cs) (hp : p < P.length) (hp6 : (P.getD p mPol0).1 ≠ 6) (hst : ∀ j, st = some j → j < (tlA T 6).length) (h16 : rows.length < 16) (hs : 0 ≤ s.toInt) (hsum : 0 ≤ sum.toInt) (S : Es σ o P T Ls Cs i c day at' lk p st nf 0 false s worth rows tr)
    (K : ∀ av : mTr Bool, av = m_averages (m_lis Ls c.2.2.1) (P.getD p mPol0).1 → ∀ σ', (if av.1 = false ∧ m_told (clOf T st) 8 = -1 then Es σ' o P T Ls Cs i c day at' lk p st nf 0 false s worth rows (tr ++ av.2) else if m_great s sum = true then Es σ' o P T Ls Cs i c day at' lk p st (nf + 1) 5 false s worth rows (tr ++ av.2) else if m_all Ls c day at' 1 = 0 then Es σ' o P T Ls Cs i c day at' lk p st (nf + 1) 4 false s worth rows (tr ++ av.2) else Es σ' o P T Ls Cs i c day at' lk p st nf 0 false (m_less (rows, s) 3 0 (if s * sum / m_all Ls c day at' 1 < s then s - s * sum / m_all Ls c day at' 1 else 0)).2 worth (m_less (rows, s) 3 0 (if s * sum / m_all Ls c day at' 1 < s then s - s * sum / m_all Ls c day at' 1 else 0)).1 (tr ++ av.2)) → Rc o (eF lk) eA (eM lk) σ σ' → F σ') : k_Ro_average nl Ln xs (d + 9) o sum σ F := by
  have hk := kindOk w hp hp6
  refine w_Ro_average ⟨is_mk S.1.1.k.2.1, r_averages w S.1 hp S.2.1 rfl hk (fun s1 E1 hr1 _ => ?_)⟩
  have S1 := S.te E1 hr1
  have K' := K _ rfl
  have main : ¬ ((m_averages (m_lis Ls c.2.2.1) (P.getD p mPol0).1).1 = false ∧ m_told (clOf T st) 8 = -1) → c_Ro_average_25 nl Ln xs (d + 9) o sum s1 F := by
    intro hn
    refine w_Ro_average_25 ⟨is_mk S1.1.1.k.2.1, ?_⟩
    rw [S1.2.2.2.2.2.2.1]
    refine r_isGreat hs hsum (fun _ => ⟨fun hg => r_meets S1 (fun s2 S2 hr2 _ => ?_), fun hg => r_all w S1.1 (Or.inr rfl) (fun _ => ⟨fun h0 => r_meets S1 (fun s2 S2 hr2 _ => ?_), fun h0 => ⟨h0, ?_⟩⟩)⟩)
    · exact K' s2 (by rw [if_neg hn, if_pos hg]; exact S2) (hr1.te.trans hr2)
    · exact K' s2 (by rw [if_neg hn, if_neg hg, if_pos h0]; exact S2) (hr1.te.trans hr2)
    · rw [S1.2.2.2.2.2.2.1]
      rintro v13 rfl w17 rfl
      refine r_less S1 h16 (fun s2 S2 hr2 _ => ?_)
      exact K' s2 (by rw [if_neg hn, if_neg hg, if_neg h0]; exact S2) (hr1.te.trans hr2)
  refine ⟨fun h => main (fun q => by rw [h] at q; cases q.1), fun h => r_toldE w hst S1 (fun _ => ⟨fun h8 => ?_, fun h8 => main (fun q => h8 q.2)⟩)⟩
  have hf : (m_averages (m_lis Ls c.2.2.1) (P.getD p mPol0).1).1 = false := by
    cases hq : (m_averages (m_lis Ls c.2.2.1) (P.getD p mPol0).1).1
    · rfl
    · exact absurd hq h
  exact K' s1 (by rw [if_pos ⟨hf, h8⟩]; exact S1) hr1.te
end
