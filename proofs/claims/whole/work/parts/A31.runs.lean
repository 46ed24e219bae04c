/-! THE DESK of the reference: reserves, runs, factors -/
section
variable {nl : Bool} {Ln : Nat} {xs : Nat → Int32} {d : Nat} {σ : am_S} {o o' : Nat} {D : mTop}
theorem r_runs {bY at' : Int32} {i j : Nat} {F : Int64 → am_S → Prop} (wo : WfO (d_off D)) (R : DskR σ o o' D) (hi : i ≤ 60) (hj : j ≤ 60) (K : F (d_runL (o_los (d_off D)) bY i j at' (o_cas (d_off D))) σ) : k_Rm_runs nl Ln xs (d + 2) 1053 bY (Int32.ofNat i) (Int32.ofNat j) at' σ F := by
  have hK := R.k
  have hC : rCas σ o (o_cas (d_off D)) := R.2.2.1.1.2.2.2.2.2.2.2.2.2.1
  have hc100 := wo.1.c100
  have vm : am_fI σ 13045 o = Int32.ofNat (o_cas (d_off D)).length := hC.1
  have outer : ∀ (m n : Nat) (acc : Int64) (x8 x9 x10 : Option Value), n + m = (o_cas (d_off D)).length → F (acc + d_runL (o_los (d_off D)) bY i j at' ((o_cas (d_off D)).drop n)) σ → c_Rm_runs_6 nl Ln xs (d + 2) 1053 bY (Int32.ofNat i) (Int32.ofNat j) at' acc (Int32.ofNat n) x8 x9 x10 σ F := by
    intro m
    induction m with
    | zero =>
      intro n acc x8 x9 x10 hn K
      rw [List.drop_eq_nil_of_le (by omega), d_runL, Int64.add_zero] at K
      refine w_Rm_runs_6 ⟨is_mk R.m.1, R.nowis, ?_⟩
      rw [R.g, vm]
      refine ⟨fun q => ?_, fun _ => K⟩
      rw [n32lt (by omega) (by omega)] at q
      omega
    | succ m ihm =>
      intro n acc x8 x9 x10 hn K
      obtain ⟨c, hcn⟩ := get_ex (show n < (o_cas (d_off D)).length by omega)
      have hlt := lt_of_get hcn
      have b : 0 ≤ (Int32.ofNat n).toInt ∧ (Int32.ofNat n).toInt < 100 := by rw [n32 (by omega)]; omega
      have h40 : c.2.2.2.2.2.length ≤ 40 := (wo.1.2.2.2.2 c (List.mem_of_getElem? hcn)).2.2.2.2.1.1
      have vn : am_aI σ (o + 41) n = Int32.ofNat c.2.2.2.2.2.length := hC.2.2.2.2.2.2.1 n _ hcn
      have fac := hC.2.2.2.2.2.2.2 n c hcn
      rw [drop_get hcn, d_runL, ← Int64.add_assoc] at K
      have inner : ∀ (q k : Nat) (acc2 : Int64) (row : Int32) (x10 : Option Value), row = Int32.ofNat i → k + q = c.2.2.2.2.2.length → F (acc2 + m_sumf (fun f => decide (f.1 = 13) && (decide (¬ at' < f.2.2.1) && decide (m_year f.2.1 = Int32.ofNat (i + j)))) m_fc (c.2.2.2.2.2.drop k) + d_runL (o_los (d_off D)) bY i j at' ((o_cas (d_off D)).drop (n + 1))) σ → c_Rm_runs_57 nl Ln xs (d + 2) 1053 bY (Int32.ofNat i) (Int32.ofNat j) at' acc2 (Int32.ofNat n) row (Int32.ofNat (40 * n + k)) x10 σ F := by
        intro q
        induction q with
        | zero =>
          intro k acc2 row x10 hrow hk K2
          rw [List.drop_eq_nil_of_le (by omega), m_sumf, Int64.add_zero] at K2
          refine w_Rm_runs_57 ⟨fun _ => ⟨is_mk R.m.1, R.nowis, ?_⟩, fun z => absurd hrow z⟩
          rw [R.g, oG_13051 hK, n32c (by omega), vn, i40]
          refine ⟨oA_13051 hK b.1 b.2, fun z => ?_, fun _ => ?_⟩
          · rw [n32lt (by omega) (by omega)] at z
            omega
          · rw [n32s]
            exact ihm (n + 1) acc2 _ _ _ (by omega) K2
        | succ q ihq =>
          intro k acc2 row x10 hrow hk K2
          obtain ⟨f, hg⟩ := get_ex (show k < c.2.2.2.2.2.length by omega)
          have bk : 0 ≤ (Int32.ofNat (40 * n + k)).toInt ∧ (Int32.ofNat (40 * n + k)).toInt < 4000 := by rw [n32 (by omega)]; omega
          have nk : (Int32.ofNat (40 * n + k)).toNatClampNeg = 40 * n + k := n32c (by omega)
          obtain ⟨f1, f2, f3, f4, f5, f6, f7, f8⟩ := fac k _ hg
          rw [drop_get hg, m_sumf, ← Int64.add_assoc] at K2
          refine w_Rm_runs_57 ⟨fun _ => ⟨is_mk R.m.1, R.nowis, ?_⟩, fun z => absurd hrow z⟩
          rw [R.g, oG_13051 hK, n32c (by omega), vn, i40]
          refine ⟨oA_13051 hK b.1 b.2, fun _ => ?_, fun z => absurd (by rw [n32lt (by omega) (by omega)]; omega) z⟩
          rw [oG_13052 hK, oG_13053 hK, oG_13054 hK, nk, f1, f2, f3]
          refine ⟨oA_13052 hK bk.1 bk.2, fun _ => oA_13054 hK bk.1 bk.2, fun _ _ => oA_13053 hK bk.1 bk.2, ?_⟩
          refine w_Rm_runs_139 ⟨fun _ => is_mk R.m.1, fun _ => R.nowis, fun _ => by rw [R.g]; exact oA_13058 hK bk.1 bk.2, fun w6 e6 v8 e8 => ?_⟩
          rw [n32s]
          refine ihq (k + 1) v8 row _ hrow (by omega) ?_
          have hy : (f.2.1 / 365 - Int32.ofNat i = Int32.ofNat j) ↔ m_year f.2.1 = Int32.ofNat (i + j) := by
            rw [← n32a]
            unfold m_year
            constructor <;> intro h <;> grind
          have e : v8 = acc2 + (if (decide (f.1 = 13) && (decide (¬ at' < f.2.2.1) && decide (m_year f.2.1 = Int32.ofNat (i + j)))) = true then m_fc f else 0) := by
            rw [e8, e6, R.g, oG_13058 hK, nk, f7]
            by_cases h1 : at' < f.2.2.1 <;> by_cases h2 : f.1 = 13 <;> by_cases h3 : m_year f.2.1 = Int32.ofNat (i + j) <;> simp [h1, h2, h3, hy]
          rw [e]
          exact K2
      have skip : ∀ (row : Int32) (x10 : Option Value), ¬ row = Int32.ofNat i → F (acc + d_runL (o_los (d_off D)) bY i j at' ((o_cas (d_off D)).drop (n + 1))) σ → c_Rm_runs_57 nl Ln xs (d + 2) 1053 bY (Int32.ofNat i) (Int32.ofNat j) at' acc (Int32.ofNat n) row (Int32.ofNat (40 * n)) x10 σ F := by
        intro row x10 hrow K2
        refine w_Rm_runs_57 ⟨fun z => absurd z hrow, fun _ => ?_⟩
        rw [n32s]
        exact ihm (n + 1) acc _ _ _ (by omega) K2
      have both : ∀ (row : Int32) (x10 : Option Value), row = (if bY = 0 then m_year (m_ld (o_los (d_off D)) c) else m_year c.2.2.2.1) → c_Rm_runs_57 nl Ln xs (d + 2) 1053 bY (Int32.ofNat i) (Int32.ofNat j) at' acc (Int32.ofNat n) row (Int32.ofNat (40 * n)) x10 σ F := by
        intro row x10 hrow
        by_cases hr : row = Int32.ofNat i
        · rw [if_pos (hrow.symm.trans hr)] at K
          exact inner c.2.2.2.2.2.length 0 acc row x10 hr (by omega) K
        · rw [if_neg (fun z => hr (hrow.trans z)), Int64.add_zero] at K
          exact skip row x10 hr K
      refine w_Rm_runs_6 ⟨is_mk R.m.1, R.nowis, ?_⟩
      rw [R.g, vm]
      refine ⟨fun _ => ⟨fun h0 => ?_, fun h0 => ?_⟩, fun z => absurd (by rw [n32lt (by omega) (by omega)]; omega) z⟩
      · refine (r_lossYear (d := d) R.dat wo.1 hcn (fun _ => ?_))
        rintro v7 rfl
        rw [i40']
        exact both _ _ (by rw [if_pos h0])
      · rw [oG_13049 hK, n32c (by omega), hC.2.2.2.2.1 n _ hcn]
        refine ⟨oA_13049 hK b.1 b.2, ?_⟩
        rintro v10 rfl v12 rfl
        rw [i40']
        exact both _ _ (by rw [if_neg h0]; rfl)
  exact w_Rm_runs (outer (o_cas (d_off D)).length 0 0 none none none (by omega) (by rw [Int64.zero_add]; exact K))
theorem r_run {bY i j at' : Int32} {F : Int64 → am_S → Prop} (w : DskW D) (R : DskR σ o o' D) (K : F (d_run D bY i j at') σ) : k_Rm_run nl Ln xs (d + 3) 1053 bY i j at' σ F := by
  unfold d_run at K
  have z : (0 : Int64).toInt = 0 := by decide
  have z1 : (1 : Int64).toInt = 1 := by decide
  have z29 : (29 : Int64).toInt = 29 := by decide
  have bad : ¬ ((0 ≤ bY.toInt ∧ bY.toInt ≤ 1) ∧ (0 ≤ i.toInt ∧ i.toInt ≤ 29) ∧ (0 ≤ j.toInt ∧ j.toInt ≤ 29) ∧ (0 ≤ at'.toInt ∧ at'.toInt ≤ (o_now (d_off D)).toInt)) → F (-9223372036854775808) σ := fun h => by
    rw [if_neg h] at K
    exact K
  refine w_Rm_run (r_in (fun c1 c2 => ?_) (fun c => bad (fun q => c (by rw [t64, z, z1]; exact q.1))))
  rw [t64, z] at c1
  rw [t64, z1] at c2
  refine (r_in (fun c3 c4 => ?_) (fun c => bad (fun q => c (by rw [t64, z, z29]; exact q.2.1))))
  rw [t64, z] at c3
  rw [t64, z29] at c4
  refine (r_in (fun c5 c6 => ⟨is_mk R.m.1, ?_⟩) (fun c => bad (fun q => c (by rw [t64, z, z29]; exact q.2.2.1))))
  rw [t64, z] at c5
  rw [t64, z29] at c6
  refine r_isMoment (d := d) R (fun _ => ⟨fun c7 => ?_, fun c => bad (fun q => c (decide_eq_true q.2.2.2))⟩)
  have c7 := of_decide_eq_true c7
  rw [if_pos ⟨⟨c1, c2⟩, ⟨c3, c4⟩, ⟨c5, c6⟩, c7⟩] at K
  have hiN : i.toInt.toNat ≤ 60 := by omega
  have hjN : j.toInt.toNat ≤ 60 := by omega
  have ei := n32of c3
  have ej := n32of c5
  generalize i.toInt.toNat = iN at hiN ei K
  generalize j.toInt.toNat = jN at hjN ej K
  rw [ei, ej]
  exact (r_runs (d := d) w.1.1 R hiN hjN (fun _ => K))
theorem r_reserved {kind year at' : Int32} {F : Int64 → am_S → Prop} (w : DskW D) (R : DskR σ o o' D) (K : F (d_reserved D kind year at') σ) : k_Rm_reserved nl Ln xs (d + 3) 1053 kind year at' σ F := by
  have wo := w.1.1
  have hK := R.k
  have hC : rCas σ o (o_cas (d_off D)) := R.2.2.1.1.2.2.2.2.2.2.2.2.2.1
  have hc100 := wo.1.c100
  have vm : am_fI σ 13045 o = Int32.ofNat (o_cas (d_off D)).length := hC.1
  unfold d_reserved at K
  have z : (0 : Int64).toInt = 0 := by decide
  have z2 : (2 : Int64).toInt = 2 := by decide
  have z29 : (29 : Int64).toInt = 29 := by decide
  have bad : ¬ ((0 ≤ kind.toInt ∧ kind.toInt ≤ 2) ∧ (0 ≤ year.toInt ∧ year.toInt ≤ 29) ∧ (0 ≤ at'.toInt ∧ at'.toInt ≤ (o_now (d_off D)).toInt)) → F (-9223372036854775808) σ := fun h => by
    rw [if_neg h] at K
    exact K
  refine w_Rm_reserved (r_in (fun c1 c2 => ?_) (fun c => bad (fun q => c (by rw [t64, z, z2]; exact q.1))))
  rw [t64, z] at c1
  rw [t64, z2] at c2
  refine (r_in (fun c3 c4 => ⟨is_mk R.m.1, ?_⟩) (fun c => bad (fun q => c (by rw [t64, z, z29]; exact q.2.1))))
  rw [t64, z] at c3
  rw [t64, z29] at c4
  refine r_isMoment (d := d) R (fun _ => ⟨fun c7 => ?_, fun c => bad (fun q => c (decide_eq_true q.2.2))⟩)
  have c7 := of_decide_eq_true c7
  rw [if_pos ⟨⟨c1, c2⟩, ⟨c3, c4⟩, c7⟩] at K
  have outer : ∀ (m n : Nat) (acc : Int64) (x8 x9 x10 : Option Value), n + m = (o_cas (d_off D)).length → F (acc + d_resL (o_los (d_off D)) kind year at' ((o_cas (d_off D)).drop n)) σ → c_Rm_reserved_42 nl Ln xs (d + 3) 1053 kind year at' acc (Int32.ofNat n) x8 x9 x10 σ F := by
    intro m
    induction m with
    | zero =>
      intro n acc x8 x9 x10 hn K
      rw [List.drop_eq_nil_of_le (by omega), d_resL, Int64.add_zero] at K
      refine w_Rm_reserved_42 ⟨is_mk R.m.1, R.nowis, ?_⟩
      rw [R.g, vm]
      refine ⟨fun q => ?_, fun _ => K⟩
      rw [n32lt (by omega) (by omega)] at q
      omega
    | succ m ihm =>
      intro n acc x8 x9 x10 hn K
      obtain ⟨c, hcn⟩ := get_ex (show n < (o_cas (d_off D)).length by omega)
      have hlt := lt_of_get hcn
      have b : 0 ≤ (Int32.ofNat n).toInt ∧ (Int32.ofNat n).toInt < 100 := by rw [n32 (by omega)]; omega
      have h40 : c.2.2.2.2.2.length ≤ 40 := (wo.1.2.2.2.2 c (List.mem_of_getElem? hcn)).2.2.2.2.1.1
      have vn : am_aI σ (o + 41) n = Int32.ofNat c.2.2.2.2.2.length := hC.2.2.2.2.2.2.1 n _ hcn
      have fac := hC.2.2.2.2.2.2.2 n c hcn
      rw [drop_get hcn, d_resL, ← Int64.add_assoc] at K
      have inner : ∀ (q k : Nat) (last : Int64), k + q = c.2.2.2.2.2.length → F (acc + m_last (fun f => decide (f.1 = 12) && (decide (f.2.2.2.1 = kind) && decide (¬ at' < f.2.2.1))) m_fc last (c.2.2.2.2.2.drop k) + d_resL (o_los (d_off D)) kind year at' ((o_cas (d_off D)).drop (n + 1))) σ → c_Rm_reserved_107 nl Ln xs (d + 3) 1053 kind year at' acc (Int32.ofNat n) last (Int32.ofNat (40 * n + k)) σ F := by
        intro q
        induction q with
        | zero =>
          intro k last hk K2
          rw [List.drop_eq_nil_of_le (by omega), m_last] at K2
          refine w_Rm_reserved_107 ⟨is_mk R.m.1, R.nowis, ?_⟩
          rw [R.g, oG_13051 hK, n32c (by omega), vn, i40]
          refine ⟨oA_13051 hK b.1 b.2, fun z => ?_, fun _ => ?_⟩
          · rw [n32lt (by omega) (by omega)] at z
            omega
          · rintro v15 rfl
            rw [n32s]
            exact ihm (n + 1) _ _ _ _ (by omega) K2
        | succ q ihq =>
          intro k last hk K2
          obtain ⟨f, hg⟩ := get_ex (show k < c.2.2.2.2.2.length by omega)
          have bk : 0 ≤ (Int32.ofNat (40 * n + k)).toInt ∧ (Int32.ofNat (40 * n + k)).toInt < 4000 := by rw [n32 (by omega)]; omega
          have nk : (Int32.ofNat (40 * n + k)).toNatClampNeg = 40 * n + k := n32c (by omega)
          obtain ⟨f1, f2, f3, f4, f5, f6, f7, f8⟩ := fac k _ hg
          rw [drop_get hg, m_last] at K2
          refine w_Rm_reserved_107 ⟨is_mk R.m.1, R.nowis, ?_⟩
          rw [R.g, oG_13051 hK, n32c (by omega), vn, i40]
          refine ⟨oA_13051 hK b.1 b.2, fun _ => ?_, fun z => absurd (by rw [n32lt (by omega) (by omega)]; omega) z⟩
          rw [oG_13052 hK, oG_13055 hK, oG_13054 hK, oG_13058 hK, nk, f1, f3, f4, f7]
          refine ⟨oA_13052 hK bk.1 bk.2, fun _ => oA_13055 hK bk.1 bk.2, fun _ _ => oA_13054 hK bk.1 bk.2, fun _ _ _ => oA_13058 hK bk.1 bk.2, fun w13 e13 => ?_⟩
          rw [n32s]
          refine ihq (k + 1) w13 (by omega) ?_
          have e : w13 = (if (decide (f.1 = 12) && (decide (f.2.2.2.1 = kind) && decide (¬ at' < f.2.2.1))) = true then m_fc f else last) := by
            rw [e13]
            by_cases h1 : at' < f.2.2.1 <;> by_cases h2 : f.1 = 12 <;> by_cases h3 : f.2.2.2.1 = kind <;> simp [h1, h2, h3]
          rw [e]
          exact K2
      have next : F (acc + d_resL (o_los (d_off D)) kind year at' ((o_cas (d_off D)).drop (n + 1))) σ → c_Rm_reserved_42 nl Ln xs (d + 3) 1053 kind year at' acc (Int32.ofNat n + 1) x8 x9 x10 σ F := fun K2 => by
        rw [n32s]
        exact ihm (n + 1) acc _ _ _ (by omega) K2
      refine w_Rm_reserved_42 ⟨is_mk R.m.1, R.nowis, ?_⟩
      rw [R.g, vm, oG_13050 hK, n32c (by omega), hC.2.2.2.2.2.1 n _ hcn]
      refine ⟨fun _ => ⟨oA_13050 hK b.1 b.2, fun h1 => ?_, fun h1 => ?_⟩, fun z => absurd (by rw [n32lt (by omega) (by omega)]; omega) z⟩
      · rw [if_neg (fun z => z.1 h1), Int64.add_zero] at K
        exact next K
      · refine (r_lossYear (d := d + 1) R.dat wo.1 hcn (fun _ => ⟨fun h2 => ⟨R.nowis, ?_⟩, fun h2 => ?_⟩))
        · rw [R.g]
          refine (r_isOpen (d := d) hK hC hc100 hcn h40 (fun _ => ⟨fun h3 => ?_, fun h3 => ?_⟩))
          · rintro v13 rfl
            rw [if_pos ⟨h1, h2, h3⟩] at K
            rw [i40']
            exact inner c.2.2.2.2.2.length 0 0 (by omega) K
          · rw [if_neg (fun z => h3 z.2.2), Int64.add_zero] at K
            exact next K
        · rw [if_neg (fun z => h2 z.2.1), Int64.add_zero] at K
          exact next K
  exact outer (o_cas (d_off D)).length 0 0 none none none (by omega) (by rw [Int64.zero_add]; exact K)
end
