/-! WORKING OUT, by the reference: toSeven, begin -/
def nfR (nf : Int32) (R : mRes) : Int32 := if R.2.2.1 = 0 then nf else nf + 1
section
variable {nl : Bool} {Ln : Nat} {xs : Nat → Int32} {d : Nat} {σ : am_S} {o : Nat} {P : List mPol} {T : List mTell} {Ls : List mLoss} {Cs : List mCase} {i : Nat} {c : mCase} {day at' : Int32} {lk : Bool} {p : Nat} {st : Option Nat} {nf fnd : Int32} {ends : Bool} {s worth : Int64} {rows : List mRow} {tr : List Int32}
theorem Es.setW {σ1 : am_S} {v : Int64} (S : Es σ o P T Ls Cs i c day at' lk p st nf fnd ends s worth rows tr) (e : σ1 = am_sfL σ 13076 o v) : Es σ1 o P T Ls Cs i c day at' lk p st nf fnd ends s v rows tr ∧ Rc o (eF lk) eA (eM lk) σ σ1 := by
  obtain ⟨E, e1, e2, e3, e4, e5, e6, e7, e8⟩ := S
  have r : Rc o [13076] [] [] σ σ1 := by rw [e]; exact Rc.sfL (by decide) (Or.inl rfl)
  exact ⟨⟨E.wr r (by decide), (r.fI (by decide)).trans e1, (r.fI (by decide)).trans e2, (r.fI (by decide)).trans e3, (r.fI (by decide)).trans e4, (r.fI (by decide)).trans e5, (r.fL (by decide)).trans e6, by rw [e]; exact rL_same, (r.fL (by decide)).trans e8⟩, r.mono (by cases lk <;> decide) (by decide) (by simp)⟩
theorem Es.setS {σ1 : am_S} {v : Int64} (S : Es σ o P T Ls Cs i c day at' lk p st nf fnd ends s worth rows tr) (e : σ1 = am_sfL σ 13077 o v) : Es σ1 o P T Ls Cs i c day at' lk p st nf fnd ends v worth rows tr ∧ Rc o (eF lk) eA (eM lk) σ σ1 := by
  obtain ⟨E, e1, e2, e3, e4, e5, e6, e7, e8⟩ := S
  have r : Rc o [13077] [] [] σ σ1 := by rw [e]; exact Rc.sfL (by decide) (Or.inl rfl)
  exact ⟨⟨E.wr r (by decide), (r.fI (by decide)).trans e1, (r.fI (by decide)).trans e2, (r.fI (by decide)).trans e3, (r.fI (by decide)).trans e4, (r.fI (by decide)).trans e5, by rw [e]; exact rL_same, (r.fL (by decide)).trans e7, (r.fL (by decide)).trans e8⟩, r.mono (by cases lk <;> decide) (by decide) (by simp)⟩
theorem allOf_rng {f : Nat → Int64} (h : ∀ k, 0 ≤ (f k).toInt ∧ (f k).toInt ≤ 1000000000000) : ∀ k : Nat, k ≤ 6 → 0 ≤ (m_allOf f k).toInt ∧ (m_allOf f k).toInt ≤ 1000000000000 * k
  | 0, _ => by
    have z : (0 : Int64).toInt = 0 := by decide
    rw [m_allOf, z]
    omega
  | k + 1, hk => by
    have ih := allOf_rng h k (by omega)
    have a0 := h k
    rw [m_allOf]
    have hk6 : (k : Int) ≤ 5 := by omega
    rw [i64add (by omega) (by omega)]
    rw [Int.natCast_add, Int.mul_add]
    omega
theorem r_toSeven {sum : Int64} {F : am_S → Prop} (w : WfD P T Ls Cs) (hH : WfH T) (hp : p < P.length) (hp6 : (P.getD p mPol0).1 ≠ 6) (hst : ∀ j, st = some j → j < (tlA T 6).length) (hsum0 : 0 ≤ sum.toInt) (S : Es σ o P T Ls Cs i c day at' lk p st nf 0 false s worth [] [])
    (K : ∀ R, R = m_sB P T Ls c day at' p (clOf T st) sum (m_worth Ls (m_amt Ls c day at') (m_most (clOf T st)) 5 c.2.2.1) → ∀ σ' s' w', Es σ' o P T Ls Cs i c day at' lk p st (nfR nf R) R.2.2.1 R.2.2.2.1 s' w' R.1 R.2.1 → (R.2.2.1 = 0 → R.2.2.2.1 = false → s' = R.2.2.2.2) → Rc o (eF lk) eA (eM lk) σ σ' → F σ') : k_Ro_toSeven nl Ln xs (d + 415) o sum σ F := by
  obtain ⟨R, hR⟩ : ∃ R, R = m_sB P T Ls c day at' p (clOf T st) sum (m_worth Ls (m_amt Ls c day at') (m_most (clOf T st)) 5 c.2.2.1) := ⟨_, rfl⟩
  have K' := K R hR
  have hi := S.1.2.1
  have hl := (w.c hi).2.1
  have hgl := getD_some mLoss0 hl
  have z64 : (0 : Int64).toInt = 0 := by decide
  have over96 : ∀ {σ1 : am_S} {fnd : Int32} {ends : Bool} {nf1 : Int32} {s1 w1 : Int64} {rows : List mRow} {tr : List Int32} {x1 x3 : Int64}, Es σ1 o P T Ls Cs i c day at' lk p st nf1 fnd ends s1 w1 rows tr → (fnd ≠ 0 ∨ ends = true) → F σ1 → c_Ro_toSeven_96 nl Ln xs (d + 415) o x1 x3 σ1 F := by
    intro σ1 fnd ends nf1 s1 w1 rows tr x1 x3 S1 h hF
    refine w_Ro_toSeven_96 ⟨is_mk S1.1.1.k.2.1, ?_, fun _ => hF⟩
    rw [S1.2.2.2.2.1, S1.2.2.2.2.2.1]
    intro h0
    refine ⟨fun he => ?_, fun _ => hF⟩
    rcases h with h | h
    · exact absurd h0 h
    · rw [h] at he; exact absurd he (by decide)
  have over77 : ∀ {σ1 : am_S} {fnd : Int32} {ends : Bool} {nf1 : Int32} {s1 w1 : Int64} {rows : List mRow} {tr : List Int32} {x1 x3 : Int64}, Es σ1 o P T Ls Cs i c day at' lk p st nf1 fnd ends s1 w1 rows tr → (fnd ≠ 0 ∨ ends = true) → F σ1 → c_Ro_toSeven_77 nl Ln xs (d + 415) o x1 x3 σ1 F := by
    intro σ1 fnd ends nf1 s1 w1 rows tr x1 x3 S1 h hF
    refine w_Ro_toSeven_77 ⟨is_mk S1.1.1.k.2.1, ?_, fun _ => over96 S1 h hF⟩
    rw [S1.2.2.2.2.1, S1.2.2.2.2.2.1]
    intro h0
    refine ⟨fun he => ?_, fun _ => over96 S1 h hF⟩
    rcases h with h | h
    · exact absurd h0 h
    · rw [h] at he; exact absurd he (by decide)
  refine w_Ro_toSeven ⟨is_mk S.1.1.k.2.1, r_toldE w hst S (fun _ w6 e6 => ?_)⟩
  have e6 : w6 = m_most (clOf T st) := e6
  have hmost : 0 ≤ w6.toInt := by
    rw [e6]
    unfold m_most
    split
    · decide
    · rename_i h
      rcases told_rng w hst 2 with q | q
      · exact absurd q h
      · exact q.1
  refine w_Ro_toSeven_31 ⟨is_mk S.1.1.k.2.1, ?_⟩
  rw [S.1.2.2.2.1, Option.getD_some]
  have hpt := (w.l _ _ hgl).2.2.1
  refine (r_worthOf (d := d + 407) w 4 c.2.2.1 σ [] _ hl hpt rfl S.1 (fun s1 E1 hr1 _ => ?_))
  have S1 := S.te E1 hr1
  obtain ⟨W, hW⟩ : ∃ W, W = m_worth Ls (m_amt Ls c day at') w6 (4 + 1) c.2.2.1 := ⟨_, rfl⟩
  have hW2 : W = m_worth Ls (m_amt Ls c day at') (m_most (clOf T st)) 5 c.2.2.1 := by rw [hW, e6]
  rw [← hW] at S1 ⊢
  rw [← hW2] at hR
  have hWr : 0 ≤ W.1.toInt ∧ W.1.toInt ≤ 6000000000000 := by rw [hW]; exact worth_rng w hi hmost 5 c.2.2.1 hl
  refine ⟨is_mk S1.1.1.k.2.1, ?_⟩
  intro s5 q5
  obtain ⟨S5, r5⟩ := S1.setW q5
  refine ⟨is_mk S5.1.1.k.2.1, ?_⟩
  rw [S5.2.2.2.2.2.2.2.1]
  intro s9 q9
  obtain ⟨S9, r9⟩ := S5.setS q9
  rw [S9.2.2.2.2.2.2.1]
  refine r_row S9 (by decide) (fun s12 S12 r12 _ => ?_)
  have S12 : Es s12 o P T Ls Cs i c day at' lk p st nf 0 false W.1 W.1 [(0, 0, W.1)] W.2 := by simpa using S12
  have rr12 := ((hr1.te.trans r5).trans r9).trans r12
  have hk3 := kindOk w hp hp6
  refine (r_outs (d := d + 2) w hH hp hp6 hst (by simp) S12 (fun hout s14 S14 r14 _ => ?_) (fun hin h8 s14 S14 r14 _ => ?_) (fun hin h8 ou hou s14 S14 r14 _ => ?_))
  · have eR : R = ([(0, 0, W.1), (1, -2, -W.1)], W.2, 0, true, 0) := by rw [hR]; unfold m_sB; rw [if_pos hout]
    have hF := K' s14 _ _ (by rw [eR]; exact S14) (by rw [eR]; intro _ q; cases q) (rr12.trans r14)
    refine ⟨fun _ => ⟨fun q => ?_, fun _ => over77 S14 (Or.inr rfl) hF⟩, fun q => absurd S14.2.2.2.2.1 q⟩
    rw [S14.2.2.2.2.2.1] at q
    exact absurd q (by decide)
  · have eR : R = ([(0, 0, W.1)], W.2 ++ [80], 2, false, 0) := by rw [hR]; unfold m_sB; rw [if_neg hin, if_pos h8]
    have hF := K' s14 _ _ (by rw [eR]; exact S14) (by rw [eR]; intro q; exact absurd (show (2 : Int32) = 0 from q) (by decide)) (rr12.trans r14)
    refine ⟨fun q => ?_, fun _ => over77 S14 (Or.inl (by decide)) hF⟩
    rw [S14.2.2.2.2.1] at q
    exact absurd q (by decide)
  · have eR : R = m_sC P T Ls c day at' p (clOf T st) sum W.1 W.2 ou := by rw [hR]; unfold m_sB; rw [if_neg hin, if_neg h8, hou]
    by_cases hcov : ou.1.1 = false
    · rw [if_pos hcov] at S14
      have eR2 : R = ([(0, 0, W.1), (1, ou.1.2, -W.1)], W.2 ++ ou.2, 0, true, 0) := by rw [eR]; unfold m_sC; rw [if_pos hcov]
      have hF := K' s14 _ _ (by rw [eR2]; exact S14) (by rw [eR2]; intro _ q; cases q) (rr12.trans r14)
      refine ⟨fun _ => ⟨fun q => ?_, fun _ => over77 S14 (Or.inr rfl) hF⟩, fun q => absurd S14.2.2.2.2.1 q⟩
      rw [S14.2.2.2.2.2.1] at q
      exact absurd q (by decide)
    · rw [if_neg hcov] at S14
      have eR2 : R = m_sD P T Ls c day at' p (clOf T st) sum W.1 (W.2 ++ ou.2) (m_waits (m_lis Ls c.2.2.1) (P.getD p mPol0).1) := by rw [eR]; unfold m_sC; rw [if_neg hcov]
      refine ⟨fun _ => ⟨fun _ => ?_, fun q => absurd S14.2.2.2.2.2.1 q⟩, fun q => absurd S14.2.2.2.2.1 q⟩
      refine (r_waiting (d := d + 405) w hp hp6 hst (by simp) S14 (fun wt hwt s18 S18 r18 _ => ?_))
      rw [← hwt] at eR2
      have rr18 := (rr12.trans r14).trans r18
      by_cases hwa : (m_ld Ls c).toInt < (P.getD p mPol0).2.1.toInt + (m_days (clOf T st) wt.1).toInt
      · rw [if_pos hwa] at S18
        have eR3 : R = ([(0, 0, W.1), (2, (m_days (clOf T st) wt.1).toInt32, -W.1)], (W.2 ++ ou.2) ++ wt.2, 0, true, 0) := by rw [eR2]; unfold m_sD; rw [if_pos hwa]
        exact over77 S18 (Or.inr rfl) (K' s18 _ _ (by rw [eR3]; exact S18) (by rw [eR3]; intro _ q; cases q) rr18)
      · rw [if_neg hwa] at S18
        have eR3 : R = m_sE P T Ls c day at' p (clOf T st) sum W.1 ((W.2 ++ ou.2) ++ wt.2) (m_averages (m_lis Ls c.2.2.1) (P.getD p mPol0).1) := by rw [eR2]; unfold m_sD; rw [if_neg hwa]
        refine w_Ro_toSeven_77 ⟨is_mk S18.1.1.k.2.1, fun _ => ⟨fun _ => ?_, fun q => absurd S18.2.2.2.2.2.1 q⟩, fun q => absurd S18.2.2.2.2.1 q⟩
        refine (r_average (d := d + 405) w hp hp6 hst (by simp) hWr.1 hsum0 S18 (fun av hav s20 S20 r20 _ => ?_))
        rw [← hav] at eR3
        have rr20 := rr18.trans r20
        -- rows 4 to 7
        have rest : ∀ (rs : List mRow × Int64) (trx : List Int32), Es s20 o P T Ls Cs i c day at' lk p st nf 0 false rs.2 W.1 rs.1 trx → rs.1.length ≤ 2 → 0 ≤ rs.2.toInt → rs.2.toInt ≤ 6000000000000 → R = m_sF T c day at' p (clOf T st) W.1 rs trx (m_self (m_lis Ls c.2.2.1) (P.getD p mPol0).1) → c_Ro_toSeven_96 nl Ln xs (d + 415) o sum (m_told (clOf T st) 2) s20 F := by
          intro rs trx S20 hlen hs0 hs1 eR4
          have h100 : (100 : Int64).toInt = 100 := by decide
          refine w_Ro_toSeven_96 ⟨is_mk S20.1.1.k.2.1, fun _ => ⟨fun _ => ?_, fun q => absurd S20.2.2.2.2.2.1 q⟩, fun q => absurd S20.2.2.2.2.1 q⟩
          refine (r_self (d := d + 406) w S20.1 hp S20.2.1 rfl hk3 (fun s21 E21 r21 _ => ?_))
          have S21 := S20.te E21 r21
          obtain ⟨sf, hsf⟩ : ∃ sf, sf = m_self (m_lis Ls c.2.2.1) (P.getD p mPol0).1 := ⟨_, rfl⟩
          have hsr := self_rng (m_lis Ls c.2.2.1) (P.getD p mPol0).1
          rw [← hsf] at S21 hsr eR4 ⊢
          rw [S21.2.2.2.2.2.2.1]
          have hm0 : 0 ≤ rs.2.toInt * sf.1.toInt := Int.mul_nonneg hs0 hsr.1
          have hm1 : rs.2.toInt * sf.1.toInt ≤ rs.2.toInt * 15 := Int.mul_le_mul_of_nonneg_left hsr.2 hs0
          have hmul : (rs.2 * sf.1.toInt64).toInt = rs.2.toInt * sf.1.toInt := by rw [i64mul (by rw [t64]; omega) (by rw [t64]; omega), t64]
          have hdiv : (rs.2 * sf.1.toInt64 / 100).toInt = rs.2.toInt * sf.1.toInt / 100 := by rw [i64div (by rw [hmul]; exact hm0) (by rw [h100]; omega), hmul, h100]
          refine r_less S21 (by omega) (fun s22 S22 r22 _ => ?_)
          obtain ⟨q1, hq1⟩ : ∃ q1, q1 = m_less rs 4 sf.1 (rs.2 * sf.1.toInt64 / 100) := ⟨_, rfl⟩
          have S22 : Es s22 o P T Ls Cs i c day at' lk p st nf 0 false q1.2 W.1 q1.1 (trx ++ sf.2) := by rw [hq1]; exact S22
          have hq1r := less_rng (code := 4) (arg := sf.1) hs0 hs1 (show 0 ≤ (rs.2 * sf.1.toInt64 / 100).toInt by rw [hdiv]; omega) (show (rs.2 * sf.1.toInt64 / 100).toInt ≤ rs.2.toInt by rw [hdiv]; omega)
          have hq1l := less_len (rs := rs) (code := 4) (arg := sf.1) (cents := rs.2 * sf.1.toInt64 / 100)
          rw [← hq1] at hq1r hq1l
          refine r_toldE w hst S22 (fun _ w13 e13 => ?_)
          have e13 : w13 = m_own (clOf T st) q1.2 := by
            rw [e13, S22.2.2.2.2.2.2.1]
            rfl
          refine w_Ro_toSeven_182 ⟨is_mk S22.1.1.k.2.1, ?_⟩
          rw [Option.getD_some]
          have hown : 0 ≤ w13.toInt ∧ w13.toInt ≤ q1.2.toInt := by
            rw [e13]
            unfold m_own
            split
            · rw [z64]; omega
            · rename_i hne
              rw [least_int]
              rcases told_rng w hst 5 with q | q
              · exact absurd q hne
              · omega
          refine r_less S22 (by omega) (fun s23 S23 r23 _ => ?_)
          obtain ⟨q2, hq2⟩ : ∃ q2, q2 = m_less q1 5 0 w13 := ⟨_, rfl⟩
          have S23 : Es s23 o P T Ls Cs i c day at' lk p st nf 0 false q2.2 W.1 q2.1 (trx ++ sf.2) := by rw [hq2]; exact S23
          have hq2r := less_rng (code := 5) (arg := 0) hq1r.1 hq1r.2 hown.1 hown.2
          have hq2l := less_len (rs := q1) (code := 5) (arg := 0) (cents := w13)
          rw [← hq2] at hq2r hq2l
          refine ⟨is_mk S23.1.1.k.2.1, r_toldE w hst S23 (fun _ w10 e10 => ?_)⟩
          have e10 : w10 = m_lim (clOf T st) q2.2 := by
            rw [e10, S23.2.2.2.2.2.2.1]
            unfold m_lim
            by_cases hq : m_told (clOf T st) 3 = -1
            · rw [if_pos hq, if_neg (fun z => z.1 hq)]
            · rw [if_neg hq]
              by_cases hq3 : m_told (clOf T st) 3 < q2.2
              · rw [if_pos hq3, if_pos ⟨hq, hq3⟩]
              · rw [if_neg hq3, if_neg (fun z => hq3 z.2)]
          have hlim : 0 ≤ w10.toInt ∧ w10.toInt ≤ q2.2.toInt := by
            rw [e10]
            unfold m_lim
            split
            · rename_i hq
              rw [i64lt] at hq
              rcases told_rng w hst 3 with q | q
              · exact absurd q hq.1
              · rw [i64sub (by omega) (by omega)]
                omega
            · rw [z64]; omega
          refine w_Ro_toSeven_230 ⟨is_mk S23.1.1.k.2.1, ?_⟩
          rw [Option.getD_some]
          refine r_less S23 (by omega) (fun s24 S24 r24 _ => ?_)
          obtain ⟨q3, hq3⟩ : ∃ q3, q3 = m_less q2 6 0 w10 := ⟨_, rfl⟩
          have S24 : Es s24 o P T Ls Cs i c day at' lk p st nf 0 false q3.2 W.1 q3.1 (trx ++ sf.2) := by rw [hq3]; exact S24
          have hq3r := less_rng (code := 6) (arg := 0) hq2r.1 hq2r.2 hlim.1 hlim.2
          have hq3l := less_len (rs := q2) (code := 6) (arg := 0) (cents := w10)
          rw [← hq3] at hq3r hq3l
          have rr24 := (((rr20.trans r21.te).trans r22).trans r23).trans r24
          have eR5 : R = m_sG T at' p W.1 q3 (trx ++ sf.2) (m_al c.2.2.2.2.2 day at' q3.2) (m_ord (fun q => m_rank T (Int32.ofNat q) at') (m_al c.2.2.2.2.2 day at' q3.2) 6) := by
            rw [eR4]
            show (fun r1 : List mRow × Int64 => (fun r2 : List mRow × Int64 => (fun r3 : List mRow × Int64 => m_sG T at' p W.1 r3 (trx ++ sf.2) (m_al c.2.2.2.2.2 day at' r3.2) (m_ord (fun i => m_rank T (Int32.ofNat i) at') (m_al c.2.2.2.2.2 day at' r3.2) 6)) (m_less r2 6 0 (m_lim (clOf T st) r2.2))) (m_less r1 5 0 (m_own (clOf T st) r1.2))) (m_less rs 4 sf.1 (rs.2 * sf.1.toInt64 / 100)) = _
            rw [← hq1]
            show (fun r2 : List mRow × Int64 => (fun r3 : List mRow × Int64 => m_sG T at' p W.1 r3 (trx ++ sf.2) (m_al c.2.2.2.2.2 day at' r3.2) (m_ord (fun i => m_rank T (Int32.ofNat i) at') (m_al c.2.2.2.2.2 day at' r3.2) 6)) (m_less r2 6 0 (m_lim (clOf T st) r2.2))) (m_less q1 5 0 (m_own (clOf T st) q1.2)) = _
            rw [← e13, ← hq2]
            show (fun r3 : List mRow × Int64 => m_sG T at' p W.1 r3 (trx ++ sf.2) (m_al c.2.2.2.2.2 day at' r3.2) (m_ord (fun i => m_rank T (Int32.ofNat i) at') (m_al c.2.2.2.2.2 day at' r3.2) 6)) (m_less q2 6 0 (m_lim (clOf T st) q2.2)) = _
            rw [← e10, ← hq3]
          refine ⟨is_mk S24.1.1.k.2.1, ?_⟩
          refine (r_shared (d := d + 410) w hp (by omega) hq3r.1 (by omega) hWr.1 (by omega) S24 (fun al ord hal hord s25 S25 r25 _ => ?_))
          rw [← hal, ← hord] at eR5
          unfold m_sG at eR5
          by_cases h1 : ord.length = 1
          · rw [if_pos h1] at S25 eR5
            exact K' s25 _ _ (by rw [eR5]; exact S25) (by rw [eR5]; intro _ _; rfl) (rr24.trans r25)
          · rw [if_neg h1] at S25 eR5
            by_cases h2 : (m_share (m_rule T p at') al ord (m_least W.1 (m_tot al ord)) (m_tot al ord)).1 = 0
            · rw [if_pos h2] at S25 eR5
              exact K' s25 _ _ (by rw [eR5]; exact S25) (by rw [eR5]; intro _ _; rfl) (rr24.trans r25)
            · rw [if_neg h2] at S25 eR5
              refine K' s25 _ _ (by rw [eR5]; unfold nfR; rw [if_neg h2]; exact S25) (by rw [eR5]; intro q; exact absurd q h2) (rr24.trans r25)
        unfold m_sE at eR3
        by_cases ha : av.1 = false ∧ m_told (clOf T st) 8 = -1
        · rw [if_pos ha] at S20 eR3
          exact rest ([(0, 0, W.1)], W.1) _ S20 (by simp) hWr.1 hWr.2 eR3
        · rw [if_neg ha] at S20 eR3
          by_cases hg : m_great W.1 sum = true
          · rw [if_pos hg] at S20 eR3
            exact over96 S20 (Or.inl (by decide)) (K' s20 _ _ (by rw [eR3]; exact S20) (by rw [eR3]; intro q; exact absurd (show (5 : Int32) = 0 from q) (by decide)) rr20)
          · rw [if_neg hg] at S20 eR3
            by_cases h0 : m_all Ls c day at' 1 = 0
            · rw [if_pos h0] at S20 eR3
              exact over96 S20 (Or.inl (by decide)) (K' s20 _ _ (by rw [eR3]; exact S20) (by rw [eR3]; intro q; exact absurd (show (4 : Int32) = 0 from q) (by decide)) rr20)
            · rw [if_neg h0] at S20 eR3
              have h6 : (m_items Ls (m_base Ls c.2.2.1)).length ≤ 6 := by
                have hb := root_lt w.l 4 c.2.2.1 hl
                have hb2 : m_base Ls c.2.2.1 < Ls.length := by unfold m_base; omega
                exact (w.l _ _ (getD_some mLoss0 hb2)).2.2.2
              have hall := allOf_rng (fun k => (amt_rng (day := day) (at' := at') w hi k 1)) (m_items Ls (m_base Ls c.2.2.1)).length h6
              have hall0 : 0 < (m_all Ls c day at' 1).toInt := by
                rcases Int.lt_or_eq_of_le hall.1 with h | h
                · exact h
                · exact absurd (Int64.toInt_inj.mp h.symm) h0
              have hgr : W.1.toInt * sum.toInt ≤ 4611686018427387904 := by
                unfold m_great at hg
                rw [decide_eq_true_eq] at hg
                omega
              have hpr : 0 ≤ W.1.toInt * sum.toInt := Int.mul_nonneg hWr.1 hsum0
              have hm : (W.1 * sum).toInt = W.1.toInt * sum.toInt := i64mul (by omega) (by omega)
              have hd : (W.1 * sum / m_all Ls c day at' 1).toInt = W.1.toInt * sum.toInt / (m_all Ls c day at' 1).toInt := by rw [i64div (by rw [hm]; exact hpr) hall0, hm]
              have hd0 : 0 ≤ (W.1 * sum / m_all Ls c day at' 1).toInt := by rw [hd]; exact Int.ediv_nonneg hpr hall.1
              have hv : 0 ≤ (if W.1 * sum / m_all Ls c day at' 1 < W.1 then W.1 - W.1 * sum / m_all Ls c day at' 1 else 0).toInt ∧ (if W.1 * sum / m_all Ls c day at' 1 < W.1 then W.1 - W.1 * sum / m_all Ls c day at' 1 else 0).toInt ≤ W.1.toInt := by
                split
                · rename_i hlt
                  rw [i64lt] at hlt
                  rw [i64sub (by omega) (by omega)]
                  omega
                · rw [z64]; omega
              have hlr := less_rng (rs := ([(0, 0, W.1)], W.1)) (code := 3) (arg := 0) hWr.1 hWr.2 hv.1 hv.2
              have hll := less_len (rs := ([(0, 0, W.1)], W.1)) (code := 3) (arg := 0) (cents := (if W.1 * sum / m_all Ls c day at' 1 < W.1 then W.1 - W.1 * sum / m_all Ls c day at' 1 else 0))
              exact rest _ _ S20 (by simpa using hll) hlr.1 hlr.2 eR3
end
