/-! WORKING OUT, by the reference: behind, work -/
theorem laid_rng (br : Nat → Int64) (mine : Nat) (isY : Bool) : ∀ (l : List Nat) (own left : Int64) (z : Int64 × Int64), (∀ k ∈ l, 0 ≤ (br k).toInt ∧ (br k).toInt ≤ 6000000000000) → 0 ≤ own.toInt → (isY = true → 0 ≤ left.toInt) → 0 ≤ z.1.toInt ∧ 0 ≤ z.2.toInt ∧ z.1.toInt + z.2.toInt ≤ (br mine).toInt → 0 ≤ (m_laid br mine isY own left z l).1.toInt ∧ 0 ≤ (m_laid br mine isY own left z l).2.toInt ∧ (m_laid br mine isY own left z l).1.toInt + (m_laid br mine isY own left z l).2.toInt ≤ (br mine).toInt
  | [], own, left, z, _, _, _, h => h
  | k :: l, own, left, z, hb, h0, hY, hz => by
    have z64 : (0 : Int64).toInt = 0 := by decide
    have hk := hb k List.mem_cons_self
    rw [m_laid]
    simp only []
    obtain ⟨g, hg⟩ : ∃ g, g = m_least (br k) own := ⟨_, rfl⟩
    have hgi : g.toInt = min (br k).toInt own.toInt := by rw [hg]; exact least_int
    rw [← hg]
    have ho := r64 own
    have hl := r64 left
    have e1 : (br k - g).toInt = (br k).toInt - g.toInt := i64sub (by omega) (by omega)
    obtain ⟨b, hbb⟩ : ∃ b, b = if isY = true ∧ left < br k - g then br k - g - left else 0 := ⟨_, rfl⟩
    have hbi : 0 ≤ b.toInt ∧ b.toInt ≤ (br k).toInt - g.toInt ∧ (isY = true → 0 ≤ (left - (br k - g - b)).toInt) := by
      rw [hbb]
      split
      · rename_i h
        have h2 := h.2
        rw [i64lt, e1] at h2
        have := hY h.1
        have e2 : (br k - g - left).toInt = (br k).toInt - g.toInt - left.toInt := by rw [i64sub (by omega) (by omega), e1]
        refine ⟨by omega, by omega, fun _ => ?_⟩
        have e3 : (br k - g - (br k - g - left)).toInt = left.toInt := by rw [i64sub (by omega) (by omega)]; omega
        rw [i64sub (by omega) (by omega)]
        omega
      · rename_i h
        refine ⟨by omega, by omega, fun hy => ?_⟩
        have hn : ¬ left < br k - g := fun q => h ⟨hy, q⟩
        rw [i64lt, e1] at hn
        rw [Int64.sub_zero, i64sub (by omega) (by omega)]
        omega
    rw [← hbb]
    refine laid_rng br mine isY l (own - g) (left - (br k - g - b)) _ (fun y hy => hb y (List.mem_cons_of_mem _ hy)) (by rw [i64sub (by omega) (by omega)]; omega) hbi.2.2 ?_
    by_cases hm : k = mine
    · rw [if_pos hm]
      rw [hm] at hbi hgi hk
      show 0 ≤ g.toInt ∧ 0 ≤ b.toInt ∧ g.toInt + b.toInt ≤ _
      omega
    · rw [if_neg hm]
      exact hz
/-- the rows and the trace as they stand in the model's object -/
def LkR (σ : am_S) (rows : List mRow) (tr : List Int32) : Prop := (am_fI σ 12012 1053 = Int32.ofNat rows.length ∧ rwI σ 1056 rows (fun r => r.1) ∧ rwI σ 1057 rows (fun r => r.2.1) ∧ rwL σ 1058 rows (fun r => r.2.2)) ∧ am_fI σ 12014 1053 = Int32.ofNat (min tr.length 200) ∧ ∀ i, i < 200 → ∀ x, tr[i]? = some x → am_aI σ 1059 i = x
section
variable {nl : Bool} {Ln : Nat} {xs : Nat → Int32} {d : Nat} {σ : am_S} {o : Nat} {P : List mPol} {T : List mTell} {Ls : List mLoss} {Cs : List mCase} {i : Nat} {c : mCase} {day at' : Int32} {lk : Bool} {p : Nat} {st : Option Nat} {nf fnd : Int32} {ends : Bool} {s worth : Int64} {rows : List mRow} {tr : List Int32}
theorem r_behind {n : Nat} {F : am_S → Prop} (w : WfD P T Ls Cs) (hst : ∀ j, st = some j → j < (tlA T 6).length) (hlen : rows.length ≤ 12) (hs0 : 0 ≤ s.toInt) (hs1 : s.toInt ≤ 6000000000000) (hd0 : c.2.2.2.1.toInt ≤ day.toInt) (hd1 : day.toInt ≤ 10949) (hz : am_fL σ 13079 o = 0) (S : Es σ o P T Ls Cs i c day at' lk p st nf 0 false s worth rows tr)
    (K : ∀ B, B = m_behind c day at' (clOf T st) (rows, s) tr n → ∀ σ' s', Es σ' o P T Ls Cs i c day at' lk p st (if B.2.2.1 = 0 then nf else nf + 1) B.2.2.1 false s' worth B.1 B.2.1 → am_fL σ' 13079 o = B.2.2.2.1 → (B.2.2.1 = 0 → B.2.2.2.2 = n) → (B.2.2.1 ≠ 0 → B.2.2.2.2 = n + 1) → Rc o (wF lk) wA (eM lk) σ σ' → F σ') : k_Ro_behind nl Ln xs (d + 4) o σ F := by
  obtain ⟨B, hB⟩ : ∃ B, B = m_behind c day at' (clOf T st) (rows, s) tr n := ⟨_, rfl⟩
  have K' := K B hB
  have hi := S.1.2.1
  have big : ∀ {σ σ1 : am_S}, Rc o (eF lk) eA (eM lk) σ σ1 → Rc o (wF lk) wA (eM lk) σ σ1 := fun h => h.mono (by cases lk <;> decide) (by decide) (by simp)
  have n79 : 13079 ∉ eF lk := by cases lk <;> decide
  refine w_Ro_behind ⟨is_mk S.1.1.k.2.1, ?_⟩
  refine r_summed w S.1 (fun _ => ?_)
  rw [S.2.2.2.2.2.2.1]
  intro w6 e6
  have e6 : w6 = m_least (m_summed c.2.2.2.2.2 18 day at') s := e6
  have hsum0 : 0 ≤ (m_summed c.2.2.2.2.2 18 day at').toInt := by
    have hF := (w.c hi).2.2.2.2.1
    have : ∀ l : List mFact, (∀ f ∈ l, f ∈ c.2.2.2.2.2) → l.length ≤ 40 → 0 ≤ (m_sumf (fun f => decide (f.1 = 18) && m_counts f day at') m_fc l).toInt ∧ (m_sumf (fun f => decide (f.1 = 18) && m_counts f day at') m_fc l).toInt ≤ 1000000000000 * l.length := by
      intro l
      induction l with
      | nil => intro _ _; rw [m_sumf]; exact ⟨by decide, by decide⟩
      | cons f l ih =>
        intro hm hl
        rw [List.length_cons] at hl
        obtain ⟨-, -, k3, k4, k5, k6, k7, k8, -⟩ := hF.2.1 f (hm f List.mem_cons_self)
        have := ih (fun g hg => hm g (List.mem_cons_of_mem _ hg)) (by omega)
        have hx : 0 ≤ (if (decide (f.1 = 18) && m_counts f day at') = true then m_fc f else 0).toInt ∧ (if (decide (f.1 = 18) && m_counts f day at') = true then m_fc f else 0).toInt ≤ 1000000000000 := by
          split
          · omega
          · exact ⟨by decide, by decide⟩
        rw [m_sumf, List.length_cons]
        rw [i64add (by omega) (by omega)]
        omega
    exact (this _ (fun f hf => hf) hF.1).1
  have h6 : 0 ≤ w6.toInt ∧ w6.toInt ≤ s.toInt := by rw [e6, least_int]; omega
  refine w_Ro_behind_28 ⟨is_mk S.1.1.k.2.1, ?_⟩
  rw [Option.getD_some]
  refine (r_less (d := d + 1) S (by omega) (fun s2 S2 r2 _ => ?_))
  obtain ⟨r1, hr1⟩ : ∃ r1, r1 = m_less (rows, s) 10 0 w6 := ⟨_, rfl⟩
  have hl1 := less_len (rs := (rows, s)) (code := 10) (arg := 0) (cents := w6)
  have hr1r := less_rng (rs := (rows, s)) (code := 10) (arg := 0) hs0 hs1 h6.1 h6.2
  rw [← hr1] at hl1 hr1r S2
  have hl1 : r1.1.length ≤ rows.length + 1 := hl1
  have hB1 : B = (fun days : Int64 =>
    if m_told (clOf T st) 9 ≠ -1 ∧ m_great days (m_told (clOf T st) 9) = true then (r1.1, tr, 5, 0, n + 1)
    else (fun it : Int64 => ((if m_summed c.2.2.2.2.2 13 day at' = 0 then (if it = 0 then r1.1 else r1.1 ++ [(11, 0, it)]) else (if it = 0 then r1.1 else r1.1 ++ [(11, 0, it)]) ++ [(12, 0, -m_summed c.2.2.2.2.2 13 day at')]), tr, 0, it, n)) (if m_told (clOf T st) 9 = -1 then 0 else days * m_told (clOf T st) 9 / 3650000))
    (m_days2 r1.2 day at' 0 c.2.2.2.1 c.2.2.2.2.2) := by
    rw [hB, hr1, e6]
    rfl
  have z2 : am_fL s2 13079 o = 0 := (r2.fL n79).trans hz
  have last : ∀ {s3 : am_S} {it : Int64} {x1 x3 : Int64} {x5 x6 : Option Value} {st3 : Int64}, Es s3 o P T Ls Cs i c day at' lk p st nf 0 false st3 worth (if it = 0 then r1.1 else r1.1 ++ [(11, 0, it)]) tr → am_fL s3 13079 o = it → Rc o (wF lk) wA (eM lk) σ s3 → B = ((if m_summed c.2.2.2.2.2 13 day at' = 0 then (if it = 0 then r1.1 else r1.1 ++ [(11, 0, it)]) else (if it = 0 then r1.1 else r1.1 ++ [(11, 0, it)]) ++ [(12, 0, -m_summed c.2.2.2.2.2 13 day at')]), tr, 0, it, n) → c_Ro_behind_103 nl Ln xs (d + 4) o x1 x3 x5 x6 s3 F := by
    intro s3 it x1 x3 x5 x6 st3 S3 z3 r3 eB
    refine w_Ro_behind_103 ⟨is_mk S3.1.1.k.2.1, ?_⟩
    refine (r_summed (d := d + 1) w S3.1 (fun _ => ⟨fun h => ?_, fun h => ?_⟩))
    · rw [if_pos h] at eB
      exact K' s3 _ (by rw [eB]; exact S3) (by rw [eB]; exact z3) (by rw [eB]; intro _; rfl) (by rw [eB]; intro q; exact absurd rfl q) r3
    · rw [if_neg h] at eB
      have h16 : (if it = 0 then r1.1 else r1.1 ++ [(11, 0, it)]).length < 16 := by
        by_cases hz : it = 0
        · rw [if_pos hz]; omega
        · rw [if_neg hz, List.length_append, List.length_singleton]; omega
      refine r_row S3 h16 (fun s5 S5 r5 _ => ?_)
      exact K' s5 _ (by rw [eB]; exact S5) (by rw [eB]; exact (r5.fL n79).trans z3) (by rw [eB]; intro _; rfl) (by rw [eB]; intro q; exact absurd rfl q) (r3.trans (big r5))
  refine ⟨is_mk S2.1.1.k.2.1, r_toldE w hst S2 (fun _ => ⟨fun h9 => ?_, fun h9 => ?_⟩)⟩
  · refine last (it := 0) (by rw [if_pos rfl]; exact S2) z2 (big r2) ?_
    rw [hB1]
    simp only []
    rw [if_neg (fun q => q.1 h9), if_pos h9]
    simp
  · have h9r := told_rng w hst 9
    have h9r : 0 ≤ (m_told (clOf T st) 9).toInt ∧ (m_told (clOf T st) 9).toInt < 1000000000 := by
      rcases h9r with q | q
      · exact absurd q h9
      · exact q
    have hF := (w.c hi).2.2.2.2.1
    have hdr := days2_rng (at' := at') w hi hr1r.1 hr1r.2 hd1 c.2.2.2.2.2 0 c.2.2.2.1 (fun f hf => hf) hF.2.2 hF.1 (fun f hf _ => by have := (w.c hi).2.2.2.2.2.1 f hf; omega) hd0 (by
        have h1 := (w.c hi).2.2.1
        have h2 : 0 ≤ (m_ld Ls c).toInt := (w.ls _ (List.mem_of_getElem? (getD_some mLoss0 (w.c hi).2.1))).2.2.1
        omega) (by decide) (by show (0 : Int64).toInt ≤ _; rw [show (0 : Int64).toInt = 0 by decide]; have := hF.1; omega)
    refine (r_owedDays (d := d + 1) w S2.1 S2.2.2.2.2.2.2.1 hd1 (fun _ => ?_))
    obtain ⟨days, hdays⟩ : ∃ days, days = m_days2 r1.2 day at' 0 c.2.2.2.1 c.2.2.2.2.2 := ⟨_, rfl⟩
    rw [← hdays] at hB1 hdr ⊢
    refine r_isGreat hdr.1 h9r.1 (fun _ => ⟨fun hg => r_meets S2 (fun s13 S13 r13 _ => ?_), fun hg => ?_⟩)
    · have eB : B = (r1.1, tr, 5, 0, n + 1) := by rw [hB1]; simp only []; rw [if_pos ⟨h9, hg⟩]
      exact K' s13 _ (by rw [eB]; exact S13) (by rw [eB]; exact (r13.fL n79).trans z2) (by rw [eB]; intro q; exact absurd (show (5 : Int32) = 0 from q) (by decide)) (by rw [eB]; intro _; rfl) (big (r2.trans r13))
    · intro s15 q15
      have r15 : Rc o [13079] [] [] s2 s15 := by rw [q15]; exact Rc.sfL (by decide) (Or.inl rfl)
      have S15 := S2.wr r15 (by decide)
      have a79 : am_fL s15 13079 o = days * m_told (clOf T st) 9 / 3650000 := by rw [q15]; exact rL_same
      have rr15 : Rc o (wF lk) wA (eM lk) σ s15 := (big r2).trans (r15.mono (by cases lk <;> decide) (by simp) (by simp))
      have eB : B = (fun it : Int64 => ((if m_summed c.2.2.2.2.2 13 day at' = 0 then (if it = 0 then r1.1 else r1.1 ++ [(11, 0, it)]) else (if it = 0 then r1.1 else r1.1 ++ [(11, 0, it)]) ++ [(12, 0, -m_summed c.2.2.2.2.2 13 day at')]), tr, 0, it, n)) (days * m_told (clOf T st) 9 / 3650000) := by
        rw [hB1]
        simp only []
        rw [if_neg (fun q => hg q.2), if_neg h9]
      obtain ⟨it, hit⟩ : ∃ it, it = days * m_told (clOf T st) 9 / 3650000 := ⟨_, rfl⟩
      rw [← hit] at a79 eB
      rw [a79]
      refine ⟨fun h0 => ?_, fun h0 => r_row S15 (by omega) (fun s19 S19 r19 _ => ?_)⟩
      · exact last (it := it) (by rw [if_pos h0]; exact S15) a79 rr15 eB
      · exact last (it := it) (by rw [if_neg h0]; exact S19) ((r19.fL n79).trans a79) (rr15.trans (big r19)) eB
theorem Lk.r {σ1 : am_S} (h : Lk σ lk rows tr) (hl : lk = true) (e : σ1 = am_sfI σ 12015 1053 0) (h0 : 1063 ≤ o) : LkR σ1 rows tr := by
  have r : Rc o [12015] [] [] σ σ1 := by rw [e]; exact Rc.sfI (by decide) (Or.inr rfl)
  obtain ⟨-, e7⟩ := h
  exact ⟨⟨(r.fI (by decide)).trans (e7 hl).1.1, (e7 hl).1.2.1.eq fun i => r.aIm h0 (by decide) (by simp), (e7 hl).1.2.2.1.eq fun i => r.aIm h0 (by decide) (by simp), (e7 hl).1.2.2.2.eq fun i => r.aLm h0 (by decide) (by simp)⟩, (r.fI (by decide)).trans (e7 hl).2.1, fun i hi x hx => (r.aIm h0 (by decide) (by simp)).trans ((e7 hl).2.2 i hi x hx)⟩
/-- the flag is put back -/
theorem Es.shut {σ1 : am_S} (S : Es σ o P T Ls Cs i c day at' lk p st nf fnd ends s worth rows tr) (e : σ1 = am_sfI σ 12015 1053 0) : Es σ1 o P T Ls Cs i c day at' false p st nf fnd ends s worth rows tr ∧ (lk = true → LkR σ1 rows tr) ∧ Rc o [12015] [] [] σ σ1 := by
  have r : Rc o [12015] [] [] σ σ1 := by rw [e]; exact Rc.sfI (by decide) (Or.inr rfl)
  refine ⟨?_, fun hl => S.1.2.2.2.2.2.2.r hl e S.1.1.k.lo, r⟩
  obtain ⟨⟨D, e1, e2, e3, e4, e5, e6⟩, f1, f2, f3, f4, f5, f6, f7, f8⟩ := S
  exact ⟨⟨D.rc r (by decide), e1, (r.fI (by decide)).trans e2, (r.fI (by decide)).trans e3, (r.fI (by decide)).trans e4, (r.fI (by decide)).trans e5, by rw [e]; exact rI_same, fun q => by cases q⟩, (r.fI (by decide)).trans f1, (r.fI (by decide)).trans f2, (r.fI (by decide)).trans f3, (r.fI (by decide)).trans f4, (r.fI (by decide)).trans f5, (r.fL (by decide)).trans f6, (r.fL (by decide)).trans f7, (r.fL (by decide)).trans f8⟩
theorem r_work {F : am_S → Prop} (w : WfD P T Ls Cs) (hH : WfH T) (hi : Cs[i]? = some c) (hd0 : c.2.2.2.1.toInt ≤ day.toInt) (hd1 : day.toInt ≤ 10949) (D : Dat σ o P T Ls Cs) (hL : lk = true → LkR σ [] []) (hn : am_fI σ 12006 1053 = nf)
    (K : ∀ W, W = m_work P T Ls Cs i day at' → ∀ σ' p st ends s' w', Es σ' o P T Ls Cs i c day at' false p st (nf + Int32.ofNat W.2.2.2.2) W.2.2.1 ends s' w' W.1 W.2.1 → am_fL σ' 13079 o = W.2.2.2.1 → (lk = true → LkR σ' W.1 W.2.1) → (W.2.2.1 = 0 → m_cover P T c at' = some p ∧ p < P.length ∧ st = m_set T p at') → Rc o (wF lk) wA (eM lk) σ σ' → F σ') : k_Ro_work nl Ln xs (d + 418) o (Int32.ofNat i) day at' (b2i lk) σ F := by
  obtain ⟨W, hW⟩ : ∃ W, W = m_work P T Ls Cs i day at' := ⟨_, rfl⟩
  have K' := K W hW
  have hgd : Cs.getD i mCase0 = c := getD_of mCase0 hi
  unfold m_work at hW
  rw [hgd] at hW
  simp only [] at hW
  have hK := D.k
  have lo := hK.lo
  have big : ∀ {σ σ1 : am_S}, Rc o (eF lk) eA (eM lk) σ σ1 → Rc o (wF lk) wA (eM lk) σ σ1 := fun h => h.mono (by cases lk <;> decide) (by decide) (by simp)
  have sml : ∀ {fs : List Nat} {σ σ1 : am_S}, Rc o fs [] [] σ σ1 → (∀ x ∈ fs, x ∈ [12015, 13079]) → Rc o (wF lk) wA (eM lk) σ σ1 := fun h h1 => h.mono (fun x hx => by have := h1 x hx; cases lk <;> simp [wF] at this ⊢ <;> omega) (by simp) (by simp)
  have hm : am_fR σ 13099 o = some 1053 := hK.2.2.1
  have hrg := begin_rng (day := day) (at' := at') w hi
  refine w_Ro_work ⟨is_mk hK.2.1, by rw [hm]; exact is_mk D.m.1, by cases lk <;> simp [b2i], ?_⟩
  rw [hm, Option.getD_some]
  intro s4 q4
  have r4 : Rc o [12015] [] [] σ s4 := by rw [q4]; exact Rc.sfI (by decide) (Or.inr rfl)
  have hL4 : Lk s4 lk [] [] := by
    refine ⟨by rw [q4]; exact rI_same, fun hl => ?_⟩
    have e7 := hL hl
    exact ⟨⟨(r4.fI (by decide)).trans e7.1.1, e7.1.2.1.eq fun i => r4.aIm lo (by decide) (by simp), e7.1.2.2.1.eq fun i => r4.aIm lo (by decide) (by simp), e7.1.2.2.2.eq fun i => r4.aLm lo (by decide) (by simp)⟩, (r4.fI (by decide)).trans e7.2.1, fun i hi x hx => (r4.aIm lo (by decide) (by simp)).trans (e7.2.2 i hi x hx)⟩
  refine (r_begin (d := d + 1) w hH hi (D.rc r4 (by decide)) hL4 ((r4.fI (by decide)).trans hn) (fun R hR s7 p st w' S7 hcv r7 _ => ?_))
  rw [← hR] at hW hrg
  intro s9 q9
  have r9 : Rc o [13079] [] [] s7 s9 := by rw [q9]; exact Rc.sfL (by decide) (Or.inl rfl)
  have S9 := S7.wr r9 (by decide)
  have z9 : am_fL s9 13079 o = 0 := by rw [q9]; exact rL_same
  have rr9 : Rc o (wF lk) wA (eM lk) σ s9 := ((sml r4 (by simp)).trans (big r7)).trans (sml r9 (by simp))
  have hm9 : am_fR s9 13099 o = some 1053 := S9.1.1.k.2.2.1
  rw [S9.2.2.2.2.1, S9.2.2.2.2.2.1]
  refine ⟨fun h0 => ⟨fun he => ?_, fun he => ?_⟩, fun h0 => ?_⟩
  · have he : R.2.2.2.1 = false := by cases h : R.2.2.2.1 <;> simp_all [b2i]
    obtain ⟨cv, hp, hp6, hst⟩ := hcv h0
    rw [if_neg (fun q => q h0), he, if_neg (by decide), cv] at hW
    simp only [] at hW
    have hset := m_set_cls T p at'
    have eC : m_cls T p at' = clOf T st := by rw [hset.1, hst]; rfl
    rw [eC] at hW
    have hst' : ∀ j, st = some j → j < (tlA T 6).length := by rw [hst]; exact hset.2
    rw [h0, he] at S9
    have hnf : nfR nf R = nf := by unfold nfR; rw [if_pos h0]
    rw [hnf] at S9
    -- the end
    have fin : ∀ {s1 : am_S} {x5 x7 : Int64} {rows1 : List mRow} {s1' wo : Int64} {n : Nat}, Es s1 o P T Ls Cs i c day at' lk p st (nf + Int32.ofNat n) 0 false s1' wo rows1 R.2.1 → am_fL s1 13079 o = 0 → rows1.length ≤ 12 → 0 ≤ s1'.toInt → s1'.toInt ≤ 6000000000000 → Rc o (wF lk) wA (eM lk) σ s1 → W = m_behind c day at' (clOf T st) (rows1, s1') R.2.1 n → c_Ro_work_84 nl Ln xs (d + 418) o (Int32.ofNat i) day at' (b2i lk) x5 x7 s1 F := by
      intro s1 x5 x7 rows1 s1' wo n S1 z1 hl1 h01 h11 rr1 hW1
      refine w_Ro_work_84 ⟨is_mk S1.1.1.k.2.1, ?_⟩
      refine (r_behind (d := d + 413) (n := n) w hst' hl1 h01 h11 hd0 hd1 z1 S1 (fun B hB s2 s2' S2 z2 hn0 hn1 r2 _ => ?_))
      have hm2 : am_fR s2 13099 o = some 1053 := S2.1.1.k.2.2.1
      rw [hm2, Option.getD_some]
      refine ⟨is_mk S2.1.1.m.1, ?_⟩
      intro s5 q5
      obtain ⟨S5, hl5, r5⟩ := S2.shut q5
      have eW : W = B := by rw [hW1, hB]
      refine K' s5 p st false s2' wo ?_ (by rw [eW]; exact (r5.fL (by decide)).trans z2) (fun hl => by rw [eW]; exact hl5 hl) (fun _ => ⟨cv, hp, hst⟩) ((rr1.trans r2).trans (sml r5 (by simp)))
      rw [eW]
      by_cases hB0 : B.2.2.1 = 0
      · rw [if_pos hB0] at S5
        rw [hn0 hB0]
        exact S5
      · rw [if_neg hB0] at S5
        rw [hn1 hB0, ← n32s, ← Int32.add_assoc]
        exact S5
    have lay : ¬ (m_told (clOf T st) 6 = -1 ∧ m_told (clOf T st) 4 = -1) → c_Ro_work_76 nl Ln xs (d + 418) o (Int32.ofNat i) day at' (b2i lk) (m_told (clOf T st) 6) (m_told (clOf T st) 4) s9 F := by
      intro hno
      obtain ⟨j, hj⟩ : ∃ j, st = some j := by
        cases st with
        | none => exact absurd ⟨rfl, rfl⟩ hno
        | some j => exact ⟨j, rfl⟩
      have hj6 := hst' j hj
      have t6 := told_rng w hst' 6
      have t4 := told_rng w hst' 4
      unfold m_after at hW
      rw [if_neg hno] at hW
      rw [hj] at S9 hW t6 t4 ⊢
      refine w_Ro_work_76 ⟨is_mk S9.1.1.k.2.1, ?_⟩
      refine r_laid w hH hp hj6 (by have := hrg.2.2; omega) S9 (fun L hLL Z hZ s2 w2 S2 r2 _ => ?_)
      rw [← hLL] at hW
      have hb : ∀ k ∈ L, 0 ≤ (m_brings P T Ls Cs day at' i R.2.2.2.2 k).toInt ∧ (m_brings P T Ls Cs day at' i R.2.2.2.2 k).toInt ≤ 6000000000000 := by
        intro k hk
        unfold m_brings
        split
        · exact ⟨hrg.1, hrg.2.1⟩
        · rw [hLL] at hk
          have := (lay_lt _ _ _ k hk).1
          have := begin_rng (day := day) (at' := at') w (getD_some mCase0 this)
          exact ⟨this.1, this.2.1⟩
      have hmine : (m_brings P T Ls Cs day at' i R.2.2.2.2 i) = R.2.2.2.2 := by unfold m_brings; rw [if_pos rfl]
      have hzr := laid_rng (m_brings P T Ls Cs day at' i R.2.2.2.2) i (decide (m_told (clOf T (some j)) 4 ≠ -1)) L (if m_told (clOf T (some j)) 6 = -1 then 0 else m_told (clOf T (some j)) 6) (m_told (clOf T (some j)) 4) (0, 0) hb (by
        split
        · decide
        · rename_i h
          rcases t6 with q | q
          · exact absurd q h
          · exact q.1) (by
        intro h
        rcases t4 with q | q
        · rw [q] at h; exact absurd h (by decide)
        · exact q.1) (by
        rw [hmine]
        have := hrg.1
        show 0 ≤ (0 : Int64).toInt ∧ 0 ≤ (0 : Int64).toInt ∧ (0 : Int64).toInt + (0 : Int64).toInt ≤ _
        rw [show (0 : Int64).toInt = 0 by decide]
        omega)
      rw [← hZ, hmine] at hzr
      rw [← hZ] at hW
      simp only [] at hW
      have b1 := less_rng (rs := (R.1, R.2.2.2.2)) (code := 8) (arg := 0) hrg.1 hrg.2.1 hzr.1 (show Z.1.toInt ≤ R.2.2.2.2.toInt by omega)
      have l1 := less_len (rs := (R.1, R.2.2.2.2)) (code := 8) (arg := 0) (cents := Z.1)
      have v1 : (m_less (R.1, R.2.2.2.2) 8 0 Z.1).2.toInt = R.2.2.2.2.toInt - Z.1.toInt := by
        have h1 := hrg.1
        have h2 := hrg.2.1
        unfold m_less
        split
        · rename_i h
          rw [h, show (0 : Int64).toInt = 0 by decide]
          show R.2.2.2.2.toInt = _
          omega
        · show (R.2.2.2.2 - Z.1).toInt = _
          exact i64sub (by omega) (by omega)
      have b2 := less_rng (rs := m_less (R.1, R.2.2.2.2) 8 0 Z.1) (code := 9) (arg := 0) b1.1 b1.2 hzr.2.1 (by omega)
      have l2 := less_len (rs := m_less (R.1, R.2.2.2.2) 8 0 Z.1) (code := 9) (arg := 0) (cents := Z.2)
      have l0 := hrg.2.2
      have l1 : (m_less (R.1, R.2.2.2.2) 8 0 Z.1).1.length ≤ R.1.length + 1 := l1
      rw [← hj] at S2 hW
      exact fin S2 ((r2.fL (by cases lk <;> decide)).trans z9) (by omega) b2.1 b2.2 (rr9.trans (r2.mono (by cases lk <;> decide) (by simp) (by simp))) hW
    refine r_toldE w hst' S9 (fun _ => r_toldE w hst' S9 (fun _ => ⟨fun h6 => ⟨fun h4 => ?_, fun h4 => lay (fun q => h4 q.2)⟩, fun h6 => lay (fun q => h6 q.1)⟩))
    unfold m_after at hW
    rw [if_pos ⟨h6, h4⟩] at hW
    refine fin (n := 0) (by rw [show nf + Int32.ofNat 0 = nf from Int32.add_zero _]; exact S9) z9 (by have := hrg.2.2; omega) hrg.1 hrg.2.1 rr9 hW
  · have he : R.2.2.2.1 = true := by cases h : R.2.2.2.1 <;> simp_all [b2i]
    rw [if_neg (fun q => q h0), if_pos he] at hW
    rw [hm9, Option.getD_some]
    refine ⟨is_mk S9.1.1.m.1, ?_⟩
    intro s21 q21
    obtain ⟨S5, hl5, r5⟩ := S9.shut q21
    obtain ⟨cv, hp, hp6, hst⟩ := hcv h0
    have hnf : nfR nf R = nf := by unfold nfR; rw [if_pos h0]
    rw [hnf, h0] at S5
    exact K' s21 p st _ _ _ (by rw [hW, show nf + Int32.ofNat 0 = nf from Int32.add_zero _]; exact S5) (by rw [hW]; exact (r5.fL (by decide)).trans z9) (fun hl => by rw [hW]; exact hl5 hl) (fun _ => ⟨cv, hp, hst⟩) (rr9.trans (sml r5 (by simp)))
  · rw [if_pos h0] at hW
    rw [hm9, Option.getD_some]
    refine ⟨is_mk S9.1.1.m.1, ?_⟩
    intro s25 q25
    obtain ⟨S5, hl5, r5⟩ := S9.shut q25
    have hnf : nfR nf R = nf + 1 := by unfold nfR; rw [if_neg h0]
    rw [hnf] at S5
    exact K' s25 p st _ _ _ (by rw [hW]; exact S5) (by rw [hW]; exact (r5.fL (by decide)).trans z9) (fun hl => by rw [hW]; exact hl5 hl) (by rw [hW]; exact fun q => absurd q h0) (rr9.trans (sml r5 (by simp)))
end
