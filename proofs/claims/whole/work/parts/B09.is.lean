/-! THE CLASS: IS, WORTH -/
def askL (ll : mLoss) : Int32 := (dd_sr.getD 2 []).getD ll.1.toInt.toNat 0
theorem dec_if {p : Prop} [Decidable p] {a b : Int64} : (if decide p = true then a else b) = if p then a else b := by by_cases h : p <;> simp [h]
section
variable {nl : Bool} {Ln : Nat} {xs : Nat → Int32} {d : Nat} {w : ow_T} {wk ab v b : Nat} {P : List mPol} {T : List mTell} {Ls : List mLoss} {Cs : List mCase} {l0 lc : Nat} {rows : List mRow} {fnd : Int32} {ov : Bool}
theorem AsC.cell {σ σ1 : am_S} {tr tr' : List Int32} {l c : Nat} (E : AsE σ w wk ab v b P T Ls Cs l0 lc rows tr fnd ov) (r : AsC wk ab v σ σ1) (hc : am_aR σ (bA σ b 6005) l = some c) : am_aR σ1 (bA σ1 b 6005) l = some c := by
  have f := r.frB E.1 (by simp) (by decide) E.2.2.2.2.2.2.1 E.bk.1.2.2.1
  rw [bA.fr E.bk.1.1 (f 2), (f 2 _ E.bk.1.2.2.2.2.2.1.2.1).2.aR]
  exact hc
theorem kd_cases {ll : mLoss} (h : WfLoss ll) : ll.1 = 0 ∨ ll.1 = 1 ∨ ll.1 = 2 ∨ ll.1 = 3 ∨ ll.1 = 4 ∨ ll.1 = 5 := by
  obtain ⟨h0, h5, -⟩ := h
  have hk : ll.1.toInt = 0 ∨ ll.1.toInt = 1 ∨ ll.1.toInt = 2 ∨ ll.1.toInt = 3 ∨ ll.1.toInt = 4 ∨ ll.1.toInt = 5 := by omega
  rcases hk with q | q | q | q | q | q
  · exact Or.inl (by rw [i32e, q]; decide)
  · exact Or.inr (Or.inl (by rw [i32e, q]; decide))
  · exact Or.inr (Or.inr (Or.inl (by rw [i32e, q]; decide)))
  · exact Or.inr (Or.inr (Or.inr (Or.inl (by rw [i32e, q]; decide))))
  · exact Or.inr (Or.inr (Or.inr (Or.inr (Or.inl (by rw [i32e, q]; decide)))))
  · exact Or.inr (Or.inr (Or.inr (Or.inr (Or.inr (by rw [i32e, q]; decide)))))
/-- a loss IS what it is itself -/
theorem as_is9 {asker l depth c : Nat} {ll : mLoss} {kd : Int32} {σ : am_S} {tr : List Int32} {F : Int64 → am_S → Prop} (wl : WfLL Ls) (hres : rsv 5 4 asker = 9) (hak : asker < 15) (hd : depth ≤ 20) (E : AsE σ w wk ab v b P T Ls Cs l0 lc rows tr fnd ov) (hl : Ls[l]? = some ll) (hc : am_aR σ (bA σ b 6005) l = some c) (K : ∀ σ', AsE σ' w wk ab v b P T Ls Cs l0 lc rows (tr ++ [95]) fnd ov → AsC wk ab v σ σ' → F (if ll.1 = kd then 1 else 0) σ') : k_Wk_ask nl Ln xs (d + 1) wk 5 (Int32.ofNat asker) (some c) kd.toInt64 (Int32.ofNat depth) σ F := by
  refine as_ask (act := 5) hres (by decide) (by decide) hak hd E wl hl hc (fun s1 y0 E1 r1 _ => ?_)
  refine w_Wk_ask_129 ⟨fun q => ?_, fun q => ?_, fun q => ?_, fun q => ?_, fun q => ?_, fun q => ?_, fun q => ?_, fun q => ?_, fun q => ?_, fun q => ?_, fun q => ?_, fun q => ?_, fun q => ?_, fun q => ?_, fun q => ?_, fun q => ?_, fun q => ?_, fun q => ?_, fun q => ?_, fun q => ?_, fun q => ?_⟩ <;> first | exact absurd q (by decide) | skip
  obtain ⟨c', c1, c2, -, -⟩ := E1.bk.loss hl
  have ec : c' = c := Option.some.inj (c1.symm.trans (AsC.cell (tr' := tr) E r1 hc))
  subst ec
  refine w_Wk_ask_797 ⟨is_mk c2.2.1, ?_⟩
  rw [Option.getD_some, c2.2.2.2.2.1]
  rintro w4 rfl
  have e : (ll.1.toInt64 = kd.toInt64) ↔ ll.1 = kd := by rw [i64e, t64, t64, ← i32e]
  have := K s1 E1 r1
  by_cases h : ll.1 = kd
  · rw [if_pos (e.mpr h)]; rw [if_pos h] at this; exact this
  · rw [if_neg (fun z => h (e.mp z))]; rw [if_neg h] at this; exact this
theorem as_is {kd : Int32} (wl : WfLL Ls) : ∀ (f l depth : Nat) (ll : mLoss) (c : Nat) (σ : am_S) (tr : List Int32) (F : Int64 → am_S → Prop), Ls[l]? = some ll → am_aR σ (bA σ b 6005) l = some c → m_parts5 Ls f l < f → depth + f ≤ 20 → AsE σ w wk ab v b P T Ls Cs l0 lc rows tr fnd ov → (∀ σ', AsE σ' w wk ab v b P T Ls Cs l0 lc rows (tr ++ (m_is Ls kd f l).2) fnd ov → AsC wk ab v σ σ' → F (if (m_is Ls kd f l).1 = true then 1 else 0) σ') → k_Wk_ask nl Ln xs (d + f + 2) wk 5 (askL ll) (some c) kd.toInt64 (Int32.ofNat depth) σ F := by
  intro f
  induction f with
  | zero => intro l depth ll c σ tr F _ _ h; omega
  | succ f ih =>
    intro l depth ll c σ tr F hl hc hp hd E K
    have hgd : Ls.getD l mLoss0 = ll := getD_of mLoss0 hl
    have hwl := wl.2.1 l ll hl
    have hwf := wl.2.2 ll (List.mem_of_getElem? hl)
    unfold m_is at K
    rw [hgd] at K
    rw [m_parts5, hgd] at hp
    cases hwh : ll.2.2.1 with
    | some u =>
      rw [hwh] at K hp
      have h5 : ll.1 = 5 := hwl.1.mpr (by rw [hwh]; simp)
      have hu := hwl.2.1 u hwh
      have hul := getD_some mLoss0 (show u < Ls.length from Nat.lt_trans hu (lt_of_get hl))
      have ea : askL ll = Int32.ofNat 14 := by unfold askL; rw [h5]; decide +kernel
      rw [ea]
      refine as_ask (act := 5) (owner := 14) (d := d + f + 2) (by decide +kernel) (by decide) (by decide) (by decide) (by omega) E wl hl hc (fun s1 y0 E1 r1 hy => ?_)
      refine w_Wk_ask_129 ⟨fun q => ?_, fun q => ?_, fun q => ?_, fun q => ?_, fun q => ?_, fun q => ?_, fun q => ?_, fun q => ?_, fun q => ?_, fun q => ?_, fun q => ?_, fun q => ?_, fun q => ?_, fun q => ?_, fun q => ?_, fun q => ?_, fun q => ?_, fun q => ?_, fun q => ?_, fun q => ?_, fun q => ?_⟩ <;> first | exact absurd q (by decide) | skip
      obtain ⟨c', c1, c2, -, c4⟩ := E1.bk.loss hl
      have ec : c' = c := Option.some.inj (c1.symm.trans (AsC.cell (tr' := tr) E r1 hc))
      subst ec
      obtain ⟨uc, u1, u2, -, -⟩ := E1.bk.loss hul
      refine w_Wk_ask_887 ⟨is_mk c2.2.1, is_mk E1.2.2.1, ?_⟩
      rw [Option.getD_some, c4 u hwh, u1, hy u hwh]
      refine (ih u (depth + 1) _ uc s1 _ _ hul u1 (by simp only [] at hp; omega) (by omega) E1 (fun s2 E2 r2 _ => ?_))
      refine K s2 ?_ (r1.trans r2)
      show AsE s2 w wk ab v b P T Ls Cs l0 lc rows (tr ++ (145 :: (m_is Ls kd f u).2)) fnd ov
      rw [List.append_assoc] at E2
      exact E2
    | none =>
      rw [hwh] at K
      have h5 : ll.1 ≠ 5 := fun q => absurd hwh (hwl.1.mp q)
      have plain : ∀ a : Nat, askL ll = Int32.ofNat a → rsv 5 4 a = 9 → a < 15 → ll.1 ≠ 3 → k_Wk_ask nl Ln xs (d + (f + 1) + 2) wk 5 (askL ll) (some c) kd.toInt64 (Int32.ofNat depth) σ F := by
        intro a ea hr ha h3
        simp only [if_neg h3] at K
        rw [ea]
        refine as_is9 (d := d + (f + 1) + 1) wl hr ha (by omega) E hl hc (fun s1 E1 r1 => ?_)
        rw [← dec_if]
        exact K s1 E1 r1
      rcases kd_cases hwf with q | q | q | q | q | q
      · exact plain 10 (by unfold askL; rw [q]; decide +kernel) (by decide +kernel) (by decide) (by rw [q]; decide)
      · exact plain 10 (by unfold askL; rw [q]; decide +kernel) (by decide +kernel) (by decide) (by rw [q]; decide)
      · exact plain 11 (by unfold askL; rw [q]; decide +kernel) (by decide +kernel) (by decide) (by rw [q]; decide)
      · -- a storm
        have ea : askL ll = Int32.ofNat 12 := by unfold askL; rw [q]; decide +kernel
        simp only [if_pos q] at K
        rw [ea]
        refine as_ask (act := 5) (owner := 12) (d := d + f + 2) (by decide +kernel) (by decide) (by decide) (by decide) (by omega) E wl hl hc (fun s1 y0 E1 r1 hy => ?_)
        refine w_Wk_ask_129 ⟨fun q => ?_, fun q => ?_, fun q => ?_, fun q => ?_, fun q => ?_, fun q => ?_, fun q => ?_, fun q => ?_, fun q => ?_, fun q => ?_, fun q => ?_, fun q => ?_, fun q => ?_, fun q => ?_, fun q => ?_, fun q => ?_, fun q => ?_, fun q => ?_, fun q => ?_, fun q => ?_, fun q => ?_⟩ <;> first | exact absurd q (by decide) | skip
        obtain ⟨c', c1, c2, -, -⟩ := E1.bk.loss hl
        have ec : c' = c := Option.some.inj (c1.symm.trans (AsC.cell (tr' := tr) E r1 hc))
        subst ec
        obtain ⟨s, z1, z2, z3, z4⟩ := c2.2.2.2.2.2.2.2.2.2.1
        have hn6 := hwl.2.2.2
        have hsort : m_hasSort Ls l 3 = ll.2.2.2.2.2.any (fun i => decide (i.1 = 3)) := by unfold m_hasSort m_items; rw [hgd]
        -- the end
        have fin : ∀ (wet : Bool) (x11 : Int32), (wet = true ↔ (kd = 1 ∧ m_hasSort Ls l 3 = true)) → c_Wk_ask_865 nl Ln xs (d + f + 2 + 1) wk 5 (Int32.ofNat 12) (some c') kd.toInt64 (Int32.ofNat depth) (Int32.ofNat 12) (Int32.ofNat (depth + 1)) y0 (b2i wet) x11 s1 F := by
          intro wet x11 hw
          refine w_Wk_ask_865 ⟨fun g => ⟨is_mk E1.2.2.1, ?_⟩, fun g => ?_⟩
          · have hwf : wet = false := by cases wet; rfl; exact absurd g (by decide)
            have hn : ¬ (kd = 1 ∧ m_hasSort Ls l 3 = true) := fun z => by rw [hw.mpr z] at hwf; cases hwf
            rw [if_neg hn] at K
            refine as_is9 (d := d + f + 1) (asker := 9) wl (by decide +kernel) (by decide) (by omega) E1 hl (AsC.cell (tr' := tr) E r1 hc) (fun s2 E2 r2 _ => ?_)
            rw [← dec_if]
            exact K s2 (by rw [List.append_assoc] at E2; exact E2) (r1.trans r2)
          · have hwt : wet = true := by cases wet; exact absurd rfl g; rfl
            rw [if_pos (hw.mp hwt)] at K
            exact K s1 E1 r1
        have loop : ∀ (m j : Nat) (wet : Bool), j + m = ll.2.2.2.2.2.length → (wet = true ↔ (kd = 1 ∧ (ll.2.2.2.2.2.take j).any (fun i => decide (i.1 = 3)) = true)) → c_Wk_ask_820 nl Ln xs (d + f + 2 + 1) wk 5 (Int32.ofNat 12) (some c') kd.toInt64 (Int32.ofNat depth) (Int32.ofNat 12) (Int32.ofNat (depth + 1)) y0 (b2i wet) (Int32.ofNat j) s1 F := by
          intro m
          induction m with
          | zero =>
            intro j wet hj hwet
            refine w_Wk_ask_820 ⟨is_mk c2.2.1, ?_⟩
            rw [Option.getD_some, c2.2.2.2.2.2.2.2.1]
            refine ⟨fun g => ?_, fun _ => fin wet _ ?_⟩
            · rw [n32lt (by omega) (by omega)] at g
              omega
            · rw [List.take_of_length_le (by omega)] at hwet
              rw [hsort]
              exact hwet
          | succ m ihm =>
            intro j wet hj hwet
            obtain ⟨it, hit⟩ := get_ex (show j < ll.2.2.2.2.2.length by omega)
            refine w_Wk_ask_820 ⟨is_mk c2.2.1, ?_⟩
            rw [Option.getD_some, c2.2.2.2.2.2.2.2.1, z1, Option.getD_some, n32c (by omega), z4 _ _ hit]
            refine ⟨fun _ => ⟨fun g1 => ⟨fun _ => ar_mk z3 (by rw [n32 (by omega)]; omega) (by rw [n32 (by omega)]; omega), ?_⟩, fun g1 => fin wet _ ?_⟩, fun g => absurd (by rw [n32lt (by omega) (by omega)]; omega) g⟩
            · have hkd : kd = 1 := by
                rw [i64e, t64] at g1
                rw [i32e, g1]
                decide
              have eb : (if ¬ (b2i wet = 0) ∨ (it.1 = 3) then (1 : Int32) else 0) = b2i (wet || decide (it.1 = 3)) := by
                cases wet
                · by_cases h3 : it.1 = 3 <;> simp [b2i, h3]
                · simp [b2i]
              rw [eb, n32s]
              refine ihm (j + 1) _ (by omega) ?_
              rw [List.take_add_one, hit, List.any_append, Bool.or_eq_true, hwet, Bool.or_eq_true]
              simp [hkd]
            · have hkd : kd ≠ 1 := fun z => g1 (by rw [z]; decide)
              constructor
              · intro z
                exact absurd (hwet.mp z).1 hkd
              · intro z
                exact absurd z.1 hkd
        exact loop ll.2.2.2.2.2.length 0 false (by omega) ⟨fun z => absurd z (by decide), fun z => absurd z.2 (by simp)⟩
      · exact plain 13 (by unfold askL; rw [q]; decide +kernel) (by decide +kernel) (by decide) (by rw [q]; decide)
      · exact absurd q h5
/-- the loss of the case IS .. -/
theorem as_lossIs {kd : Int32} {depth : Nat} {σ : am_S} {tr : List Int32} {F : Bool → am_S → Prop} (wl : WfLL Ls) (hd : depth ≤ 15) (E : AsE σ w wk ab v b P T Ls Cs l0 lc rows tr fnd ov) (K : ∀ σ', AsE σ' w wk ab v b P T Ls Cs l0 lc rows (tr ++ (m_lis Ls l0 kd).2) fnd ov → AsC wk ab v σ σ' → F (m_lis Ls l0 kd).1 σ') : k_Wk_lossIs nl Ln xs (d + 8) wk kd (Int32.ofNat depth) σ F := by
  have hl := getD_some mLoss0 E.2.2.2.2.2.2.2.2.2
  obtain ⟨c, c1, c2, -, -⟩ := E.bk.loss hl
  have h6 := E.2.2.2.2.2.2.2.2.1
  have ec : c = lc := Option.some.inj (c1.symm.trans h6)
  subst ec
  have hwf := wl.2.2 _ (List.mem_of_getElem? hl)
  have hwl := wl.2.1 l0 _ hl
  refine w_Wk_lossIs ⟨is_mk E.2.2.1, ?_⟩
  rw [E.2.2.2.2.2.2.2.1, Option.getD_some, c2.2.2.2.2.1]
  refine ⟨is_mk c2.2.1, E.2.1 502 (by decide), hwf.1, ?_, ?_⟩
  · rw [show (502 : Nat) = 500 + 2 from rfl, sr_rl (by decide)]
    have : (dd_sr.getD 2 []).length = 6 := by decide +kernel
    rw [this]
    have := hwf.2.1
    omega
  · rw [ix_n hwf.1, show (502 : Nat) = 500 + 2 from rfl, sr_rv (by decide)]
    refine (as_is (d := d) (kd := kd) wl 5 l0 depth _ c σ tr _ hl c1 (by have := hwl.2.2.1; omega) (by omega) E (fun s2 E2 r2 _ => ?_))
    have := K s2 E2 r2
    have e : decide ((if (m_is Ls kd 5 l0).1 = true then (1 : Int64) else 0) = 1) = (m_lis Ls l0 kd).1 := by
      unfold m_lis
      cases (m_is Ls kd 5 l0).1 <;> decide
    rw [e]
    exact this
end
