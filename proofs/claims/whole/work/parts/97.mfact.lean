/-! THE MODEL stays well-formed: facts -/
/-- the moments are not later than now -/
def WfMo (M : mOff) : Prop := 0 ≤ (o_now M).toInt ∧ (∀ c ∈ o_cas M, 0 ≤ c.2.2.2.2.1.toInt ∧ c.2.2.2.2.1.toInt ≤ (o_now M).toInt ∧ ∀ f ∈ c.2.2.2.2.2, f.2.2.1.toInt ≤ (o_now M).toInt) ∧ ∀ t ∈ o_tel M, t.2.2.2.1.toInt ≤ (o_now M).toInt
def WfO (M : mOff) : Prop := WfD (o_pol M) (o_tel M) (o_los M) (o_cas M) ∧ WfH (o_tel M) ∧ WfMo M
section
variable {M : mOff} {n k : Nat} {a : mArg} {it : Int64} {c : mCase}
theorem lastDay_le (hF : WfFs c.2.2.2.2.2) : ∀ f ∈ c.2.2.2.2.2, f.2.1.toInt ≤ (m_lastDay c).toInt := by
  intro f hf
  unfold m_lastDay
  cases hgl : c.2.2.2.2.2.getLast? with
  | none =>
    rw [List.getLast?_eq_none_iff] at hgl
    rw [hgl] at hf
    exact absurd hf List.not_mem_nil
  | some g =>
    obtain ⟨l, hl⟩ := List.getLast?_eq_some_iff.mp hgl
    have hp := hF.2.2
    rw [hl] at hf hp
    rw [List.mem_append] at hf
    rcases hf with h | h
    · exact (List.pairwise_append.mp hp).2.2 f h g List.mem_cons_self |>.1
    · rw [List.mem_singleton] at h
      rw [h]
      exact Int.le_refl _
theorem keep_wf (w : WfO M) (hi : (o_cas M)[m_ix (a 0)]? = some c) (hg : m_nums M n a) (h1 : 12 ≤ n) (h2 : n ≤ 19) (h40 : c.2.2.2.2.2.length < 40) (hld : (m_lastDay c).toInt ≤ (a 1).toInt) (hnow : (o_now M).toInt < 2147483647) (hit0 : 0 ≤ it.toInt) (hit1 : it.toInt ≤ (m_cOf n a).toInt) (hit : n ≠ 13 → it = 0) : WfO (m_keep M n a it) := by
  obtain ⟨⟨wP, wT, wL, wC⟩, wH, m0, m1, m2⟩ := w
  obtain ⟨g1, g2, g3⟩ := hg
  have hgd : (o_cas M).getD (m_ix (a 0)) mCase0 = c := getD_of mCase0 hi
  rw [hgd] at g3
  have hm := List.mem_of_getElem? hi
  have hc := wC.2 c hm
  have one : (1 : Int32).toInt = 1 := by decide
  have en : (o_now M + 1).toInt = (o_now M).toInt + 1 := by rw [i32add (by rw [one]; omega) (by rw [one]; omega), one]
  have ed : (a 1).toInt32.toInt = (a 1).toInt := t32 (by omega) (by omega)
  have hn : (Int32.ofNat n).toInt = n := n32 (by omega)
  have hcs : n = 12 ∨ n = 13 ∨ n = 14 ∨ n = 15 ∨ n = 16 ∨ n = 17 ∨ n = 18 ∨ n = 19 := by omega
  have hco : 0 ≤ (m_cOf n a).toInt ∧ (m_cOf n a).toInt ≤ 1000000000000 := by
    rcases hcs with h | h | h | h | h | h | h | h <;> subst h
    · exact g3.2
    · exact ⟨Int.le_trans (by decide) g3.1, g3.2⟩
    · exact ⟨(by decide : (0 : Int) ≤ (0 : Int64).toInt), (by decide : (0 : Int64).toInt ≤ 1000000000000)⟩
    · exact ⟨(by decide : (0 : Int) ≤ (0 : Int64).toInt), (by decide : (0 : Int64).toInt ≤ 1000000000000)⟩
    · exact g3.2.2.1
    · exact g3.2
    · exact g3
    · exact g3
  have i6 : (m_items (o_los M) (m_base (o_los M) c.2.2.1)).length ≤ 6 := by
    have hl := hc.2.1
    have hb := root_lt wL.2.1 4 c.2.2.1 hl
    have hb2 : m_base (o_los M) c.2.2.1 < (o_los M).length := by unfold m_base; omega
    exact (wL.2.1 _ _ (getD_some mLoss0 hb2)).2.2.2
  have e13 : Int32.ofNat n ≠ 13 → n ≠ 13 := fun h q => h (by rw [q]; rfl)
  have e17 : Int32.ofNat n = 17 → n = 17 := fun h => by rw [show (17 : Int32) = Int32.ofNat 17 from rfl, n32i (by omega) (by omega)] at h; exact h
  have e16 : Int32.ofNat n = 16 → n = 16 := fun h => by rw [show (16 : Int32) = Int32.ofNat 16 from rfl, n32i (by omega) (by omega)] at h; exact h
  have hf : WfFac (m_factOf n a (o_now M + 1) it) := by
    refine ⟨by show 12 ≤ (Int32.ofNat n).toInt; omega, by show (Int32.ofNat n).toInt ≤ 19; omega, by show 0 ≤ (a 1).toInt32.toInt; omega, by show (a 1).toInt32.toInt ≤ _; omega, hco.1, hco.2, hit0, hit1, fun h => hit (e13 h), fun h => ?_, fun h => ?_⟩
    · have := e17 h
      subst this
      have q : (a 2).toInt32.toInt = (a 2).toInt := t32 (by have := g3.1; omega) (by have := g3.1; omega)
      show 1 ≤ (a 2).toInt32.toInt ∧ (a 2).toInt32.toInt ≤ 5
      rw [q]; exact g3.1
    · have := e16 h
      subst this
      obtain ⟨k1, k2, k3, k4⟩ := g3
      have q : (a 2).toInt32.toInt = (a 2).toInt := t32 (by omega) (by omega)
      have q3 : (a 3).toInt32.toInt = (a 3).toInt := t32 (by omega) (by omega)
      have q5 : (a 5).toInt32.toInt = (a 5).toInt := t32 (by omega) (by omega)
      show 0 ≤ (a 2).toInt32.toInt ∧ (a 2).toInt32.toInt < 6 ∧ ((a 3).toInt32 = 0 ∨ (a 3).toInt32 = 1) ∧ 0 ≤ (a 5).toInt32.toInt ∧ (a 5).toInt32.toInt ≤ 10949
      rw [q, q5]
      refine ⟨k1.1, by omega, ?_, k4.1, k4.2⟩
      rcases (show (a 3).toInt = 0 ∨ (a 3).toInt = 1 by omega) with z | z
      · left; apply Int32.toInt_inj.mp; rw [q3, z]; rfl
      · right; apply Int32.toInt_inj.mp; rw [q3, z]; rfl
  have hF := hc.2.2.2.2.1
  have hcn : c.2.2.2.1.toInt ≤ (a 1).toInt := by
    have : c.2.2.2.1.toInt ≤ (m_lastDay c).toInt := by
      unfold m_lastDay
      cases hgl : c.2.2.2.2.2.getLast? with
      | none => exact Int.le_refl _
      | some f => exact hc.2.2.2.2.2.1 f (List.mem_of_getLast? hgl)
    omega
  have hnew : WfCas (o_pol M) (o_los M) (c.1, c.2.1, c.2.2.1, c.2.2.2.1, c.2.2.2.2.1, c.2.2.2.2.2 ++ [m_factOf n a (o_now M + 1) it]) := by
    refine ⟨hc.1, hc.2.1, hc.2.2.1, hc.2.2.2.1, ⟨?_, ?_, ?_⟩, ?_, ?_⟩
    · show (c.2.2.2.2.2 ++ [_]).length ≤ 40
      rw [List.length_append, List.length_singleton]; omega
    · intro f hf'
      rcases List.mem_append.mp hf' with h | h
      · exact hF.2.1 f h
      · rw [List.mem_singleton.mp h]; exact hf
    · refine List.pairwise_append.mpr ⟨hF.2.2, List.pairwise_singleton _ _, fun f hf' g hg' => ?_⟩
      rw [List.mem_singleton.mp hg']
      have h1 := lastDay_le hF f hf'
      have h2 := (m1 c hm).2.2 f hf'
      refine ⟨?_, ?_⟩
      · show f.2.1.toInt ≤ (a 1).toInt32.toInt
        omega
      · show f.2.2.1.toInt < (o_now M + 1).toInt
        omega
    · intro f hf'
      rcases List.mem_append.mp hf' with h | h
      · exact hc.2.2.2.2.2.1 f h
      · rw [List.mem_singleton.mp h]
        show c.2.2.2.1.toInt ≤ (a 1).toInt32.toInt
        omega
    · intro f hf' h16
      rcases List.mem_append.mp hf' with h | h
      · exact hc.2.2.2.2.2.2 f h h16
      · rw [List.mem_singleton.mp h] at h16 ⊢
        have := e16 h16
        subst this
        have q : (a 2).toInt32.toInt = (a 2).toInt := t32 (by have := g3.1; omega) (by have := g3.1; omega)
        show (a 2).toInt32.toInt < _
        rw [q]
        exact g3.1.2
  have mem : ∀ c' ∈ (o_cas M).modify (m_ix (a 0)) (fun c => (c.1, c.2.1, c.2.2.1, c.2.2.2.1, c.2.2.2.2.1, c.2.2.2.2.2 ++ [m_factOf n a (o_now M + 1) it])), c' ∈ o_cas M ∨ c' = (c.1, c.2.1, c.2.2.1, c.2.2.2.1, c.2.2.2.2.1, c.2.2.2.2.2 ++ [m_factOf n a (o_now M + 1) it]) := by
    intro c' hc'
    obtain ⟨j, hj⟩ := List.getElem?_of_mem hc'
    rcases get_mod hj with ⟨p1, y, p2, p3⟩ | ⟨p1, p2⟩
    · rw [hi] at p2
      cases p2
      exact Or.inr p3
    · exact Or.inl (List.mem_of_getElem? p2)
  refine ⟨⟨wP, wT, wL, ?_, ?_⟩, wH, ?_, ?_, ?_⟩
  · show ((o_cas M).modify _ _).length ≤ 100
    rw [List.length_modify]
    exact wC.1
  · intro c' hc'
    rcases mem c' hc' with h | h
    · exact wC.2 c' h
    · rw [h]; exact hnew
  · show 0 ≤ (o_now M + 1).toInt
    omega
  · intro c' hc'
    show _ ∧ c'.2.2.2.2.1.toInt ≤ (o_now M + 1).toInt ∧ ∀ f ∈ c'.2.2.2.2.2, f.2.2.1.toInt ≤ (o_now M + 1).toInt
    rcases mem c' hc' with h | h
    · have := m1 c' h
      refine ⟨this.1, by omega, fun f hf' => ?_⟩
      have := this.2.2 f hf'
      omega
    · have := m1 c hm
      rw [h]
      refine ⟨this.1, by show c.2.2.2.2.1.toInt ≤ _; omega, fun f hf' => ?_⟩
      rcases List.mem_append.mp hf' with h | h
      · have := this.2.2 f h
        omega
      · rw [List.mem_singleton.mp h]
        exact Int.le_refl _
  · intro t ht
    have := m2 t ht
    show t.2.2.2.1.toInt ≤ (o_now M + 1).toInt
    omega
/-- what a fact may change -/
theorem fact_wf {fnd : Int32} (w : WfO M) (h1 : 12 ≤ n) (h2 : n ≤ 19) (hnow : (o_now M).toInt < 2147483647) : ((m_fact M fnd n a).2.1 = M ∧ (m_fact M fnd n a).1.toInt < 0) ∨ (∃ it, (m_fact M fnd n a).2.1 = m_keep M n a it ∧ (m_fact M fnd n a).1 = 1 ∧ WfO (m_keep M n a it) ∧ (0 ≤ (a 0).toInt ∧ (a 0).toInt < (o_cas M).length)) := by
  unfold m_fact m_factC
  obtain ⟨c, hcc⟩ : ∃ c, c = (o_cas M).getD (m_ix (a 0)) mCase0 := ⟨_, rfl⟩
  rw [← hcc]
  split
  · exact Or.inl ⟨rfl, by show (-2 : Int32).toInt < 0; decide⟩
  · rename_i hnum
    have hg : m_nums M n a := by
      have hn : ¬ _ := fun q => hnum (m_dec_eq.mpr q)
      unfold m_nums
      rw [← hcc]
      refine ⟨?_, ?_, ?_⟩
      · exact Classical.byContradiction (fun z => hn (Or.inl z))
      · exact Classical.byContradiction (fun z => hn (Or.inr (Or.inl z)))
      · exact Classical.byContradiction (fun z => hn (Or.inr (Or.inr z)))
    have hlt : m_ix (a 0) < (o_cas M).length := by have := hg.1; unfold m_ix; omega
    have hi : (o_cas M)[m_ix (a 0)]? = some c := by rw [hcc]; exact getD_some mCase0 hlt
    have h40 : c.2.2.2.2.2.length ≤ 40 := (w.1.c hi).2.2.2.2.1.1
    have hz : (0 : Int64).toInt = 0 := by decide
    have hco : 0 ≤ (m_cOf n a).toInt := by
      have g3 := hg.2.2
      rcases (show n = 12 ∨ n = 13 ∨ n = 14 ∨ n = 15 ∨ n = 16 ∨ n = 17 ∨ n = 18 ∨ n = 19 by omega) with h | h | h | h | h | h | h | h <;> subst h
      · exact g3.2.1
      · exact Int.le_trans (by decide) g3.1
      · exact (by decide : (0 : Int) ≤ (0 : Int64).toInt)
      · exact (by decide : (0 : Int) ≤ (0 : Int64).toInt)
      · exact g3.2.2.1.1
      · exact g3.2.1
      · exact g3.1
      · exact g3.1
    split
    · exact Or.inl ⟨rfl, by show (-3 : Int32).toInt < 0; decide⟩
    · split
      · exact Or.inl ⟨rfl, by show (-4 : Int32).toInt < 0; decide⟩
      · rename_i hld
        split
        · exact Or.inl ⟨rfl, by show (-5 : Int32).toInt < 0; decide⟩
        · split
          · rename_i h13
            split
            · exact Or.inl ⟨rfl, by show (-7 : Int32).toInt < 0; decide⟩
            · cases hp : m_paying M (m_ix (a 0)) (a 1).toInt32 (a 2) with
              | none => exact Or.inl ⟨rfl, by show (-6 : Int32).toInt < 0; decide⟩
              | some it =>
                simp only []
                have hc2 : m_cOf n a = a 2 := by subst h13; rfl
                have hpn := pay_nn w.1 hi (by rw [← hc2]; exact hco) hp
                split
                · exact Or.inl ⟨rfl, by show (-7 : Int32).toInt < 0; decide⟩
                · exact Or.inr ⟨it, rfl, rfl, keep_wf w hi hg h1 h2 (by omega) (by omega) hnow hpn.1 (by rw [hc2]; exact hpn.2) (fun q => absurd h13 q), hg.1⟩
          · rename_i h13
            split
            · exact Or.inl ⟨rfl, by show (-6 : Int32).toInt < 0; decide⟩
            · split
              · exact Or.inl ⟨rfl, by show (-7 : Int32).toInt < 0; decide⟩
              · exact Or.inr ⟨0, rfl, rfl, keep_wf w hi hg h1 h2 (by omega) (by omega) hnow (by rw [hz]; exact Int.le_refl _) (by rw [hz]; exact hco) (fun _ => rfl), hg.1⟩
end
