/-! SHARES, by the reference: as a whole -/
theorem parts_sh {al : Nat → Option Int64} {ord : List Nat} {all sum : Int64} (hn : ord.Nodup) (hlen : ord.length ≤ 6) (hB : ∀ y ∈ ord, 0 ≤ (alv al y).toInt ∧ (alv al y).toInt ≤ 10000000000000) (hS : sum.toInt = SI (alv al) ord) (hS0 : 0 < sum.toInt) (hA0 : 0 ≤ all.toInt) (hA1 : all.toInt ≤ sum.toInt) (hg : ord.any (fun i => m_great all ((al i).getD 0)) = false) : ShI al ord (m_parts al all sum ord (fun _ => 0, all)) ∧ (m_parts al all sum ord (fun _ => 0, all)).2.toInt ≤ 6 := by
  have hq : ∀ y ∈ ord, (all * alv al y / sum).toInt = all.toInt * (alv al y).toInt / sum.toInt ∧ 0 ≤ (all * alv al y / sum).toInt ∧ (all * alv al y / sum).toInt ≤ (alv al y).toInt := by
    intro y hy
    have hb := hB y hy
    have hgr : ¬ 4611686018427387904 < all.toInt * (alv al y).toInt := by
      have := List.any_eq_false.mp hg y hy
      intro q
      exact this (by unfold m_great; exact decide_eq_true q)
    have h0 : 0 ≤ all.toInt * (alv al y).toInt := Int.mul_nonneg hA0 hb.1
    have hm : (all * alv al y).toInt = all.toInt * (alv al y).toInt := i64mul (by omega) (by omega)
    have hd : (all * alv al y / sum).toInt = all.toInt * (alv al y).toInt / sum.toInt := by rw [i64div (by omega) hS0, hm]
    refine ⟨hd, by rw [hd]; exact Int.ediv_nonneg h0 (by omega), ?_⟩
    rw [hd]
    apply Int.ediv_le_of_le_mul hS0
    rw [Int.mul_comm (alv al y).toInt]
    exact Int.mul_le_mul_of_nonneg_right hA1 hb.1
  have key : ∀ (l : List Nat) (x : (Nat → Int64) × Int64), l.Nodup → (∀ y ∈ l, y ∈ ord) → -100000000000000 ≤ x.2.toInt - 10000000000000 * l.length → x.2.toInt ≤ 100000000000000 → (∀ y, y ∉ l → (m_parts al all sum l x).1 y = x.1 y) ∧ (∀ y ∈ l, (m_parts al all sum l x).1 y = all * alv al y / sum) ∧ (m_parts al all sum l x).2.toInt = x.2.toInt - SI (fun y => all * alv al y / sum) l := by
    intro l
    induction l with
    | nil => intro x _ _ _ _; exact ⟨fun y _ => rfl, fun y hy => absurd hy List.not_mem_nil, by simp [m_parts, SI]⟩
    | cons z l ih =>
      intro x hnl hl h1 h2
      rw [List.nodup_cons] at hnl
      have hz := hq z (hl z List.mem_cons_self)
      have hbz := hB z (hl z List.mem_cons_self)
      rw [List.length_cons] at h1
      have hd : (x.2 - all * alv al z / sum).toInt = x.2.toInt - (all * alv al z / sum).toInt := i64sub (by omega) (by omega)
      have e1 : m_parts al all sum (z :: l) x = m_parts al all sum l (va_up x.1 z (all * alv al z / sum), x.2 - all * alv al z / sum) := rfl
      have := ih (va_up x.1 z (all * alv al z / sum), x.2 - all * alv al z / sum) hnl.2 (fun y hy => hl y (List.mem_cons_of_mem _ hy)) (by show _ ≤ (x.2 - all * alv al z / sum).toInt - _; rw [hd]; omega) (by show (x.2 - all * alv al z / sum).toInt ≤ _; rw [hd]; omega)
      rw [← e1] at this
      obtain ⟨a1, a2, a3⟩ := this
      refine ⟨fun y hy => ?_, fun y hy => ?_, ?_⟩
      · rw [List.mem_cons] at hy
        rw [a1 y (fun q => hy (Or.inr q))]
        exact am_vup (fun q => hy (Or.inl q))
      · rcases List.mem_cons.mp hy with e | e
        · subst e
          rw [a1 y hnl.1]
          exact up_same
        · exact a2 y e
      · rw [a3, SI]
        show (x.2 - all * alv al z / sum).toInt - _ = _
        rw [hd]
        omega
  have hmx := SI_mx (B := 10000000000000) (by decide) (l := ord) (fun y hy => (hB y hy).2)
  have hl6 : (ord.length : Int) ≤ 6 := by omega
  obtain ⟨k1, k2, k3⟩ := key ord (fun _ => 0, all) hn (fun y hy => hy) (by show _ ≤ all.toInt - _; omega) (by show all.toInt ≤ _; omega)
  have hsum : ∀ (l : List Nat), (∀ y ∈ l, y ∈ ord) → 0 ≤ all.toInt * SI (alv al) l - sum.toInt * SI (fun y => all * alv al y / sum) l ∧ all.toInt * SI (alv al) l - sum.toInt * SI (fun y => all * alv al y / sum) l ≤ (sum.toInt - 1) * l.length := by
    intro l
    induction l with
    | nil => intro _; simp [SI]
    | cons z l ih =>
      intro hl
      have := ih (fun y hy => hl y (List.mem_cons_of_mem _ hy))
      have hz := hq z (hl z List.mem_cons_self)
      have h1 := Int.mul_ediv_add_emod (all.toInt * (alv al z).toInt) sum.toInt
      have h2 := Int.emod_lt_of_pos (all.toInt * (alv al z).toInt) hS0
      have h3 := Int.emod_nonneg (all.toInt * (alv al z).toInt) (show sum.toInt ≠ 0 by omega)
      rw [SI, SI, List.length_cons, Int.mul_add, Int.mul_add, hz.1, Int.natCast_add, Int.mul_add]
      omega
  have hs := hsum ord (fun y hy => hy)
  rw [← hS] at hs
  have hSIe : SI (m_parts al all sum ord (fun _ => 0, all)).1 ord = SI (fun y => all * alv al y / sum) ord := by
    have : ∀ (l : List Nat), (∀ y ∈ l, y ∈ ord) → SI (m_parts al all sum ord (fun _ => 0, all)).1 l = SI (fun y => all * alv al y / sum) l := by
      intro l
      induction l with
      | nil => intro _; rfl
      | cons z l ih => intro hl; rw [SI, SI, k2 z (hl z List.mem_cons_self), ih (fun y hy => hl y (List.mem_cons_of_mem _ hy))]
    exact this ord (fun y hy => hy)
  have k3' : (m_parts al all sum ord (fun _ => 0, all)).2.toInt = all.toInt - SI (fun y => all * alv al y / sum) ord := k3
  have hfac : sum.toInt * (all.toInt - SI (fun y => all * alv al y / sum) ord) = all.toInt * sum.toInt - sum.toInt * SI (fun y => all * alv al y / sum) ord := by rw [Int.mul_sub, Int.mul_comm sum.toInt all.toInt]
  have hnn : 0 ≤ all.toInt - SI (fun y => all * alv al y / sum) ord := by
    apply Classical.byContradiction
    intro q
    have h1 : all.toInt - SI (fun y => all * alv al y / sum) ord ≤ -1 := by omega
    have h2 := Int.mul_le_mul_of_nonneg_left h1 (show 0 ≤ sum.toInt by omega)
    rw [hfac] at h2
    omega
  have h6 : all.toInt - SI (fun y => all * alv al y / sum) ord ≤ 6 := by
    apply Classical.byContradiction
    intro q
    have h1 : 6 ≤ all.toInt - SI (fun y => all * alv al y / sum) ord := by omega
    have h2 := Int.mul_le_mul_of_nonneg_left h1 (show 0 ≤ sum.toInt by omega)
    rw [hfac] at h2
    have h3 : (sum.toInt - 1) * (ord.length : Int) ≤ (sum.toInt - 1) * 6 := Int.mul_le_mul_of_nonneg_left hl6 (by omega)
    omega
  refine ⟨⟨fun y hy => ?_, by omega, ?_⟩, (by rw [k3']; exact h6)⟩
  · rw [k2 y hy]
    exact ⟨(hq y hy).2.1, (hq y hy).2.2⟩
  · rw [hSIe, k3', ← hS]
    omega
theorem parts_ok {al : Nat → Option Int64} {ord : List Nat} {all sum : Int64} (hn : ord.Nodup) (hlen : ord.length ≤ 6) (hB : ∀ y ∈ ord, 0 ≤ (alv al y).toInt ∧ (alv al y).toInt ≤ 10000000000000) (hS : sum.toInt = SI (alv al) ord) (hS0 : 0 < sum.toInt) (hA0 : 0 ≤ all.toInt) (hA1 : all.toInt ≤ sum.toInt) (hg : ord.any (fun i => m_great all ((al i).getD 0)) = false) : (m_cents al ord 6 (m_parts al all sum ord (fun _ => 0, all))).2.toInt ≤ 0 := by
  have h := parts_sh hn hlen hB hS hS0 hA0 hA1 hg
  exact cents_ok hn (fun y hy => (hB y hy).2) 6 _ h.1 h.2
theorem tot_int {al : Nat → Option Int64} : ∀ (l : List Nat), l.length ≤ 6 → (∀ y ∈ l, 0 ≤ (alv al y).toInt ∧ (alv al y).toInt ≤ 10000000000000) → (m_tot al l).toInt = SI (alv al) l
  | [], _, _ => by simp [m_tot, SI]
  | z :: l, hlen, h => by
    rw [List.length_cons] at hlen
    have ih := tot_int l (by omega) (fun y hy => h y (List.mem_cons_of_mem _ hy))
    have hz := h z List.mem_cons_self
    have hmx := SI_mx (B := 10000000000000) (by decide) (l := l) (fun y hy => (h y (List.mem_cons_of_mem _ hy)).2)
    have hnn := SI_nn (f := alv al) (l := l) (fun y hy => (h y (List.mem_cons_of_mem _ hy)).1)
    have hl6 : (l.length : Int) ≤ 6 := by omega
    have : (10000000000000 : Int) * l.length ≤ 10000000000000 * 6 := Int.mul_le_mul_of_nonneg_left hl6 (by decide)
    rw [m_tot, SI, i64add (by show _ ≤ (alv al z).toInt + _; omega) (by show (alv al z).toInt + _ < _; omega), ih]
theorem ins_nodup {rk : Nat → Int32} {i : Nat} {l : List Nat} (h : l.Nodup) (hi : i ∉ l) : (m_ins rk i l).Nodup := by
  unfold m_ins
  have h' : (l.take (m_pos rk i l l.length) ++ l.drop (m_pos rk i l l.length)).Nodup := by rw [List.take_append_drop]; exact h
  rw [List.nodup_append] at h' ⊢
  refine ⟨h'.1, ?_, ?_⟩
  · rw [List.nodup_cons]
    exact ⟨fun q => hi (List.mem_of_mem_drop q), h'.2.1⟩
  · intro a ha b hb
    rcases List.mem_cons.mp hb with e | e
    · subst e
      intro q
      subst q
      exact hi (List.mem_of_mem_take ha)
    · exact h'.2.2 a ha b e
theorem ord_nodup (rk : Nat → Int32) (al : Nat → Option Int64) : ∀ n, (m_ord rk al n).Nodup
  | 0 => List.nodup_nil
  | n + 1 => by
    unfold m_ord
    split
    · exact ins_nodup (ord_nodup rk al n) (fun q => absurd (ord_lt rk al n n q).1 (by omega))
    · exact ord_nodup rk al n
section
variable {nl : Bool} {Ln : Nat} {xs : Nat → Int32} {d : Nat} {σ : am_S} {o : Nat} {P : List mPol} {T : List mTell} {Ls : List mLoss} {Cs : List mCase} {i : Nat} {c : mCase} {day at' : Int32} {lk : Bool} {p : Nat} {st : Option Nat} {nf fnd : Int32} {ends : Bool} {s worth : Int64} {rows : List mRow} {tr : List Int32}
theorem al_rng (w : WfD P T Ls Cs) (hi : Cs[i]? = some c) (hs0 : 0 ≤ s.toInt) (hs1 : s.toInt ≤ 10000000000000) (y : Nat) : 0 ≤ (alv (m_al c.2.2.2.2.2 day at' s) y).toInt ∧ (alv (m_al c.2.2.2.2.2 day at' s) y).toInt ≤ 10000000000000 := by
  unfold alv m_al
  split
  · exact ⟨hs0, hs1⟩
  · have := m_last_mem (fun f : mFact => decide (f.1 = 17) && (m_counts f day at' && decide (f.2.2.2.1 = Int32.ofNat y))) (fun f => some (m_fc f)) (fun u : Option Int64 => 0 ≤ (u.getD 0).toInt ∧ (u.getD 0).toInt ≤ 10000000000000) c.2.2.2.2.2 none (by simp) (fun f hf => by
      have := (w.c hi).2.2.2.2.1.2.1 f hf
      show 0 ≤ (m_fc f).toInt ∧ (m_fc f).toInt ≤ _
      have h1 := this.2.2.2.2.1
      have h2 := this.2.2.2.2.2.1
      omega)
    exact this
theorem r_shared {F : am_S → Prop} (w : WfD P T Ls Cs) (hp : p < P.length) (h16 : rows.length < 16) (hs0 : 0 ≤ s.toInt) (hs1 : s.toInt ≤ 10000000000000) (hw0 : 0 ≤ worth.toInt) (hw1 : worth.toInt ≤ 10000000000000) (S : Es σ o P T Ls Cs i c day at' lk p st nf 0 false s worth rows tr)
    (K : ∀ al ord, al = m_al c.2.2.2.2.2 day at' s → ord = m_ord (fun q => m_rank T (Int32.ofNat q) at') al 6 → ∀ σ', (if ord.length = 1 then Es σ' o P T Ls Cs i c day at' lk p st nf 0 false s worth rows tr else if (m_share (m_rule T p at') al ord (m_least worth (m_tot al ord)) (m_tot al ord)).1 = 0 then Es σ' o P T Ls Cs i c day at' lk p st nf 0 false (m_less (rows, s) 7 (Int32.ofNat (ord.length - 1)) (s - (m_share (m_rule T p at') al ord (m_least worth (m_tot al ord)) (m_tot al ord)).2)).2 worth (m_less (rows, s) 7 (Int32.ofNat (ord.length - 1)) (s - (m_share (m_rule T p at') al ord (m_least worth (m_tot al ord)) (m_tot al ord)).2)).1 tr else Es σ' o P T Ls Cs i c day at' lk p st (nf + 1) (m_share (m_rule T p at') al ord (m_least worth (m_tot al ord)) (m_tot al ord)).1 false s worth rows tr) → Rc o (eF lk) eA (eM lk) σ σ' → F σ') : k_Ro_shared nl Ln xs (d + 4) o σ F := by
  obtain ⟨al, hal⟩ : ∃ al, al = m_al c.2.2.2.2.2 day at' s := ⟨_, rfl⟩
  obtain ⟨rk, hrk⟩ : ∃ rk : Nat → Int32, rk = (fun q => m_rank T (Int32.ofNat q) at') := ⟨_, rfl⟩
  obtain ⟨ord, hord⟩ : ∃ ord, ord = m_ord rk al 6 := ⟨_, rfl⟩
  have K' := K al ord hal (by rw [hord, hrk])
  have hi := S.1.2.1
  have hc := w.c hi
  have h40 := hc.2.2.2.2.1.1
  have hlt := lt_of_get hi
  have h100 := w.c100
  have hp100 := w.p100
  have lo := S.lo
  have hlen : ord.length ≤ 6 := by rw [hord]; exact ord_len rk al 6
  have hm : ∀ y ∈ ord, y < 6 := fun y hy => (ord_lt rk al 6 y (by rw [← hord]; exact hy)).1
  have hnd : ord.Nodup := by rw [hord]; exact ord_nodup rk al 6
  have hrng : ∀ y, 0 ≤ (alv al y).toInt ∧ (alv al y).toInt ≤ 10000000000000 := fun y => by rw [hal]; exact al_rng w hi hs0 hs1 y
  have eE : ∀ {σ1 σ2 : am_S} {fs as : List Nat}, Rc o fs as [] σ1 σ2 → (∀ x ∈ fs, x ∈ [13084]) → (∀ x ∈ as, x ∈ [53, 54, 55, 56]) → Rc o (eF lk) eA (eM lk) σ1 σ2 := fun h h1 h2 => h.mono (fun x hx => by have := h1 x hx; simp at this; subst this; cases lk <;> decide) (fun x hx => by have := h2 x hx; unfold eA; simp at this ⊢; omega) (by simp)
  have z64 : (0 : Int64).toInt = 0 := by decide
  -- behind the order: shares
  have tail : ∀ (σ1 : am_S), Es σ1 o P T Ls Cs i c day at' lk p st nf 0 false s worth rows tr → OrdR σ1 o ord → AlR σ1 o al → GeR σ1 o (fun _ => 0) → Rc o (eF lk) eA (eM lk) σ σ1 → c_Ro_shared_154 nl Ln xs (d + 4) o (m_tot al ord) 6 σ1 F := by
    intro σ1 S1 hO1 hA1 hG1 hr1
    refine w_Ro_shared_154 ⟨fun q => absurd q (by decide), fun _ => ⟨is_mk S1.1.1.k.2.1, ?_, ?_⟩⟩
    · rw [hO1.1]
      intro h1
      have h1' : ord.length = 1 := (n32i (b := 1) (by omega) (by decide)).mp h1
      exact K' σ1 (by rw [if_pos h1']; exact S1) hr1
    · rw [hO1.1, S1.2.2.2.2.2.2.2.1]
      intro h1 w14 e14
      have h1' : ¬ ord.length = 1 := fun q => h1 (by rw [q]; rfl)
      have e14 : w14 = m_least worth (m_tot al ord) := e14
      refine w_Ro_shared_215 ⟨is_mk S1.1.1.k.2.1, ?_⟩
      rw [S1.2.1, S1.1.2.2.2.2.2.1]
      refine r_rule' S1.1.1.k S1.1.1.rul w.n7 w.t (fun t ht h7 => (w.te t ht).1 (Or.inr h7)) (by omega) (fun _ => ?_)
      have htot := tot_int ord hlen (fun y _ => hrng y)
      have hSI0 := SI_nn (f := alv al) (l := ord) (fun y _ => (hrng y).1)
      have hleast : (m_least worth (m_tot al ord)).toInt = min worth.toInt (m_tot al ord).toInt := least_int
      have hall0 : 0 ≤ (m_least worth (m_tot al ord)).toInt := by omega
      have hshi : ShI al ord (fun _ => 0, m_least worth (m_tot al ord)) := by
        refine ⟨fun y _ => ⟨by show 0 ≤ (0 : Int64).toInt; rw [z64]; omega, by show (0 : Int64).toInt ≤ _; rw [z64]; exact (hrng y).1⟩, hall0, ?_⟩
        have : SI (fun _ => (0 : Int64)) ord = 0 := by
          have : ∀ l : List Nat, SI (fun _ => (0 : Int64)) l = 0 := by intro l; induction l with
            | nil => rfl
            | cons z l ih => rw [SI, ih, z64]; rfl
          exact this ord
        show SI (fun _ => (0 : Int64)) ord + (m_least worth (m_tot al ord)).toInt ≤ _
        rw [this]
        omega
      -- the row of shares
      have fin : ∀ (σ2 : am_S) (g : Nat → Int64) (x3 : Int64) (x5 : Int32), Es σ2 o P T Ls Cs i c day at' lk p st nf 0 false s worth rows tr → OrdR σ2 o ord → GeR σ2 o g → Rc o (eF lk) eA (eM lk) σ σ2 → m_share (m_rule T p at') al ord (m_least worth (m_tot al ord)) (m_tot al ord) = (0, g 0) → c_Ro_shared_263 nl Ln xs (d + 4) o (m_tot al ord) x3 x5 σ2 F := by
        intro σ2 g x3 x5 S2 hO2 hG2 hr2 em
        refine w_Ro_shared_263 ⟨is_mk S2.1.1.k.2.1, fun _ => ⟨oA_13082 S2.1.1.k (by decide) (by decide), ?_⟩, fun q => absurd S2.2.2.2.2.1 q⟩
        have hle : 1 ≤ ord.length := by
          rcases Nat.eq_zero_or_pos ord.length with h | h
          · exfalso
            have h0 : 0 ∈ ord := by
              have : ∀ n, 1 ≤ n → 0 ∈ m_ord rk al n := by
                intro n
                induction n with
                | zero => intro h; omega
                | succ n ih =>
                  intro _
                  unfold m_ord
                  rcases Nat.eq_zero_or_pos n with hn | hn
                  · subst hn
                    have : (al 0).isSome = true := by rw [hal]; rfl
                    rw [if_pos this]
                    unfold m_ins
                    simp
                  · split
                    · have := ih hn
                      unfold m_ins
                      rw [List.mem_append, List.mem_cons]
                      rw [← List.take_append_drop (m_pos rk n (m_ord rk al n) (m_ord rk al n).length) (m_ord rk al n), List.mem_append] at this
                      rcases this with q | q
                      · exact Or.inl q
                      · exact Or.inr (Or.inr q)
                    · exact ih hn
              rw [hord]
              exact this 6 (by decide)
            rw [List.length_eq_zero_iff.mp h] at h0
            exact absurd h0 List.not_mem_nil
          · exact h
        have el : Int32.ofNat ord.length - 1 = Int32.ofNat (ord.length - 1) := by
          have := o32 (ord.length - 1)
          rw [show ord.length - 1 + 1 = ord.length by omega] at this
          exact this
        rw [hO2.1, S2.2.2.2.2.2.2.1, oG_13082 S2.1.1.k, z0, hG2 0 (by decide), el]
        refine r_less S2 h16 (fun s3 S3 hr3 _ => K' s3 ?_ (hr2.trans hr3))
        rw [if_neg h1', em, if_pos rfl]
        exact S3
      rw [e14]
      refine ⟨fun h0 => ?_, fun h0 => ⟨fun h2 => ?_, fun h2 => ?_⟩⟩
      · have em : m_share (m_rule T p at') al ord (m_least worth (m_tot al ord)) (m_tot al ord) = (if m_tot al ord = 0 then (4, 0) else if ord.any (fun i => m_great (m_least worth (m_tot al ord)) ((al i).getD 0)) = true then (5, 0) else (0, (m_cents al ord 6 (m_parts al (m_least worth (m_tot al ord)) (m_tot al ord) ord (fun _ => 0, m_least worth (m_tot al ord)))).1 0)) := by
          unfold m_share
          rw [if_pos h0]
        refine r_byParts hlen hm hall0 (fun y _ => (hrng y).1) S1 hO1 hA1 hG1 (fun hs hg => parts_ok hnd hlen (fun y _ => hrng y) htot ?_ hall0 (by omega) hg) (fun hs s2 S2 hr2 _ => ?_) (fun hs hg s2 S2 hr2 _ => ?_) (fun hs hg s2 S2 hO2 hG2 hr2 _ => ?_)
        · rcases Int.lt_or_eq_of_le hSI0 with q | q
          · omega
          · exact absurd (Int64.toInt_inj.mp (by rw [htot, ← q, z64])) hs
        · refine w_Ro_shared_263 ⟨is_mk S2.1.1.k.2.1, fun q => absurd q (by rw [S2.2.2.2.2.1]; decide), fun _ => K' s2 ?_ (hr1.trans hr2)⟩
          rw [if_neg h1', em, if_pos hs, if_neg (by decide)]
          exact S2
        · refine w_Ro_shared_263 ⟨is_mk S2.1.1.k.2.1, fun q => absurd q (by rw [S2.2.2.2.2.1]; decide), fun _ => K' s2 ?_ (hr1.trans hr2)⟩
          rw [if_neg h1', em, if_neg hs, if_pos hg, if_neg (by decide)]
          exact S2
        · exact fin s2 _ _ _ S2 hO2 hG2 (hr1.trans hr2) (by rw [em, if_neg hs, if_neg (by rw [hg]; simp)])
      · have em : m_share (m_rule T p at') al ord (m_least worth (m_tot al ord)) (m_tot al ord) = (0, (m_rounds al ord 14 (fun _ => 0, m_least worth (m_tot al ord))).1 0) := by
          unfold m_share
          rw [if_neg h0, if_pos h2]
        have hrd : m_rdone al ord 14 (fun _ => 0, m_least worth (m_tot al ord)) := rounds_ok hnd hlen (fun y _ => (hrng y).2) 12 _ hshi (by have := lack_le al (fun _ => (0 : Int64)) ord; show m_lack al (fun _ => 0) ord ≤ 12; omega)
        exact r_byRounds hlen hm S1 hO1 hA1 hG1 hrd (fun s2 S2 hO2 hG2 hr2 _ => fin s2 _ _ _ S2 hO2 hG2 (hr1.trans (eE hr2 (by simp) (by simp))) em)
      · have em : m_share (m_rule T p at') al ord (m_least worth (m_tot al ord)) (m_tot al ord) = (0, (m_ranks al ord (fun _ => 0, m_least worth (m_tot al ord))).1 0) := by
          unfold m_share
          rw [if_neg h0, if_neg h2]
        exact r_byRanks hlen hm S1 hO1 hA1 hG1 (fun s2 S2 hO2 hG2 hr2 _ => fin s2 _ _ _ S2 hO2 hG2 (hr1.trans (eE hr2 (by simp) (by simp))) em)
  have ent : ∀ (j k : Nat) (σ1 : am_S), k + j = 6 → Es σ1 o P T Ls Cs i c day at' lk p st nf 0 false s worth rows tr → OrdR σ1 o (m_ord rk al k) → AlR σ1 o al → GeR σ1 o (fun _ => 0) → Rc o (eF lk) eA (eM lk) σ σ1 → c_Ro_shared_154 nl Ln xs (d + 4) o (m_tot al (m_ord rk al k)) (Int32.ofNat k) σ1 F := by
    intro j
    induction j with
    | zero =>
      intro k σ1 hk S1 hO1 hA1 hG1 hr1
      have : k = 6 := by omega
      subst this
      rw [← hord] at hO1 ⊢
      exact tail σ1 S1 hO1 hA1 hG1 hr1
    | succ j ih =>
      intro k σ1 hk S1 hO1 hA1 hG1 hr1
      have hK1 := S1.1.1.k
      have bk : 0 ≤ (Int32.ofNat k).toInt ∧ (Int32.ofNat k).toInt < 6 := by rw [n32 (by omega)]; omega
      have hAk := hA1 k (by omega)
      refine w_Ro_shared_154 ⟨fun _ => ⟨is_mk hK1.2.1, oA_13080 hK1 bk.1 bk.2, ?_, ?_⟩, fun q => absurd (show Int32.ofNat k < 6 from (n32lt (b := 6) (by omega) (by decide)).mpr (by omega)) q⟩
      · rw [oG_13080 hK1, n32c (by omega), hAk.1, b2i0, n32s]
        intro hn
        have e : m_ord rk al (k + 1) = m_ord rk al k := by rw [m_ord, if_neg (by rw [hn]; simp)]
        have := ih (k + 1) σ1 (by omega) S1 (by rw [e]; exact hO1) hA1 hG1 hr1
        rw [e] at this
        exact this
      · rw [oG_13080 hK1, oG_13081 hK1, n32c (by omega), hAk.1, hAk.2, n32s]
        intro hn
        have hsome : (al k).isSome = true := by
          cases hq : (al k).isSome
          · rw [hq] at hn; exact absurd rfl hn
          · rfl
        refine ⟨oA_13081 hK1 bk.1 bk.2, ?_⟩
        rintro v6 rfl
        have hl6 := ord_len rk al k
        refine r_enter w S1 hO1 (by omega) (fun y hy => by have := (ord_lt rk al k y hy).1; omega) (by omega) (fun s2 S2 hO2 hr2 _ => ?_)
        have e : m_ord rk al (k + 1) = m_ins rk k (m_ord rk al k) := by rw [m_ord, if_pos hsome]
        rw [← hrk] at hO2
        have := ih (k + 1) s2 (by omega) S2 (by rw [e]; exact hO2) (hA1.rc hr2 lo (by decide) (by decide)) (fun q hq => (hr2.aL lo (by simp) (by decide)).trans (hG1 q hq)) (hr1.trans (eE hr2 (by simp) (by simp)))
        rw [e, tot_ins] at this
        exact this
  have vn : ∀ {σ1 : am_S}, Es σ1 o P T Ls Cs i c day at' lk p st nf 0 false s worth rows tr → am_aI σ1 (o + 41) i = Int32.ofNat c.2.2.2.2.2.length := fun S1 => S1.1.1.cas.2.2.2.2.2.2.1 i _ hi
  have bi : 0 ≤ (Int32.ofNat i).toInt ∧ (Int32.ofNat i).toInt < 100 := by rw [n32 (by omega)]; omega
  have fac : ∀ (j q : Nat) (σ1 : am_S) (A : Nat → Option Int64), q + j = c.2.2.2.2.2.length → Es σ1 o P T Ls Cs i c day at' lk p st nf 0 false s worth rows tr → AlR σ1 o A → GeR σ1 o (fun _ => 0) → Rc o (eF lk) eA (eM lk) σ σ1 → A 0 = some s → (∀ k, k ≠ 0 → k < 6 → m_last (fun f : mFact => decide (f.1 = 17) && (m_counts f day at' && decide (f.2.2.2.1 = Int32.ofNat k))) (fun f => some (m_fc f)) (A k) (c.2.2.2.2.2.drop q) = al k) → c_Ro_shared_62 nl Ln xs (d + 4) o (Int32.ofNat (40 * i + q)) σ1 F := by
    intro j
    induction j with
    | zero =>
      intro q σ1 A hq S1 hA1 hG1 hr1 h0 hk
      rw [List.drop_eq_nil_of_le (by omega)] at hk
      have hK1 := S1.1.1.k
      refine w_Ro_shared_62 ⟨is_mk hK1.2.1, by rw [S1.1.2.2.1]; exact oA_13051 hK1 bi.1 bi.2, ?_, ?_⟩
      · rw [S1.1.2.2.1, oG_13051 hK1, n32c (by omega), vn S1, i40, n32lt (by omega) (by omega)]
        intro h; omega
      · intro _ s20 e20
        have r20 : Rc o [13084] [] [] σ1 s20 := by rw [e20]; exact Rc.sfI (by decide) (Or.inl rfl)
        have hA2 : AlR s20 o al := by
          intro k hk6
          have := (hA1.rc r20 lo (by simp) (by simp)) k hk6
          by_cases hz : k = 0
          · subst hz
            rw [h0] at this
            rw [hal]
            exact this
          · have e : A k = al k := hk k hz hk6
            rw [← e]
            exact this
        exact ent 6 0 s20 (by omega) (S1.wr r20 (by decide)) ⟨by rw [e20]; exact rI_same, fun q x hx => by simp [m_ord] at hx⟩ hA2 (fun q hq => (r20.aL lo (by simp) (by simp)).trans (hG1 q hq)) (hr1.trans (eE r20 (by simp) (by simp)))
    | succ j ih =>
      intro q σ1 A hq S1 hA1 hG1 hr1 h0 hk
      have hK1 := S1.1.1.k
      obtain ⟨f, hg⟩ := get_ex (show q < c.2.2.2.2.2.length by omega)
      have bk : 0 ≤ (Int32.ofNat (40 * i + q)).toInt ∧ (Int32.ofNat (40 * i + q)).toInt < 4000 := by rw [n32 (by omega)]; omega
      have nk : (Int32.ofNat (40 * i + q)).toNatClampNeg = 40 * i + q := n32c (by omega)
      obtain ⟨f1, f2, f3, f4, f5, f6, f7, f8⟩ := S1.1.1.cas.2.2.2.2.2.2.2 i c hi q _ hg
      have wf := hc.2.2.2.2.1.2.1 f (List.mem_of_getElem? hg)
      rw [drop_get hg] at hk
      have skip : ¬ (f.1 = 17 ∧ m_counts f day at' = true) → c_Ro_shared_62 nl Ln xs (d + 4) o (Int32.ofNat (40 * i + q) + 1) σ1 F := by
        intro hn
        rw [n32s]
        refine ih (q + 1) σ1 A (by omega) S1 hA1 hG1 hr1 h0 (fun k h1 h2 => ?_)
        have := hk k h1 h2
        rw [m_last, if_neg (by simp only [Bool.and_eq_true, decide_eq_true_eq]; exact fun z => hn ⟨z.1, z.2.1⟩)] at this
        exact this
      refine w_Ro_shared_62 ⟨is_mk hK1.2.1, by rw [S1.1.2.2.1]; exact oA_13051 hK1 bi.1 bi.2, ?_, ?_⟩
      · intro _
        rw [oG_13052 hK1, nk, f1, S1.1.2.2.2.2.1, S1.1.2.2.2.2.2.1]
        refine ⟨oA_13052 hK1 bk.1 bk.2, fun h17 => r_counts hK1 S1.1.1.cas hi hg (by omega) (fun _ => ⟨fun hct => ?_, fun hct => skip (fun z => hct z.2)⟩), fun h17 => skip (fun z => h17 z.1)⟩
        have wh := wf.2.2.2.2.2.2.2.2.2.1 h17
        obtain ⟨x, hx⟩ : ∃ x, x = f.2.2.2.1.toInt.toNat := ⟨_, rfl⟩
        have ex : f.2.2.2.1 = Int32.ofNat x := by rw [hx]; exact n32of (by omega)
        have hx6 : x < 6 := by omega
        have hx0 : x ≠ 0 := by omega
        have bx : 0 ≤ (Int32.ofNat x).toInt ∧ (Int32.ofNat x).toInt < 6 := by rw [n32 (by omega)]; omega
        have nx' : (Int32.ofNat x).toNatClampNeg = x := n32c (by omega)
        rw [oG_13055 hK1, oG_13080 hK1, f4, ex, nx']
        refine ⟨oA_13055 hK1 bk.1 bk.2, oA_13080 hK1 bx.1 bx.2, ?_⟩
        intro s11 e11
        have r11 : Rc o [] [53] [] σ1 s11 := by rw [e11]; exact Rc.saI (by decide)
        have hK11 := hK1.rc r11
        have f4' : am_aI s11 (o + 45) (40 * i + q) = Int32.ofNat x := ((r11.aI lo (by simp) (by decide)).trans f4).trans ex
        have f7' : am_aL s11 (o + 48) (40 * i + q) = m_fc f := (r11.aL lo (by simp) (by decide)).trans f7
        rw [oG_13055 hK11, oG_13058 hK11, oG_13081 hK11, f4', f7', nx']
        refine ⟨oA_13055 hK11 bk.1 bk.2, oA_13058 hK11 bk.1 bk.2, oA_13081 hK11 bx.1 bx.2, ?_⟩
        intro s17 e17
        have r17 : Rc o [] [53, 54] [] σ1 s17 := (r11.mono (by simp) (by decide) (by simp)).trans (by rw [e17]; exact Rc.saL (by decide))
        rw [n32s]
        have eb : vp_nar .boolean 1 = b2i true := by decide
        refine ih (q + 1) s17 (va_up A x (some (m_fc f))) (by omega) (S1.wr r17 (by decide)) ?_ (fun y hy => (r17.aL lo (by simp) (by decide)).trans (hG1 y hy)) (hr1.trans (eE r17 (by simp) (by simp))) ?_ ?_
        · intro k hk6
          rw [e17, e11]
          show am_aI (am_saI σ1 (o + 53) x (vp_nar .boolean 1)) (o + 53) k = _ ∧ am_aL (am_saL σ1 (o + 54) x (m_fc f)) (o + 54) k = _
          by_cases hkx : k = x
          · subst hkx
            rw [up_same, aI_same, aL_same]
            exact ⟨eb, rfl⟩
          · rw [am_vup hkx, aI_i hkx, aL_i hkx]
            exact hA1 k hk6
        · rw [am_vup (fun e => hx0 e.symm)]
          exact h0
        · intro k h1 h2
          have := hk k h1 h2
          rw [m_last] at this
          rw [← this]
          congr 1
          by_cases hkx : k = x
          · subst hkx
            rw [up_same, if_pos (by simp only [Bool.and_eq_true, decide_eq_true_eq]; exact ⟨h17, hct, ex⟩)]
          · rw [am_vup hkx, if_neg]
            simp only [Bool.and_eq_true, decide_eq_true_eq]
            intro z
            have := z.2.2
            rw [ex, n32i (by omega) (by omega)] at this
            exact hkx this.symm
      · rw [S1.1.2.2.1, oG_13051 hK1, n32c (by omega), vn S1, i40, n32lt (by omega) (by omega)]
        intro h; omega
  have ini : ∀ (j k : Nat) (σ1 : am_S), k + j = 6 → Es σ1 o P T Ls Cs i c day at' lk p st nf 0 false s worth rows tr → (∀ q, q < k → am_aI σ1 (o + 53) q = b2i (decide (q = 0)) ∧ am_aL σ1 (o + 54) q = (if q = 0 then s else 0) ∧ am_aL σ1 (o + 55) q = 0) → Rc o (eF lk) eA (eM lk) σ σ1 → c_Ro_shared_2 nl Ln xs (d + 4) o (Int32.ofNat k) σ1 F := by
    intro j
    induction j with
    | zero =>
      intro k σ1 hk S1 h1 hr1
      have : k = 6 := by omega
      subst this
      refine w_Ro_shared_2 ⟨fun q => absurd q (by decide), fun _ => ⟨is_mk S1.1.1.k.2.1, ?_⟩⟩
      rw [S1.1.2.2.1, i40']
      rintro v8 rfl
      refine fac c.2.2.2.2.2.length 0 σ1 (fun k => if k = 0 then some s else none) (by omega) S1 ?_ (fun q hq => (h1 q hq).2.2) hr1 rfl ?_
      · intro k hk6
        by_cases hz : k = 0
        · subst hz
          exact ⟨(h1 0 hk6).1, (h1 0 hk6).2.1⟩
        · have := h1 k hk6
          show am_aI σ1 (o + 53) k = b2i (if k = 0 then some s else none).isSome ∧ am_aL σ1 (o + 54) k = (if k = 0 then some s else none).getD 0
          rw [if_neg hz]
          rw [if_neg hz, decide_eq_false hz] at this
          exact ⟨this.1, this.2.1⟩
      · intro k h2 h3
        rw [if_neg h2, List.drop_zero, hal]
        unfold m_al
        rw [if_neg h2]
        rfl
    | succ j ih =>
      intro k σ1 hk S1 h1 hr1
      have hK1 := S1.1.1.k
      have bk : 0 ≤ (Int32.ofNat k).toInt ∧ (Int32.ofNat k).toInt < 6 := by rw [n32 (by omega)]; omega
      have nk : (Int32.ofNat k).toNatClampNeg = k := n32c (by omega)
      have ek : (Int32.ofNat k = 0) ↔ k = 0 := n32i (b := 0) (by omega) (by decide)
      refine w_Ro_shared_2 ⟨fun _ => ⟨is_mk hK1.2.1, w_Ro_shared_22 ⟨oA_13080 hK1 bk.1 bk.2, ?_⟩⟩, fun q => absurd (show Int32.ofNat k < 6 from (n32lt (b := 6) (by omega) (by decide)).mpr (by omega)) q⟩
      rw [oG_13080 hK1, nk]
      intro s2 e2
      have r2 : Rc o [] [53] [] σ1 s2 := by rw [e2]; exact Rc.saI (by decide)
      have hK2 := hK1.rc r2
      have S2 := S1.wr r2 (by decide)
      refine ⟨is_mk hK2.2.1, ?_⟩
      rw [S2.2.2.2.2.2.2.1, oG_13081 hK2]
      intro w8 e8
      refine ⟨oA_13081 hK2 bk.1 bk.2, ?_⟩
      intro s11 e11
      have r11 : Rc o [] [53, 54] [] σ1 s11 := (r2.mono (by simp) (by decide) (by simp)).trans (by rw [e11]; exact Rc.saL (by decide))
      have hK11 := hK1.rc r11
      refine ⟨oA_13082 hK11 bk.1 bk.2, ?_⟩
      rw [oG_13082 hK11, n32s]
      intro s15 e15
      have r15 : Rc o [] [53, 54, 55] [] σ1 s15 := (r11.mono (by simp) (by decide) (by simp)).trans (by rw [e15]; exact Rc.saL (by decide))
      refine ih (k + 1) s15 (by omega) (S1.wr r15 (by decide)) ?_ (hr1.trans (eE r15 (by simp) (by simp)))
      intro q hq
      have ea : ∀ a b, am_aI s15 a b = am_up (am_aI σ1) (o + 53) k (vp_nar .boolean (if Int32.ofNat k = 0 then 1 else 0)) a b := by intro a b; rw [e15, e11, e2]
      have el : ∀ a b, am_aL s15 a b = am_up (am_up (am_aL σ1) (o + 54) k w8) (o + 55) k 0 a b := by intro a b; rw [e15, e11, e2]
      rw [ea, el, el]
      by_cases hqk : q = k
      · subst hqk
        rw [am_up_same, am_up_ne1 (by omega), am_up_same, am_up_same]
        refine ⟨?_, ?_, rfl⟩
        · by_cases hz : q = 0
          · rw [if_pos (ek.mpr hz), decide_eq_true hz]; decide
          · rw [if_neg (fun z => hz (ek.mp z)), decide_eq_false hz]; decide
        · rw [e8]
          by_cases hz : q = 0
          · rw [if_pos (ek.mpr hz), if_pos hz]
          · rw [if_neg (fun z => hz (ek.mp z)), if_neg hz]
      · rw [am_up_ne2 hqk, am_up_ne2 hqk, am_up_ne2 hqk, am_up_ne2 hqk, am_up_ne2 hqk]
        exact h1 q (by omega)
  exact w_Ro_shared (ini 6 0 σ (by omega) S (fun q hq => by omega) Rc.rf)
end
