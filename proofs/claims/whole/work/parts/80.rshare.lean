/-! SHARES, by the reference: order -/
theorem pos_le (rk : Nat → Int32) (i : Nat) (l : List Nat) : ∀ k, m_pos rk i l k ≤ k
  | 0 => Nat.le_refl _
  | k + 1 => by
    unfold m_pos
    split
    · exact Nat.le_succ_of_le (pos_le rk i l k)
    · exact Nat.le_refl _
theorem ins_len (rk : Nat → Int32) (i : Nat) (l : List Nat) : (m_ins rk i l).length = l.length + 1 := by
  have := pos_le rk i l l.length
  unfold m_ins
  simp only [List.length_append, List.length_take, List.length_cons, List.length_drop]
  omega
theorem ins_get (rk : Nat → Int32) (i : Nat) (l : List Nat) (q : Nat) : (m_ins rk i l)[q]? = if q < m_pos rk i l l.length then l[q]? else if q = m_pos rk i l l.length then some i else l[q - 1]? := by
  have hp := pos_le rk i l l.length
  unfold m_ins
  have hl : (l.take (m_pos rk i l l.length)).length = m_pos rk i l l.length := by rw [List.length_take]; omega
  by_cases h1 : q < m_pos rk i l l.length
  · rw [if_pos h1, List.getElem?_append_left (by omega), List.getElem?_take, if_pos h1]
  · rw [if_neg h1, List.getElem?_append_right (by omega), hl]
    by_cases h2 : q = m_pos rk i l l.length
    · rw [if_pos h2, h2, Nat.sub_self]
      rfl
    · rw [if_neg h2]
      have : q - m_pos rk i l l.length = (q - m_pos rk i l l.length - 1) + 1 := by omega
      rw [this, List.getElem?_cons_succ, List.getElem?_drop]
      congr 1
      omega
theorem ins_mem {rk : Nat → Int32} {i x : Nat} {l : List Nat} (h : x ∈ m_ins rk i l) : x = i ∨ x ∈ l := by
  unfold m_ins at h
  rw [List.mem_append, List.mem_cons] at h
  rcases h with h | h | h
  · exact Or.inr (List.mem_of_mem_take h)
  · exact Or.inl h
  · exact Or.inr (List.mem_of_mem_drop h)
theorem tot_app (al : Nat → Option Int64) : ∀ (a b : List Nat), m_tot al (a ++ b) = m_tot al a + m_tot al b
  | [], b => by simp [m_tot]
  | x :: a, b => by rw [List.cons_append, m_tot, m_tot, tot_app al a b, Int64.add_assoc]
theorem tot_ins (al : Nat → Option Int64) (rk : Nat → Int32) (i : Nat) (l : List Nat) : m_tot al (m_ins rk i l) = m_tot al l + (al i).getD 0 := by
  unfold m_ins
  have e : m_tot al l = m_tot al (l.take (m_pos rk i l l.length)) + m_tot al (l.drop (m_pos rk i l l.length)) := by
    rw [← tot_app, List.take_append_drop]
  rw [tot_app, m_tot, e]
  grind
theorem ord_lt (rk : Nat → Int32) (al : Nat → Option Int64) : ∀ (n x : Nat), x ∈ m_ord rk al n → x < n ∧ (al x).isSome = true
  | 0, x, h => absurd h List.not_mem_nil
  | n + 1, x, h => by
    unfold m_ord at h
    split at h
    · rename_i hs
      rcases ins_mem h with e | e
      · subst e; exact ⟨by omega, hs⟩
      · have := ord_lt rk al n x e; exact ⟨by omega, this.2⟩
    · have := ord_lt rk al n x h; exact ⟨by omega, this.2⟩
theorem ord_len (rk : Nat → Int32) (al : Nat → Option Int64) : ∀ n, (m_ord rk al n).length ≤ n
  | 0 => Nat.le_refl _
  | n + 1 => by
    unfold m_ord
    split
    · rw [ins_len]; have := ord_len rk al n; omega
    · have := ord_len rk al n; omega
def OrdR (σ : am_S) (o : Nat) (l : List Nat) : Prop := am_fI σ 13084 o = Int32.ofNat l.length ∧ rwI σ (o + 56) l (fun x => Int32.ofNat x)
def AlR (σ : am_S) (o : Nat) (A : Nat → Option Int64) : Prop := ∀ k, k < 6 → am_aI σ (o + 53) k = b2i (A k).isSome ∧ am_aL σ (o + 54) k = (A k).getD 0
def GeR (σ : am_S) (o : Nat) (g : Nat → Int64) : Prop := ∀ k, k < 6 → am_aL σ (o + 55) k = g k
section
variable {nl : Bool} {Ln : Nat} {xs : Nat → Int32} {d : Nat} {σ : am_S} {o : Nat} {P : List mPol} {T : List mTell} {Ls : List mLoss} {Cs : List mCase} {i : Nat} {c : mCase} {day at' : Int32} {lk : Bool} {p : Nat} {st : Option Nat} {nf fnd : Int32} {ends : Bool} {s worth : Int64} {rows : List mRow} {tr : List Int32}
/-- Es is kept by writes of what shares need -/
theorem Es.wr {σ1 : am_S} {fs as : List Nat} (S : Es σ o P T Ls Cs i c day at' lk p st nf fnd ends s worth rows tr) (hr : Rc o fs as [] σ σ1) (hd : (([12006, 13070, 13071, 13074, 13075, 13076, 13077, 13078] ++ ([12012, 12014, 12015, 13068, 13069, 13072, 13073] ++ daF)).all (fun x => ! fs.contains x) && (List.range 50).all (fun x => ! as.contains x)) = true) : Es σ1 o P T Ls Cs i c day at' lk p st nf fnd ends s worth rows tr := by
  obtain ⟨E, e1, e2, e3, e4, e5, e6, e7, e8⟩ := S
  rw [Bool.and_eq_true] at hd
  obtain ⟨d1, d2⟩ := hd
  have nfl : ∀ g ∈ [12006, 13070, 13071, 13074, 13075, 13076, 13077, 13078] ++ ([12012, 12014, 12015, 13068, 13069, 13072, 13073] ++ daF), g ∉ fs := fun g hg => by have := List.all_eq_true.mp d1 g hg; simpa using this
  refine ⟨E.wr hr ?_, (hr.fI (nfl _ (by decide))).trans e1, (hr.fI (nfl _ (by decide))).trans e2, (hr.fI (nfl _ (by decide))).trans e3, (hr.fI (nfl _ (by decide))).trans e4, (hr.fI (nfl _ (by decide))).trans e5, (hr.fL (nfl _ (by decide))).trans e6, (hr.fL (nfl _ (by decide))).trans e7, (hr.fL (nfl _ (by decide))).trans e8⟩
  simp only [Bool.and_eq_true]
  exact ⟨sub_all d1 (by decide), d2, by decide, by decide⟩
theorem r_enter {x : Nat} {l : List Nat} {F : am_S → Prop} (w : WfD P T Ls Cs) (S : Es σ o P T Ls Cs i c day at' lk p st nf fnd ends s worth rows tr) (hO : OrdR σ o l) (hl : l.length < 6) (hm : ∀ y ∈ l, y < 6) (hx : x < 6)
    (K : ∀ σ', Es σ' o P T Ls Cs i c day at' lk p st nf fnd ends s worth rows tr → OrdR σ' o (m_ins (fun q => m_rank T (Int32.ofNat q) at') x l) → Rc o [13084] [56] [] σ σ' → F σ') : k_Ro_enter nl Ln xs (d + 2) o (Int32.ofNat x) σ F := by
  obtain ⟨rk, hrk⟩ : ∃ rk : Nat → Int32, rk = (fun q => m_rank T (Int32.ofNat q) at') := ⟨_, rfl⟩
  rw [← hrk] at K
  have n2 := w.n2
  have loop : ∀ (k : Nat) (σ1 : am_S), k ≤ l.length → m_pos rk x l l.length = m_pos rk x l k → Es σ1 o P T Ls Cs i c day at' lk p st nf fnd ends s worth rows tr → Rc o [13084] [56] [] σ σ1 → am_fI σ1 13084 o = Int32.ofNat l.length → (∀ q y, q < k → l[q]? = some y → am_aI σ1 (o + 56) q = Int32.ofNat y) → (∀ q y, k ≤ q → l[q]? = some y → am_aI σ1 (o + 56) (q + 1) = Int32.ofNat y) → c_Ro_enter_5 nl Ln xs (d + 2) o (Int32.ofNat x) (Int32.ofNat k) σ1 F := by
    intro k
    have fin : ∀ (k : Nat) (σ1 : am_S), k ≤ l.length → m_pos rk x l l.length = k → Es σ1 o P T Ls Cs i c day at' lk p st nf fnd ends s worth rows tr → Rc o [13084] [56] [] σ σ1 → am_fI σ1 13084 o = Int32.ofNat l.length → (∀ q y, q < k → l[q]? = some y → am_aI σ1 (o + 56) q = Int32.ofNat y) → (∀ q y, k ≤ q → l[q]? = some y → am_aI σ1 (o + 56) (q + 1) = Int32.ofNat y) → ∀ s2 s3, s2 = am_saI σ1 (o + 56) k (Int32.ofNat x) → s3 = am_sfI s2 13084 o (am_fI s2 13084 o + 1) → F s3 := by
      intro k σ1 hk hp S1 hr1 h0 h1 h2 s2 s3 e2 e3
      have f2 : am_fI s2 13084 o = Int32.ofNat l.length := by rw [e2]; exact h0
      rw [f2, n32s] at e3
      have r3 : Rc o [13084] [56] [] σ1 s3 := Rc.trans (σ1 := s2) (by rw [e2]; exact Rc.saI (by decide)) (by rw [e3]; exact Rc.sfI (by decide) (Or.inl rfl))
      refine K s3 (S1.wr r3 (by decide)) ⟨by rw [e3, ins_len]; exact rI_same, ?_⟩ (hr1.trans r3)
      intro q y hq
      rw [ins_get, hp] at hq
      rw [e3, e2]
      show am_aI (am_saI σ1 (o + 56) k (Int32.ofNat x)) (o + 56) q = Int32.ofNat y
      by_cases q1 : q < k
      · rw [if_pos q1] at hq
        rw [aI_i (by omega)]
        exact h1 q y q1 hq
      · rw [if_neg q1] at hq
        by_cases q2 : q = k
        · rw [if_pos q2] at hq
          cases hq
          rw [q2]
          exact aI_same
        · rw [if_neg q2] at hq
          rw [aI_i q2]
          have := h2 (q - 1) y (by omega) hq
          rw [show q - 1 + 1 = q by omega] at this
          exact this
    induction k with
    | zero =>
      intro σ1 hk hp S1 hr1 h0 h1 h2
      refine w_Ro_enter_5 ⟨fun q => absurd q (by decide), fun _ => ⟨is_mk S1.1.1.k.2.1, oA_13083 S1.1.1.k (by decide) (by decide), ?_⟩⟩
      rw [oG_13083 S1.1.1.k, n32c (by decide)]
      intro s2 e2 s3 e3
      exact fin 0 σ1 hk hp S1 hr1 h0 h1 h2 s2 s3 e2 e3
    | succ k ih =>
      intro σ1 hk hp S1 hr1 h0 h1 h2
      obtain ⟨y, hy⟩ := get_ex (show k < l.length by omega)
      have hy6 := hm y (List.mem_of_getElem? hy)
      have v := h1 k y (by omega) hy
      have bk : 0 ≤ (Int32.ofNat k).toInt ∧ (Int32.ofNat k).toInt < 6 := by rw [n32 (by omega)]; omega
      have bk1 : 0 ≤ (Int32.ofNat (k + 1)).toInt ∧ (Int32.ofNat (k + 1)).toInt < 6 := by rw [n32 (by omega)]; omega
      have hps : m_pos rk x l (k + 1) = if rk x < rk y then m_pos rk x l k else k + 1 := by
        rw [m_pos, getD_of 0 hy]
      refine w_Ro_enter_5 ⟨fun _ => ⟨is_mk S1.1.1.k.2.1, by rw [o32]; exact oA_13083 S1.1.1.k bk.1 bk.2, ?_⟩, fun q => absurd (by rw [show (0 : Int32) = Int32.ofNat 0 from rfl, n32lt (by decide) (by omega)]; omega) q⟩
      rw [o32, oG_13083 S1.1.1.k, n32c (by omega), v, S1.1.2.2.2.2.2.1]
      refine r_rankOf S1.1.1.k S1.1.1.rnk n2 w.t (fun _ => r_rankOf S1.1.1.k S1.1.1.rnk n2 w.t (fun _ => ⟨fun h => ⟨oA_13083 S1.1.1.k bk.1 bk.2, oA_13083 S1.1.1.k bk1.1 bk1.2, ?_⟩, fun h => ⟨oA_13083 S1.1.1.k bk1.1 bk1.2, ?_⟩⟩))
      · rw [S1.1.2.2.2.2.2.1] at h
        rw [oG_13083 S1.1.1.k, n32c (show k + 1 < 2147483648 by omega), v]
        intro s11 e11
        have r11 : Rc o [13084] [56] [] σ1 s11 := by rw [e11]; exact Rc.saI (by decide)
        have ek : Int32.ofNat (k + 1) + -1 = Int32.ofNat k := by rw [← n32s]; grind
        rw [ek]
        refine ih s11 (by omega) (hp.trans (by rw [hps, if_pos (by rw [hrk]; exact h)])) (S1.wr r11 (by decide)) (hr1.trans r11) (by rw [e11]; exact h0) ?_ ?_
        · intro q z hq hz
          rw [e11]
          show am_aI (am_saI σ1 (o + 56) (k + 1) _) (o + 56) q = _
          rw [aI_i (by omega)]
          exact h1 q z (by omega) hz
        · intro q z hq hz
          rw [e11]
          show am_aI (am_saI σ1 (o + 56) (k + 1) _) (o + 56) (q + 1) = _
          by_cases hqk : q = k
          · subst hqk
            rw [hy] at hz
            cases hz
            rw [aI_same]
          · rw [aI_i (by omega)]
            exact h2 q z (by omega) hz
      · rw [S1.1.2.2.2.2.2.1] at h
        rw [oG_13083 S1.1.1.k, n32c (show k + 1 < 2147483648 by omega)]
        intro s15 e15 s18 e18
        exact fin (k + 1) σ1 hk (hp.trans (by rw [hps, if_neg (by rw [hrk]; exact h)])) S1 hr1 h0 h1 h2 s15 s18 e15 e18
  refine w_Ro_enter ⟨is_mk S.1.1.k.2.1, ?_⟩
  rw [hO.1]
  rintro v2 rfl
  exact loop l.length σ (Nat.le_refl _) rfl S Rc.rf hO.1 (fun q y _ hy => hO.2 q y hy) (fun q y hq hy => absurd (lt_of_get hy) (by omega))
theorem r_cents {al : Nat → Option Int64} {ord : List Nat} {x1 : Int64} {F : am_S → Prop} (hlen : ord.length ≤ 6) (hm : ∀ y ∈ ord, y < 6) : ∀ (n : Nat) (σ : am_S) (x : (Nat → Int64) × Int64) (x5 : Option Value), Es σ o P T Ls Cs i c day at' lk p st nf fnd ends s worth rows tr → OrdR σ o ord → AlR σ o al → GeR σ o x.1 → (m_cents al ord n x).2.toInt ≤ 0 → (∀ σ', Es σ' o P T Ls Cs i c day at' lk p st nf fnd ends s worth rows tr → OrdR σ' o ord → GeR σ' o (m_cents al ord n x).1 → Rc o [] [55] [] σ σ' → F σ') → c_Ro_cents_2 nl Ln xs (d + 1) o x1 x.2 x5 σ F := by
  intro n
  have z64 : (0 : Int64).toInt = 0 := by decide
  induction n with
  | zero =>
    intro σ x x5 S hO hA hG hz K
    refine w_Ro_cents_2 ⟨fun h => ?_, fun _ => K σ S hO hG Rc.rf⟩
    rw [i64lt, z64] at h
    have hz : x.2.toInt ≤ 0 := hz
    omega
  | succ n ih =>
    intro σ x x5 S hO hA hG hz K
    by_cases hpos : 0 < x.2.toInt
    · rw [m_cents, if_pos hpos] at hz K
      -- one pass
      have pass : ∀ (j k : Nat) (σ1 : am_S) (y : (Nat → Int64) × Int64), k + j = ord.length → Es σ1 o P T Ls Cs i c day at' lk p st nf fnd ends s worth rows tr → OrdR σ1 o ord → AlR σ1 o al → GeR σ1 o y.1 → Rc o [] [55] [] σ σ1 → m_cent al (ord.drop k) y = m_cent al ord x → c_Ro_cents_11 nl Ln xs (d + 1) o x1 y.2 (Int32.ofNat k) σ1 F := by
        intro j
        induction j with
        | zero =>
          intro k σ1 y hk S1 hO1 hA1 hG1 hr1 e
          rw [List.drop_eq_nil_of_le (by omega), m_cent] at e
          refine w_Ro_cents_11 ⟨is_mk S1.1.1.k.2.1, fun q => ?_, fun _ => ?_⟩
          · rw [hO1.1, n32lt (by omega) (by omega)] at q; omega
          · rw [← e] at hz K
            exact ih σ1 y _ S1 hO1 hA1 hG1 hz (fun s2 S2 hO2 hG2 hr2 => K s2 S2 hO2 hG2 (hr1.trans hr2))
        | succ j ihj =>
          intro k σ1 y hk S1 hO1 hA1 hG1 hr1 e
          obtain ⟨z, hzk⟩ := get_ex (show k < ord.length by omega)
          have hz6 := hm z (List.mem_of_getElem? hzk)
          rw [drop_get hzk, m_cent] at e
          have v := hO1.2 k z hzk
          have bk : 0 ≤ (Int32.ofNat k).toInt ∧ (Int32.ofNat k).toInt < 6 := by rw [n32 (by omega)]; omega
          have bz : 0 ≤ (Int32.ofNat z).toInt ∧ (Int32.ofNat z).toInt < 6 := by rw [n32 (by omega)]; omega
          have hK1 := S1.1.1.k
          refine w_Ro_cents_11 ⟨is_mk hK1.2.1, fun _ => ⟨fun h => ?_, fun h => ?_⟩, fun q => absurd (by rw [hO1.1, n32lt (by omega) (by omega)]; omega) q⟩
          · rw [i64lt, z64] at h
            rw [oG_13083 hK1, oG_13082 hK1, oG_13081 hK1, n32c (show k < 2147483648 by omega), v, n32c (show z < 2147483648 by omega), hG1 z hz6, (hA1 z hz6).2]
            refine ⟨oA_13083 hK1 bk.1 bk.2, oA_13082 hK1 bz.1 bz.2, oA_13083 hK1 bk.1 bk.2, oA_13081 hK1 bz.1 bz.2, fun hlt => ⟨oA_13083 hK1 bk.1 bk.2, oA_13082 hK1 bz.1 bz.2, oA_13082 hK1 bz.1 bz.2, ?_⟩, fun hlt => ?_⟩
            · intro s12 e12 v15 e15
              rw [if_pos ⟨h, hlt⟩] at e
              have r12 : Rc o [] [55] [] σ1 s12 := by rw [e12]; exact Rc.saL (by decide)
              rw [e15, n32s]
              refine ihj (k + 1) s12 (va_up y.1 z (y.1 z + 1), y.2 - 1) (by omega) (S1.wr r12 (by decide)) ⟨(r12.fI (by decide)).trans hO1.1, hO1.2.eq fun q => r12.aI hK1.lo (by simp) (by decide)⟩ (fun q hq => ⟨(r12.aI hK1.lo (by simp) (by decide)).trans (hA1 q hq).1, (r12.aL hK1.lo (by simp) (by decide)).trans (hA1 q hq).2⟩) ?_ (hr1.trans r12) e
              intro q hq
              rw [e12]
              show am_aL (am_saL σ1 (o + 55) z (y.1 z + 1)) (o + 55) q = va_up y.1 z (y.1 z + 1) q
              by_cases hqz : q = z
              · rw [hqz, aL_same, up_same]
              · rw [aL_i hqz, am_vup hqz]
                exact hG1 q hq
            · rw [if_neg (fun q => hlt q.2)] at e
              rw [n32s]
              exact ihj (k + 1) σ1 y (by omega) S1 hO1 hA1 hG1 hr1 e
          · rw [i64lt, z64] at h
            -- nothing is left: the rest of the pass changes nothing
            have nop : ∀ (l : List Nat), m_cent al l y = y := by
              intro l
              induction l with
              | nil => rfl
              | cons a l ihl => rw [m_cent, if_neg (fun q => h q.1)]; exact ihl
            rw [if_neg (fun q => h q.1), nop] at e
            rw [← e] at hz K
            exact ih σ1 y _ S1 hO1 hA1 hG1 hz (fun s2 S2 hO2 hG2 hr2 => K s2 S2 hO2 hG2 (hr1.trans hr2))
      refine w_Ro_cents_2 ⟨fun _ => ?_, fun h => absurd (by rw [i64lt, z64]; exact hpos) h⟩
      exact pass ord.length 0 σ x (by omega) S hO hA hG Rc.rf (by rw [List.drop_zero])
    · rw [m_cents, if_neg hpos] at hz K
      refine w_Ro_cents_2 ⟨fun h => ?_, fun _ => K σ S hO hG Rc.rf⟩
      rw [i64lt, z64] at h
      exact absurd h hpos
end
