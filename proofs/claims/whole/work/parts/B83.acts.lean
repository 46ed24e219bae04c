/-! THE CLASS: acts at the desk -/
theorem note_gen (n : Nat) (a : mArg) (t : List Int32) : (m_note n a t).length ≤ 70 + 10 * t.length := by
  unfold m_note
  have h1 := m_enc_len (Int64.ofNat n)
  have h2 := enc_range a (m_args n)
  have h3 := enc_bytes t
  have h4 : m_args n ≤ 6 := by
    by_cases h : n < 23
    · have : ∀ n, n < 23 → m_args n ≤ 6 := by decide
      exact this n h
    · unfold m_args
      rw [List.getD_eq_getElem?_getD, List.getElem?_eq_none (by show 23 ≤ n; omega)]
      decide
  rw [List.length_append, List.length_append]
  split
  · omega
  · rw [List.length_nil]
    omega
theorem over_log {M : mOff} {now : Int32} {Cs : List mCase} {n : Nat} (hh : (o_hel M).length ≤ 60) : (o_log (m_over M now Cs n)).length ≤ (o_log M).length + 5000 := by
  show (o_log M ++ (m_batchLog (o_hel M) ++ m_enc (Int64.ofNat n))).length ≤ _
  have h1 := m_enc_len (Int64.ofNat n)
  have h2 := m_enc_len 20
  have h3 : ∀ l : List mDeed, (l.flatMap (fun q => m_note q.1 q.2 [])).length ≤ 70 * l.length := by
    intro l
    induction l with
    | nil => simp
    | cons q l ih =>
      have := note_le q.1 q.2
      rw [List.flatMap_cons, List.length_append, List.length_cons]
      omega
  have h4 := h3 (o_hel M)
  unfold m_batchLog
  rw [List.length_append, List.length_append, List.length_append]
  omega
theorem done_log {M M1 : mOff} {n : Nat} {a : mArg} {t : List Int32} (h : o_log M1 = o_log M) : (o_log (m_done M1 n a t)).length ≤ (o_log M).length + 5000 + 10 * t.length := by
  show (o_log M1 ++ m_note n a t).length ≤ _
  have := note_gen n a t
  rw [List.length_append, h]
  omega
theorem tellA_log {M : mOff} {fnd : Int32} {n most who : Nat} {a : mArg} {t : List Int32} {which ans : Int32} {v : Int64} {C : List mCl} : (o_log (m_tellA M fnd n most a t who which v C ans).2.1).length ≤ (o_log M).length + 5000 + 10 * t.length := by
  unfold m_tellA
  split
  · show (o_log M).length ≤ _
    omega
  · exact done_log rfl
theorem addLoss_log {M : mOff} {fnd : Int32} {n : Nat} {a : mArg} {kind day hund : Int32} {wh : Option Nat} {k : Nat} : (o_log (m_addLoss M fnd n a kind day wh hund).2.1).length ≤ (o_log M).length + 5000 + k := by
  unfold m_addLoss
  split
  · show (o_log M).length ≤ _
    omega
  · have h := done_log (M := M) (M1 := m_setLos M (o_los M ++ [(kind, day, wh, hund, false, [])])) (n := n) (a := a) (t := []) rfl
    simp only [List.length_nil] at h
    exact Nat.le_trans h (by omega)
def LgQ (N : Nat) (r : mAns) : Prop := (o_log r.2.1).length ≤ N
theorem LgQ.ite {N : Nat} {c : Prop} [Decidable c] {x y : mAns} (h1 : LgQ N x) (h2 : LgQ N y) : LgQ N (if c then x else y) := by
  by_cases h : c
  · rw [if_pos h]; exact h1
  · rw [if_neg h]; exact h2
theorem act_log {M : mOff} {fnd : Int32} {n : Nat} {a : mArg} {t : List Int32} (hw : WfX M) (hnow : (o_now M).toInt ≤ 2000000000) (h1 : 1 ≤ n) (h22 : n ≤ 22) : (o_log (m_act M fnd n a t).2.1).length ≤ (o_log M).length + 5000 + 10 * t.length := by
  obtain ⟨wo, wp, w60, wh⟩ := hw
  have same : (o_log M).length ≤ (o_log M).length + 5000 + 10 * t.length := by omega
  have dn : ∀ {M1 : mOff} {k : Nat}, o_log M1 = o_log M → (o_log (m_done M1 k a [])).length ≤ (o_log M).length + 5000 + 10 * t.length := fun {M1 k} h => by
    have := done_log (n := k) (a := a) (t := []) h
    simp only [List.length_nil] at this
    omega
  have ta : ∀ {k most who : Nat} {which ans : Int32} {v : Int64} {C : List mCl}, (o_log (m_tellA M fnd k most a [] who which v C ans).2.1).length ≤ (o_log M).length + 5000 + 10 * t.length := fun {k most who which ans v C} => by
    have := tellA_log (M := M) (fnd := fnd) (n := k) (most := most) (who := who) (a := a) (t := []) (which := which) (ans := ans) (v := v) (C := C)
    simp only [List.length_nil] at this
    omega
  by_cases hf : 12 ≤ n ∧ n ≤ 19
  · by_cases hu : o_und M = true
    · rw [act_hold hf hu]
      split
      · exact same
      · exact same
    · have hu : o_und M = false := by cases h : o_und M <;> simp_all
      rw [act_fact hf hu]
      have hx := fact_wf (a := a) (fnd := fnd) wo hf.1 hf.2 (by omega)
      show (o_log (if (m_fact M fnd n a).1 = 1 then _ else (m_fact M fnd n a).2.1)).length ≤ _
      split
      · show (o_log M ++ m_note n a []).length ≤ _
        have := note_le n a
        rw [List.length_append]
        omega
      · rcases hx with ⟨u1, u2⟩ | ⟨it, u1, u2, u3, u4⟩
        · rw [u1]
          exact same
        · rw [u1]
          exact same
  · by_cases hu : o_und M = decide (n = 21 ∨ n = 22)
    · have hgo : ¬ (o_und M ≠ decide (n = 21 ∨ n = 22)) := fun z => z hu
      have hp : LgQ ((o_log M).length + 5000 + 10 * t.length) (match m_parse t with
        | .inl e => (-10 - Int32.ofNat e, M, fnd)
        | .inr C => m_tellA M fnd 6 150 a t (m_ix (a 0)) 0 0 C (Int32.ofNat C.length)) := by
        cases m_parse t with
        | inl e => exact same
        | inr C => exact tellA_log
      have he : LgQ ((o_log M).length + 5000 + 10 * t.length) (m_end M fnd) := by
        unfold m_end
        dsimp only
        split
        · exact Nat.le_trans (over_log w60) (by omega)
        · exact Nat.le_trans (over_log w60) (by omega)
      have ho : LgQ ((o_log M).length + 5000 + 10 * t.length) (Int32.ofNat (o_hel M).length, m_over M (o_now M) (o_cas M) 22, fnd) := Nat.le_trans (over_log w60) (by omega)
      show LgQ ((o_log M).length + 5000 + 10 * t.length) (m_act M fnd n a t)
      unfold m_act
      rw [if_neg hf, if_neg hgo]
      exact LgQ.ite (LgQ.ite same (dn rfl)) (LgQ.ite (LgQ.ite same ta) (LgQ.ite (LgQ.ite same (LgQ.ite same (dn rfl))) (LgQ.ite (LgQ.ite same (LgQ.ite same ta)) (LgQ.ite (LgQ.ite same ta) (LgQ.ite (LgQ.ite same (LgQ.ite same hp)) (LgQ.ite (LgQ.ite same ta) (LgQ.ite (LgQ.ite same addLoss_log) (LgQ.ite (LgQ.ite same (LgQ.ite same addLoss_log)) (LgQ.ite (LgQ.ite same (LgQ.ite same (LgQ.ite same (dn rfl)))) (LgQ.ite (LgQ.ite same (LgQ.ite same (LgQ.ite same (dn rfl)))) (LgQ.ite same (LgQ.ite he ho))))))))))))
    · rw [act_state hf hu]
      exact same
section
variable {nl : Bool} {Ln : Nat} {xs : Nat → Int32} {d : Nat} {σ s : am_S} {w ws : ow_T} {τ : am_S} {v b gl nu : Nat} {X : Stx} {sp : Option Nat} {g : Grw} {D : mTop}
theorem co_fill {n : Nat} {p1 p2 p3 p4 : Int64} {F : am_S → Prop} (hn : n < 100) (C : CoR σ w v b sp)
    (K : ∀ σ', Only 1007 σ σ' → DdR σ' 1007 0 7 n (d_arg [p1, p2, p3, p4]) → F σ') : k_Co_fill nl Ln xs (d + 1) 1000 (Int32.ofNat n) p1 p2 p3 p4 σ F := by
  obtain ⟨⟨-, k0⟩, ⟨-, -, -, f3⟩, -, -, -, -, -, k7⟩ := C
  have hnum : (Int32.ofNat n).toInt64 = Int64.ofNat n := by rw [i64e, t64, n32 (by omega), n64 (by omega)]
  have ar : ∀ {s : am_S} {i : Int32}, am_kd s = am_kd σ → 0 ≤ i.toInt → i.toInt < 7 → am_ar s 1001 (some 1007) i := fun {s i} hk h0 h1 => ar_mk (l := 7) (by rw [hk]; exact k7) h0 (by omega)
  refine w_Co_fill ⟨is_mk k0, ?_⟩
  rw [f3, Option.getD_some, hnum]
  refine ⟨ar rfl (by decide) (by decide), ?_⟩
  intro s3 e3
  have x3 : am_fR s3 3 1000 = some 1007 ∧ am_kd s3 = am_kd σ := by rw [e3]; exact ⟨f3, rfl⟩
  rw [x3.1, Option.getD_some]
  refine ⟨ar x3.2 (by decide) (by decide), ?_⟩
  intro s7 e7
  have x7 : am_fR s7 3 1000 = some 1007 ∧ am_kd s7 = am_kd σ := by rw [e7]; exact x3
  rw [x7.1, Option.getD_some]
  refine ⟨ar x7.2 (by decide) (by decide), ?_⟩
  intro s11 e11
  have x11 : am_fR s11 3 1000 = some 1007 ∧ am_kd s11 = am_kd σ := by rw [e11]; exact x7
  rw [x11.1, Option.getD_some]
  refine ⟨ar x11.2 (by decide) (by decide), ?_⟩
  intro s15 e15
  have x15 : am_fR s15 3 1000 = some 1007 ∧ am_kd s15 = am_kd σ := by rw [e15]; exact x11
  rw [x15.1, Option.getD_some]
  refine ⟨ar x15.2 (by decide) (by decide), ?_⟩
  intro s19 e19
  have x19 : am_fR s19 3 1000 = some 1007 ∧ am_kd s19 = am_kd σ := by rw [e19]; exact x15
  rw [x19.1, Option.getD_some]
  refine ⟨ar x19.2 (by decide) (by decide), ?_⟩
  intro s23 e23
  have x23 : am_fR s23 3 1000 = some 1007 ∧ am_kd s23 = am_kd σ := by rw [e23]; exact x19
  rw [x23.1, Option.getD_some]
  refine ⟨ar x23.2 (by decide) (by decide), ?_⟩
  intro s27 e27
  have o : Only 1007 σ s27 := by
    rw [e27, e23, e19, e15, e11, e7, e3]
    exact (((((Only.saL.trans Only.saL).trans Only.saL).trans Only.saL).trans Only.saL).trans Only.saL).trans Only.saL
  refine K s27 o ⟨by rw [o.1]; exact k7, by decide, by decide, ?_, fun j hj => ?_⟩
  · rw [e27, aL_i (by decide), e23, aL_i (by decide), e19, aL_i (by decide), e15, aL_i (by decide), e11, aL_i (by decide), e7, aL_i (by decide), e3]
    exact aL_same
  · have hj : j = 0 ∨ j = 1 ∨ j = 2 ∨ j = 3 ∨ j = 4 ∨ j = 5 := by omega
    rcases hj with rfl | rfl | rfl | rfl | rfl | rfl
    · rw [e27, aL_i (by decide), e23, aL_i (by decide), e19, aL_i (by decide), e15, aL_i (by decide), e11, aL_i (by decide), e7]
      exact aL_same
    · rw [e27, aL_i (by decide), e23, aL_i (by decide), e19, aL_i (by decide), e15, aL_i (by decide), e11]
      exact aL_same
    · rw [e27, aL_i (by decide), e23, aL_i (by decide), e19, aL_i (by decide), e15]
      exact aL_same
    · rw [e27, aL_i (by decide), e23, aL_i (by decide), e19]
      exact aL_same
    · rw [e27, aL_i (by decide), e23]
      exact aL_same
    · rw [e27]
      exact aL_same
/-- the desk behind an act of its book -/
theorem DskC.act {K : Nat × Nat → Prop} {X' : Stx} {M' : mOff} {gl' nu' : Nat} {fnd' : Int32} (R : DskC τ σ w v X b sp g gl nu D) (E : Eff K σ w s ws) (hK : ∀ q, K q → bkK b v q ∨ q = (2, 1007)) (h7 : ws 1007 = (2, 1007) ∧ am_kd s 1007 = (1001, 7)) (A' : Bks s ws v X' b M' gl' nu' (0, 0, 0, 0, 0) (grC g sp)) (hf' : am_fI s 2001 1008 = fnd') : DskC τ s ws v X' b sp g gl' nu' (d_setFnd (d_setOff D M') fnd') := by
  obtain ⟨C, hb, ht, T, ⟨tx, Tx⟩, S, ⟨⟨ov, L⟩, hl13⟩, A, hf, hsp, hrf⟩ := R
  have hv := A.1.2.2.2.1
  have hO := A.1.2.2.2.2.1
  have no : ∀ c, (c < 1007 ∨ (2070 - v ≤ c ∧ c ≤ 2070 - v + 4)) → ¬ K (2, c) := fun c hc z => by
    rcases hK _ z with z | z
    · rcases z with z | z | z
      · have : 2 = b := z
        omega
      · exact absurd z (show ¬ (2 : Nat) = 1 by decide)
      · have z2 := z.2
        simp only at z2
        omega
    · have : c = 1007 := congrArg Prod.snd z
      omega
  have fr : ∀ c, (c < 1007 ∨ (2070 - v ≤ c ∧ c ≤ 2070 - v + 4)) → Fr σ w s ws (2, c) := fun c hc => E.2 (2, c) (no c hc) (by simp)
  have e0 := fr 1000 (by omega) 1000 C.1.1
  obtain ⟨⟨c1, c2⟩, ⟨c3, c4, c5, c6⟩, ⟨c7, c8, c9⟩, c10, c11, c12, c13, c14⟩ := C
  refine ⟨⟨⟨e0.1, e0.2.kd.trans c2⟩, ⟨e0.2.fR.trans c3, e0.2.fR.trans c4, e0.2.fR.trans c5, e0.2.fR.trans c6⟩, ⟨e0.2.fR.trans c7, e0.2.fR.trans c8, e0.2.fR.trans c9⟩, e0.2.fR.trans c10, e0.2.fR.trans c11, e0.2.fR.trans c12, h7⟩, hb, e0.2.fI.trans ht, T.fr (fr 1001 (by omega)), ⟨tx, Tx.fr (fr 1003 (by omega))⟩, S.fr (fr 1005 (by omega)), ⟨⟨ov, L.eqc (fun j hj => (fr _ (by omega) _ (hO _ (by unfold fixW; omega))).2)⟩, hl13⟩, A', hf', fun b2 h2 => ?_, hrf.eff E (fun z => ?_)⟩
  obtain ⟨q1, q2, q3⟩ := hsp b2 h2
  refine ⟨q1, q2, q3.fr (fun j => E.bk (fun z => ?_) (by omega))⟩
  rcases hK _ z with z | z
  · rcases z with z | z | z
    · exact q2 z
    · have : b2 = 1 := z
      omega
    · have : b2 = 2 := z.1
      omega
  · have : b2 = 2 := congrArg Prod.fst z
    omega
  rcases hK _ z with z | z
  · rcases z with z | z | z
    · have : 9 = b := z
      omega
    · exact absurd z (show ¬ (9 : Nat) = 1 by decide)
    · exact absurd z.1 (show ¬ (9 : Nat) = 2 by decide)
  · exact absurd (congrArg Prod.fst z) (show ¬ (9 : Nat) = 2 by decide)
theorem DskC.deed (R : DskC τ σ w v X b sp g gl nu D) (o : Only 1007 σ s) : DskC τ s w v X b sp g gl nu D := by
  have R0 := R
  obtain ⟨C, hb, ht, T, ⟨tx, Tx⟩, S, ⟨⟨ov, L⟩, hl13⟩, A, hf, hsp, hrf⟩ := R
  have w7 := C.2.2.2.2.2.2.1
  have E : Eff (fun q => q = (2, 1007)) σ w s w := ⟨fun c hc => A.1.1.1 c (by rw [← o.2.1]; exact hc), fun q hq _ c hc => ⟨hc, o.2.2.2.1 c (fun z => hq (by rw [← hc, z]; exact w7))⟩⟩
  have A' : Bks s w v X b (d_off D) gl nu (0, 0, 0, 0, 0) (grC g sp) := by
    obtain ⟨⟨⟨o1, n1⟩, St, Rd, J⟩, B, Rm⟩ := A
    refine ⟨⟨⟨E.1, by rw [o.2.1]; exact n1⟩, St.eff E (fun q hq z => ?_), rdl_eff Rd E (fun c c1 c2 z => ?_) (fun z => absurd z (by decide)), J.eff E (fun c hc z => ?_)⟩, B.fr (fun j => E.bk (fun z => ?_) (by omega)), Rm.eq ⟨rfl, rfl, rfl, rfl⟩ ⟨o.2.1, o.2.2.1⟩⟩
    · rw [z] at hq
      rcases hq with h | h
      · exact absurd h.1 (by decide)
      · exact absurd h (by decide)
    · have : c = 1007 := congrArg Prod.snd z
      omega
    · have : c = 1007 := congrArg Prod.snd z
      unfold fixW at hc
      omega
    · have : b = 2 := congrArg Prod.fst z
      omega
  exact R0.act E (fun q hq => Or.inr hq) ⟨w7, by rw [o.1]; exact C.2.2.2.2.2.2.2⟩ A' ((o.2.2.2.2 _ _).1.trans hf)
/-- what is asked of the desk's model by the class's side -/
def DskG (D : mTop) (nu : Nat) : Prop := CkM (d_off D) ∧ (o_log (d_off D)).length < 120000 ∧ (o_now (d_off D)).toInt ≤ 2000000000 ∧ nu ≤ 11000
theorem co_act {n : Nat} {a : mArg} {F : Int32 → am_S → Prop} (G : DskG D nu) (R : DskC τ σ w v X b sp g gl nu D) (h1 : 1 ≤ n) (h22 : n ≤ 22) (h6 : n ≠ 6) (hfit : n = 5 → (a 1).toInt32.toInt64 = a 1) (hD : DdR σ 1007 0 7 n a)
    (K : ∀ r, r = m_act (d_off D) (d_fnd D) n a [] → ∀ s ws X' gl' nu', nu' ≤ nu → DskC τ s ws v X' b sp g gl' nu' (d_setFnd (d_setOff D r.2.1) r.2.2) → F r.1 s) : (am_is σ (am_fR σ 7 1000) 6) ∧ k_Bk_perform nl Ln xs (d + 416) ((am_fR σ 7 1000).getD 0) (am_fR σ 3 1000) (am_fR σ 1 1000) σ F := by
  have R0 := R
  obtain ⟨C, hb, ht, T, ⟨tx, Tx⟩, S, ⟨⟨ov, L⟩, hl13⟩, A, hf, hsp, hrf⟩ := R
  obtain ⟨ck, hl, hnow, hnu⟩ := G
  have hl2 := act_log (fnd := d_fnd D) (n := n) (a := a) (t := []) ck.1 hnow h1 h22
  rw [C.2.2.2.1, C.2.1.2.2.2, C.2.1.2.1, Option.getD_some]
  have w7 := C.2.2.2.2.2.2.1
  refine ⟨is_mk A.2.1.1.1.2.1, bk_perform (d := d) (kt := (0, 0)) (tn := 0) (gt := 0) (t := []) hb ⟨by decide, by decide, by decide, by decide⟩ ck h1 h22 (by omega) (by simp only [List.length_nil] at hl2; omega) hnow (by show nu + 0 ≤ 11000; omega) hfit hD (fun _ _ => rfl) (fun _ => rfl) w7 (fun z => absurd z h6) A hf (fun r hr s ws X' gl' nu' A' hn' E' f' => ?_)⟩
  have e7 := E'.2 (2, 1007) (fun z => by
    have hv := A.1.2.2.2.1
    rcases z with z | z | z
    · have : 2 = b := z
      omega
    · exact absurd z (show ¬ (2 : Nat) = 1 by decide)
    · have z2 := z.2
      simp only at z2
      omega) (by simp) 1007 w7
  exact K r hr s ws X' gl' nu' (by simpa using hn'.1) (R0.act E' (fun q hq => Or.inl hq) ⟨e7.1, e7.2.kd.trans C.2.2.2.2.2.2.2⟩ A' f')
theorem co_person  {F : Int32 → am_S → Prop} (G : DskG D nu) (R : DskC τ σ w v X b sp g gl nu D) (K : ∀ s ws X' gl' nu', nu' ≤ nu → DskC τ s ws v X' b sp g gl' nu' (d_act D 1 [0, 0, 0, 0]).2 → F (d_act D 1 [0, 0, 0, 0]).1 s) : k_Co_person nl Ln xs (d + 417) 1000  σ F := by
  refine w_Co_person ⟨is_mk R.1.1.2, co_fill (d := d + 415) (n := 1) (by decide) R.1 (fun s2 o2 D2 _ => ?_)⟩
  exact co_act (d := d) (a := d_arg [0, 0, 0, 0]) G (R.deed o2) (by decide) (by decide) (by decide) (fun z => absurd z (by decide)) D2 (fun r hr s ws X' gl' nu' hn R' _ => by
    have := K s ws X' gl' nu' hn
    unfold d_act at this
    rw [← hr] at this
    exact this R')
theorem co_rank {p0 : Int32} {p1 : Int32} {F : Int32 → am_S → Prop} (G : DskG D nu) (R : DskC τ σ w v X b sp g gl nu D) (K : ∀ s ws X' gl' nu', nu' ≤ nu → DskC τ s ws v X' b sp g gl' nu' (d_act D 2 [p0.toInt64, p1.toInt64, 0, 0]).2 → F (d_act D 2 [p0.toInt64, p1.toInt64, 0, 0]).1 s) : k_Co_rank nl Ln xs (d + 417) 1000 p0 p1 σ F := by
  refine w_Co_rank ⟨is_mk R.1.1.2, co_fill (d := d + 415) (n := 2) (by decide) R.1 (fun s2 o2 D2 _ => ?_)⟩
  exact co_act (d := d) (a := d_arg [p0.toInt64, p1.toInt64, 0, 0]) G (R.deed o2) (by decide) (by decide) (by decide) (fun z => absurd z (by decide)) D2 (fun r hr s ws X' gl' nu' hn R' _ => by
    have := K s ws X' gl' nu' hn
    unfold d_act at this
    rw [← hr] at this
    exact this R')
theorem co_policy {p0 : Int32} {p1 : Int32} {p2 : Int32} {p3 : Int32} {F : Int32 → am_S → Prop} (G : DskG D nu) (R : DskC τ σ w v X b sp g gl nu D) (K : ∀ s ws X' gl' nu', nu' ≤ nu → DskC τ s ws v X' b sp g gl' nu' (d_act D 3 [p0.toInt64, p1.toInt64, p2.toInt64, p3.toInt64]).2 → F (d_act D 3 [p0.toInt64, p1.toInt64, p2.toInt64, p3.toInt64]).1 s) : k_Co_policy nl Ln xs (d + 417) 1000 p0 p1 p2 p3 σ F := by
  refine w_Co_policy ⟨is_mk R.1.1.2, co_fill (d := d + 415) (n := 3) (by decide) R.1 (fun s2 o2 D2 _ => ?_)⟩
  exact co_act (d := d) (a := d_arg [p0.toInt64, p1.toInt64, p2.toInt64, p3.toInt64]) G (R.deed o2) (by decide) (by decide) (by decide) (fun z => absurd z (by decide)) D2 (fun r hr s ws X' gl' nu' hn R' _ => by
    have := K s ws X' gl' nu' hn
    unfold d_act at this
    rw [← hr] at this
    exact this R')
theorem co_bundle {p0 : Int32} {p1 : Int32} {p2 : Int32} {F : Int32 → am_S → Prop} (G : DskG D nu) (R : DskC τ σ w v X b sp g gl nu D) (K : ∀ s ws X' gl' nu', nu' ≤ nu → DskC τ s ws v X' b sp g gl' nu' (d_act D 4 [p0.toInt64, p1.toInt64, p2.toInt64, 0]).2 → F (d_act D 4 [p0.toInt64, p1.toInt64, p2.toInt64, 0]).1 s) : k_Co_bundle nl Ln xs (d + 417) 1000 p0 p1 p2 σ F := by
  refine w_Co_bundle ⟨is_mk R.1.1.2, co_fill (d := d + 415) (n := 4) (by decide) R.1 (fun s2 o2 D2 _ => ?_)⟩
  exact co_act (d := d) (a := d_arg [p0.toInt64, p1.toInt64, p2.toInt64, 0]) G (R.deed o2) (by decide) (by decide) (by decide) (fun z => absurd z (by decide)) D2 (fun r hr s ws X' gl' nu' hn R' _ => by
    have := K s ws X' gl' nu' hn
    unfold d_act at this
    rw [← hr] at this
    exact this R')
theorem co_period {p0 : Int32} {p1 : Int32} {p2 : Int64} {F : Int32 → am_S → Prop} (G : DskG D nu) (R : DskC τ σ w v X b sp g gl nu D) (K : ∀ s ws X' gl' nu', nu' ≤ nu → DskC τ s ws v X' b sp g gl' nu' (d_act D 5 [p0.toInt64, p1.toInt64, p2, 0]).2 → F (d_act D 5 [p0.toInt64, p1.toInt64, p2, 0]).1 s) : k_Co_period nl Ln xs (d + 417) 1000 p0 p1 p2 σ F := by
  refine w_Co_period ⟨is_mk R.1.1.2, co_fill (d := d + 415) (n := 5) (by decide) R.1 (fun s2 o2 D2 _ => ?_)⟩
  exact co_act (d := d) (a := d_arg [p0.toInt64, p1.toInt64, p2, 0]) G (R.deed o2) (by decide) (by decide) (by decide) (fun _ => by show (p1.toInt64).toInt32.toInt64 = p1.toInt64; rw [i64e, t64, t32 (by rw [t64]; exact (r32 p1).1) (by rw [t64]; exact (r32 p1).2)]) D2 (fun r hr s ws X' gl' nu' hn R' _ => by
    have := K s ws X' gl' nu' hn
    unfold d_act at this
    rw [← hr] at this
    exact this R')
theorem co_shareRule {p0 : Int32} {p1 : Int32} {F : Int32 → am_S → Prop} (G : DskG D nu) (R : DskC τ σ w v X b sp g gl nu D) (K : ∀ s ws X' gl' nu', nu' ≤ nu → DskC τ s ws v X' b sp g gl' nu' (d_act D 7 [p0.toInt64, p1.toInt64, 0, 0]).2 → F (d_act D 7 [p0.toInt64, p1.toInt64, 0, 0]).1 s) : k_Co_shareRule nl Ln xs (d + 417) 1000 p0 p1 σ F := by
  refine w_Co_shareRule ⟨is_mk R.1.1.2, co_fill (d := d + 415) (n := 7) (by decide) R.1 (fun s2 o2 D2 _ => ?_)⟩
  exact co_act (d := d) (a := d_arg [p0.toInt64, p1.toInt64, 0, 0]) G (R.deed o2) (by decide) (by decide) (by decide) (fun z => absurd z (by decide)) D2 (fun r hr s ws X' gl' nu' hn R' _ => by
    have := K s ws X' gl' nu' hn
    unfold d_act at this
    rw [← hr] at this
    exact this R')
theorem co_loss {p0 : Int32} {p1 : Int32} {F : Int32 → am_S → Prop} (G : DskG D nu) (R : DskC τ σ w v X b sp g gl nu D) (K : ∀ s ws X' gl' nu', nu' ≤ nu → DskC τ s ws v X' b sp g gl' nu' (d_act D 8 [p0.toInt64, p1.toInt64, 0, 0]).2 → F (d_act D 8 [p0.toInt64, p1.toInt64, 0, 0]).1 s) : k_Co_loss nl Ln xs (d + 417) 1000 p0 p1 σ F := by
  refine w_Co_loss ⟨is_mk R.1.1.2, co_fill (d := d + 415) (n := 8) (by decide) R.1 (fun s2 o2 D2 _ => ?_)⟩
  exact co_act (d := d) (a := d_arg [p0.toInt64, p1.toInt64, 0, 0]) G (R.deed o2) (by decide) (by decide) (by decide) (fun z => absurd z (by decide)) D2 (fun r hr s ws X' gl' nu' hn R' _ => by
    have := K s ws X' gl' nu' hn
    unfold d_act at this
    rw [← hr] at this
    exact this R')
theorem co_part {p0 : Int32} {p1 : Int32} {F : Int32 → am_S → Prop} (G : DskG D nu) (R : DskC τ σ w v X b sp g gl nu D) (K : ∀ s ws X' gl' nu', nu' ≤ nu → DskC τ s ws v X' b sp g gl' nu' (d_act D 9 [p0.toInt64, p1.toInt64, 0, 0]).2 → F (d_act D 9 [p0.toInt64, p1.toInt64, 0, 0]).1 s) : k_Co_part nl Ln xs (d + 417) 1000 p0 p1 σ F := by
  refine w_Co_part ⟨is_mk R.1.1.2, co_fill (d := d + 415) (n := 9) (by decide) R.1 (fun s2 o2 D2 _ => ?_)⟩
  exact co_act (d := d) (a := d_arg [p0.toInt64, p1.toInt64, 0, 0]) G (R.deed o2) (by decide) (by decide) (by decide) (fun z => absurd z (by decide)) D2 (fun r hr s ws X' gl' nu' hn R' _ => by
    have := K s ws X' gl' nu' hn
    unfold d_act at this
    rw [← hr] at this
    exact this R')
theorem co_item {p0 : Int32} {p1 : Int32} {p2 : Int64} {p3 : Int64} {F : Int32 → am_S → Prop} (G : DskG D nu) (R : DskC τ σ w v X b sp g gl nu D) (K : ∀ s ws X' gl' nu', nu' ≤ nu → DskC τ s ws v X' b sp g gl' nu' (d_act D 10 [p0.toInt64, p1.toInt64, p2, p3]).2 → F (d_act D 10 [p0.toInt64, p1.toInt64, p2, p3]).1 s) : k_Co_item nl Ln xs (d + 417) 1000 p0 p1 p2 p3 σ F := by
  refine w_Co_item ⟨is_mk R.1.1.2, co_fill (d := d + 415) (n := 10) (by decide) R.1 (fun s2 o2 D2 _ => ?_)⟩
  exact co_act (d := d) (a := d_arg [p0.toInt64, p1.toInt64, p2, p3]) G (R.deed o2) (by decide) (by decide) (by decide) (fun z => absurd z (by decide)) D2 (fun r hr s ws X' gl' nu' hn R' _ => by
    have := K s ws X' gl' nu' hn
    unfold d_act at this
    rw [← hr] at this
    exact this R')
theorem co_notify {p0 : Int32} {p1 : Int32} {p2 : Int32} {p3 : Int32} {F : Int32 → am_S → Prop} (G : DskG D nu) (R : DskC τ σ w v X b sp g gl nu D) (K : ∀ s ws X' gl' nu', nu' ≤ nu → DskC τ s ws v X' b sp g gl' nu' (d_act D 11 [p0.toInt64, p1.toInt64, p2.toInt64, p3.toInt64]).2 → F (d_act D 11 [p0.toInt64, p1.toInt64, p2.toInt64, p3.toInt64]).1 s) : k_Co_notify nl Ln xs (d + 417) 1000 p0 p1 p2 p3 σ F := by
  refine w_Co_notify ⟨is_mk R.1.1.2, co_fill (d := d + 415) (n := 11) (by decide) R.1 (fun s2 o2 D2 _ => ?_)⟩
  exact co_act (d := d) (a := d_arg [p0.toInt64, p1.toInt64, p2.toInt64, p3.toInt64]) G (R.deed o2) (by decide) (by decide) (by decide) (fun z => absurd z (by decide)) D2 (fun r hr s ws X' gl' nu' hn R' _ => by
    have := K s ws X' gl' nu' hn
    unfold d_act at this
    rw [← hr] at this
    exact this R')
theorem co_reserve {p0 : Int32} {p1 : Int32} {p2 : Int32} {p3 : Int64} {F : Int32 → am_S → Prop} (G : DskG D nu) (R : DskC τ σ w v X b sp g gl nu D) (K : ∀ s ws X' gl' nu', nu' ≤ nu → DskC τ s ws v X' b sp g gl' nu' (d_act D 12 [p0.toInt64, p1.toInt64, p2.toInt64, p3]).2 → F (d_act D 12 [p0.toInt64, p1.toInt64, p2.toInt64, p3]).1 s) : k_Co_reserve nl Ln xs (d + 417) 1000 p0 p1 p2 p3 σ F := by
  refine w_Co_reserve ⟨is_mk R.1.1.2, co_fill (d := d + 415) (n := 12) (by decide) R.1 (fun s2 o2 D2 _ => ?_)⟩
  exact co_act (d := d) (a := d_arg [p0.toInt64, p1.toInt64, p2.toInt64, p3]) G (R.deed o2) (by decide) (by decide) (by decide) (fun z => absurd z (by decide)) D2 (fun r hr s ws X' gl' nu' hn R' _ => by
    have := K s ws X' gl' nu' hn
    unfold d_act at this
    rw [← hr] at this
    exact this R')
theorem co_pay {p0 : Int32} {p1 : Int32} {p2 : Int64} {F : Int32 → am_S → Prop} (G : DskG D nu) (R : DskC τ σ w v X b sp g gl nu D) (K : ∀ s ws X' gl' nu', nu' ≤ nu → DskC τ s ws v X' b sp g gl' nu' (d_act D 13 [p0.toInt64, p1.toInt64, p2, 0]).2 → F (d_act D 13 [p0.toInt64, p1.toInt64, p2, 0]).1 s) : k_Co_pay nl Ln xs (d + 417) 1000 p0 p1 p2 σ F := by
  refine w_Co_pay ⟨is_mk R.1.1.2, co_fill (d := d + 415) (n := 13) (by decide) R.1 (fun s2 o2 D2 _ => ?_)⟩
  exact co_act (d := d) (a := d_arg [p0.toInt64, p1.toInt64, p2, 0]) G (R.deed o2) (by decide) (by decide) (by decide) (fun z => absurd z (by decide)) D2 (fun r hr s ws X' gl' nu' hn R' _ => by
    have := K s ws X' gl' nu' hn
    unfold d_act at this
    rw [← hr] at this
    exact this R')
theorem co_close {p0 : Int32} {p1 : Int32} {F : Int32 → am_S → Prop} (G : DskG D nu) (R : DskC τ σ w v X b sp g gl nu D) (K : ∀ s ws X' gl' nu', nu' ≤ nu → DskC τ s ws v X' b sp g gl' nu' (d_act D 14 [p0.toInt64, p1.toInt64, 0, 0]).2 → F (d_act D 14 [p0.toInt64, p1.toInt64, 0, 0]).1 s) : k_Co_close nl Ln xs (d + 417) 1000 p0 p1 σ F := by
  refine w_Co_close ⟨is_mk R.1.1.2, co_fill (d := d + 415) (n := 14) (by decide) R.1 (fun s2 o2 D2 _ => ?_)⟩
  exact co_act (d := d) (a := d_arg [p0.toInt64, p1.toInt64, 0, 0]) G (R.deed o2) (by decide) (by decide) (by decide) (fun z => absurd z (by decide)) D2 (fun r hr s ws X' gl' nu' hn R' _ => by
    have := K s ws X' gl' nu' hn
    unfold d_act at this
    rw [← hr] at this
    exact this R')
theorem co_reopen {p0 : Int32} {p1 : Int32} {p2 : Int32} {F : Int32 → am_S → Prop} (G : DskG D nu) (R : DskC τ σ w v X b sp g gl nu D) (K : ∀ s ws X' gl' nu', nu' ≤ nu → DskC τ s ws v X' b sp g gl' nu' (d_act D 15 [p0.toInt64, p1.toInt64, p2.toInt64, 0]).2 → F (d_act D 15 [p0.toInt64, p1.toInt64, p2.toInt64, 0]).1 s) : k_Co_reopen nl Ln xs (d + 417) 1000 p0 p1 p2 σ F := by
  refine w_Co_reopen ⟨is_mk R.1.1.2, co_fill (d := d + 415) (n := 15) (by decide) R.1 (fun s2 o2 D2 _ => ?_)⟩
  exact co_act (d := d) (a := d_arg [p0.toInt64, p1.toInt64, p2.toInt64, 0]) G (R.deed o2) (by decide) (by decide) (by decide) (fun z => absurd z (by decide)) D2 (fun r hr s ws X' gl' nu' hn R' _ => by
    have := K s ws X' gl' nu' hn
    unfold d_act at this
    rw [← hr] at this
    exact this R')
theorem co_share {p0 : Int32} {p1 : Int32} {p2 : Int32} {p3 : Int64} {F : Int32 → am_S → Prop} (G : DskG D nu) (R : DskC τ σ w v X b sp g gl nu D) (K : ∀ s ws X' gl' nu', nu' ≤ nu → DskC τ s ws v X' b sp g gl' nu' (d_act D 17 [p0.toInt64, p1.toInt64, p2.toInt64, p3]).2 → F (d_act D 17 [p0.toInt64, p1.toInt64, p2.toInt64, p3]).1 s) : k_Co_share nl Ln xs (d + 417) 1000 p0 p1 p2 p3 σ F := by
  refine w_Co_share ⟨is_mk R.1.1.2, co_fill (d := d + 415) (n := 17) (by decide) R.1 (fun s2 o2 D2 _ => ?_)⟩
  exact co_act (d := d) (a := d_arg [p0.toInt64, p1.toInt64, p2.toInt64, p3]) G (R.deed o2) (by decide) (by decide) (by decide) (fun z => absurd z (by decide)) D2 (fun r hr s ws X' gl' nu' hn R' _ => by
    have := K s ws X' gl' nu' hn
    unfold d_act at this
    rw [← hr] at this
    exact this R')
theorem co_salvage {p0 : Int32} {p1 : Int32} {p2 : Int64} {F : Int32 → am_S → Prop} (G : DskG D nu) (R : DskC τ σ w v X b sp g gl nu D) (K : ∀ s ws X' gl' nu', nu' ≤ nu → DskC τ s ws v X' b sp g gl' nu' (d_act D 18 [p0.toInt64, p1.toInt64, p2, 0]).2 → F (d_act D 18 [p0.toInt64, p1.toInt64, p2, 0]).1 s) : k_Co_salvage nl Ln xs (d + 417) 1000 p0 p1 p2 σ F := by
  refine w_Co_salvage ⟨is_mk R.1.1.2, co_fill (d := d + 415) (n := 18) (by decide) R.1 (fun s2 o2 D2 _ => ?_)⟩
  exact co_act (d := d) (a := d_arg [p0.toInt64, p1.toInt64, p2, 0]) G (R.deed o2) (by decide) (by decide) (by decide) (fun z => absurd z (by decide)) D2 (fun r hr s ws X' gl' nu' hn R' _ => by
    have := K s ws X' gl' nu' hn
    unfold d_act at this
    rw [← hr] at this
    exact this R')
theorem co_recourse {p0 : Int32} {p1 : Int32} {p2 : Int64} {F : Int32 → am_S → Prop} (G : DskG D nu) (R : DskC τ σ w v X b sp g gl nu D) (K : ∀ s ws X' gl' nu', nu' ≤ nu → DskC τ s ws v X' b sp g gl' nu' (d_act D 19 [p0.toInt64, p1.toInt64, p2, 0]).2 → F (d_act D 19 [p0.toInt64, p1.toInt64, p2, 0]).1 s) : k_Co_recourse nl Ln xs (d + 417) 1000 p0 p1 p2 σ F := by
  refine w_Co_recourse ⟨is_mk R.1.1.2, co_fill (d := d + 415) (n := 19) (by decide) R.1 (fun s2 o2 D2 _ => ?_)⟩
  exact co_act (d := d) (a := d_arg [p0.toInt64, p1.toInt64, p2, 0]) G (R.deed o2) (by decide) (by decide) (by decide) (fun z => absurd z (by decide)) D2 (fun r hr s ws X' gl' nu' hn R' _ => by
    have := K s ws X' gl' nu' hn
    unfold d_act at this
    rw [← hr] at this
    exact this R')
theorem co_batch  {F : Int32 → am_S → Prop} (G : DskG D nu) (R : DskC τ σ w v X b sp g gl nu D) (K : ∀ s ws X' gl' nu', nu' ≤ nu → DskC τ s ws v X' b sp g gl' nu' (d_act D 20 [0, 0, 0, 0]).2 → F (d_act D 20 [0, 0, 0, 0]).1 s) : k_Co_batch nl Ln xs (d + 417) 1000  σ F := by
  refine w_Co_batch ⟨is_mk R.1.1.2, co_fill (d := d + 415) (n := 20) (by decide) R.1 (fun s2 o2 D2 _ => ?_)⟩
  exact co_act (d := d) (a := d_arg [0, 0, 0, 0]) G (R.deed o2) (by decide) (by decide) (by decide) (fun z => absurd z (by decide)) D2 (fun r hr s ws X' gl' nu' hn R' _ => by
    have := K s ws X' gl' nu' hn
    unfold d_act at this
    rw [← hr] at this
    exact this R')
theorem co_end  {F : Int32 → am_S → Prop} (G : DskG D nu) (R : DskC τ σ w v X b sp g gl nu D) (K : ∀ s ws X' gl' nu', nu' ≤ nu → DskC τ s ws v X' b sp g gl' nu' (d_act D 21 [0, 0, 0, 0]).2 → F (d_act D 21 [0, 0, 0, 0]).1 s) : k_Co_end nl Ln xs (d + 417) 1000  σ F := by
  refine w_Co_end ⟨is_mk R.1.1.2, co_fill (d := d + 415) (n := 21) (by decide) R.1 (fun s2 o2 D2 _ => ?_)⟩
  exact co_act (d := d) (a := d_arg [0, 0, 0, 0]) G (R.deed o2) (by decide) (by decide) (by decide) (fun z => absurd z (by decide)) D2 (fun r hr s ws X' gl' nu' hn R' _ => by
    have := K s ws X' gl' nu' hn
    unfold d_act at this
    rw [← hr] at this
    exact this R')
theorem co_undo  {F : Int32 → am_S → Prop} (G : DskG D nu) (R : DskC τ σ w v X b sp g gl nu D) (K : ∀ s ws X' gl' nu', nu' ≤ nu → DskC τ s ws v X' b sp g gl' nu' (d_act D 22 [0, 0, 0, 0]).2 → F (d_act D 22 [0, 0, 0, 0]).1 s) : k_Co_undo nl Ln xs (d + 417) 1000  σ F := by
  refine w_Co_undo ⟨is_mk R.1.1.2, co_fill (d := d + 415) (n := 22) (by decide) R.1 (fun s2 o2 D2 _ => ?_)⟩
  exact co_act (d := d) (a := d_arg [0, 0, 0, 0]) G (R.deed o2) (by decide) (by decide) (by decide) (fun z => absurd z (by decide)) D2 (fun r hr s ws X' gl' nu' hn R' _ => by
    have := K s ws X' gl' nu' hn
    unfold d_act at this
    rw [← hr] at this
    exact this R')
end
