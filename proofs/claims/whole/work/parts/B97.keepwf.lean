/-! THE MODEL: every act keeps it well-formed; what may grow -/
def PlT (T : List mTell) : Prop := ∀ t ∈ T, t.1 = 4 → 0 ≤ t.2.2.1.toInt ∧ t.2.2.1.toInt ≤ 3
def InvM (M : mOff) : Prop := WfX M ∧ CkA M ∧ PlT (o_tel M) ∧ ∀ t ∈ o_tel M, ClO (tCls t)
/-- what the held deeds will write -/
def dW : List mDeed → Nat
  | [] => 0
  | q :: l => 10 * (1 + m_args q.1) + 1 + dW l
theorem dW_app : ∀ (l : List mDeed) (q : mDeed), dW (l ++ [q]) = dW l + (10 * (1 + m_args q.1) + 1)
  | [], q => by simp [dW]
  | x :: l, q => by
    show _ + dW (l ++ [q]) = _
    rw [dW_app l q]
    show _ = _ + dW l + _
    omega
def pot (M : mOff) : Nat := (o_log M).length + (o_now M).toInt.toNat + dW (o_hel M) + (if o_und M = true then 10 else 0)
/-- what an act may take of room -/
def aW (n : Nat) (t : List Int32) : Nat := 1 + m_args n + (if n = 6 then t.length else 0)
theorem note_len (n : Nat) (a : mArg) (t : List Int32) : (m_note n a t).length ≤ 10 * aW n t := by
  unfold m_note aW
  rw [List.length_append, List.length_append]
  have h1 := m_enc_len (Int64.ofNat n)
  have h2 := flat_leM (f := fun k => m_enc (a k)) (b := 10) (List.range (m_args n)) (fun k _ => m_enc_len _)
  rw [List.length_range] at h2
  have h3 : (if n = 6 then t.flatMap (fun b => m_enc b.toInt64) else []).length ≤ 10 * (if n = 6 then t.length else 0) := by
    split
    · exact flat_leM t (fun b _ => m_enc_len _)
    · exact Nat.le_refl _
  omega
theorem batch_len (h : List mDeed) : (m_batchLog h).length ≤ 10 + dW h := by
  unfold m_batchLog
  rw [List.length_append]
  have h1 := m_enc_len 20
  have h2 : ∀ l : List mDeed, (l.flatMap (fun q => m_note q.1 q.2 [])).length ≤ dW l := by
    intro l
    induction l with
    | nil => exact Nat.le_refl _
    | cons q l ih =>
      rw [List.flatMap_cons, List.length_append]
      have := note_len q.1 q.2 []
      unfold aW at this
      have e : (if q.1 = 6 then ([] : List Int32).length else 0) = 0 := by split <;> rfl
      rw [e] at this
      show _ ≤ 10 * (1 + m_args q.1) + 1 + dW l
      omega
  have := h2 h
  omega
def IQ (M : mOff) (n : Nat) (t : List Int32) (r : mAns) : Prop := WfX r.2.1 ∧ PlT (o_tel r.2.1) ∧ (∀ s ∈ o_tel r.2.1, ClO (tCls s)) ∧ pot r.2.1 ≤ pot M + 11 * aW n t
section
variable {M : mOff} {fnd : Int32} {n : Nat} {a : mArg} {t : List Int32}
theorem iq_same {x y : Int32} (h : InvM M) : IQ M n t (x, M, y) := ⟨h.1, h.2.2.1, h.2.2.2, Nat.le_add_right _ _⟩
theorem aW_pos : 1 ≤ aW n t := by unfold aW; omega
/-- an act is done -/
theorem done_q {M' : mOff} {t' : List Int32} {x y : Int32} (h : InvM M) (hnow : (o_now M).toInt ≤ 2000000000) (e1 : o_now M' = o_now M) (e2 : o_hel M' = o_hel M) (e3 : o_log M' = o_log M) (e4 : o_und M' = o_und M) (hp : 0 ≤ (o_per M').toInt ∧ (o_per M').toInt ≤ 100) (D : WfD (o_pol M') (o_tel M') (o_los M') (o_cas M'))
    (hT : ∀ s ∈ o_tel M', s ∈ o_tel M ∨ (s.2.2.2.1 = o_now M + 1 ∧ (s.1 = 4 → 0 ≤ s.2.2.1.toInt ∧ s.2.2.1.toInt ≤ 3) ∧ ClO (tCls s)))
    (hC : ∀ c ∈ o_cas M', c ∈ o_cas M ∨ (c.2.2.2.2.1 = o_now M + 1 ∧ c.2.2.2.2.2 = [])) (ht : aW n t' ≤ aW n t) : IQ M n t (x, m_done M' n a t', y) := by
  obtain ⟨⟨⟨-, wH, m0, m1, m2⟩, -, h60, hh⟩, -, pl, cl⟩ := h
  have one : (1 : Int32).toInt = 1 := by decide
  have en : (o_now M + 1).toInt = (o_now M).toInt + 1 := by rw [i32add (by rw [one]; omega) (by rw [one]; omega), one]
  have CL : ∀ s ∈ o_tel M', ClO (tCls s) := fun s hs => by
    rcases hT s hs with q | q
    · exact cl s q
    · exact q.2.2
  refine ⟨⟨⟨D, fun s hs c hc f hf => (((CL s hs).2.2 c hc).2 f hf).2.2.1, ?_, ?_, ?_⟩, hp, ?_, ?_⟩, fun s hs h4 => ?_, CL, ?_⟩
  · show 0 ≤ (o_now M' + 1).toInt
    rw [e1, en]
    omega
  · intro c hc
    show _ ∧ _ ≤ (o_now M' + 1).toInt ∧ ∀ f ∈ _, _ ≤ (o_now M' + 1).toInt
    rw [e1, en]
    rcases hC c hc with q | q
    · have := m1 c q
      exact ⟨this.1, by omega, fun f hf => by have := this.2.2 f hf; omega⟩
    · rw [q.1, q.2, en]
      exact ⟨by omega, by omega, fun f hf => absurd hf (by simp)⟩
  · intro s hs
    show _ ≤ (o_now M' + 1).toInt
    rw [e1, en]
    rcases hT s hs with q | q
    · have := m2 s q
      omega
    · rw [q.1, en]
      omega
  · show (o_hel M').length ≤ 60
    rw [e2]; exact h60
  · show ∀ q ∈ o_hel M', _
    rw [e2]; exact hh
  · rcases hT s hs with q | q
    · exact pl s q h4
    · exact q.2.1 h4
  · have nl := note_len n a t'
    have q1 : (o_log (m_done M' n a t')).length = (o_log M).length + (m_note n a t').length := by
      show (o_log M' ++ m_note n a t').length = _
      rw [List.length_append, e3]
    have q2 : (o_now (m_done M' n a t')).toInt.toNat = (o_now M).toInt.toNat + 1 := by
      show (o_now M' + 1).toInt.toNat = _
      rw [e1, en]
      omega
    have q3 : dW (o_hel (m_done M' n a t')) = dW (o_hel M) := by
      show dW (o_hel M') = _
      rw [e2]
    have q4 : o_und (m_done M' n a t') = o_und M := e4
    unfold pot
    show (o_log (m_done M' n a t')).length + (o_now (m_done M' n a t')).toInt.toNat + dW (o_hel (m_done M' n a t')) + (if o_und (m_done M' n a t') = true then 10 else 0) ≤ _
    rw [q1, q2, q3, q4]
    have := aW_pos (n := n) (t := t')
    omega
/-! tells -/
theorem m_last_snoc {α β : Type} (q : α → Bool) (f : α → β) : ∀ (l : List α) (x : α) (z : β), m_last q f z (l ++ [x]) = if q x then f x else m_last q f z l
  | [], x, z => by
    show m_last q f (if q x then f x else z) [] = _
    rfl
  | y :: l, x, z => by
    show m_last q f (if q y then f y else z) (l ++ [x]) = _
    rw [m_last_snoc q f l x]
    rfl
theorem look_snoc {T : List mTell} {x : mTell} {act : Int32} {who : Nat} {which at' : Int32} : m_look (T ++ [x]) act who which at' = if m_tq act who which at' x = true then some x else m_look T act who which at' := m_last_snoc _ _ T x none
theorem part_snoc {T : List mTell} {x : mTell} {p : Nat} {pl at' : Int32} (h : m_tq 4 p pl at' x = false) : m_part (T ++ [x]) p pl at' = m_part T p pl at' := by
  unfold m_part
  rw [look_snoc, h]
  rfl
theorem part_late {T : List mTell} {p : Nat} {pl now at' : Int32} (hT : ∀ t ∈ T, t.2.2.2.1.toInt ≤ now.toInt) (h : now.toInt ≤ at'.toInt) : m_part T p pl at' = m_part T p pl now := by
  unfold m_part m_look
  rw [m_last_congr (m_tq 4 p pl at') (m_tq 4 p pl now)]
  intro x hx
  have := hT x hx
  unfold m_tq
  have e1 : decide (¬ at' < x.2.2.2.1) = true := decide_eq_true (by rw [i32lt]; omega)
  have e2 : decide (¬ now < x.2.2.2.1) = true := decide_eq_true (by rw [i32lt]; omega)
  rw [e1, e2]
theorem rch_end {P : List mPol} {T : List mTell} {now : Int32} {x y : Nat} (he : m_edge P T now x y) : ∀ (n q : Nat), m_rch P T now n q x → m_rch P T now (n + 1) q y
  | 0, q, h => by
    have h : q = x := h
    subst h
    exact Or.inr ⟨y, he, rfl⟩
  | n + 1, q, h => by
    rcases h with h | ⟨z, h1, h2⟩
    · subst h
      exact Or.inr ⟨y, he, Or.inl rfl⟩
    · exact Or.inr ⟨z, h1, rch_end he n z h2⟩
/-- a bundle's place is told: there is still no ring -/
theorem ac_tell {P : List mPol} {T : List mTell} {now : Int32} {p : Nat} {pl0 : Int32} {v : Int64} (h : WfAc P T) (pt : PlT T) (hm : ∀ t ∈ T, t.2.2.2.1.toInt ≤ now.toInt) (en : (now + 1).toInt = now.toInt + 1) (hv : 0 ≤ v.toInt → ¬ m_within P T now p v.toInt.toNat) : WfAc P (T ++ [(4, p, pl0, now + 1, v, [])]) := by
  classical
  intro at'
  by_cases ha : at'.toInt < (now + 1).toInt
  · obtain ⟨r, hr⟩ := h at'
    refine ⟨r, fun x pl y h6 hy => hr x pl y h6 ?_⟩
    rw [part_snoc] at hy
    · exact hy
    · unfold m_tq
      have : decide (¬ at' < now + 1) = false := decide_eq_false (by rw [i32lt]; omega)
      show (_ && (_ && (_ && decide (¬ at' < now + 1)))) = false
      rw [this, Bool.and_false, Bool.and_false, Bool.and_false]
  · obtain ⟨r, hr⟩ := h now
    have old : ∀ x pl, m_part T x pl at' = m_part T x pl now := fun x pl => part_late hm (by omega)
    have edge : ∀ x pl y, (P.getD x mPol0).1 = 6 → m_part T x pl now = some y → m_edge P T now x y := by
      intro x pl y h6 hy
      refine ⟨h6, ?_⟩
      have hy0 := hy
      unfold m_part at hy
      cases hl : m_look T 4 x pl now with
      | none => rw [hl] at hy; exact absurd hy (by simp)
      | some t =>
        have hq := m_last_some _ T none t hl
        rcases hq with hq | ⟨q1, q2⟩
        · exact absurd hq (by simp)
        · unfold m_tq at q2
          rw [Bool.and_eq_true, Bool.and_eq_true, Bool.and_eq_true] at q2
          have e4 := of_decide_eq_true q2.1
          have epl := of_decide_eq_true q2.2.2.1
          have hb := pt t q1 e4
          rw [epl] at hb
          refine ⟨pl.toInt.toNat, by omega, ?_⟩
          have : Int32.ofNat pl.toInt.toNat = pl := by
            rw [i32e, n32 (by omega)]
            omega
          rw [this]
          exact hy0
    have tq : ∀ x pl, m_tq 4 x pl at' ((4, p, pl0, now + 1, v, []) : mTell) = decide (p = x ∧ pl0 = pl) := by
      intro x pl
      unfold m_tq
      have h1 : decide (¬ at' < now + 1) = true := decide_eq_true (by rw [i32lt]; omega)
      show (decide ((4 : Int32) = 4) && (decide (p = x) && (decide (pl0 = pl) && decide (¬ at' < now + 1)))) = _
      rw [h1, Bool.and_true, decide_eq_true rfl, Bool.true_and, Bool.decide_and]
    have new : ∀ x pl y, m_part (T ++ [(4, p, pl0, now + 1, v, [])]) x pl at' = some y → m_part T x pl now = some y ∨ (x = p ∧ 0 ≤ v.toInt ∧ y = v.toInt.toNat) := by
      intro x pl y hy
      by_cases hx : p = x ∧ pl0 = pl
      · right
        unfold m_part at hy
        rw [look_snoc, tq, decide_eq_true hx, if_pos rfl] at hy
        have hy : (if v.toInt < 0 then none else some v.toInt.toNat) = some y := hy
        by_cases hv0 : v.toInt < 0
        · rw [if_pos hv0] at hy; exact absurd hy (by simp)
        · rw [if_neg hv0] at hy
          exact ⟨hx.1.symm, by omega, (Option.some.inj hy).symm⟩
      · left
        rw [part_snoc (by rw [tq, decide_eq_false hx]), old] at hy
        exact hy
    by_cases hv0 : 0 ≤ v.toInt
    · have hno := hv hv0
      refine ⟨fun x => if m_within P T now x v.toInt.toNat then r x else r x + r v.toInt.toNat + 1, fun x pl y h6 hy => ?_⟩
      rcases new x pl y hy with q | ⟨q1, q2, q3⟩
      · have h1 := hr x pl y h6 q
        have he := edge x pl y h6 q
        by_cases hx : m_within P T now x v.toInt.toNat
        · obtain ⟨k, hk⟩ := hx
          have hy2 : m_within P T now y v.toInt.toNat := ⟨k + 1, rch_end he k _ hk⟩
          dsimp only
          rw [if_pos hy2, if_pos (show m_within P T now x v.toInt.toNat from ⟨k, hk⟩)]
          exact h1
        · dsimp only
          rw [if_neg hx]
          by_cases hy2 : m_within P T now y v.toInt.toNat
          · rw [if_pos hy2]; omega
          · rw [if_neg hy2]; omega
      · rw [q1, q3]
        have h1 : m_within P T now v.toInt.toNat v.toInt.toNat := ⟨0, rfl⟩
        dsimp only
        rw [if_pos h1, if_neg hno]
        omega
    · refine ⟨r, fun x pl y h6 hy => ?_⟩
      rcases new x pl y hy with q | ⟨q1, q2, q3⟩
      · exact hr x pl y h6 q
      · exact absurd q2 hv0
theorem tlA_snoc (T : List mTell) (x : mTell) (k : Int32) : (tlA (T ++ [x]) k).length = (tlA T k).length + (if x.1 = k then 1 else 0) := by
  unfold tlA
  rw [List.filter_append, List.length_append]
  congr 1
  by_cases h : x.1 = k
  · simp [h]
  · simp [h]
/-- something is told -/
theorem tell_q {most who : Nat} {which ans : Int32} {v : Int64} {C : List mCl} {t' : List Int32} (h : InvM M) (hnow : (o_now M).toInt ≤ 2000000000) (hn : (n = 2 ∧ most = 60) ∨ (n = 4 ∧ most = 200) ∨ (n = 5 ∧ most = 300) ∨ (n = 6 ∧ most = 150) ∨ (n = 7 ∧ most = 150)) (hw : who < 1000) (hw2 : n = 2 → who = 0)
    (hwh : (n = 6 ∨ n = 7) → which = 0) (hC : ClO C) (h5 : n = 5 → 0 ≤ v.toInt ∧ v.toInt ≤ 1000000000000) (h7 : n = 7 → 0 ≤ v.toInt ∧ v.toInt ≤ 2) (h2 : n = 2 → 0 ≤ v.toInt ∧ v.toInt ≤ 9) (h4 : n = 4 → (0 ≤ which.toInt ∧ which.toInt ≤ 3) ∧ (-1 ≤ v.toInt ∧ v.toInt < (o_pol M).length) ∧ C = [] ∧ (0 ≤ v.toInt → ¬ m_within (o_pol M) (o_tel M) (o_now M) who v.toInt.toNat))
    (ht : aW n t' ≤ aW n t) : IQ M n t (m_tellA M fnd n most a t' who which v C ans) := by
  unfold m_tellA
  refine q_ite (Q := IQ M n t) (fun _ => iq_same h) (fun hcnt => ?_)
  obtain ⟨⟨⟨⟨wP, wT, wL, wC⟩, wH, m0, m1, m2⟩, hp, h60, hh⟩, -, pl, cl⟩ := id h
  obtain ⟨t1, t2, t3, t4, t5, t6, t7, t8, t9⟩ := wT
  have one : (1 : Int32).toInt = 1 := by decide
  have en : (o_now M + 1).toInt = (o_now M).toInt + 1 := by rw [i32add (by rw [one]; omega) (by rw [one]; omega), one]
  have nk : ∀ k : Nat, k < 100 → (Int32.ofNat n = Int32.ofNat k ↔ n = k) := fun k hk => n32i (by omega) (by omega)
  have hx : (tlA (o_tel M) (Int32.ofNat n)).length ≠ most := hcnt
  have mem : ∀ {Q : mTell → Prop}, (∀ s ∈ o_tel M, Q s) → Q (Int32.ofNat n, who, which, o_now M + 1, v, C) → ∀ s ∈ o_tel M ++ [(Int32.ofNat n, who, which, o_now M + 1, v, C)], Q s := by
    intro Q q1 q2 s hs
    rcases List.mem_append.mp hs with hs | hs
    · exact q1 s hs
    · rw [List.mem_singleton.mp hs]; exact q2
  have cnt : ∀ k m : Nat, k < 100 → (n = k → most = m) → (tlA (o_tel M) (Int32.ofNat k)).length ≤ m → (tlA (o_tel M ++ [(Int32.ofNat n, who, which, o_now M + 1, v, C)]) (Int32.ofNat k)).length ≤ m := by
    intro k m hk hm hle
    rw [tlA_snoc]
    by_cases q : n = k
    · have := hm q
      subst q
      rw [if_pos rfl]
      omega
    · have q' : ¬ (((Int32.ofNat n, who, which, o_now M + 1, v, C) : mTell).1 = Int32.ofNat k) := fun z => q ((nk k hk).mp z)
      rw [if_neg q']
      omega
  refine done_q (M' := m_setTel M (o_tel M ++ [(Int32.ofNat n, who, which, o_now M + 1, v, C)])) h hnow rfl rfl rfl rfl hp ⟨wP, ⟨mem t1 ⟨hw, fun z => hw2 ((nk 2 (by decide)).mp z)⟩, mem t2 (fun z => (h4 ((nk 4 (by decide)).mp z)).2.1), ?_, cnt 2 60 (by decide) (by omega) t4, cnt 4 200 (by decide) (by omega) t5, cnt 5 300 (by decide) (by omega) t6, cnt 6 150 (by decide) (by omega) t7, cnt 7 150 (by decide) (by omega) t8, mem t9 ?_⟩, wL, wC⟩ (fun s hs => ?_) (fun c hc => Or.inl hc) ht
  · by_cases q : n = 4
    · subst q
      obtain ⟨-, -, rfl, q4⟩ := h4 rfl
      exact ac_tell t3 pl m2 en q4
    · intro at'
      obtain ⟨r, hr⟩ := t3 at'
      refine ⟨r, fun x pl' y h6 hy => hr x pl' y h6 ?_⟩
      have hy : m_part (o_tel M ++ [(Int32.ofNat n, who, which, o_now M + 1, v, C)]) x pl' at' = some y := hy
      rw [part_snoc] at hy
      · exact hy
      · unfold m_tq
        have : decide (Int32.ofNat n = 4) = false := decide_eq_false (fun z => q ((nk 4 (by decide)).mp z))
        show (decide (Int32.ofNat n = 4) && _) = false
        rw [this, Bool.false_and]
  · refine ⟨fun z => hwh ?_, hC.1, fun z => h5 ((nk 5 (by decide)).mp z), fun z => h7 ((nk 7 (by decide)).mp z), fun z => h2 ((nk 2 (by decide)).mp z), fun c hc => (hC.2.2 c hc).1⟩
    rcases z with z | z
    · exact Or.inl ((nk 6 (by decide)).mp z)
    · exact Or.inr ((nk 7 (by decide)).mp z)
  · rcases List.mem_append.mp hs with hs | hs
    · exact Or.inl hs
    · rw [List.mem_singleton.mp hs]
      exact Or.inr ⟨rfl, fun z => (h4 ((nk 4 (by decide)).mp z)).1, hC⟩
/-! losses -/
def LsX (Ls Ls' : List mLoss) : Prop := ∀ (i : Nat) (l : mLoss), Ls[i]? = some l → ∃ l' : mLoss, Ls'[i]? = some l' ∧ l'.2.2.1 = l.2.2.1 ∧ l'.2.1 = l.2.1 ∧ l.2.2.2.2.2.length ≤ l'.2.2.2.2.2.length
theorem lsx_eq {Ls Ls' : List mLoss} (hw : WfL Ls) (hx : LsX Ls Ls') : ∀ (f i : Nat), i < Ls.length → m_parts5 Ls' f i = m_parts5 Ls f i ∧ m_root Ls' f i = m_root Ls f i := by
  intro f
  induction f with
  | zero => intro i _; exact ⟨rfl, rfl⟩
  | succ f ih =>
    intro i hi
    have hg := getD_some mLoss0 hi
    obtain ⟨l', e1, e2, -, -⟩ := hx i _ hg
    have hd := (hw i _ hg).2.1
    rw [m_parts5, m_parts5, m_root, m_root, getD_of mLoss0 e1, e2]
    cases hwh : (Ls.getD i mLoss0).2.2.1 with
    | none => exact ⟨rfl, rfl⟩
    | some u =>
      have hu := hd u hwh
      have := ih u (by omega)
      exact ⟨by simp only [this.1], by simp only [this.2]⟩
theorem cas_x {P : List mPol} {Ls Ls' : List mLoss} {c : mCase} (hw : WfL Ls) (hx : LsX Ls Ls') (h : WfCas P Ls c) : WfCas P Ls' c := by
  obtain ⟨c1, c2, c3, c4, c5, c6, c7⟩ := h
  have hg := getD_some mLoss0 c2
  obtain ⟨l', e1, e2, e3, -⟩ := hx _ _ hg
  have hb : m_base Ls' c.2.2.1 = m_base Ls c.2.2.1 := (lsx_eq hw hx 4 _ c2).2
  have hlt : m_base Ls c.2.2.1 < Ls.length := by
    have := root_lt hw 4 c.2.2.1 c2
    unfold m_base
    omega
  have hg2 := getD_some mLoss0 hlt
  obtain ⟨l2, f1, -, -, f4⟩ := hx _ _ hg2
  refine ⟨c1, lt_of_get e1, ?_, c4, c5, c6, fun f hf h16 => ?_⟩
  · show (Ls'.getD c.2.2.1 mLoss0).2.1.toInt ≤ _
    rw [getD_of mLoss0 e1, e3]
    exact c3
  · have := c7 f hf h16
    rw [hb]
    unfold m_items at this ⊢
    rw [getD_of mLoss0 f1]
    omega
theorem parts_le {Ls : List mLoss} : ∀ (f i : Nat), m_parts5 Ls f i ≤ f
  | 0, i => Nat.le_refl _
  | f + 1, i => by
    rw [m_parts5]
    split
    · omega
    · have := parts_le (Ls := Ls) f (by assumption)
      omega
theorem lsx_app {Ls : List mLoss} {l : mLoss} : LsX Ls (Ls ++ [l]) := fun i x hx => ⟨x, by rw [List.getElem?_append_left (lt_of_get hx)]; exact hx, rfl, rfl, Nat.le_refl _⟩
theorem loss_q {kind day hund : Int32} {wh : Option Nat} (h : InvM M) (hnow : (o_now M).toInt ≤ 2000000000) (h5 : kind = 5 ↔ wh ≠ none) (hk : 0 ≤ kind.toInt ∧ kind.toInt ≤ 5) (hd : 0 ≤ day.toInt ∧ day.toInt ≤ 10949) (hh : 0 ≤ hund.toInt ∧ hund.toInt ≤ 100) (hu : ∀ u, wh = some u → u < (o_los M).length ∧ m_parts5 (o_los M) 4 u ≠ 4) (ht : aW n [] ≤ aW n t) : IQ M n t (m_addLoss M fnd n a kind day wh hund) := by
  unfold m_addLoss
  refine q_ite (Q := IQ M n t) (fun _ => iq_same h) (fun hcnt => ?_)
  obtain ⟨⟨⟨⟨wP, wT, wL, wC⟩, wH, m0, m1, m2⟩, hp, h60, hh2⟩, -, pl, cl⟩ := id h
  obtain ⟨l1, l2, l3⟩ := wL
  have X : LsX (o_los M) (o_los M ++ [(kind, day, wh, hund, false, [])]) := lsx_app
  refine done_q (M' := m_setLos M (o_los M ++ [(kind, day, wh, hund, false, [])])) h hnow rfl rfl rfl rfl hp ⟨wP, wT, ⟨?_, fun i l hi => ?_, fun l hl => ?_⟩, wC.1, fun c hc => cas_x l2 X (wC.2 c hc)⟩ (fun s hs => Or.inl hs) (fun c hc => Or.inl hc) ht
  · show (o_los M ++ [_]).length ≤ 200
    rw [len_app]
    omega
  · have hi : (o_los M ++ [(kind, day, wh, hund, false, [])])[i]? = some l := hi
    rcases get_app hi with q | ⟨rfl, rfl⟩
    · have := l2 i l q
      refine ⟨this.1, this.2.1, ?_, this.2.2.2⟩
      show m_parts5 (o_los M ++ [_]) 5 i ≤ 4
      rw [(lsx_eq l2 X 5 i (lt_of_get q)).1]
      exact this.2.2.1
    · refine ⟨h5, fun u hu' => (hu u hu').1, ?_, by show 0 ≤ 6; omega⟩
      show m_parts5 (o_los M ++ [_]) 5 (o_los M).length ≤ 4
      rw [m_parts5, getD_of mLoss0 hi]
      show (match wh with | none => 0 | some u => m_parts5 (o_los M ++ [_]) 4 u + 1) ≤ 4
      cases wh with
      | none => simp
      | some u =>
        have := hu u rfl
        have e := (lsx_eq l2 X 4 u this.1).1
        have b := parts_le (Ls := o_los M) 4 u
        show m_parts5 (o_los M ++ [_]) 4 u + 1 ≤ 4
        rw [e]
        omega
  · rcases List.mem_append.mp hl with q | q
    · exact l3 l q
    · rw [List.mem_singleton.mp q]
      exact ⟨hk.1, hk.2, hd.1, hd.2, hh.1, hh.2, fun _ => rfl, fun x hx => absurd hx (by simp)⟩
theorem los_mod {k : Nat} {g : mLoss → mLoss} {Ls : List mLoss} (w : WfLL Ls) (g1 : ∀ l, (g l).1 = l.1 ∧ (g l).2.1 = l.2.1 ∧ (g l).2.2.1 = l.2.2.1 ∧ (g l).2.2.2.1 = l.2.2.2.1 ∧ l.2.2.2.2.2.length ≤ (g l).2.2.2.2.2.length) (g2 : ∀ l, Ls[k]? = some l → (g l).2.2.2.2.2.length ≤ 6 ∧ WfLoss (g l)) : WfLL (Ls.modify k g) ∧ LsX Ls (Ls.modify k g) := by
  obtain ⟨l1, l2, l3⟩ := w
  have X : LsX Ls (Ls.modify k g) := by
    intro i l hi
    by_cases hk : k = i
    · subst hk
      refine ⟨g l, by rw [List.getElem?_modify_eq, hi]; rfl, (g1 l).2.2.1, (g1 l).2.1, (g1 l).2.2.2.2⟩
    · exact ⟨l, by rw [List.getElem?_modify, hi]; simp [hk], rfl, rfl, Nat.le_refl _⟩
  refine ⟨⟨by rw [List.length_modify]; exact l1, fun i l hi => ?_, fun l hl => ?_⟩, X⟩
  · rcases get_mod hi with ⟨rfl, y, y1, rfl⟩ | ⟨-, q⟩
    · have := l2 i y y1
      rw [(g1 y).1, (g1 y).2.2.1, (lsx_eq l2 X 5 i (lt_of_get y1)).1]
      exact ⟨this.1, this.2.1, this.2.2.1, (g2 y y1).1⟩
    · have := l2 i l q
      rw [(lsx_eq l2 X 5 i (lt_of_get q)).1]
      exact this
  · obtain ⟨i, hi⟩ := List.getElem?_of_mem hl
    rcases get_mod hi with ⟨rfl, y, y1, rfl⟩ | ⟨-, q⟩
    · exact (g2 y y1).2
    · exact l3 l (List.mem_of_getElem? q)
end
