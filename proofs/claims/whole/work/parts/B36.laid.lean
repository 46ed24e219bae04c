/-! THE CLASS: the cases that are laid, one after another -/
def RsR (isY : Bool) (left rest : Int64) (k : Nat) : Prop := (isY = true → rest = left ∧ 0 ≤ left.toInt) ∧ (isY = false → 4611686018427387904 - 6000000000000 * (k : Int) ≤ rest.toInt ∧ rest.toInt ≤ 4611686018427387904)
theorem rs_step {isY : Bool} {left rest own bro : Int64} {k : Nat} (hk : k < 100) (hb : 0 ≤ bro.toInt ∧ bro.toInt ≤ 6000000000000) (h0 : 0 ≤ own.toInt) (R : RsR isY left rest k) {g by' : Int64} (hg : g = m_least bro own) (hby : by' = (if isY = true ∧ left < bro - g then bro - g - left else 0)) : (if bro - g - rest < 0 then 0 else bro - g - rest) = by' ∧ 0 ≤ (own - g).toInt ∧ RsR isY (left - (bro - g - by')) (rest - (bro - g - by')) (k + 1) := by
  have z0 : (0 : Int64).toInt = 0 := by decide
  have hgi : g.toInt = min bro.toInt own.toInt := by rw [hg]; exact least_int
  have ho := r64 own
  have e1 : (bro - g).toInt = bro.toInt - g.toInt := i64sub (by omega) (by omega)
  have e2 : 0 ≤ (own - g).toInt := by rw [i64sub (by omega) (by omega)]; omega
  cases isY with
  | true =>
    obtain ⟨rl, l0⟩ := R.1 rfl
    subst rl
    have hl := r64 rest
    rw [max_less (by omega) (by omega) l0]
    by_cases h : rest < bro - g
    · rw [if_pos ⟨rfl, h⟩] at hby
      rw [if_pos h]
      rw [i64lt, e1] at h
      have e3 : (bro - g - rest).toInt = bro.toInt - g.toInt - rest.toInt := by rw [i64sub (by omega) (by omega), e1]
      have e4 : (bro - g - by').toInt = rest.toInt := by rw [hby, i64sub (by omega) (by omega)]; omega
      exact ⟨hby.symm, e2, fun _ => ⟨rfl, by rw [i64sub (by omega) (by omega)]; omega⟩, fun z => absurd z (by decide)⟩
    · rw [if_neg (fun z => h z.2)] at hby
      rw [if_neg h]
      rw [i64lt, e1] at h
      refine ⟨hby.symm, e2, fun _ => ⟨rfl, ?_⟩, fun z => absurd z (by decide)⟩
      rw [hby, Int64.sub_zero, i64sub (by omega) (by omega)]
      omega
  | false =>
    obtain ⟨r0, r1⟩ := R.2 rfl
    rw [if_neg (fun z => absurd z.1 (by decide))] at hby
    have e3 : (bro - g - rest).toInt = bro.toInt - g.toInt - rest.toInt := by rw [i64sub (by omega) (by omega), e1]
    refine ⟨?_, e2, fun z => absurd z (by decide), fun _ => ?_⟩
    · rw [if_pos (by rw [i64lt, z0]; omega), hby]
    · rw [hby, Int64.sub_zero, i64sub (by omega) (by omega)]
      omega
section
variable {P : List mPol} {T : List mTell} {Ls : List mLoss} {Cs : List mCase} {day at' : Int32}
theorem met_cons {mine k : Nat} {l : List Nat} {m : Int32} : m + (if k ≠ mine ∧ (m_begin P T Ls (Cs.getD k mCase0) day at').2.2.1 ≠ 0 then 1 else 0) + Int32.ofNat (m_met P T Ls Cs day at' mine l) = m + Int32.ofNat (m_met P T Ls Cs day at' mine (k :: l)) := by
  unfold m_met
  rw [List.filter_cons]
  by_cases h : k ≠ mine ∧ (m_begin P T Ls (Cs.getD k mCase0) day at').2.2.1 ≠ 0
  · rw [if_pos h, if_pos (by rw [Bool.and_eq_true]; exact ⟨decide_eq_true h.1, decide_eq_true h.2⟩), List.length_cons, ← n32s, Int32.add_assoc, Int32.add_comm 1]
  · rw [if_neg h, if_neg (by intro z; rw [Bool.and_eq_true] at z; exact h ⟨of_decide_eq_true z.1, of_decide_eq_true z.2⟩), Int32.add_zero]
end
section
variable {nl : Bool} {Ln : Nat} {xs : Nat → Int32} {d : Nat} {σ σ1 : am_S} {w : ow_T} {v b : Nat} {P : List mPol} {T : List mTell} {Ls : List mLoss} {Cs : List mCase} {i : Nat} {x : mCase} {cc lc : Nat} {day at' : Int32} {C : List mCl} {p pc : Nat} {q : mPol} {hd : Option Nat} {sum worth s : Int64} {rows : List mRow} {tr : List Int32} {fnd : Int32} {ov : Bool}
theorem wo_apart {σ σ1 : am_S} (X : WkX σ w 1008 1027 v b P T Ls Cs i x cc lc day at' C p pc q hd sum worth s rows tr fnd ov) (hv : v = 1022 ∨ v = 1048) (r : WoC 1009 1015 1010 σ σ1) : WkX σ1 w 1008 1027 v b P T Ls Cs i x cc lc day at' C p pc q hd sum worth s rows tr fnd ov := by
  have m : ∀ c, (c = 1008 ∨ (1027 ≤ c ∧ c ≤ 1027 + 6) ∨ (v ≤ c ∧ c ≤ v + 4)) → am_eqc σ σ1 c := fun c hc => r.mine ⟨rfl, rfl, hv, rfl, rfl, rfl⟩ (by decide) (by decide) hc
  exact X.keep r.kd (m _ (Or.inl rfl)) (m _ (by omega)) (fun j hj => m _ (by omega)) ((SeC.of2 (v := v) r (by decide) (by decide) (by decide) (by decide)).frB hv X.1.1.2.2.2.2.2.2.1 X.1.1.2.2.2.2.2.1.1.2.2.1)
theorem se_loop {ord : List Nat} {key : Nat → Int32} {isY : Bool} {x1 x2 : Option Nat} {x3 x4 : Int32} {F : am_S → Prop} (hw : WfD P T Ls Cs) (hT : ∀ p, ∀ c ∈ m_cls T p at', WfCl c ∧ ∀ f, c.2.2 = some f → hgt f ≤ 400 ∧ ndep f ≤ 64) (hs : 0 ≤ s.toInt ∧ s.toInt ≤ 6000000000000) (hord : ∀ y ∈ ord, y < Cs.length) (hlen : ord.length ≤ 100) (hv : v = 1022 ∨ v = 1048) :
    ∀ (l : List Nat) (k : Nat) (own rest left : Int64) (z : Int64 × Int64) (σ : am_S) (x15 x16 x17 x18 x19 x20 x21 : Option Value), ord.drop k = l → k + l.length = ord.length → WkX σ w 1008 1027 v b P T Ls Cs i x cc lc day at' C p pc q hd sum worth s rows tr 0 false → WkI σ w 1009 1015 1010 b P T Ls Cs → am_fR σ 2000 1008 = some 1009 → LyW σ 1027 key ord → 0 ≤ own.toInt → RsR isY left rest k →
    (∀ σ' own' rest' k' y15 y16 y17 y18 y19 y20 y21, WkX σ' w 1008 1027 v b P T Ls Cs i x cc lc day at' C p pc q hd sum worth s rows tr 0 false → am_fI σ' 2001 1008 = am_fI σ 2001 1008 + Int32.ofNat (m_met P T Ls Cs day at' i l) → SeC v σ σ' → c_Wk_settle_309 nl Ln xs (d + 414) 1008 x1 x2 x3 x4 own' rest' (Int32.ofNat ord.length) (m_laid (m_brings P T Ls Cs day at' i s) i isY own left z l).1 (m_laid (m_brings P T Ls Cs day at' i s) i isY own left z l).2 k' y15 y16 y17 y18 y19 y20 y21 σ' F) →
    c_Wk_settle_104 nl Ln xs (d + 414) 1008 x1 x2 x3 x4 own rest (Int32.ofNat ord.length) z.1 z.2 (Int32.ofNat k) x15 x16 x17 x18 x19 x20 x21 σ F := by
  intro l
  induction l with
  | nil =>
    intro k own rest left z σ x15 x16 x17 x18 x19 x20 x21 hd0 hk X I h20 hL ho R K
    rw [List.length_nil] at hk
    refine w_Wk_settle_104 ⟨fun g => absurd ((n32lt (by omega) (by omega)).mp g) (by omega), fun _ => ?_⟩
    exact K σ _ _ _ _ _ _ _ _ _ _ X (by rw [show m_met P T Ls Cs day at' i [] = 0 from rfl]; exact (Int32.add_zero _).symm) SeC.rf
  | cons y l ih =>
    intro k own rest left z σ x15 x16 x17 x18 x19 x20 x21 hd0 hk X I h20 hL ho R K
    rw [List.length_cons] at hk
    have hy : ord[k]? = some y := by
      have : (ord.drop k)[0]? = some y := by rw [hd0]; rfl
      rw [List.getElem?_drop, Nat.add_zero] at this
      exact this
    have hd1 : ord.drop (k + 1) = l := by
      have : (ord.drop k).drop 1 = l := by rw [hd0]; rfl
      rw [List.drop_drop] at this
      exact this
    have hyc : y < Cs.length := hord y (List.mem_of_getElem? hy)
    have h100 := hw.c100
    have hgy := getD_some mCase0 hyc
    obtain ⟨cy, pcy, lcy, py, ly, c1, c2, -⟩ := X.1.1.2.2.2.2.2.1.case hw hgy
    have hcas := X.cas
    have hi := X.1.2.2.1.2.1
    have hsame : cy = cc ↔ y = i := by
      constructor
      · intro h
        have h1 := c2.1.1
        rw [h, hcas.1.1] at h1
        have := congrArg Prod.snd h1
        simp at this
        omega
      · intro h
        subst h
        exact Option.some.inj (c1.symm.trans X.1.2.2.1.2.2)
    obtain ⟨⟨-, f15, -⟩, -, k2, -⟩ := X.1.2.2.2.2
    have vy := (hL k y hy).1
    have bk : 0 ≤ (Int32.ofNat k).toInt ∧ (Int32.ofNat k).toInt < 100 := by rw [n32 (by omega)]; omega
    have by0 : 0 ≤ (Int32.ofNat y).toInt ∧ (Int32.ofNat y).toInt < 100 := by rw [n32 (by omega)]; omega
    have hB := X.1.1.2.2.2.2.2.1
    have A6 := hB.1.2.2.2.2.2.2.1
    have hbr := begin_rng (day := day) (at' := at') hw hgy
    have hbro : 0 ≤ (m_brings P T Ls Cs day at' i s y).toInt ∧ (m_brings P T Ls Cs day at' i s y).toInt ≤ 6000000000000 := by
      unfold m_brings
      by_cases h : y = i
      · rw [if_pos h]; exact hs
      · rw [if_neg h]; exact ⟨hbr.1, hbr.2.1⟩
    -- what goes on, once what it brings is known
    have go : ∀ (σ1 : am_S) (bro : Int64) (y18 y19 y20 y21 : Option Value), WkX σ1 w 1008 1027 v b P T Ls Cs i x cc lc day at' C p pc q hd sum worth s rows tr 0 false → WkI σ1 w 1009 1015 1010 b P T Ls Cs → am_fR σ1 2000 1008 = some 1009 → LyW σ1 1027 key ord → SeC v σ σ1 → am_fI σ1 2001 1008 = am_fI σ 2001 1008 + (if y ≠ i ∧ (m_begin P T Ls (Cs.getD y mCase0) day at').2.2.1 ≠ 0 then 1 else 0) → bro = m_brings P T Ls Cs day at' i s y → c_Wk_settle_224 nl Ln xs (d + 414) 1008 x1 x2 x3 x4 own rest (Int32.ofNat ord.length) z.1 z.2 (Int32.ofNat k) (some cy) bro y18 y19 y20 y21 σ1 F := by
      intro σ1 bro y18 y19 y20 y21 X1 I1 h1 L1 r1 hm hb
      rw [← hb] at hbro
      refine w_Wk_settle_224 (w_Math_min ?_)
      rw [min_least]
      intro g hg _
      refine w_Math_max ?_
      intro by1 hb1 _
      obtain ⟨by', hby⟩ : ∃ by', by' = (if isY = true ∧ left < bro - g then bro - g - left else 0) := ⟨_, rfl⟩
      obtain ⟨s1, s2, s3⟩ := rs_step (by omega) hbro ho R hg hby
      have hb1 : by1 = by' := hb1.trans s1
      subst hb1
      rintro v5 rfl v7 rfl
      rw [X1.1.2.2.1.1]
      refine ⟨is_mk X1.1.1.2.2.1, hi_some c2.2.1, hi_some hcas.2.1, ?_⟩
      intro w14 e14
      refine ⟨hi_some c2.2.1, hi_some hcas.2.1, ?_⟩
      intro w20 e20
      have ez : (w14, w20) = (if y = i then (g, by1) else z) := by
        by_cases h : y = i
        · rw [if_pos h, e14, e20, if_pos (by rw [hsame.mpr h]), if_pos (by rw [hsame.mpr h])]
        · rw [if_neg h, e14, e20, if_neg (fun t => h (hsame.mp (Option.some.inj t))), if_neg (fun t => h (hsame.mp (Option.some.inj t)))]
      rw [n32s]
      refine ih (k + 1) (own - g) (rest - (bro - g - by1)) (left - (bro - g - by1)) (w14, w20) σ1 _ _ _ _ _ _ _ hd1 (by omega) X1 I1 h1 L1 s2 s3 (fun σ' own' rest' k' y15 y16 y17 y18 y19 y20 y21 X' hm' r' => ?_)
      have := K σ' own' rest' k' y15 y16 y17 y18 y19 y20 y21 X' (by rw [hm', hm]; exact met_cons) (r1.trans r')
      rw [m_laid, ← hb] at this
      dsimp only at this
      rw [← hg, ← hby, ← ez] at this
      exact this
    refine w_Wk_settle_104 ⟨fun _ => ⟨is_mk X.1.1.2.2.1, ?_⟩, fun g => absurd ((n32lt (by omega) (by omega)).mpr (by omega)) g⟩
    rw [h20, X.1.2.1, f15, Option.getD_some, Option.getD_some, n32c (show k < 2147483648 by omega), vy, n32c (show y < 2147483648 by omega), A6.1]
    refine ⟨fun h => absurd h (by simp), fun _ => ⟨is_mk hB.1.2.1, ar_mk k2 bk.1 bk.2, ar_mk A6.2.2 by0.1 by0.2, ?_⟩⟩
    rw [Option.getD_some, c1]
    rintro v7 rfl v9 e9
    rw [X.1.2.2.1.1, X.1.2.2.2.1.1, X.1.2.2.2.1.2.1]
    refine ⟨hi_some c2.2.1, hi_some hcas.2.1, fun h => ?_, fun h => ⟨is_mk I.2.2.1, ?_⟩⟩
    · have hyi := hsame.mp (Option.some.inj h)
      refine go σ v9 _ _ _ _ X I h20 hL SeC.rf ?_ ?_
      · rw [if_neg (fun t => t.1 hyi)]
        exact (Int32.add_zero _).symm
      · rw [e9, X.1.2.2.2.1.2.2]
        unfold m_brings
        rw [if_pos hyi]
    · have hyi : ¬ y = i := fun t => h (by rw [hsame.mpr t])
      rw [Option.getD_some]
      refine wk_work (d := d) hw hT I hgy c1 (fun s15 lc' R15 r15 _ => ?_)
      have X15 := wo_apart X hv r15
      have q15 : SeC v σ s15 := SeC.of2 r15 (by decide) (by decide) (by decide) (by decide)
      have I15 := I.se q15 hv
      have h15 := (q15.fR (by decide) (by decide)).trans h20
      have L15 : LyW s15 1027 key ord := by
        intro a c hc
        have m : ∀ c, (1027 ≤ c ∧ c ≤ 1027 + 6) → am_eqc σ s15 c := fun c hc => r15.mine (wk := 1008) (ab := 1027) (v := v) ⟨rfl, rfl, hv, rfl, rfl, rfl⟩ (by decide) (by decide) (Or.inr (Or.inl hc))
        rw [(m (1027 + 2) (by omega)).aI, (m (1027 + 3) (by omega)).aI]
        exact hL a c hc
      rw [h15, Option.getD_some, I15.2.2.2.1, Option.getD_some]
      obtain ⟨s', ov', B', z1, z2⟩ := R15
      have V' := B'.1.2.2.2.2.1
      rw [V'.2.2.2.1]
      refine ⟨is_mk I15.2.2.1, is_mk V'.1.1, w_Wk_settle_194 ⟨is_mk X15.1.1.2.2.1, ?_⟩⟩
      rw [Option.getD_some]
      intro s2 q2
      have r2 : Wc 1008 1027 v [2001] [] [] [] s15 s2 := by rw [q2]; exact Wc.sfI (by decide)
      have t2 : SeC v s15 s2 := SeC.of1 r2 (by decide) (by simp) (by simp) (by simp)
      have X2 := X15.wc r2 (by decide) (by simp) (by simp) (by simp) (X15.1.1.2.2.2.2.1.wc r2 X15.1.1.1 (by decide) (by simp)) ((r2.fL (by decide) (by simp)).trans X15.1.2.2.2.1.2.2) ((r2.fL (by decide) (by simp)).trans X15.2.2.2.2)
      have h22 := (t2.fR (by decide) (by decide)).trans h15
      have I2 := I15.se t2 hv
      rw [h22, Option.getD_some, I2.2.2.2.1, Option.getD_some]
      have e7 : am_fI s2 3007 1010 = b2i ov' := (r2.fI (by decide) (by simp)).trans V'.2.2.2.2
      have e11 : am_fL s2 2011 1009 = s' := (r2.fL (by decide) (by simp)).trans B'.2.2.2.1.2.2
      rw [e7, e11]
      refine ⟨is_mk X2.1.1.2.2.1, is_mk I2.2.2.1, is_mk I2.2.2.2.2.1.1, ?_⟩
      intro w10 e10
      refine w_Wk_settle_222 (go s2 w10 _ _ _ _ X2 I2 h22 (fun a c hc => ?_) (q15.trans t2) ?_ ?_)
      · rw [(r2.2.2.2.2 (1027 + 2) (by simp) (by simp) a).1, (r2.2.2.2.2 (1027 + 3) (by simp) (by simp) a).1]
        exact L15 a c hc
      · rw [q2, rI_same, (r15.2.2.2.1 2001 1008 (by simp) (by simp)).1]
        by_cases h0 : (m_begin P T Ls (Cs.getD y mCase0) day at').2.2.1 = 0
        · rw [if_neg (fun t => t h0), if_neg (fun t => t.2 h0)]
        · rw [if_pos h0, if_pos ⟨hyi, h0⟩]
      · rw [e10]
        unfold m_brings
        rw [if_neg hyi]
        have hov := begin_ovr (P := P) (T := T) (Ls := Ls) (x := Cs.getD y mCase0) (day := day) (at' := at')
        by_cases h0 : (m_begin P T Ls (Cs.getD y mCase0) day at').2.2.1 = 0
        · obtain ⟨o1, o2, -⟩ := z2 h0
          cases hov' : ov' with
          | true =>
            rw [if_neg (by decide)]
            exact (hov (Or.inr (by rw [← o1]; exact hov'))).symm
          | false =>
            rw [if_pos (by decide)]
            exact o2
        · rw [z1 h0, if_neg (by decide)]
          exact (hov (Or.inl h0)).symm
end
