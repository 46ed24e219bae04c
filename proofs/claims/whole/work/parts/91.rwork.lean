/-! WORKING OUT, by the reference: what is behind, days, work -/
section
variable {nl : Bool} {Ln : Nat} {xs : Nat → Int32} {d : Nat} {σ : am_S} {o : Nat} {P : List mPol} {T : List mTell} {Ls : List mLoss} {Cs : List mCase} {i : Nat} {c : mCase} {day at' : Int32} {lk : Bool} {p : Nat} {st : Option Nat} {nf fnd : Int32} {ends : Bool} {s worth : Int64} {rows : List mRow} {tr : List Int32}
theorem r_summed {act : Int32} {F : Int64 → am_S → Prop} (w : WfD P T Ls Cs) (E : Ev σ o P T Ls Cs i c day at' lk rows tr) (K : F (m_summed c.2.2.2.2.2 act day at') σ) : k_Ro_summed nl Ln xs (d + 2) o act σ F := by
  have hi := E.2.1
  have hK := E.1.k
  have hC := E.1.cas
  have hc100 := w.c100
  have h40 := (w.c hi).2.2.2.2.1.1
  have e68 := E.2.2.1
  have e72 := E.2.2.2.2.1
  have e73 := E.2.2.2.2.2.1
  have hlt := lt_of_get hi
  have b : 0 ≤ (Int32.ofNat i).toInt ∧ (Int32.ofNat i).toInt < 100 := by rw [n32 (by omega)]; omega
  have vn : am_aI σ (o + 41) i = Int32.ofNat c.2.2.2.2.2.length := hC.2.2.2.2.2.2.1 i _ hi
  have fac := hC.2.2.2.2.2.2.2 i c hi
  have loop : ∀ (j k : Nat) (acc : Int64), k + j = c.2.2.2.2.2.length → F (acc + m_sumf (fun f => decide (f.1 = act) && m_counts f day at') m_fc (c.2.2.2.2.2.drop k)) σ → c_Ro_summed_11 nl Ln xs (d + 2) o act acc (Int32.ofNat (40 * i + k)) σ F := by
    intro j
    induction j with
    | zero =>
      intro k acc hk K
      refine w_Ro_summed_11 ?_
      rw [e68, oG_13051 hK, n32c (by omega), vn, i40, n32lt (by omega) (by omega)]
      refine ⟨is_mk hK.2.1, oA_13051 hK b.1 b.2, fun q => absurd q (by omega), fun _ => ?_⟩
      rw [List.drop_eq_nil_of_le (by omega), m_sumf, Int64.add_zero] at K
      exact K
    | succ j ih =>
      intro k acc hk K
      obtain ⟨f, hg⟩ := get_ex (show k < c.2.2.2.2.2.length by omega)
      have bk : 0 ≤ (Int32.ofNat (40 * i + k)).toInt ∧ (Int32.ofNat (40 * i + k)).toInt < 4000 := by rw [n32 (by omega)]; omega
      have nk : (Int32.ofNat (40 * i + k)).toNatClampNeg = 40 * i + k := n32c (by omega)
      obtain ⟨f1, f2, f3, f4, f5, f6, f7, f8⟩ := fac k _ hg
      rw [drop_get hg, m_sumf] at K
      refine w_Ro_summed_11 ?_
      rw [e68, oG_13051 hK, n32c (show i < 2147483648 by omega), vn, i40, n32lt (by omega) (by omega), oG_13052 hK, nk, f1, e72, e73]
      refine ⟨is_mk hK.2.1, oA_13051 hK b.1 b.2, fun _ => ⟨oA_13052 hK bk.1 bk.2, fun ha => ?_, fun ha => ?_⟩, fun q => absurd (by omega) q⟩
      · refine r_counts hK hC hi hg (by omega) (fun _ => ⟨fun _ => oA_13058 hK bk.1 bk.2, fun w11 e11 v13 e13 => ?_⟩)
        rw [n32s]
        refine ih (k + 1) v13 (by omega) ?_
        have e : v13 = acc + (if (decide (f.1 = act) && m_counts f day at') = true then m_fc f else 0) := by
          rw [e13, e11, oG_13058 hK, f7]
          by_cases h : m_counts f day at' = true <;> simp [h, ha]
        rw [e, Int64.add_assoc]
        exact K
      · intro v15 e15
        rw [n32s]
        refine ih (k + 1) v15 (by omega) ?_
        have e : v15 = acc + (if (decide (f.1 = act) && m_counts f day at') = true then m_fc f else 0) := by
          rw [e15]
          simp [ha]
        rw [e, Int64.add_assoc]
        exact K
  refine w_Ro_summed ⟨is_mk hK.2.1, ?_⟩
  rw [e68, i40']
  rintro v2 rfl
  exact loop c.2.2.2.2.2.length 0 0 (by omega) (by rw [Int64.zero_add]; exact K)
theorem r_owedDays {F : Int64 → am_S → Prop} (w : WfD P T Ls Cs) (E : Ev σ o P T Ls Cs i c day at' lk rows tr) (hs : am_fL σ 13077 o = s) (hd1 : day.toInt ≤ 10949) (K : F (m_days2 s day at' 0 c.2.2.2.1 c.2.2.2.2.2) σ) : k_Ro_owedDays nl Ln xs (d + 2) o σ F := by
  have hi := E.2.1
  have hK := E.1.k
  have hC := E.1.cas
  have hc100 := w.c100
  have h40 := (w.c hi).2.2.2.2.1.1
  have e68 := E.2.2.1
  have e72 := E.2.2.2.2.1
  have e73 := E.2.2.2.2.2.1
  have hlt := lt_of_get hi
  have b : 0 ≤ (Int32.ofNat i).toInt ∧ (Int32.ofNat i).toInt < 100 := by rw [n32 (by omega)]; omega
  have vn : am_aI σ (o + 41) i = Int32.ofNat c.2.2.2.2.2.length := hC.2.2.2.2.2.2.1 i _ hi
  have fac := hC.2.2.2.2.2.2.2 i c hi
  have one : (1 : Int32).toInt = 1 := by decide
  have hF := (w.c hi).2.2.2.2.1
  have hFd := (w.c hi).2.2.2.2.2.1
  have v39 : am_aI σ (o + 39) i = c.2.2.2.1 := hC.2.2.2.2.1 i _ hi
  have loop : ∀ (j k : Nat) (x1 x3 : Int64) (x5 : Int32) (x7 : Option Value), k + j = c.2.2.2.2.2.length → (∀ f ∈ c.2.2.2.2.2.drop k, m_counts f day at' = true → x5.toInt ≤ f.2.1.toInt + 1 ∧ x5.toInt ≤ day.toInt) → F (x1 + m_days2 s day at' x3 x5 (c.2.2.2.2.2.drop k)) σ → c_Ro_owedDays_24 nl Ln xs (d + 2) o x1 x3 x5 (Int32.ofNat (40 * i + k)) x7 σ F := by
    intro j
    induction j with
    | zero =>
      intro k x1 x3 x5 x7 hk hord K
      refine w_Ro_owedDays_24 ?_
      rw [e68, oG_13051 hK, n32c (by omega), vn, i40, n32lt (by omega) (by omega), hs, e72]
      refine ⟨is_mk hK.2.1, oA_13051 hK b.1 b.2, fun q => absurd q (by omega), fun _ w17 e17 => ?_⟩
      rw [List.drop_eq_nil_of_le (by omega), m_days2] at K
      rw [e17]
      exact K
    | succ j ih =>
      intro k x1 x3 x5 x7 hk hord K
      obtain ⟨f, hg⟩ := get_ex (show k < c.2.2.2.2.2.length by omega)
      have bk : 0 ≤ (Int32.ofNat (40 * i + k)).toInt ∧ (Int32.ofNat (40 * i + k)).toInt < 4000 := by rw [n32 (by omega)]; omega
      have nk : (Int32.ofNat (40 * i + k)).toNatClampNeg = 40 * i + k := n32c (by omega)
      obtain ⟨f1, f2, f3, f4, f5, f6, f7, f8⟩ := fac k _ hg
      have hdr := drop_get hg
      rw [hdr, m_days2] at K
      rw [hdr] at hord
      have hfm := List.mem_of_getElem? hg
      obtain ⟨-, -, k3, k4, -⟩ := hF.2.1 f hfm
      have hp1 : (f.2.1 + 1).toInt = f.2.1.toInt + 1 := by rw [i32add (by rw [one]; omega) (by rw [one]; omega), one]
      have skip : ∀ y7, ¬ (decide (f.1 = 13) && m_counts f day at') = true → c_Ro_owedDays_24 nl Ln xs (d + 2) o x1 x3 x5 (Int32.ofNat (40 * i + k) + 1) y7 σ F := by
        intro y7 hn
        rw [n32s]
        rw [if_neg hn] at K
        exact ih (k + 1) x1 x3 x5 y7 (by omega) (fun g hg' => hord g (List.mem_cons_of_mem _ hg')) K
      refine w_Ro_owedDays_24 ?_
      rw [e68, oG_13051 hK, n32c (show i < 2147483648 by omega), vn, i40, n32lt (by omega) (by omega), oG_13052 hK, nk, f1, e72, e73]
      refine ⟨is_mk hK.2.1, oA_13051 hK b.1 b.2, fun _ => ⟨oA_13052 hK bk.1 bk.2, fun ha => ?_, fun ha => skip _ (by simp [ha])⟩, fun q => absurd (by omega) q⟩
      refine r_counts hK hC hi hg (by omega) (fun _ => ⟨fun hc => ?_, fun hc => skip _ (by simp [hc])⟩)
      have hpos : (decide (f.1 = 13) && m_counts f day at') = true := by simp [ha, hc]
      rw [if_pos hpos] at K
      rw [oG_13053 hK, f2, e72]
      refine ⟨oA_13053 hK bk.1 bk.2, fun _ => oA_13053 hK bk.1 bk.2, ?_⟩
      intro to eto
      rw [← eto] at K
      have hx5 := hord f List.mem_cons_self hc
      have hto : x5.toInt ≤ to.toInt ∧ to.toInt ≤ f.2.1.toInt + 1 ∧ to.toInt ≤ day.toInt := by
        rw [eto]
        split
        · rename_i h
          rw [i32lt, hp1] at h
          rw [hp1]
          omega
        · rename_i h
          rw [i32lt, hp1] at h
          omega
      refine w_Ro_owedDays_107 ⟨is_mk hK.2.1, ?_⟩
      rw [hs]
      intro w4 e4
      refine w_Ro_owedDays_129 (fun w3 e3 => w_Ro_owedDays_145 (fun v1 e1 w5 e5 => w_Ro_owedDays_163 ⟨is_mk hK.2.1, oA_13058 hK bk.1 bk.2, oA_13059 hK bk.1 bk.2, ?_⟩))
      rw [oG_13058 hK, oG_13059 hK, nk, f7, f8, n32s]
      intro v4 ev4
      have e3' : w3 = to - x5 := by
        rw [e3]
        split
        · rfl
        · rename_i h
          rw [i32lt] at h
          have : x5 = to := Int32.toInt_inj.mp (by omega)
          rw [this, Int32.sub_self]
      have e5' : w5 = to := by
        rw [e5]
        split
        · rfl
        · rename_i h
          rw [i32lt] at h
          exact Int32.toInt_inj.mp (by omega)
      rw [e5']
      refine ih (k + 1) v1 v4 to _ (by omega) ?_ ?_
      · intro g hg' _
        have hpw := (hF.2.2.sublist (List.drop_sublist k _))
        rw [hdr, List.pairwise_cons] at hpw
        have := (hpw.1 g hg').1
        omega
      · rw [e1, ev4, e4, e3', Int64.add_assoc]
        exact K
  refine w_Ro_owedDays ?_
  rw [e68, oG_13049 hK, n32c (by omega), v39, i40']
  refine ⟨is_mk hK.2.1, oA_13049 hK b.1 b.2, ?_⟩
  rintro v3 rfl v5 rfl
  refine loop c.2.2.2.2.2.length 0 0 0 c.2.2.2.1 none (by omega) ?_ (by rw [Int64.zero_add]; exact K)
  intro f hf hc
  rw [List.drop_zero] at hf
  have h1 := hFd f hf
  unfold m_counts at hc
  simp only [Bool.and_eq_true, decide_eq_true_eq] at hc
  have h2 := hc.2
  rw [i32lt] at h2
  omega
theorem days2_rng (w : WfD P T Ls Cs) (hi : Cs[i]? = some c) (hs0 : 0 ≤ s.toInt) (hs1 : s.toInt ≤ 6000000000000) (hd1 : day.toInt ≤ 10949) : ∀ (l : List mFact) (paid : Int64) (fr : Int32), (∀ f ∈ l, f ∈ c.2.2.2.2.2) → l.Pairwise (fun f g => f.2.1.toInt ≤ g.2.1.toInt ∧ f.2.2.1.toInt < g.2.2.1.toInt) → l.length ≤ 40 → (∀ f ∈ l, m_counts f day at' = true → fr.toInt ≤ f.2.1.toInt + 1) → fr.toInt ≤ day.toInt → 0 ≤ fr.toInt → 0 ≤ paid.toInt → paid.toInt ≤ 1000000000000 * (40 - l.length) → 0 ≤ (m_days2 s day at' paid fr l).toInt ∧ (m_days2 s day at' paid fr l).toInt ≤ 65700000000000000 * (l.length + 1) := by
  have z64 : (0 : Int64).toInt = 0 := by decide
  have one : (1 : Int32).toInt = 1 := by decide
  have base : ∀ (paid : Int64) (fr to : Int32), 0 ≤ paid.toInt → 0 ≤ fr.toInt → fr.toInt ≤ to.toInt → to.toInt ≤ 10949 → 0 ≤ ((if paid < s then s - paid else 0) * (to - fr).toInt64).toInt ∧ ((if paid < s then s - paid else 0) * (to - fr).toInt64).toInt ≤ 65700000000000000 := by
    intro paid fr to h0 h1 h2 h3
    have ha : 0 ≤ (if paid < s then s - paid else 0).toInt ∧ (if paid < s then s - paid else 0).toInt ≤ 6000000000000 := by
      split
      · rename_i h
        rw [i64lt] at h
        rw [i64sub (by omega) (by omega)]
        omega
      · rw [z64]; omega
    have hb : (to - fr).toInt64.toInt = to.toInt - fr.toInt := by rw [t64, i32sub (by omega) (by omega)]
    have m0 : 0 ≤ (if paid < s then s - paid else 0).toInt * (to.toInt - fr.toInt) := Int.mul_nonneg ha.1 (by omega)
    have m1 : (if paid < s then s - paid else 0).toInt * (to.toInt - fr.toInt) ≤ (if paid < s then s - paid else 0).toInt * 10949 := Int.mul_le_mul_of_nonneg_left (by omega) ha.1
    rw [i64mul (by rw [hb]; omega) (by rw [hb]; omega), hb]
    omega
  intro l
  induction l with
  | nil =>
    intro paid fr _ _ _ _ h1 h2 h3 _
    have := base paid fr day h3 h2 h1 hd1
    rw [m_days2]
    simp only [List.length_nil]
    omega
  | cons f l ih =>
    intro paid fr hm hpw hlen hord h1 h2 h3 h4
    rw [List.pairwise_cons] at hpw
    rw [List.length_cons] at hlen h4 ⊢
    obtain ⟨-, -, k3, k4, k5, k6, k7, k8, -⟩ := (w.c hi).2.2.2.2.1.2.1 f (hm f List.mem_cons_self)
    have hm' : ∀ g ∈ l, g ∈ c.2.2.2.2.2 := fun g hg => hm g (List.mem_cons_of_mem _ hg)
    rw [m_days2]
    by_cases hq : (decide (f.1 = 13) && m_counts f day at') = true
    · rw [if_pos hq]
      have hc : m_counts f day at' = true := by simp only [Bool.and_eq_true] at hq; exact hq.2
      have hp1 : (f.2.1 + 1).toInt = f.2.1.toInt + 1 := by rw [i32add (by rw [one]; omega) (by rw [one]; omega), one]
      have hx := hord f List.mem_cons_self hc
      obtain ⟨to, eto⟩ : ∃ to, to = if f.2.1 + 1 < day then f.2.1 + 1 else day := ⟨_, rfl⟩
      have hto : fr.toInt ≤ to.toInt ∧ to.toInt ≤ f.2.1.toInt + 1 ∧ to.toInt ≤ day.toInt := by
        rw [eto]
        split
        · rename_i h
          rw [i32lt, hp1] at h
          rw [hp1]
          omega
        · rename_i h
          rw [i32lt, hp1] at h
          omega
      rw [← eto]
      have hb := base paid fr to h3 h2 hto.1 (by omega)
      have hfd : (m_fc f - m_fi f).toInt = (m_fc f).toInt - (m_fi f).toInt := i64sub (by omega) (by omega)
      have hpd : (paid + (m_fc f - m_fi f)).toInt = paid.toInt + ((m_fc f).toInt - (m_fi f).toInt) := by rw [i64add (by rw [hfd]; omega) (by rw [hfd]; omega), hfd]
      have := ih (paid + (m_fc f - m_fi f)) to hm' hpw.2 (by omega) (fun g hg _ => by have := (hpw.1 g hg).1; omega) hto.2.2 (by omega) (by rw [hpd]; omega) (by rw [hpd]; omega)
      simp only []
      rw [i64add (by omega) (by omega)]
      omega
    · rw [if_neg hq]
      have := ih paid fr hm' hpw.2 (by omega) (fun g hg hc => hord g (List.mem_cons_of_mem _ hg) hc) h1 h2 h3 (by omega)
      omega
end
