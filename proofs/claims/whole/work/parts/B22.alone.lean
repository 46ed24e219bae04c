/-! THE CLASS: those who share, in their turns -/
section
variable {nl : Bool} {Ln : Nat} {xs : Nat → Int32} {d : Nat} {σ σ1 : am_S} {w : ow_T} {wk ab v b : Nat} {P : List mPol} {T : List mTell} {Ls : List mLoss} {Cs : List mCase} {i : Nat} {x : mCase} {cc lc : Nat} {day at' : Int32} {C : List mCl} {p pc : Nat} {q : mPol} {hd : Option Nat} {sum worth s : Int64} {rows : List mRow} {tr : List Int32} {fnd : Int32} {ov : Bool}
abbrev AlC (wk ab v : Nat) (σ σ' : am_S) : Prop := Wc wk ab v [] [4, 5, 6] [] [] σ σ'
theorem WkX.al (X : WkX σ w wk ab v b P T Ls Cs i x cc lc day at' C p pc q hd sum worth s rows tr fnd ov) (r : AlC wk ab v σ σ1) : WkX σ1 w wk ab v b P T Ls Cs i x cc lc day at' C p pc q hd sum worth s rows tr fnd ov :=
  X.wc r (by decide) (by decide) (by decide) (by simp) (X.1.1.2.2.2.2.1.wc r X.1.1.1 (by decide) (by decide)) ((r.fL (by simp) (by simp)).trans X.1.2.2.2.1.2.2) ((r.fL (by simp) (by simp)).trans X.2.2.2.2)
theorem wk_fill {a j : Nat} {z : Int64} {F : am_S → Prop} (ha : a = ab + j) (hj : j ∈ [4, 5, 6]) (k1 : am_kd σ a = (1001, 6)) (K : ∀ σ', AlC wk ab v σ σ' → (∀ c, c ≠ a → ∀ y, am_aL σ' c y = am_aL σ c y) → (∀ c y, am_aI σ' c y = am_aI σ c y) → (∀ y, y < 6 → am_aL σ' a y = z) → F σ') : k_Arr_fill nl Ln xs (d + 1) (some a) z σ F := by
  have loop : ∀ (n k : Nat) (s1 : am_S), k + n = 6 → AlC wk ab v σ s1 → (∀ c, c ≠ a → ∀ y, am_aL s1 c y = am_aL σ c y) → (∀ c y, am_aI s1 c y = am_aI σ c y) → (∀ y, y < k → am_aL s1 a y = z) → c_Arr_fill_6 nl Ln xs (d + 1) (some a) z (Int32.ofNat k) (Int32.ofNat 6) s1 F := by
    intro n
    induction n with
    | zero =>
      intro k s1 hk r h1 h2 h3
      obtain rfl : k = 6 := by omega
      exact w_Arr_fill_6 ⟨fun q => absurd q (by decide), fun _ => K s1 r h1 h2 h3⟩
    | succ n ih =>
      intro k s1 hk r h1 h2 h3
      refine w_Arr_fill_6 ⟨fun _ => ⟨ar_mk (by rw [r.kd]; exact k1) (by rw [n32 (by omega)]; omega) (by rw [n32 (by omega)]; omega), ?_⟩, fun q => absurd ((n32lt (by omega) (by omega)).mpr (by omega)) q⟩
      intro s3 q3
      rw [Option.getD_some, n32c (by omega)] at q3
      have r3 : AlC wk ab v s1 s3 := by rw [q3, ha]; exact Wc.saL hj
      rw [n32s]
      refine ih (k + 1) s3 (by omega) (r.trans r3) (fun c hc y => ?_) (fun c y => ?_) (fun y hy => ?_)
      · rw [q3, aL_n hc]
        exact h1 c hc y
      · rw [q3]
        exact h2 c y
      · rw [saL_all q3]
        by_cases hz : y = k
        · rw [if_pos hz]
        · rw [if_neg hz]
          exact h3 y (by omega)
  refine w_Arr_fill ⟨⟨a, rfl, by rw [k1]⟩, ?_⟩
  rw [Option.getD_some, k1]
  rintro v2 rfl
  exact loop 6 0 σ (by omega) Wc.rf (fun _ _ _ => rfl) (fun _ _ => rfl) (fun y hy => absurd hy (by omega))
def aq (day at' : Int32) (y : Nat) (f : mFact) : Bool := decide (f.1 = 17) && (m_counts f day at' && decide (f.2.2.2.1 = Int32.ofNat y))
/-- what the others have told, from the last fact on -/
theorem wk_aloneL {F : Int32 → am_S → Prop} : ∀ (l : List mFact) (h0 : Option Nat) (x2 : Option Value) (σ : am_S), (∀ f ∈ l, WfFac f) → ChF σ w (b, 600 + i) h0 l → WkX σ w wk ab v b P T Ls Cs i x cc lc day at' C p pc q hd sum worth s rows tr fnd ov → (∀ σ', AlC wk ab v σ σ' → (∀ y, am_aL σ' (ab + 5) y = am_aL σ (ab + 5) y) → am_aL σ' (ab + 4) 0 = am_aL σ (ab + 4) 0 → (∀ y, 1 ≤ y → y < 6 → am_aL σ' (ab + 4) y = if am_aL σ (ab + 4) y = -1 then ((l.find? (aq day at' y)).map m_fc).getD (-1) else am_aL σ (ab + 4) y) → c_Wk_takeAlone_111 nl Ln xs (d + 2) wk 0 0 none none σ' F) → c_Wk_takeAlone_36 nl Ln xs (d + 2) wk h0 x2 σ F := by
  intro l
  induction l with
  | nil =>
    intro h0 x2 σ _ hc X K
    have hc : h0 = none := hc
    subst hc
    refine w_Wk_takeAlone_36 ⟨fun _ => K σ Wc.rf (fun _ => rfl) rfl (fun y h1 h6 => ?_), fun z => absurd rfl z⟩
    by_cases h : am_aL σ (ab + 4) y = -1
    · rw [if_pos h, h]
      rfl
    · rw [if_neg h]
  | cons f l ih =>
    intro h0 x2 σ hf hc X K
    obtain ⟨e, rfl, he, hl⟩ := hc
    have hf1 := hf f List.mem_cons_self
    have hfl : ∀ g ∈ l, WfFac g := fun g hg => hf g (List.mem_cons_of_mem _ hg)
    obtain ⟨⟨-, -, -, f17, f18, f19⟩, -, -, -, k4, k5, k6⟩ := X.1.2.2.2.2
    -- this fact tells nothing new
    have skip : ∀ (x2 : Option Value), (∀ y, 1 ≤ y → y < 6 → am_aL σ (ab + 4) y = -1 → aq day at' y f = false) → c_Wk_takeAlone_36 nl Ln xs (d + 2) wk (am_fR σ 7005 e) x2 σ F := by
      intro x2 hn
      refine ih _ _ σ hfl hl X (fun s2 r2 h5 hz hy => K s2 r2 h5 hz (fun y h1 h6 => ?_))
      rw [hy y h1 h6]
      by_cases h : am_aL σ (ab + 4) y = -1
      · rw [if_pos h, if_pos h, List.find?_cons_of_neg (by rw [hn y h1 h6 h]; decide)]
      · rw [if_neg h, if_neg h]
    refine w_Wk_takeAlone_36 ⟨fun z => absurd z (by simp), fun _ => ⟨is_mk X.1.1.2.2.1, ?_⟩⟩
    rw [X.1.2.2.2.1.1, X.1.2.2.2.1.2.1, Option.getD_some]
    refine ⟨is_mk he.2.1, en_counts (d := d) he (fun _ => ?_)⟩
    intro w8 q8
    by_cases hq : (decide (f.1 = 17) && m_counts f day at') = true
    · rw [if_pos hq] at q8
      have hq1 : f.1 = 17 ∧ m_counts f day at' = true := by
        rw [Bool.and_eq_true] at hq
        exact ⟨of_decide_eq_true hq.1, hq.2⟩
      have hr := hf1.2.2.2.2.2.2.2.2.2.1 hq1.1
      have ew : w8 = f.2.2.2.1 := q8.trans (he.2.2.2.2.2.1 (Or.inr (Or.inr (Or.inr hq1.1))))
      obtain ⟨a, ha, ha1, ha5⟩ : ∃ a, f.2.2.2.1 = Int32.ofNat a ∧ 1 ≤ a ∧ a < 6 := ⟨f.2.2.2.1.toInt.toNat, n32of (by omega), by omega, by omega⟩
      rw [ha] at ew
      subst ew
      have haq : ∀ y, y < 6 → (aq day at' y f = true ↔ y = a) := by
        intro y hy
        unfold aq
        rw [hq1.2, decide_eq_true hq1.1, ha]
        simp only [Bool.true_and, decide_eq_true_eq]
        rw [n32i (by omega) (by omega)]
        exact eq_comm
      have t0 : (0 : Int32).toInt = 0 := by decide
      have t6 : (6 : Int32).toInt = 6 := by decide
      have ba : 0 ≤ (Int32.ofNat a).toInt ∧ (Int32.ofNat a).toInt < 6 := by rw [n32 (by omega)]; omega
      refine w_Wk_takeAlone_65 ⟨fun _ => ⟨fun _ => ⟨is_mk X.1.1.2.2.1, ?_⟩, fun z => absurd (by rw [i32lt, t6]; exact ba.2) z⟩, fun z => absurd (by rw [i32lt, t0, n32 (by omega)]; omega) z⟩
      rw [f17, Option.getD_some, Option.getD_some, n32c (by omega), he.2.2.2.2.2.2.2.1]
      refine ⟨ar_mk k4 ba.1 ba.2, fun hm => ⟨is_mk he.2.1, ar_mk k4 ba.1 ba.2, ?_⟩, fun hm => ⟨is_mk he.2.1, ?_⟩⟩
      · intro s8 q8
        have r8 : AlC wk ab v σ s8 := by rw [q8]; exact Wc.saL (k := 4) (by decide)
        have X8 := X.al r8
        have f8 := r8.frB X.1.1.1 (by decide) (by simp) X.1.1.2.2.2.2.2.2.1 X.1.1.2.2.2.2.2.1.1.2.2.1
        rintro v11 rfl
        rw [(f8 _ e he.1).2.fR]
        refine ih _ _ s8 hfl (ChF.fr hl (f8 _)) X8 (fun s2 r2 h5 hz hy => K s2 (r8.trans r2) (fun y => ?_) ?_ (fun y h1 h6 => ?_))
        · rw [h5 y, q8, aL_n (by omega)]
        · rw [hz, saL_all q8, if_neg (by omega)]
        · rw [hy y h1 h6, saL_all q8]
          by_cases hya : y = a
          · rw [if_pos hya, hya, if_pos hm, List.find?_cons_of_pos ((haq a ha5).mpr rfl)]
            have hnn : ¬ f.2.2.2.2.2.2.1 = -1 := by
              rw [i64e, show (-1 : Int64).toInt = -1 by decide]
              have : 0 ≤ f.2.2.2.2.2.2.1.toInt := hf1.2.2.2.2.1
              omega
            rw [if_neg hnn]
            rfl
          · rw [if_neg hya]
            have hne : aq day at' y f = false := by
              cases hh : aq day at' y f with
              | false => rfl
              | true => exact absurd ((haq y h6).mp hh) hya
            rw [List.find?_cons_of_neg (by rw [hne]; decide)]
      · rintro v14 rfl
        refine skip _ (fun y h1 h6 h => ?_)
        cases hh : aq day at' y f with
        | false => rfl
        | true =>
          have := (haq y h6).mp hh
          rw [this] at h
          exact absurd h hm
    · rw [if_neg hq] at q8
      subst q8
      refine w_Wk_takeAlone_65 ⟨fun z => absurd z (by decide), fun _ => ⟨is_mk he.2.1, ?_⟩⟩
      rintro v20 rfl
      refine skip _ (fun y _ _ _ => ?_)
      cases hh : aq day at' y f with
      | false => rfl
      | true =>
        unfold aq at hh
        simp only [Bool.and_eq_true, decide_eq_true_eq] at hh
        exact absurd (by rw [Bool.and_eq_true, decide_eq_true_eq]; exact ⟨hh.1, hh.2.1⟩) hq
end
