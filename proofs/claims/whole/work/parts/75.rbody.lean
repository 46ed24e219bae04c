/-! WORKING OUT, by the reference: bodies of policies, conditions -/
theorem m_or_t {a b : mTr Bool} (h : a.1 = true) : m_or a b = (true, a.2) := by unfold m_or; rw [if_pos h]
theorem m_or_f {a b : mTr Bool} (h : ¬ a.1 = true) : m_or a b = (b.1, a.2 ++ b.2) := by unfold m_or; rw [if_neg h]
section
variable {nl : Bool} {Ln : Nat} {xs : Nat → Int32} {d : Nat} {σ : am_S} {o : Nat} {P : List mPol} {T : List mTell} {Ls : List mLoss} {Cs : List mCase} {i : Nat} {c : mCase} {day at' : Int32} {lk : Bool} {rows : List mRow} {tr : List Int32}
theorem r_cov1 {F : Bool → am_S → Prop} (E : Ev σ o P T Ls Cs i c day at' lk rows tr)
(K : ∀ σ', Ev σ' o P T Ls Cs i c day at' lk rows (tr ++ (m_cov1).2) → Rc o (tF lk) [] (tM lk) σ σ' → F (m_cov1).1 σ')
 : k_Ro_covers nl Ln xs (d + 2) o 1 σ F := by
  refine w_Ro_covers ⟨is_mk E.1.k.2.1, E.is1.1, ?_⟩
  rw [E.is1.2, show (10 : Int32) * 1 = 10 from rfl]
  refine r_traced E (fun s1 E1 hr1 _ => ⟨fun q => ?_, fun q => ?_, fun q => ?_, fun q => ?_, fun q => ?_, fun q => ?_, fun q => ?_, fun q => ?_⟩) <;> (try exact absurd q (by decide))
  exact K s1 E1 hr1
theorem r_cov2 {F : Bool → am_S → Prop} (w : WfD P T Ls Cs) (E : Ev σ o P T Ls Cs i c day at' lk rows tr)
(K : ∀ σ', Ev σ' o P T Ls Cs i c day at' lk rows (tr ++ (m_cov2 (m_lis Ls c.2.2.1)).2) → Rc o (tF lk) [] (tM lk) σ σ' → F (m_cov2 (m_lis Ls c.2.2.1)).1 σ')
 : k_Ro_covers nl Ln xs (d + 8) o 2 σ F := by
  refine w_Ro_covers ⟨is_mk E.1.k.2.1, E.is1.1, ?_⟩
  rw [E.is1.2, show (10 : Int32) * 2 = 20 from rfl]
  refine r_traced E (fun s1 E1 hr1 _ => ⟨fun q => ?_, fun q => ?_, fun q => ?_, fun q => ?_, fun q => ?_, fun q => ?_, fun q => ?_, fun q => ?_⟩) <;> (try exact absurd q (by decide))
  refine w_Ro_covers_58 ⟨is_mk E1.1.k.2.1, r_is w E1 (fun s2 E2 hr2 _ => ⟨fun h => ?_, fun h => ?_⟩)⟩
  · simp only [m_cov2, m_tr, m_or_t h] at K
    exact K s2 (by simpa using E2) (hr1.trans hr2)
  · simp only [m_cov2, m_tr, m_or_f h] at K
    refine r_cov1 E2 (fun s3 E3 hr3 _ => ?_)
    rw [dtrue]
    exact K s3 (by simpa using E3) ((hr1.trans hr2).trans hr3)
theorem r_cov3 {F : Bool → am_S → Prop} (w : WfD P T Ls Cs) (E : Ev σ o P T Ls Cs i c day at' lk rows tr)
(K : ∀ σ', Ev σ' o P T Ls Cs i c day at' lk rows (tr ++ (m_cov3 (m_lis Ls c.2.2.1)).2) → Rc o (tF lk) [] (tM lk) σ σ' → F (m_cov3 (m_lis Ls c.2.2.1)).1 σ')
 : k_Ro_covers nl Ln xs (d + 9) o 3 σ F := by
  refine w_Ro_covers ⟨is_mk E.1.k.2.1, E.is1.1, ?_⟩
  rw [E.is1.2, show (10 : Int32) * 3 = 30 from rfl]
  refine r_traced E (fun s1 E1 hr1 _ => ⟨fun q => ?_, fun q => ?_, fun q => ?_, fun q => ?_, fun q => ?_, fun q => ?_, fun q => ?_, fun q => ?_⟩) <;> (try exact absurd q (by decide))
  refine w_Ro_covers_80 ⟨is_mk E1.1.k.2.1, r_is w E1 (fun s2 E2 hr2 _ => ⟨fun h => ?_, fun h => r_is w E2 (fun s3 E3 hr3 _ => ⟨fun h2 => ?_, fun h2 => ?_⟩)⟩)⟩
  · simp only [m_cov3, m_tr, m_or_t h] at K
    exact K s2 (by simpa using E2) (hr1.trans hr2)
  · simp only [m_cov3, m_tr, m_or_f h, m_or_t h2] at K
    exact K s3 (by simpa using E3) ((hr1.trans hr2).trans hr3)
  · simp only [m_cov3, m_tr, m_or_f h, m_or_f h2] at K
    refine r_cov2 w E3 (fun s4 E4 hr4 _ => ?_)
    rw [dtrue]
    exact K s4 (by simpa using E4) (((hr1.trans hr2).trans hr3).trans hr4)
theorem r_cov4 {F : Bool → am_S → Prop} (w : WfD P T Ls Cs) (E : Ev σ o P T Ls Cs i c day at' lk rows tr)
(K : ∀ σ', Ev σ' o P T Ls Cs i c day at' lk rows (tr ++ (m_cov4 (m_lis Ls c.2.2.1)).2) → Rc o (tF lk) [] (tM lk) σ σ' → F (m_cov4 (m_lis Ls c.2.2.1)).1 σ')
 : k_Ro_covers nl Ln xs (d + 10) o 4 σ F := by
  refine w_Ro_covers ⟨is_mk E.1.k.2.1, E.is1.1, ?_⟩
  rw [E.is1.2, show (10 : Int32) * 4 = 40 from rfl]
  refine r_traced E (fun s1 E1 hr1 _ => ⟨fun q => ?_, fun q => ?_, fun q => ?_, fun q => ?_, fun q => ?_, fun q => ?_, fun q => ?_, fun q => ?_⟩) <;> (try exact absurd q (by decide))
  refine w_Ro_covers_110 ⟨is_mk E1.1.k.2.1, r_is w E1 (fun s2 E2 hr2 _ => ⟨fun h => ?_, fun h => ?_⟩)⟩
  · simp only [m_cov4, m_tr, m_or_t h] at K
    exact K s2 (by simpa using E2) (hr1.trans hr2)
  · simp only [m_cov4, m_tr, m_or_f h] at K
    refine r_cov3 w E2 (fun s3 E3 hr3 _ => ?_)
    rw [dtrue]
    exact K s3 (by simpa using E3) ((hr1.trans hr2).trans hr3)
theorem r_cov6 {F : Bool → am_S → Prop} (w : WfD P T Ls Cs) (E : Ev σ o P T Ls Cs i c day at' lk rows tr)
(K : ∀ σ', Ev σ' o P T Ls Cs i c day at' lk rows (tr ++ (m_cov6 (m_lis Ls c.2.2.1)).2) → Rc o (tF lk) [] (tM lk) σ σ' → F (m_cov6 (m_lis Ls c.2.2.1)).1 σ')
 : k_Ro_covers nl Ln xs (d + 8) o 6 σ F := by
  refine w_Ro_covers ⟨is_mk E.1.k.2.1, E.is1.1, ?_⟩
  rw [E.is1.2, show (10 : Int32) * 6 = 60 from rfl]
  refine r_traced E (fun s1 E1 hr1 _ => ⟨fun q => ?_, fun q => ?_, fun q => ?_, fun q => ?_, fun q => ?_, fun q => ?_, fun q => ?_, fun q => ?_⟩) <;> (try exact absurd q (by decide))
  refine w_Ro_covers_138 ⟨is_mk E1.1.k.2.1, r_is w E1 (fun s2 E2 hr2 _ => ⟨fun h => ?_, fun h => r_is w E2 (fun s3 E3 hr3 _ => ⟨fun h2 => ?_, fun h2 => r_is w E3 (fun s4 E4 hr4 _ => ⟨fun h3 => ?_, fun h3 => ?_⟩)⟩)⟩)⟩
  · simp only [m_cov6, m_tr, m_or_t h] at K
    exact K s2 (by simpa using E2) (hr1.trans hr2)
  · simp only [m_cov6, m_tr, m_or_f h, m_or_t h2] at K
    exact K s3 (by simpa using E3) ((hr1.trans hr2).trans hr3)
  · simp only [m_cov6, m_tr, m_or_f h, m_or_f h2, m_or_t h3] at K
    exact K s4 (by simpa using E4) (((hr1.trans hr2).trans hr3).trans hr4)
  · simp only [m_cov6, m_tr, m_or_f h, m_or_f h2, m_or_f h3] at K
    refine r_cov1 E4 (fun s5 E5 hr5 _ => ?_)
    rw [dtrue]
    exact K s5 (by simpa using E5) ((((hr1.trans hr2).trans hr3).trans hr4).trans hr5)
theorem r_cov7 {F : Bool → am_S → Prop} (w : WfD P T Ls Cs) (E : Ev σ o P T Ls Cs i c day at' lk rows tr)
(K : ∀ σ', Ev σ' o P T Ls Cs i c day at' lk rows (tr ++ (m_cov7 (m_lis Ls c.2.2.1)).2) → Rc o (tF lk) [] (tM lk) σ σ' → F (m_cov7 (m_lis Ls c.2.2.1)).1 σ')
 : k_Ro_covers nl Ln xs (d + 9) o 7 σ F := by
  refine w_Ro_covers ⟨is_mk E.1.k.2.1, E.is1.1, ?_⟩
  rw [E.is1.2, show (10 : Int32) * 7 = 70 from rfl]
  refine r_traced E (fun s1 E1 hr1 _ => ⟨fun q => ?_, fun q => ?_, fun q => ?_, fun q => ?_, fun q => ?_, fun q => ?_, fun q => ?_, fun q => ?_⟩) <;> (try exact absurd q (by decide))
  refine w_Ro_covers_176 ⟨is_mk E1.1.k.2.1, r_is w E1 (fun s2 E2 hr2 _ => ⟨fun h => ?_, fun h => r_is w E2 (fun s3 E3 hr3 _ => ⟨fun h2 => ?_, fun h2 => ?_⟩)⟩)⟩
  · simp only [m_cov7, m_tr, if_pos h] at K
    exact K s2 (by simpa using E2) (hr1.trans hr2)
  · simp only [m_cov7, m_tr, if_neg h, m_or_t h2] at K
    exact K s3 (by simpa using E3) ((hr1.trans hr2).trans hr3)
  · simp only [m_cov7, m_tr, if_neg h, m_or_f h2] at K
    refine r_cov6 w E3 (fun s4 E4 hr4 _ => ?_)
    rw [dtrue]
    exact K s4 (by simpa using E4) (((hr1.trans hr2).trans hr3).trans hr4)
theorem r_cov5 {F : Bool → am_S → Prop} (w : WfD P T Ls Cs) (E : Ev σ o P T Ls Cs i c day at' lk rows tr)
(K : ∀ σ', Ev σ' o P T Ls Cs i c day at' lk rows (tr ++ (m_tr 50 (m_lis Ls c.2.2.1 3)).2) → Rc o (tF lk) [] (tM lk) σ σ' → F (m_tr 50 (m_lis Ls c.2.2.1 3)).1 σ')
 : k_Ro_covers nl Ln xs (d + 8) o 5 σ F := by
  refine w_Ro_covers ⟨is_mk E.1.k.2.1, E.is1.1, ?_⟩
  rw [E.is1.2, show (10 : Int32) * 5 = 50 from rfl]
  refine r_traced E (fun s1 E1 hr1 _ => ⟨fun q => ?_, fun q => ?_, fun q => ?_, fun q => ?_, fun q => ?_, fun q => ?_, fun q => ?_, fun q => ?_⟩) <;> (try exact absurd q (by decide))
  refine w_Ro_covers_132 ⟨is_mk E1.1.k.2.1, r_is w E1 (fun s2 E2 hr2 _ => ?_)⟩
  simp only [m_tr] at K
  rw [dtrue]
  exact K s2 (by simpa using E2) (hr1.trans hr2)
/-- the owner by the kind of the cover -/
def m_ownr (k : Int32) : Int32 := if k = 0 then 3 else if k = 1 then 4 else if k = 2 then 6 else if k = 3 then 8 else if k = 4 then 5 else 7
theorem r_owner {p : Nat} {F : Int32 → am_S → Prop} (w : WfD P T Ls Cs) (E : Ev σ o P T Ls Cs i c day at' lk rows tr) (hp : p < P.length) (hcv : am_fI σ 13070 o = Int32.ofNat p) (K : F (m_ownr (P.getD p mPol0).1) σ) : k_Ro_owner nl Ln xs (d + 1) o σ F := by
  have h100 := w.p100
  have v : am_aI σ (o + 1) p = (P.getD p mPol0).1 := E.1.pol.2.1 p _ (getD_some mPol0 hp)
  refine w_Ro_owner ?_
  rw [hcv, oG_13003 E.1.k, n32c (by omega), v]
  refine ⟨is_mk E.1.k.2.1, oA_13003 E.1.k (by rw [n32 (by omega)]; omega) (by rw [n32 (by omega)]; omega), ?_⟩
  rintro v3 rfl w11 e11
  rw [e11]
  exact K
theorem kinds7 {k : Int32} (h0 : 0 ≤ k.toInt) (h1 : k.toInt ≤ 6) (h6 : k ≠ 6) : k = 0 ∨ k = 1 ∨ k = 2 ∨ k = 3 ∨ k = 4 ∨ k = 5 := by
  have e : ∀ n : Int, k.toInt = n → ∀ m : Int32, m.toInt = n → k = m := fun n hn m hm => Int32.toInt_inj.mp (by rw [hn, hm])
  have h6' : k.toInt ≠ 6 := fun q => h6 (e 6 q 6 (by decide))
  have : k.toInt = 0 ∨ k.toInt = 1 ∨ k.toInt = 2 ∨ k.toInt = 3 ∨ k.toInt = 4 ∨ k.toInt = 5 := by omega
  rcases this with q | q | q | q | q | q
  · exact Or.inl (e _ q 0 (by decide))
  · exact Or.inr (Or.inl (e _ q 1 (by decide)))
  · exact Or.inr (Or.inr (Or.inl (e _ q 2 (by decide))))
  · exact Or.inr (Or.inr (Or.inr (Or.inl (e _ q 3 (by decide)))))
  · exact Or.inr (Or.inr (Or.inr (Or.inr (Or.inl (e _ q 4 (by decide))))))
  · exact Or.inr (Or.inr (Or.inr (Or.inr (Or.inr (e _ q 5 (by decide))))))
theorem r_cov8 {F : Bool → am_S → Prop} (w : WfD P T Ls Cs) (E : Ev σ o P T Ls Cs i c day at' lk rows tr) (hok : ¬ (Ls.getD c.2.2.1 mLoss0).1 ≠ 4)
(K : ∀ σ', Ev σ' o P T Ls Cs i c day at' lk rows (tr ++ (m_covers (m_lis Ls c.2.2.1) (decide ((Ls.getD c.2.2.1 mLoss0).1 = 4)) (m_items Ls c.2.2.1).length 3).2) → Rc o (tF lk) [] (tM lk) σ σ' → F (m_covers (m_lis Ls c.2.2.1) (decide ((Ls.getD c.2.2.1 mLoss0).1 = 4)) (m_items Ls c.2.2.1).length 3).1 σ')
 : k_Ro_covers nl Ln xs (d + 10) o 8 σ F := by
  have h4 : (Ls.getD c.2.2.1 mLoss0).1 = 4 := by
    by_cases q : (Ls.getD c.2.2.1 mLoss0).1 = 4
    · exact q
    · exact absurd q hok
  have hl := (w.c E.2.1).2.1
  have h200 := w.l200
  have hg := getD_some mLoss0 hl
  have h6 : (m_items Ls c.2.2.1).length ≤ 6 := (w.l _ _ hg).2.2.2
  have b : 0 ≤ (Int32.ofNat c.2.2.1).toInt ∧ (Int32.ofNat c.2.2.1).toInt < 200 := by rw [n32 (by omega)]; omega
  refine w_Ro_covers ⟨is_mk E.1.k.2.1, E.is1.1, ?_⟩
  rw [E.is1.2, show (10 : Int32) * 8 = 80 from rfl]
  refine r_traced E (fun s1 E1 hr1 _ => ⟨fun q => ?_, fun q => ?_, fun q => ?_, fun q => ?_, fun q => ?_, fun q => ?_, fun q => ?_, fun q => ?_⟩) <;> (try exact absurd q (by decide))
  have v1 : am_aI s1 (o + 27) c.2.2.1 = (Ls.getD c.2.2.1 mLoss0).1 := E1.1.los.2.1 _ _ hg
  have v2 : am_aI s1 (o + 31) c.2.2.1 = Int32.ofNat (m_items Ls c.2.2.1).length := E1.1.los.2.2.2.2.2.1 _ _ hg
  refine w_Ro_covers_207 ?_
  rw [E1.2.2.2.1, oG_13036 E1.1.k, oG_13040 E1.1.k, n32c (by omega), v1, v2, h4]
  refine ⟨is_mk E1.1.k.2.1, oA_13036 E1.1.k b.1 b.2, fun _ => ⟨oA_13040 E1.1.k b.1 b.2, ?_⟩, fun q => absurd rfl q⟩
  have := K s1 E1 hr1
  have e : m_covers (m_lis Ls c.2.2.1) (decide ((Ls.getD c.2.2.1 mLoss0).1 = 4)) (m_items Ls c.2.2.1).length 3 = (decide (0 < (m_items Ls c.2.2.1).length), [80]) := by rw [h4]; rfl
  rw [e] at this
  rw [show (0 : Int32) = Int32.ofNat 0 from rfl, decide_eq_decide.mpr (n32lt (a := 0) (b := (m_items Ls c.2.2.1).length) (by decide) (by omega))]
  exact this
theorem r_covers {kind : Int32} {F : Bool → am_S → Prop} (w : WfD P T Ls Cs) (E : Ev σ o P T Ls Cs i c day at' lk rows tr) (hk : kind = 0 ∨ kind = 1 ∨ kind = 2 ∨ kind = 3 ∨ kind = 4 ∨ kind = 5) (hok : ¬ (kind = 3 ∧ (Ls.getD c.2.2.1 mLoss0).1 ≠ 4))
(K : ∀ σ', Ev σ' o P T Ls Cs i c day at' lk rows (tr ++ (m_covers (m_lis Ls c.2.2.1) (decide ((Ls.getD c.2.2.1 mLoss0).1 = 4)) (m_items Ls c.2.2.1).length kind).2) → Rc o (tF lk) [] (tM lk) σ σ' → F (m_covers (m_lis Ls c.2.2.1) (decide ((Ls.getD c.2.2.1 mLoss0).1 = 4)) (m_items Ls c.2.2.1).length kind).1 σ')
 : k_Ro_covers nl Ln xs (d + 10) o (m_ownr kind) σ F := by
  rcases hk with rfl | rfl | rfl | rfl | rfl | rfl
  · exact r_cov3 (d := d + 1) w E K
  · exact r_cov4 w E K
  · exact r_cov6 (d := d + 2) w E K
  · exact r_cov8 w E (fun q => hok ⟨rfl, q⟩) K
  · exact r_cov5 (d := d + 2) w E K
  · exact r_cov7 (d := d + 1) w E K
theorem r_waits {p : Nat} {kind : Int32} {F : Int32 → am_S → Prop} (w : WfD P T Ls Cs) (E : Ev σ o P T Ls Cs i c day at' lk rows tr) (hp : p < P.length) (hcv : am_fI σ 13070 o = Int32.ofNat p) (hkd : (P.getD p mPol0).1 = kind) (hk : kind = 0 ∨ kind = 1 ∨ kind = 2 ∨ kind = 3 ∨ kind = 4 ∨ kind = 5)
(K : ∀ σ', Ev σ' o P T Ls Cs i c day at' lk rows (tr ++ (m_waits (m_lis Ls c.2.2.1) kind).2) → Rc o (tF lk) [] (tM lk) σ σ' → F (m_waits (m_lis Ls c.2.2.1) kind).1 σ')
 : k_Ro_waits nl Ln xs (d + 8) o σ F := by
  refine w_Ro_waits ⟨is_mk E.1.k.2.1, r_owner w E hp hcv (fun _ => ?_)⟩
  rw [hkd]
  have oth : m_waits (m_lis Ls c.2.2.1) kind = (0, [1]) → am_is σ (am_fR σ 13099 o) 12 ∧ k_Rm_traced nl Ln xs (d + 7) ((am_fR σ 13099 o).getD 0) 1 σ (fun s => am_ext σ s → F 0 s) := by
    intro e
    rw [e] at K
    refine ⟨E.is1.1, ?_⟩
    rw [E.is1.2]
    exact r_traced E (fun s1 E1 hr1 _ => K s1 E1 hr1)
  rcases hk with rfl | rfl | rfl | rfl | rfl | rfl
  · exact ⟨fun q => absurd q (by decide), fun _ => ⟨fun q => absurd q (by decide), fun _ => ⟨fun q => absurd q (by decide), fun _ => oth rfl⟩⟩⟩
  · refine ⟨fun _ => w_Ro_waits_21 ⟨is_mk E.1.k.2.1, E.is1.1, ?_⟩, fun q => absurd rfl q⟩
    rw [E.is1.2, show (10 : Int32) * m_ownr 1 + 1 = 41 from rfl]
    refine r_traced E (fun s1 E1 hr1 _ => ⟨fun q => absurd q (by decide), fun _ => ⟨fun _ => r_is w E1 (fun s2 E2 hr2 _ w11 e11 => ?_), fun q => absurd rfl q⟩⟩)
    have := K s2 (by simpa [m_waits, m_tr] using E2) (hr1.trans hr2)
    rw [e11]
    exact this
  · exact ⟨fun q => absurd q (by decide), fun _ => ⟨fun q => absurd q (by decide), fun _ => ⟨fun q => absurd q (by decide), fun _ => oth rfl⟩⟩⟩
  · exact ⟨fun q => absurd q (by decide), fun _ => ⟨fun q => absurd q (by decide), fun _ => ⟨fun q => absurd q (by decide), fun _ => oth rfl⟩⟩⟩
  · refine ⟨fun q => absurd q (by decide), fun _ => ⟨fun _ => w_Ro_waits_21 ⟨is_mk E.1.k.2.1, E.is1.1, ?_⟩, fun q => absurd rfl q⟩⟩
    rw [E.is1.2, show (10 : Int32) * m_ownr 4 + 1 = 51 from rfl]
    exact r_traced E (fun s1 E1 hr1 _ => ⟨fun _ => K s1 E1 hr1, fun q => absurd rfl q⟩)
  · refine ⟨fun q => absurd q (by decide), fun _ => ⟨fun q => absurd q (by decide), fun _ => ⟨fun _ => w_Ro_waits_21 ⟨is_mk E.1.k.2.1, E.is1.1, ?_⟩, fun q => absurd rfl q⟩⟩⟩
    rw [E.is1.2, show (10 : Int32) * m_ownr 5 + 1 = 71 from rfl]
    refine r_traced E (fun s1 E1 hr1 _ => ⟨fun q => absurd q (by decide), fun _ => ⟨fun q => absurd q (by decide), fun _ => r_is w E1 (fun s2 E2 hr2 _ w11 e11 => ?_)⟩⟩)
    have := K s2 (by simpa [m_waits, m_tr] using E2) (hr1.trans hr2)
    rw [e11]
    exact this
theorem r_averages {p : Nat} {kind : Int32} {F : Bool → am_S → Prop} (w : WfD P T Ls Cs) (E : Ev σ o P T Ls Cs i c day at' lk rows tr) (hp : p < P.length) (hcv : am_fI σ 13070 o = Int32.ofNat p) (hkd : (P.getD p mPol0).1 = kind) (hk : kind = 0 ∨ kind = 1 ∨ kind = 2 ∨ kind = 3 ∨ kind = 4 ∨ kind = 5)
(K : ∀ σ', Ev σ' o P T Ls Cs i c day at' lk rows (tr ++ (m_averages (m_lis Ls c.2.2.1) kind).2) → Rc o (tF lk) [] (tM lk) σ σ' → F (m_averages (m_lis Ls c.2.2.1) kind).1 σ')
 : k_Ro_averages nl Ln xs (d + 8) o σ F := by
  refine w_Ro_averages ⟨is_mk E.1.k.2.1, r_owner w E hp hcv (fun _ => ?_)⟩
  rw [hkd]
  have fin : ∀ {s : am_S} {tr2 : List Int32} {x : Int32} (b : Bool), Ev s o P T Ls Cs i c day at' lk rows tr2 → b2i b = (if (x = 3) ∨ (x = 4) then 1 else 0) → (∀ s', Ev s' o P T Ls Cs i c day at' lk rows (tr2 ++ [if b then 22 else 2]) → Rc o (tF lk) [] (tM lk) s s' → F b s') → c_Ro_averages_43 nl Ln xs (d + 8) o x s F := by
    intro s tr2 x b E2 hb K2
    refine w_Ro_averages_43 (w_Ro_averages_58 ⟨is_mk E2.1.k.2.1, fun w4 e4 => ⟨E2.is1.1, ?_⟩⟩)
    rw [← hb] at e4 ⊢
    rw [E2.is1.2]
    have e5 : w4 = if b then 22 else 2 := by rw [e4]; cases b <;> rfl
    rw [e5]
    refine r_traced E2 (fun s1 E1 hr1 _ => ⟨by cases b <;> simp [b2i], ?_⟩)
    have : decide (b2i b = 1) = b := by cases b <;> rfl
    rw [this]
    exact K2 s1 E1 hr1
  rcases hk with rfl | rfl | rfl | rfl | rfl | rfl
  · exact ⟨fun q => absurd q (by decide), fun _ => ⟨fun q => absurd q (by decide), fun _ => fin true E rfl K⟩⟩
  · refine ⟨fun _ => w_Ro_averages_15 ⟨is_mk E.1.k.2.1, E.is1.1, ?_⟩, fun q => absurd rfl q⟩
    rw [E.is1.2, show (10 : Int32) * m_ownr 1 + 2 = 42 from rfl]
    refine r_traced E (fun s1 E1 hr1 _ => ⟨fun q => absurd q (by decide), fun _ => r_is w E1 (fun s2 E2 hr2 _ => ⟨fun h => ?_, fun h => ?_⟩)⟩)
    · have e : m_averages (m_lis Ls c.2.2.1) 1 = m_tr 42 (false, (m_lis Ls c.2.2.1 2).2) := by unfold m_averages; rw [if_neg (by decide), if_pos rfl, if_pos h]
      rw [e] at K
      exact K s2 (by simpa [m_tr] using E2) (hr1.trans hr2)
    · have e : m_averages (m_lis Ls c.2.2.1) 1 = m_tr 42 (true, (m_lis Ls c.2.2.1 2).2 ++ [22]) := by unfold m_averages; rw [if_neg (by decide), if_pos rfl, if_neg h]
      rw [e] at K
      exact fin true E2 rfl (fun s3 E3 hr3 => K s3 (by simpa [m_tr] using E3) ((hr1.trans hr2).trans hr3))
  · exact ⟨fun q => absurd q (by decide), fun _ => ⟨fun q => absurd q (by decide), fun _ => fin false E rfl K⟩⟩
  · exact ⟨fun q => absurd q (by decide), fun _ => ⟨fun q => absurd q (by decide), fun _ => fin false E rfl K⟩⟩
  · refine ⟨fun q => absurd q (by decide), fun _ => ⟨fun _ => w_Ro_averages_15 ⟨is_mk E.1.k.2.1, E.is1.1, ?_⟩, fun q => absurd rfl q⟩⟩
    rw [E.is1.2, show (10 : Int32) * m_ownr 4 + 2 = 52 from rfl]
    exact r_traced E (fun s1 E1 hr1 _ => ⟨fun _ => K s1 E1 hr1, fun q => absurd rfl q⟩)
  · exact ⟨fun q => absurd q (by decide), fun _ => ⟨fun q => absurd q (by decide), fun _ => fin false E rfl K⟩⟩
theorem r_self {p : Nat} {kind : Int32} {F : Int32 → am_S → Prop} (w : WfD P T Ls Cs) (E : Ev σ o P T Ls Cs i c day at' lk rows tr) (hp : p < P.length) (hcv : am_fI σ 13070 o = Int32.ofNat p) (hkd : (P.getD p mPol0).1 = kind) (hk : kind = 0 ∨ kind = 1 ∨ kind = 2 ∨ kind = 3 ∨ kind = 4 ∨ kind = 5)
(K : ∀ σ', Ev σ' o P T Ls Cs i c day at' lk rows (tr ++ (m_self (m_lis Ls c.2.2.1) kind).2) → Rc o (tF lk) [] (tM lk) σ σ' → F (m_self (m_lis Ls c.2.2.1) kind).1 σ')
 : k_Ro_self nl Ln xs (d + 8) o σ F := by
  refine w_Ro_self ⟨is_mk E.1.k.2.1, r_owner w E hp hcv (fun _ => ?_)⟩
  rw [hkd]
  have fin : ∀ {s : am_S} {tr2 : List Int32} {x : Int32} (v : Int32), Ev s o P T Ls Cs i c day at' lk rows tr2 → v = (if x = 7 then 5 else 0) → (∀ s', Ev s' o P T Ls Cs i c day at' lk rows (tr2 ++ [13]) → Rc o (tF lk) [] (tM lk) s s' → F v s') → c_Ro_self_63 nl Ln xs (d + 8) o x s F := by
    intro s tr2 x v E2 hv K2
    refine w_Ro_self_63 ⟨is_mk E2.1.k.2.1, E2.is1.1, ?_⟩
    rw [E2.is1.2]
    refine r_traced E2 (fun s1 E1 hr1 _ w7 e7 => ?_)
    rw [e7, ← hv]
    exact K2 s1 E1 hr1
  have mid : ∀ {s : am_S} {tr2 : List Int32} {x : Int32} (v1 v2 : Int32), Ev s o P T Ls Cs i c day at' lk rows tr2 → v1 = (if x = 7 then 15 else 10) → v2 = (if x = 7 then 5 else 0) → (∀ s', Ev s' o P T Ls Cs i c day at' lk rows (tr2 ++ (m_tr 63 (if (m_lis Ls c.2.2.1 2).1 then (v1, (m_lis Ls c.2.2.1 2).2) else (v2, (m_lis Ls c.2.2.1 2).2 ++ [13]))).2) → Rc o (tF lk) [] (tM lk) s s' → F (m_tr 63 (if (m_lis Ls c.2.2.1 2).1 then (v1, (m_lis Ls c.2.2.1 2).2) else (v2, (m_lis Ls c.2.2.1 2).2 ++ [13]))).1 s') → c_Ro_self_32 nl Ln xs (d + 8) o x s F := by
    intro s tr2 x v1 v2 E2 h1 h2 K2
    refine w_Ro_self_32 ⟨is_mk E2.1.k.2.1, E2.is1.1, ?_⟩
    rw [E2.is1.2]
    refine r_traced E2 (fun s1 E1 hr1 _ => r_is w E1 (fun s3 E3 hr3 _ => ⟨fun h w10 e10 => ?_, fun h => ?_⟩))
    · rw [if_pos h] at K2
      rw [e10, ← h1]
      exact K2 s3 (by simpa [m_tr] using E3) (hr1.trans hr3)
    · rw [if_neg h] at K2
      exact fin v2 E3 h2 (fun s4 E4 hr4 => K2 s4 (by simpa [m_tr] using E4) ((hr1.trans hr3).trans hr4))
  rcases hk with rfl | rfl | rfl | rfl | rfl | rfl
  · exact ⟨fun q => absurd q (by decide), fun _ => w_Ro_self_20 ⟨fun q => absurd q (by decide), fun _ => ⟨fun q => absurd q (by decide), fun _ => fin 0 E rfl K⟩⟩⟩
  · exact ⟨fun q => absurd q (by decide), fun _ => w_Ro_self_20 ⟨fun q => absurd q (by decide), fun _ => ⟨fun q => absurd q (by decide), fun _ => fin 0 E rfl K⟩⟩⟩
  · exact ⟨fun q => absurd q (by decide), fun _ => w_Ro_self_20 ⟨fun _ => mid 10 0 E rfl rfl K, fun q => absurd rfl q⟩⟩
  · exact ⟨fun q => absurd q (by decide), fun _ => w_Ro_self_20 ⟨fun q => absurd q (by decide), fun _ => ⟨fun q => absurd q (by decide), fun _ => fin 0 E rfl K⟩⟩⟩
  · exact ⟨fun q => absurd q (by decide), fun _ => w_Ro_self_20 ⟨fun q => absurd q (by decide), fun _ => ⟨fun q => absurd q (by decide), fun _ => fin 0 E rfl K⟩⟩⟩
  · refine ⟨fun _ => ⟨E.is1.1, ?_⟩, fun q => absurd rfl q⟩
    rw [E.is1.2]
    refine r_traced E (fun s1 E1 hr1 _ => w_Ro_self_20 ⟨fun q => absurd q (by decide), fun _ => ⟨fun _ => mid 15 5 E1 rfl rfl (fun s2 E2 hr2 => ?_), fun q => absurd rfl q⟩⟩)
    exact K s2 (by rw [List.append_assoc] at E2; exact E2) (hr1.trans hr2)
end
