/-! THE CLASS: a new book -/
section
variable {nl : Bool} {Ln : Nat} {xs : Nat → Int32} {d : Nat} {s5 : am_S} {w : ow_T}
def owN (w : ow_T) (n0 : Nat) : ow_T := fun c => if c = n0 ∨ (n0 + 3 ≤ c ∧ c ≤ n0 + 8) then (n0, 2) else if c = n0 + 1 ∨ c = n0 + 2 then (n0, 3) else w c
theorem bk_made {s : am_S} {n0 : Nat} (hn0 : am_nx s5 = n0) (h1189 : 1189 ≤ n0) (ho : OwI s5 w) (k0 : am_kd s n0 = (7, 0)) (k1 : am_kd s (n0 + 1) = (2, 0)) (k2 : am_kd s (n0 + 2) = (1002, 64)) (k3 : am_kd s (n0 + 3) = (2009, 100)) (k4 : am_kd s (n0 + 4) = (2010, 200)) (k5 : am_kd s (n0 + 5) = (2011, 100)) (k6 : am_kd s (n0 + 6) = (1000, 8)) (k7 : am_kd s (n0 + 7) = (1001, 420)) (k8 : am_kd s (n0 + 8) = (1000, 100)) (r0 : am_fR s 6000 n0 = some 1008) (r1 : am_fR s 6001 n0 = some 1034) (r2 : am_fR s 6002 n0 = some 1038) (r3 : am_fR s 6003 n0 = some (n0 + 1)) (r4 : am_fR s 6004 n0 = some (n0 + 3)) (r5 : am_fR s 6005 n0 = some (n0 + 4)) (r6 : am_fR s 6006 n0 = some (n0 + 5)) (r7 : am_fR s 6007 n0 = some (n0 + 6)) (r8 : am_fR s 6008 n0 = some (n0 + 7)) (r9 : am_fR s 6009 n0 = some (n0 + 8)) (r10 : am_fR s 6010 n0 = none) (rl : am_fR s 1000 (n0 + 1) = some (n0 + 2)) (fI : ∀ g, am_fI s g n0 = 0) (fl : am_fI s 1001 (n0 + 1) = 0) (a2 : ∀ i, am_aI s (n0 + 2) i = 0) (a6 : ∀ i, am_aI s (n0 + 6) i = 0) (hx : am_nx s = n0 + 9) (old : ∀ c, c < n0 → am_eqc s5 s c) : BookR s (owN w n0) n0 m_new 0 0 ∧ Eff (fun _ => False) s5 w s (owN w n0) := by
  have ba : ∀ g c, am_fR s g n0 = some c → bA s n0 g = c := fun g c h => by unfold bA; rw [h]; rfl
  have ark : ∀ g c k l, am_fR s g n0 = some c → owN w n0 c = (n0, 2) → am_kd s c = (k, l) → ArK s (owN w n0) n0 g k l := fun g c k l h1 h2 h3 => by
    unfold ArK
    rw [ba g c h1]
    exact ⟨h1, h2, h3⟩
  have w0 : owN w n0 n0 = (n0, 2) := by unfold owN; rw [if_pos (Or.inl rfl)]
  have wA : ∀ c, n0 + 3 ≤ c → c ≤ n0 + 8 → owN w n0 c = (n0, 2) := fun c h1 h2 => by unfold owN; rw [if_pos (Or.inr ⟨h1, h2⟩)]
  have wL : ∀ c, c = n0 + 1 ∨ c = n0 + 2 → owN w n0 c = (n0, 3) := fun c h => by unfold owN; rw [if_neg (by omega), if_pos h]
  have wo : ∀ c, (c < n0 ∨ n0 + 9 ≤ c) → owN w n0 c = w c := fun c h => by unfold owN; rw [if_neg (by omega), if_neg (by omega)]
  have hK : BkK s (owN w n0) n0 := ⟨w0, k0, by omega, ⟨r0, r1, r2⟩, ark 6004 _ _ _ r4 (wA _ (by omega) (by omega)) k3, ark 6005 _ _ _ r5 (wA _ (by omega) (by omega)) k4, ark 6006 _ _ _ r6 (wA _ (by omega) (by omega)) k5, ark 6007 _ _ _ r7 (wA _ (by omega) (by omega)) k6, ark 6008 _ _ _ r8 (wA _ (by omega) (by omega)) k7, ark 6009 _ _ _ r9 (wA _ (by omega) (by omega)) k8⟩
  have lg : ByR s (owN w n0) (n0, 3) (n0 + 1) 0 [] := by_new (wL _ (Or.inl rfl)) k1 fl rl (wL _ (Or.inr rfl)) k2 (fun i _ => a2 i)
  refine ⟨?_, fun c hc => ?_, fun q _ hq c hc => ?_⟩
  · refine ⟨⟨hK, ⟨fI _, fI _, fI _⟩, fun i p hp => absurd hp (by show ¬ ([] : List mPol)[i]? = some p; simp), fun i p hp => absurd hp (by show ¬ ([] : List mLoss)[i]? = some p; simp), fun i p hp => absurd hp (by show ¬ ([] : List mCase)[i]? = some p; simp), fun q hq => ?_, r10⟩, ⟨fI _, fI _, fI _, fI _, fI _, fI _, fI _, fI _, fI _⟩, fun i p hp => absurd hp (by show ¬ ([] : List mDeed)[i]? = some p; simp), ⟨n0 + 1, r3, lg⟩, fun _ => [], fun i hi => absurd hi (by show ¬ i < 0; omega), rfl⟩
    rw [ba 6007 _ r7, a6 q]
    rfl
  · rw [hx] at hc
    rw [wo c (by omega)]
    exact ho c (by omega)
  · have hlt : c < n0 := Nat.lt_of_not_le (fun h => hq (hc.symm.trans (ho c (by omega))))
    exact ⟨(wo c (Or.inl hlt)).trans hc, old c hlt⟩
theorem bk_init {t12 : am_S} {n0 : Nat} {F : am_S → Prop} (hn0 : am_nx s5 = n0) (e12 : t12 = am_new s5 7 0 20) (z12 : am_fz t12 n0) (ho : OwI s5 w) (h1189 : 1189 ≤ n0) (K : ∀ s, BookR s (owN w n0) n0 m_new 0 0 → Eff (fun _ => False) s5 w s (owN w n0) → am_nx s = n0 + 9 → am_sl s = am_sl s5 + 1016 → F s) : k_Bk_init nl Ln xs (d + 2) n0 (some 1008) (some 1034) (some 1038) t12 F := by
  have x12 : am_nx t12 = n0 + 1 := by rw [e12]; show am_nx s5 + 1 = _; rw [hn0]
  have y12 : am_sl t12 = am_sl s5 + 20 := by rw [e12]
  have k12 : am_kd t12 n0 = (7, 0) := by rw [e12]; show va_up _ (am_nx s5) (7, 0) n0 = _; rw [hn0]; exact up_same
  have old12 : ∀ c, c < n0 → am_eqc s5 t12 c := fun c hc => by rw [e12]; exact eqc_new (by omega)
  have lt : ∀ c k, c < n0 → c ≠ n0 + k := fun c k h => by omega
  have nn : ∀ c, c < n0 → c ≠ n0 := fun c h => by omega
  have ne : ∀ a b : Nat, a ≠ b → n0 + a ≠ n0 + b := fun a b h z => h (Nat.add_left_cancel z)
  have ne0 : ∀ b : Nat, n0 ≠ n0 + (b + 1) := fun b => by omega
  refine low (fun hL => w_Bk_init ?_)
  have f12 : ∀ g, am_fI t12 g n0 = 0 ∧ am_fR t12 g n0 = none := fun g => ⟨(z12 g).1, (z12 g).2.2.1⟩
  have fI_t12 : ∀ g, am_fI t12 g n0 = 0 := fun g => (f12 g).1
  have f10_t12 : am_fR t12 6010 n0 = none := (f12 6010).2
  intro t1 e_t1 _ z_t1
  rw [x12] at z_t1
  have x_t1 : am_nx t1 = n0 + 2 := by rw [e_t1]; show am_nx t12 + 1 = _; rw [x12]
  have y_t1 : am_sl t1 = am_sl s5 + 24 := by rw [e_t1]; show am_sl t12 + 4 = _; rw [y12]
  have kn_t1 : am_kd t1 (n0 + 1) = (2, 0) := by rw [e_t1]; show va_up _ (am_nx t12) (2, 0) (n0 + 1) = _; rw [x12]; exact up_same
  have k_n0_t1 : am_kd t1 (n0) = (7, 0) := by rw [e_t1]; exact (am_vup (by rw [x12]; exact ne0 _)).trans k12
  have old_t1 : ∀ c, c < n0 → am_eqc s5 t1 c := fun c hc => (old12 c hc).trans (by rw [e_t1]; exact eqc_new (by rw [x12]; exact lt c _ hc))
  have fI_t1 : ∀ g, am_fI t1 g n0 = 0 := fun g => by rw [e_t1]; exact fI_t12 g
  have f10_t1 : am_fR t1 6010 n0 = none := by rw [e_t1]; exact f10_t12
  have lI_t1 : am_fI t1 1001 (n0 + 1) = 0 := (z_t1 1001).1
  rw [x12]
  refine w_By_init ?_
  intro tB e_tB _ z_tB
  rw [x_t1] at z_tB
  have x_tB : am_nx tB = n0 + 3 := by rw [e_tB]; show am_nx t1 + 1 = _; rw [x_t1]
  have y_tB : am_sl tB = am_sl s5 + 88 := by rw [e_tB]; show am_sl t1 + 64 = _; rw [y_t1]
  have kn_tB : am_kd tB (n0 + 2) = (1002, 64) := by rw [e_tB]; show va_up _ (am_nx t1) (1002, 64) (n0 + 2) = _; rw [x_t1]; exact up_same
  have k_n0_tB : am_kd tB (n0) = (7, 0) := by rw [e_tB]; exact (am_vup (by rw [x_t1]; exact ne0 _)).trans k_n0_t1
  have k_n0p1_tB : am_kd tB (n0 + 1) = (2, 0) := by rw [e_tB]; exact (am_vup (by rw [x_t1]; exact ne _ _ (by decide))).trans kn_t1
  have old_tB : ∀ c, c < n0 → am_eqc s5 tB c := fun c hc => (old_t1 c hc).trans (by rw [e_tB]; exact eqc_new (by rw [x_t1]; exact lt c _ hc))
  have fI_tB : ∀ g, am_fI tB g n0 = 0 := fun g => by rw [e_tB]; exact fI_t1 g
  have f10_tB : am_fR tB 6010 n0 = none := by rw [e_tB]; exact f10_t1
  have a2_tB : ∀ i, am_aI tB (n0 + 2) i = 0 := fun i => (z_tB i).2.2.2.1
  have lI_tB : am_fI tB 1001 (n0 + 1) = 0 := by rw [e_tB]; exact lI_t1
  refine ⟨is_mk k_n0p1_tB, ?_⟩
  intro t3 e_t3
  rw [x_t1] at e_t3
  have x_t3 : am_nx t3 = n0 + 3 := by rw [e_t3]; exact x_tB
  have y_t3 : am_sl t3 = am_sl s5 + 88 := by rw [e_t3]; exact y_tB
  have k_n0_t3 : am_kd t3 (n0) = (7, 0) := by rw [e_t3]; exact k_n0_tB
  have k_n0p1_t3 : am_kd t3 (n0 + 1) = (2, 0) := by rw [e_t3]; exact k_n0p1_tB
  have k_n0p2_t3 : am_kd t3 (n0 + 2) = (1002, 64) := by rw [e_t3]; exact kn_tB
  have old_t3 : ∀ c, c < n0 → am_eqc s5 t3 c := fun c hc => (old_tB c hc).trans (by rw [e_t3]; exact eqc_sfR (lt c 1 hc))
  have fI_t3 : ∀ g, am_fI t3 g n0 = 0 := fun g => by rw [e_t3]; exact fI_tB g
  have f10_t3 : am_fR t3 6010 n0 = none := by rw [e_t3, rR_g (by decide)]; exact f10_tB
  have r1000_t3 : am_fR t3 1000 (n0 + 1) = some (n0 + 2) := by rw [e_t3]; exact rR_same
  have a2_t3 : ∀ i, am_aI t3 (n0 + 2) i = 0 := fun i => by rw [e_t3]; exact a2_tB i
  have lI_t3 : am_fI t3 1001 (n0 + 1) = 0 := by rw [e_t3]; exact lI_tB
  intro _
  refine ⟨is_mk k_n0_t3, ?_⟩
  intro t6 e_t6
  have x_t6 : am_nx t6 = n0 + 3 := by rw [e_t6]; exact x_t3
  have y_t6 : am_sl t6 = am_sl s5 + 88 := by rw [e_t6]; exact y_t3
  have k_n0_t6 : am_kd t6 (n0) = (7, 0) := by rw [e_t6]; exact k_n0_t3
  have k_n0p1_t6 : am_kd t6 (n0 + 1) = (2, 0) := by rw [e_t6]; exact k_n0p1_t3
  have k_n0p2_t6 : am_kd t6 (n0 + 2) = (1002, 64) := by rw [e_t6]; exact k_n0p2_t3
  have old_t6 : ∀ c, c < n0 → am_eqc s5 t6 c := fun c hc => (old_t3 c hc).trans (by rw [e_t6]; exact eqc_sfR (nn c hc))
  have fI_t6 : ∀ g, am_fI t6 g n0 = 0 := fun g => by rw [e_t6]; exact fI_t3 g
  have f10_t6 : am_fR t6 6010 n0 = none := by rw [e_t6, rR_g (by decide)]; exact f10_t3
  have r1000_t6 : am_fR t6 1000 (n0 + 1) = some (n0 + 2) := by rw [e_t6, rR_g (by decide)]; exact r1000_t3
  have r6003_t6 : am_fR t6 6003 (n0) = some (n0 + 1) := by rw [e_t6]; exact rR_same
  have a2_t6 : ∀ i, am_aI t6 (n0 + 2) i = 0 := fun i => by rw [e_t6]; exact a2_t3 i
  have lI_t6 : am_fI t6 1001 (n0 + 1) = 0 := by rw [e_t6]; exact lI_t3
  intro t9 e_t9 _ z_t9
  rw [x_t6] at z_t9
  have x_t9 : am_nx t9 = n0 + 4 := by rw [e_t9]; show am_nx t6 + 1 = _; rw [x_t6]
  have y_t9 : am_sl t9 = am_sl s5 + 188 := by rw [e_t9]; show am_sl t6 + 100 = _; rw [y_t6]
  have kn_t9 : am_kd t9 (n0 + 3) = (2009, 100) := by rw [e_t9]; show va_up _ (am_nx t6) (2009, 100) (n0 + 3) = _; rw [x_t6]; exact up_same
  have k_n0_t9 : am_kd t9 (n0) = (7, 0) := by rw [e_t9]; exact (am_vup (by rw [x_t6]; exact ne0 _)).trans k_n0_t6
  have k_n0p1_t9 : am_kd t9 (n0 + 1) = (2, 0) := by rw [e_t9]; exact (am_vup (by rw [x_t6]; exact ne _ _ (by decide))).trans k_n0p1_t6
  have k_n0p2_t9 : am_kd t9 (n0 + 2) = (1002, 64) := by rw [e_t9]; exact (am_vup (by rw [x_t6]; exact ne _ _ (by decide))).trans k_n0p2_t6
  have old_t9 : ∀ c, c < n0 → am_eqc s5 t9 c := fun c hc => (old_t6 c hc).trans (by rw [e_t9]; exact eqc_new (by rw [x_t6]; exact lt c _ hc))
  have fI_t9 : ∀ g, am_fI t9 g n0 = 0 := fun g => by rw [e_t9]; exact fI_t6 g
  have f10_t9 : am_fR t9 6010 n0 = none := by rw [e_t9]; exact f10_t6
  have r1000_t9 : am_fR t9 1000 (n0 + 1) = some (n0 + 2) := by rw [e_t9]; exact r1000_t6
  have r6003_t9 : am_fR t9 6003 (n0) = some (n0 + 1) := by rw [e_t9]; exact r6003_t6
  have a2_t9 : ∀ i, am_aI t9 (n0 + 2) i = 0 := fun i => by rw [e_t9]; exact a2_t6 i
  have lI_t9 : am_fI t9 1001 (n0 + 1) = 0 := by rw [e_t9]; exact lI_t6
  intro t11 e_t11
  rw [x_t6] at e_t11
  have x_t11 : am_nx t11 = n0 + 4 := by rw [e_t11]; exact x_t9
  have y_t11 : am_sl t11 = am_sl s5 + 188 := by rw [e_t11]; exact y_t9
  have k_n0_t11 : am_kd t11 (n0) = (7, 0) := by rw [e_t11]; exact k_n0_t9
  have k_n0p1_t11 : am_kd t11 (n0 + 1) = (2, 0) := by rw [e_t11]; exact k_n0p1_t9
  have k_n0p2_t11 : am_kd t11 (n0 + 2) = (1002, 64) := by rw [e_t11]; exact k_n0p2_t9
  have k_n0p3_t11 : am_kd t11 (n0 + 3) = (2009, 100) := by rw [e_t11]; exact kn_t9
  have old_t11 : ∀ c, c < n0 → am_eqc s5 t11 c := fun c hc => (old_t9 c hc).trans (by rw [e_t11]; exact eqc_sfR (nn c hc))
  have fI_t11 : ∀ g, am_fI t11 g n0 = 0 := fun g => by rw [e_t11]; exact fI_t9 g
  have f10_t11 : am_fR t11 6010 n0 = none := by rw [e_t11, rR_g (by decide)]; exact f10_t9
  have r1000_t11 : am_fR t11 1000 (n0 + 1) = some (n0 + 2) := by rw [e_t11, rR_g (by decide)]; exact r1000_t9
  have r6003_t11 : am_fR t11 6003 (n0) = some (n0 + 1) := by rw [e_t11, rR_g (by decide)]; exact r6003_t9
  have r6004_t11 : am_fR t11 6004 (n0) = some (n0 + 3) := by rw [e_t11]; exact rR_same
  have a2_t11 : ∀ i, am_aI t11 (n0 + 2) i = 0 := fun i => by rw [e_t11]; exact a2_t9 i
  have lI_t11 : am_fI t11 1001 (n0 + 1) = 0 := by rw [e_t11]; exact lI_t9
  intro t14 e_t14 _ z_t14
  rw [x_t11] at z_t14
  have x_t14 : am_nx t14 = n0 + 5 := by rw [e_t14]; show am_nx t11 + 1 = _; rw [x_t11]
  have y_t14 : am_sl t14 = am_sl s5 + 388 := by rw [e_t14]; show am_sl t11 + 200 = _; rw [y_t11]
  have kn_t14 : am_kd t14 (n0 + 4) = (2010, 200) := by rw [e_t14]; show va_up _ (am_nx t11) (2010, 200) (n0 + 4) = _; rw [x_t11]; exact up_same
  have k_n0_t14 : am_kd t14 (n0) = (7, 0) := by rw [e_t14]; exact (am_vup (by rw [x_t11]; exact ne0 _)).trans k_n0_t11
  have k_n0p1_t14 : am_kd t14 (n0 + 1) = (2, 0) := by rw [e_t14]; exact (am_vup (by rw [x_t11]; exact ne _ _ (by decide))).trans k_n0p1_t11
  have k_n0p2_t14 : am_kd t14 (n0 + 2) = (1002, 64) := by rw [e_t14]; exact (am_vup (by rw [x_t11]; exact ne _ _ (by decide))).trans k_n0p2_t11
  have k_n0p3_t14 : am_kd t14 (n0 + 3) = (2009, 100) := by rw [e_t14]; exact (am_vup (by rw [x_t11]; exact ne _ _ (by decide))).trans k_n0p3_t11
  have old_t14 : ∀ c, c < n0 → am_eqc s5 t14 c := fun c hc => (old_t11 c hc).trans (by rw [e_t14]; exact eqc_new (by rw [x_t11]; exact lt c _ hc))
  have fI_t14 : ∀ g, am_fI t14 g n0 = 0 := fun g => by rw [e_t14]; exact fI_t11 g
  have f10_t14 : am_fR t14 6010 n0 = none := by rw [e_t14]; exact f10_t11
  have r1000_t14 : am_fR t14 1000 (n0 + 1) = some (n0 + 2) := by rw [e_t14]; exact r1000_t11
  have r6003_t14 : am_fR t14 6003 (n0) = some (n0 + 1) := by rw [e_t14]; exact r6003_t11
  have r6004_t14 : am_fR t14 6004 (n0) = some (n0 + 3) := by rw [e_t14]; exact r6004_t11
  have a2_t14 : ∀ i, am_aI t14 (n0 + 2) i = 0 := fun i => by rw [e_t14]; exact a2_t11 i
  have lI_t14 : am_fI t14 1001 (n0 + 1) = 0 := by rw [e_t14]; exact lI_t11
  intro t16 e_t16
  rw [x_t11] at e_t16
  have x_t16 : am_nx t16 = n0 + 5 := by rw [e_t16]; exact x_t14
  have y_t16 : am_sl t16 = am_sl s5 + 388 := by rw [e_t16]; exact y_t14
  have k_n0_t16 : am_kd t16 (n0) = (7, 0) := by rw [e_t16]; exact k_n0_t14
  have k_n0p1_t16 : am_kd t16 (n0 + 1) = (2, 0) := by rw [e_t16]; exact k_n0p1_t14
  have k_n0p2_t16 : am_kd t16 (n0 + 2) = (1002, 64) := by rw [e_t16]; exact k_n0p2_t14
  have k_n0p3_t16 : am_kd t16 (n0 + 3) = (2009, 100) := by rw [e_t16]; exact k_n0p3_t14
  have k_n0p4_t16 : am_kd t16 (n0 + 4) = (2010, 200) := by rw [e_t16]; exact kn_t14
  have old_t16 : ∀ c, c < n0 → am_eqc s5 t16 c := fun c hc => (old_t14 c hc).trans (by rw [e_t16]; exact eqc_sfR (nn c hc))
  have fI_t16 : ∀ g, am_fI t16 g n0 = 0 := fun g => by rw [e_t16]; exact fI_t14 g
  have f10_t16 : am_fR t16 6010 n0 = none := by rw [e_t16, rR_g (by decide)]; exact f10_t14
  have r1000_t16 : am_fR t16 1000 (n0 + 1) = some (n0 + 2) := by rw [e_t16, rR_g (by decide)]; exact r1000_t14
  have r6003_t16 : am_fR t16 6003 (n0) = some (n0 + 1) := by rw [e_t16, rR_g (by decide)]; exact r6003_t14
  have r6004_t16 : am_fR t16 6004 (n0) = some (n0 + 3) := by rw [e_t16, rR_g (by decide)]; exact r6004_t14
  have r6005_t16 : am_fR t16 6005 (n0) = some (n0 + 4) := by rw [e_t16]; exact rR_same
  have a2_t16 : ∀ i, am_aI t16 (n0 + 2) i = 0 := fun i => by rw [e_t16]; exact a2_t14 i
  have lI_t16 : am_fI t16 1001 (n0 + 1) = 0 := by rw [e_t16]; exact lI_t14
  intro t19 e_t19 _ z_t19
  rw [x_t16] at z_t19
  have x_t19 : am_nx t19 = n0 + 6 := by rw [e_t19]; show am_nx t16 + 1 = _; rw [x_t16]
  have y_t19 : am_sl t19 = am_sl s5 + 488 := by rw [e_t19]; show am_sl t16 + 100 = _; rw [y_t16]
  have kn_t19 : am_kd t19 (n0 + 5) = (2011, 100) := by rw [e_t19]; show va_up _ (am_nx t16) (2011, 100) (n0 + 5) = _; rw [x_t16]; exact up_same
  have k_n0_t19 : am_kd t19 (n0) = (7, 0) := by rw [e_t19]; exact (am_vup (by rw [x_t16]; exact ne0 _)).trans k_n0_t16
  have k_n0p1_t19 : am_kd t19 (n0 + 1) = (2, 0) := by rw [e_t19]; exact (am_vup (by rw [x_t16]; exact ne _ _ (by decide))).trans k_n0p1_t16
  have k_n0p2_t19 : am_kd t19 (n0 + 2) = (1002, 64) := by rw [e_t19]; exact (am_vup (by rw [x_t16]; exact ne _ _ (by decide))).trans k_n0p2_t16
  have k_n0p3_t19 : am_kd t19 (n0 + 3) = (2009, 100) := by rw [e_t19]; exact (am_vup (by rw [x_t16]; exact ne _ _ (by decide))).trans k_n0p3_t16
  have k_n0p4_t19 : am_kd t19 (n0 + 4) = (2010, 200) := by rw [e_t19]; exact (am_vup (by rw [x_t16]; exact ne _ _ (by decide))).trans k_n0p4_t16
  have old_t19 : ∀ c, c < n0 → am_eqc s5 t19 c := fun c hc => (old_t16 c hc).trans (by rw [e_t19]; exact eqc_new (by rw [x_t16]; exact lt c _ hc))
  have fI_t19 : ∀ g, am_fI t19 g n0 = 0 := fun g => by rw [e_t19]; exact fI_t16 g
  have f10_t19 : am_fR t19 6010 n0 = none := by rw [e_t19]; exact f10_t16
  have r1000_t19 : am_fR t19 1000 (n0 + 1) = some (n0 + 2) := by rw [e_t19]; exact r1000_t16
  have r6003_t19 : am_fR t19 6003 (n0) = some (n0 + 1) := by rw [e_t19]; exact r6003_t16
  have r6004_t19 : am_fR t19 6004 (n0) = some (n0 + 3) := by rw [e_t19]; exact r6004_t16
  have r6005_t19 : am_fR t19 6005 (n0) = some (n0 + 4) := by rw [e_t19]; exact r6005_t16
  have a2_t19 : ∀ i, am_aI t19 (n0 + 2) i = 0 := fun i => by rw [e_t19]; exact a2_t16 i
  have lI_t19 : am_fI t19 1001 (n0 + 1) = 0 := by rw [e_t19]; exact lI_t16
  intro t21 e_t21
  rw [x_t16] at e_t21
  have x_t21 : am_nx t21 = n0 + 6 := by rw [e_t21]; exact x_t19
  have y_t21 : am_sl t21 = am_sl s5 + 488 := by rw [e_t21]; exact y_t19
  have k_n0_t21 : am_kd t21 (n0) = (7, 0) := by rw [e_t21]; exact k_n0_t19
  have k_n0p1_t21 : am_kd t21 (n0 + 1) = (2, 0) := by rw [e_t21]; exact k_n0p1_t19
  have k_n0p2_t21 : am_kd t21 (n0 + 2) = (1002, 64) := by rw [e_t21]; exact k_n0p2_t19
  have k_n0p3_t21 : am_kd t21 (n0 + 3) = (2009, 100) := by rw [e_t21]; exact k_n0p3_t19
  have k_n0p4_t21 : am_kd t21 (n0 + 4) = (2010, 200) := by rw [e_t21]; exact k_n0p4_t19
  have k_n0p5_t21 : am_kd t21 (n0 + 5) = (2011, 100) := by rw [e_t21]; exact kn_t19
  have old_t21 : ∀ c, c < n0 → am_eqc s5 t21 c := fun c hc => (old_t19 c hc).trans (by rw [e_t21]; exact eqc_sfR (nn c hc))
  have fI_t21 : ∀ g, am_fI t21 g n0 = 0 := fun g => by rw [e_t21]; exact fI_t19 g
  have f10_t21 : am_fR t21 6010 n0 = none := by rw [e_t21, rR_g (by decide)]; exact f10_t19
  have r1000_t21 : am_fR t21 1000 (n0 + 1) = some (n0 + 2) := by rw [e_t21, rR_g (by decide)]; exact r1000_t19
  have r6003_t21 : am_fR t21 6003 (n0) = some (n0 + 1) := by rw [e_t21, rR_g (by decide)]; exact r6003_t19
  have r6004_t21 : am_fR t21 6004 (n0) = some (n0 + 3) := by rw [e_t21, rR_g (by decide)]; exact r6004_t19
  have r6005_t21 : am_fR t21 6005 (n0) = some (n0 + 4) := by rw [e_t21, rR_g (by decide)]; exact r6005_t19
  have r6006_t21 : am_fR t21 6006 (n0) = some (n0 + 5) := by rw [e_t21]; exact rR_same
  have a2_t21 : ∀ i, am_aI t21 (n0 + 2) i = 0 := fun i => by rw [e_t21]; exact a2_t19 i
  have lI_t21 : am_fI t21 1001 (n0 + 1) = 0 := by rw [e_t21]; exact lI_t19
  refine ⟨by rw [(show (am_kd t21 500) = am_kd s5 500 from (old_t21 500 (by omega)).kd), ← (show (am_kd t12 500) = am_kd s5 500 from (old12 500 (by omega)).kd)]; exact hL 500 (by decide), ?_⟩
  intro t25 e_t25 _ z_t25
  rw [x_t21] at z_t25
  have x_t25 : am_nx t25 = n0 + 7 := by rw [e_t25]; show am_nx t21 + 1 = _; rw [x_t21]
  have y_t25 : am_sl t25 = am_sl s5 + 496 := by rw [e_t25]; show am_sl t21 + 8 = _; rw [y_t21]
  have kn_t25 : am_kd t25 (n0 + 6) = (1000, 8) := by rw [e_t25]; show va_up _ (am_nx t21) (1000, 8) (n0 + 6) = _; rw [x_t21]; exact up_same
  have k_n0_t25 : am_kd t25 (n0) = (7, 0) := by rw [e_t25]; exact (am_vup (by rw [x_t21]; exact ne0 _)).trans k_n0_t21
  have k_n0p1_t25 : am_kd t25 (n0 + 1) = (2, 0) := by rw [e_t25]; exact (am_vup (by rw [x_t21]; exact ne _ _ (by decide))).trans k_n0p1_t21
  have k_n0p2_t25 : am_kd t25 (n0 + 2) = (1002, 64) := by rw [e_t25]; exact (am_vup (by rw [x_t21]; exact ne _ _ (by decide))).trans k_n0p2_t21
  have k_n0p3_t25 : am_kd t25 (n0 + 3) = (2009, 100) := by rw [e_t25]; exact (am_vup (by rw [x_t21]; exact ne _ _ (by decide))).trans k_n0p3_t21
  have k_n0p4_t25 : am_kd t25 (n0 + 4) = (2010, 200) := by rw [e_t25]; exact (am_vup (by rw [x_t21]; exact ne _ _ (by decide))).trans k_n0p4_t21
  have k_n0p5_t25 : am_kd t25 (n0 + 5) = (2011, 100) := by rw [e_t25]; exact (am_vup (by rw [x_t21]; exact ne _ _ (by decide))).trans k_n0p5_t21
  have old_t25 : ∀ c, c < n0 → am_eqc s5 t25 c := fun c hc => (old_t21 c hc).trans (by rw [e_t25]; exact eqc_new (by rw [x_t21]; exact lt c _ hc))
  have fI_t25 : ∀ g, am_fI t25 g n0 = 0 := fun g => by rw [e_t25]; exact fI_t21 g
  have f10_t25 : am_fR t25 6010 n0 = none := by rw [e_t25]; exact f10_t21
  have r1000_t25 : am_fR t25 1000 (n0 + 1) = some (n0 + 2) := by rw [e_t25]; exact r1000_t21
  have r6003_t25 : am_fR t25 6003 (n0) = some (n0 + 1) := by rw [e_t25]; exact r6003_t21
  have r6004_t25 : am_fR t25 6004 (n0) = some (n0 + 3) := by rw [e_t25]; exact r6004_t21
  have r6005_t25 : am_fR t25 6005 (n0) = some (n0 + 4) := by rw [e_t25]; exact r6005_t21
  have r6006_t25 : am_fR t25 6006 (n0) = some (n0 + 5) := by rw [e_t25]; exact r6006_t21
  have a2_t25 : ∀ i, am_aI t25 (n0 + 2) i = 0 := fun i => by rw [e_t25]; exact a2_t21 i
  have a6_t25 : ∀ i, am_aI t25 (n0 + 6) i = 0 := fun i => (z_t25 i).2.2.2.1
  have lI_t25 : am_fI t25 1001 (n0 + 1) = 0 := by rw [e_t25]; exact lI_t21
  intro t27 e_t27
  rw [x_t21] at e_t27
  have x_t27 : am_nx t27 = n0 + 7 := by rw [e_t27]; exact x_t25
  have y_t27 : am_sl t27 = am_sl s5 + 496 := by rw [e_t27]; exact y_t25
  have k_n0_t27 : am_kd t27 (n0) = (7, 0) := by rw [e_t27]; exact k_n0_t25
  have k_n0p1_t27 : am_kd t27 (n0 + 1) = (2, 0) := by rw [e_t27]; exact k_n0p1_t25
  have k_n0p2_t27 : am_kd t27 (n0 + 2) = (1002, 64) := by rw [e_t27]; exact k_n0p2_t25
  have k_n0p3_t27 : am_kd t27 (n0 + 3) = (2009, 100) := by rw [e_t27]; exact k_n0p3_t25
  have k_n0p4_t27 : am_kd t27 (n0 + 4) = (2010, 200) := by rw [e_t27]; exact k_n0p4_t25
  have k_n0p5_t27 : am_kd t27 (n0 + 5) = (2011, 100) := by rw [e_t27]; exact k_n0p5_t25
  have k_n0p6_t27 : am_kd t27 (n0 + 6) = (1000, 8) := by rw [e_t27]; exact kn_t25
  have old_t27 : ∀ c, c < n0 → am_eqc s5 t27 c := fun c hc => (old_t25 c hc).trans (by rw [e_t27]; exact eqc_sfR (nn c hc))
  have fI_t27 : ∀ g, am_fI t27 g n0 = 0 := fun g => by rw [e_t27]; exact fI_t25 g
  have f10_t27 : am_fR t27 6010 n0 = none := by rw [e_t27, rR_g (by decide)]; exact f10_t25
  have r1000_t27 : am_fR t27 1000 (n0 + 1) = some (n0 + 2) := by rw [e_t27, rR_g (by decide)]; exact r1000_t25
  have r6003_t27 : am_fR t27 6003 (n0) = some (n0 + 1) := by rw [e_t27, rR_g (by decide)]; exact r6003_t25
  have r6004_t27 : am_fR t27 6004 (n0) = some (n0 + 3) := by rw [e_t27, rR_g (by decide)]; exact r6004_t25
  have r6005_t27 : am_fR t27 6005 (n0) = some (n0 + 4) := by rw [e_t27, rR_g (by decide)]; exact r6005_t25
  have r6006_t27 : am_fR t27 6006 (n0) = some (n0 + 5) := by rw [e_t27, rR_g (by decide)]; exact r6006_t25
  have r6007_t27 : am_fR t27 6007 (n0) = some (n0 + 6) := by rw [e_t27]; exact rR_same
  have a2_t27 : ∀ i, am_aI t27 (n0 + 2) i = 0 := fun i => by rw [e_t27]; exact a2_t25 i
  have a6_t27 : ∀ i, am_aI t27 (n0 + 6) i = 0 := fun i => by rw [e_t27]; exact a6_t25 i
  have lI_t27 : am_fI t27 1001 (n0 + 1) = 0 := by rw [e_t27]; exact lI_t25
  intro t30 e_t30 _ z_t30
  rw [x_t27] at z_t30
  have x_t30 : am_nx t30 = n0 + 8 := by rw [e_t30]; show am_nx t27 + 1 = _; rw [x_t27]
  have y_t30 : am_sl t30 = am_sl s5 + 916 := by rw [e_t30]; show am_sl t27 + 420 = _; rw [y_t27]
  have kn_t30 : am_kd t30 (n0 + 7) = (1001, 420) := by rw [e_t30]; show va_up _ (am_nx t27) (1001, 420) (n0 + 7) = _; rw [x_t27]; exact up_same
  have k_n0_t30 : am_kd t30 (n0) = (7, 0) := by rw [e_t30]; exact (am_vup (by rw [x_t27]; exact ne0 _)).trans k_n0_t27
  have k_n0p1_t30 : am_kd t30 (n0 + 1) = (2, 0) := by rw [e_t30]; exact (am_vup (by rw [x_t27]; exact ne _ _ (by decide))).trans k_n0p1_t27
  have k_n0p2_t30 : am_kd t30 (n0 + 2) = (1002, 64) := by rw [e_t30]; exact (am_vup (by rw [x_t27]; exact ne _ _ (by decide))).trans k_n0p2_t27
  have k_n0p3_t30 : am_kd t30 (n0 + 3) = (2009, 100) := by rw [e_t30]; exact (am_vup (by rw [x_t27]; exact ne _ _ (by decide))).trans k_n0p3_t27
  have k_n0p4_t30 : am_kd t30 (n0 + 4) = (2010, 200) := by rw [e_t30]; exact (am_vup (by rw [x_t27]; exact ne _ _ (by decide))).trans k_n0p4_t27
  have k_n0p5_t30 : am_kd t30 (n0 + 5) = (2011, 100) := by rw [e_t30]; exact (am_vup (by rw [x_t27]; exact ne _ _ (by decide))).trans k_n0p5_t27
  have k_n0p6_t30 : am_kd t30 (n0 + 6) = (1000, 8) := by rw [e_t30]; exact (am_vup (by rw [x_t27]; exact ne _ _ (by decide))).trans k_n0p6_t27
  have old_t30 : ∀ c, c < n0 → am_eqc s5 t30 c := fun c hc => (old_t27 c hc).trans (by rw [e_t30]; exact eqc_new (by rw [x_t27]; exact lt c _ hc))
  have fI_t30 : ∀ g, am_fI t30 g n0 = 0 := fun g => by rw [e_t30]; exact fI_t27 g
  have f10_t30 : am_fR t30 6010 n0 = none := by rw [e_t30]; exact f10_t27
  have r1000_t30 : am_fR t30 1000 (n0 + 1) = some (n0 + 2) := by rw [e_t30]; exact r1000_t27
  have r6003_t30 : am_fR t30 6003 (n0) = some (n0 + 1) := by rw [e_t30]; exact r6003_t27
  have r6004_t30 : am_fR t30 6004 (n0) = some (n0 + 3) := by rw [e_t30]; exact r6004_t27
  have r6005_t30 : am_fR t30 6005 (n0) = some (n0 + 4) := by rw [e_t30]; exact r6005_t27
  have r6006_t30 : am_fR t30 6006 (n0) = some (n0 + 5) := by rw [e_t30]; exact r6006_t27
  have r6007_t30 : am_fR t30 6007 (n0) = some (n0 + 6) := by rw [e_t30]; exact r6007_t27
  have a2_t30 : ∀ i, am_aI t30 (n0 + 2) i = 0 := fun i => by rw [e_t30]; exact a2_t27 i
  have a6_t30 : ∀ i, am_aI t30 (n0 + 6) i = 0 := fun i => by rw [e_t30]; exact a6_t27 i
  have lI_t30 : am_fI t30 1001 (n0 + 1) = 0 := by rw [e_t30]; exact lI_t27
  intro t32 e_t32
  rw [x_t27] at e_t32
  have x_t32 : am_nx t32 = n0 + 8 := by rw [e_t32]; exact x_t30
  have y_t32 : am_sl t32 = am_sl s5 + 916 := by rw [e_t32]; exact y_t30
  have k_n0_t32 : am_kd t32 (n0) = (7, 0) := by rw [e_t32]; exact k_n0_t30
  have k_n0p1_t32 : am_kd t32 (n0 + 1) = (2, 0) := by rw [e_t32]; exact k_n0p1_t30
  have k_n0p2_t32 : am_kd t32 (n0 + 2) = (1002, 64) := by rw [e_t32]; exact k_n0p2_t30
  have k_n0p3_t32 : am_kd t32 (n0 + 3) = (2009, 100) := by rw [e_t32]; exact k_n0p3_t30
  have k_n0p4_t32 : am_kd t32 (n0 + 4) = (2010, 200) := by rw [e_t32]; exact k_n0p4_t30
  have k_n0p5_t32 : am_kd t32 (n0 + 5) = (2011, 100) := by rw [e_t32]; exact k_n0p5_t30
  have k_n0p6_t32 : am_kd t32 (n0 + 6) = (1000, 8) := by rw [e_t32]; exact k_n0p6_t30
  have k_n0p7_t32 : am_kd t32 (n0 + 7) = (1001, 420) := by rw [e_t32]; exact kn_t30
  have old_t32 : ∀ c, c < n0 → am_eqc s5 t32 c := fun c hc => (old_t30 c hc).trans (by rw [e_t32]; exact eqc_sfR (nn c hc))
  have fI_t32 : ∀ g, am_fI t32 g n0 = 0 := fun g => by rw [e_t32]; exact fI_t30 g
  have f10_t32 : am_fR t32 6010 n0 = none := by rw [e_t32, rR_g (by decide)]; exact f10_t30
  have r1000_t32 : am_fR t32 1000 (n0 + 1) = some (n0 + 2) := by rw [e_t32, rR_g (by decide)]; exact r1000_t30
  have r6003_t32 : am_fR t32 6003 (n0) = some (n0 + 1) := by rw [e_t32, rR_g (by decide)]; exact r6003_t30
  have r6004_t32 : am_fR t32 6004 (n0) = some (n0 + 3) := by rw [e_t32, rR_g (by decide)]; exact r6004_t30
  have r6005_t32 : am_fR t32 6005 (n0) = some (n0 + 4) := by rw [e_t32, rR_g (by decide)]; exact r6005_t30
  have r6006_t32 : am_fR t32 6006 (n0) = some (n0 + 5) := by rw [e_t32, rR_g (by decide)]; exact r6006_t30
  have r6007_t32 : am_fR t32 6007 (n0) = some (n0 + 6) := by rw [e_t32, rR_g (by decide)]; exact r6007_t30
  have r6008_t32 : am_fR t32 6008 (n0) = some (n0 + 7) := by rw [e_t32]; exact rR_same
  have a2_t32 : ∀ i, am_aI t32 (n0 + 2) i = 0 := fun i => by rw [e_t32]; exact a2_t30 i
  have a6_t32 : ∀ i, am_aI t32 (n0 + 6) i = 0 := fun i => by rw [e_t32]; exact a6_t30 i
  have lI_t32 : am_fI t32 1001 (n0 + 1) = 0 := by rw [e_t32]; exact lI_t30
  intro t35 e_t35 _ z_t35
  rw [x_t32] at z_t35
  have x_t35 : am_nx t35 = n0 + 9 := by rw [e_t35]; show am_nx t32 + 1 = _; rw [x_t32]
  have y_t35 : am_sl t35 = am_sl s5 + 1016 := by rw [e_t35]; show am_sl t32 + 100 = _; rw [y_t32]
  have kn_t35 : am_kd t35 (n0 + 8) = (1000, 100) := by rw [e_t35]; show va_up _ (am_nx t32) (1000, 100) (n0 + 8) = _; rw [x_t32]; exact up_same
  have k_n0_t35 : am_kd t35 (n0) = (7, 0) := by rw [e_t35]; exact (am_vup (by rw [x_t32]; exact ne0 _)).trans k_n0_t32
  have k_n0p1_t35 : am_kd t35 (n0 + 1) = (2, 0) := by rw [e_t35]; exact (am_vup (by rw [x_t32]; exact ne _ _ (by decide))).trans k_n0p1_t32
  have k_n0p2_t35 : am_kd t35 (n0 + 2) = (1002, 64) := by rw [e_t35]; exact (am_vup (by rw [x_t32]; exact ne _ _ (by decide))).trans k_n0p2_t32
  have k_n0p3_t35 : am_kd t35 (n0 + 3) = (2009, 100) := by rw [e_t35]; exact (am_vup (by rw [x_t32]; exact ne _ _ (by decide))).trans k_n0p3_t32
  have k_n0p4_t35 : am_kd t35 (n0 + 4) = (2010, 200) := by rw [e_t35]; exact (am_vup (by rw [x_t32]; exact ne _ _ (by decide))).trans k_n0p4_t32
  have k_n0p5_t35 : am_kd t35 (n0 + 5) = (2011, 100) := by rw [e_t35]; exact (am_vup (by rw [x_t32]; exact ne _ _ (by decide))).trans k_n0p5_t32
  have k_n0p6_t35 : am_kd t35 (n0 + 6) = (1000, 8) := by rw [e_t35]; exact (am_vup (by rw [x_t32]; exact ne _ _ (by decide))).trans k_n0p6_t32
  have k_n0p7_t35 : am_kd t35 (n0 + 7) = (1001, 420) := by rw [e_t35]; exact (am_vup (by rw [x_t32]; exact ne _ _ (by decide))).trans k_n0p7_t32
  have old_t35 : ∀ c, c < n0 → am_eqc s5 t35 c := fun c hc => (old_t32 c hc).trans (by rw [e_t35]; exact eqc_new (by rw [x_t32]; exact lt c _ hc))
  have fI_t35 : ∀ g, am_fI t35 g n0 = 0 := fun g => by rw [e_t35]; exact fI_t32 g
  have f10_t35 : am_fR t35 6010 n0 = none := by rw [e_t35]; exact f10_t32
  have r1000_t35 : am_fR t35 1000 (n0 + 1) = some (n0 + 2) := by rw [e_t35]; exact r1000_t32
  have r6003_t35 : am_fR t35 6003 (n0) = some (n0 + 1) := by rw [e_t35]; exact r6003_t32
  have r6004_t35 : am_fR t35 6004 (n0) = some (n0 + 3) := by rw [e_t35]; exact r6004_t32
  have r6005_t35 : am_fR t35 6005 (n0) = some (n0 + 4) := by rw [e_t35]; exact r6005_t32
  have r6006_t35 : am_fR t35 6006 (n0) = some (n0 + 5) := by rw [e_t35]; exact r6006_t32
  have r6007_t35 : am_fR t35 6007 (n0) = some (n0 + 6) := by rw [e_t35]; exact r6007_t32
  have r6008_t35 : am_fR t35 6008 (n0) = some (n0 + 7) := by rw [e_t35]; exact r6008_t32
  have a2_t35 : ∀ i, am_aI t35 (n0 + 2) i = 0 := fun i => by rw [e_t35]; exact a2_t32 i
  have a6_t35 : ∀ i, am_aI t35 (n0 + 6) i = 0 := fun i => by rw [e_t35]; exact a6_t32 i
  have lI_t35 : am_fI t35 1001 (n0 + 1) = 0 := by rw [e_t35]; exact lI_t32
  intro t37 e_t37
  rw [x_t32] at e_t37
  have x_t37 : am_nx t37 = n0 + 9 := by rw [e_t37]; exact x_t35
  have y_t37 : am_sl t37 = am_sl s5 + 1016 := by rw [e_t37]; exact y_t35
  have k_n0_t37 : am_kd t37 (n0) = (7, 0) := by rw [e_t37]; exact k_n0_t35
  have k_n0p1_t37 : am_kd t37 (n0 + 1) = (2, 0) := by rw [e_t37]; exact k_n0p1_t35
  have k_n0p2_t37 : am_kd t37 (n0 + 2) = (1002, 64) := by rw [e_t37]; exact k_n0p2_t35
  have k_n0p3_t37 : am_kd t37 (n0 + 3) = (2009, 100) := by rw [e_t37]; exact k_n0p3_t35
  have k_n0p4_t37 : am_kd t37 (n0 + 4) = (2010, 200) := by rw [e_t37]; exact k_n0p4_t35
  have k_n0p5_t37 : am_kd t37 (n0 + 5) = (2011, 100) := by rw [e_t37]; exact k_n0p5_t35
  have k_n0p6_t37 : am_kd t37 (n0 + 6) = (1000, 8) := by rw [e_t37]; exact k_n0p6_t35
  have k_n0p7_t37 : am_kd t37 (n0 + 7) = (1001, 420) := by rw [e_t37]; exact k_n0p7_t35
  have k_n0p8_t37 : am_kd t37 (n0 + 8) = (1000, 100) := by rw [e_t37]; exact kn_t35
  have old_t37 : ∀ c, c < n0 → am_eqc s5 t37 c := fun c hc => (old_t35 c hc).trans (by rw [e_t37]; exact eqc_sfR (nn c hc))
  have fI_t37 : ∀ g, am_fI t37 g n0 = 0 := fun g => by rw [e_t37]; exact fI_t35 g
  have f10_t37 : am_fR t37 6010 n0 = none := by rw [e_t37, rR_g (by decide)]; exact f10_t35
  have r1000_t37 : am_fR t37 1000 (n0 + 1) = some (n0 + 2) := by rw [e_t37, rR_g (by decide)]; exact r1000_t35
  have r6003_t37 : am_fR t37 6003 (n0) = some (n0 + 1) := by rw [e_t37, rR_g (by decide)]; exact r6003_t35
  have r6004_t37 : am_fR t37 6004 (n0) = some (n0 + 3) := by rw [e_t37, rR_g (by decide)]; exact r6004_t35
  have r6005_t37 : am_fR t37 6005 (n0) = some (n0 + 4) := by rw [e_t37, rR_g (by decide)]; exact r6005_t35
  have r6006_t37 : am_fR t37 6006 (n0) = some (n0 + 5) := by rw [e_t37, rR_g (by decide)]; exact r6006_t35
  have r6007_t37 : am_fR t37 6007 (n0) = some (n0 + 6) := by rw [e_t37, rR_g (by decide)]; exact r6007_t35
  have r6008_t37 : am_fR t37 6008 (n0) = some (n0 + 7) := by rw [e_t37, rR_g (by decide)]; exact r6008_t35
  have r6009_t37 : am_fR t37 6009 (n0) = some (n0 + 8) := by rw [e_t37]; exact rR_same
  have a2_t37 : ∀ i, am_aI t37 (n0 + 2) i = 0 := fun i => by rw [e_t37]; exact a2_t35 i
  have a6_t37 : ∀ i, am_aI t37 (n0 + 6) i = 0 := fun i => by rw [e_t37]; exact a6_t35 i
  have lI_t37 : am_fI t37 1001 (n0 + 1) = 0 := by rw [e_t37]; exact lI_t35
  intro t40 e_t40
  have x_t40 : am_nx t40 = n0 + 9 := by rw [e_t40]; exact x_t37
  have y_t40 : am_sl t40 = am_sl s5 + 1016 := by rw [e_t40]; exact y_t37
  have k_n0_t40 : am_kd t40 (n0) = (7, 0) := by rw [e_t40]; exact k_n0_t37
  have k_n0p1_t40 : am_kd t40 (n0 + 1) = (2, 0) := by rw [e_t40]; exact k_n0p1_t37
  have k_n0p2_t40 : am_kd t40 (n0 + 2) = (1002, 64) := by rw [e_t40]; exact k_n0p2_t37
  have k_n0p3_t40 : am_kd t40 (n0 + 3) = (2009, 100) := by rw [e_t40]; exact k_n0p3_t37
  have k_n0p4_t40 : am_kd t40 (n0 + 4) = (2010, 200) := by rw [e_t40]; exact k_n0p4_t37
  have k_n0p5_t40 : am_kd t40 (n0 + 5) = (2011, 100) := by rw [e_t40]; exact k_n0p5_t37
  have k_n0p6_t40 : am_kd t40 (n0 + 6) = (1000, 8) := by rw [e_t40]; exact k_n0p6_t37
  have k_n0p7_t40 : am_kd t40 (n0 + 7) = (1001, 420) := by rw [e_t40]; exact k_n0p7_t37
  have k_n0p8_t40 : am_kd t40 (n0 + 8) = (1000, 100) := by rw [e_t40]; exact k_n0p8_t37
  have old_t40 : ∀ c, c < n0 → am_eqc s5 t40 c := fun c hc => (old_t37 c hc).trans (by rw [e_t40]; exact eqc_sfR (nn c hc))
  have fI_t40 : ∀ g, am_fI t40 g n0 = 0 := fun g => by rw [e_t40]; exact fI_t37 g
  have f10_t40 : am_fR t40 6010 n0 = none := by rw [e_t40, rR_g (by decide)]; exact f10_t37
  have r1000_t40 : am_fR t40 1000 (n0 + 1) = some (n0 + 2) := by rw [e_t40, rR_g (by decide)]; exact r1000_t37
  have r6003_t40 : am_fR t40 6003 (n0) = some (n0 + 1) := by rw [e_t40, rR_g (by decide)]; exact r6003_t37
  have r6004_t40 : am_fR t40 6004 (n0) = some (n0 + 3) := by rw [e_t40, rR_g (by decide)]; exact r6004_t37
  have r6005_t40 : am_fR t40 6005 (n0) = some (n0 + 4) := by rw [e_t40, rR_g (by decide)]; exact r6005_t37
  have r6006_t40 : am_fR t40 6006 (n0) = some (n0 + 5) := by rw [e_t40, rR_g (by decide)]; exact r6006_t37
  have r6007_t40 : am_fR t40 6007 (n0) = some (n0 + 6) := by rw [e_t40, rR_g (by decide)]; exact r6007_t37
  have r6008_t40 : am_fR t40 6008 (n0) = some (n0 + 7) := by rw [e_t40, rR_g (by decide)]; exact r6008_t37
  have r6009_t40 : am_fR t40 6009 (n0) = some (n0 + 8) := by rw [e_t40, rR_g (by decide)]; exact r6009_t37
  have r6000_t40 : am_fR t40 6000 (n0) = some 1008 := by rw [e_t40]; exact rR_same
  have a2_t40 : ∀ i, am_aI t40 (n0 + 2) i = 0 := fun i => by rw [e_t40]; exact a2_t37 i
  have a6_t40 : ∀ i, am_aI t40 (n0 + 6) i = 0 := fun i => by rw [e_t40]; exact a6_t37 i
  have lI_t40 : am_fI t40 1001 (n0 + 1) = 0 := by rw [e_t40]; exact lI_t37
  intro t43 e_t43
  have x_t43 : am_nx t43 = n0 + 9 := by rw [e_t43]; exact x_t40
  have y_t43 : am_sl t43 = am_sl s5 + 1016 := by rw [e_t43]; exact y_t40
  have k_n0_t43 : am_kd t43 (n0) = (7, 0) := by rw [e_t43]; exact k_n0_t40
  have k_n0p1_t43 : am_kd t43 (n0 + 1) = (2, 0) := by rw [e_t43]; exact k_n0p1_t40
  have k_n0p2_t43 : am_kd t43 (n0 + 2) = (1002, 64) := by rw [e_t43]; exact k_n0p2_t40
  have k_n0p3_t43 : am_kd t43 (n0 + 3) = (2009, 100) := by rw [e_t43]; exact k_n0p3_t40
  have k_n0p4_t43 : am_kd t43 (n0 + 4) = (2010, 200) := by rw [e_t43]; exact k_n0p4_t40
  have k_n0p5_t43 : am_kd t43 (n0 + 5) = (2011, 100) := by rw [e_t43]; exact k_n0p5_t40
  have k_n0p6_t43 : am_kd t43 (n0 + 6) = (1000, 8) := by rw [e_t43]; exact k_n0p6_t40
  have k_n0p7_t43 : am_kd t43 (n0 + 7) = (1001, 420) := by rw [e_t43]; exact k_n0p7_t40
  have k_n0p8_t43 : am_kd t43 (n0 + 8) = (1000, 100) := by rw [e_t43]; exact k_n0p8_t40
  have old_t43 : ∀ c, c < n0 → am_eqc s5 t43 c := fun c hc => (old_t40 c hc).trans (by rw [e_t43]; exact eqc_sfR (nn c hc))
  have fI_t43 : ∀ g, am_fI t43 g n0 = 0 := fun g => by rw [e_t43]; exact fI_t40 g
  have f10_t43 : am_fR t43 6010 n0 = none := by rw [e_t43, rR_g (by decide)]; exact f10_t40
  have r1000_t43 : am_fR t43 1000 (n0 + 1) = some (n0 + 2) := by rw [e_t43, rR_g (by decide)]; exact r1000_t40
  have r6003_t43 : am_fR t43 6003 (n0) = some (n0 + 1) := by rw [e_t43, rR_g (by decide)]; exact r6003_t40
  have r6004_t43 : am_fR t43 6004 (n0) = some (n0 + 3) := by rw [e_t43, rR_g (by decide)]; exact r6004_t40
  have r6005_t43 : am_fR t43 6005 (n0) = some (n0 + 4) := by rw [e_t43, rR_g (by decide)]; exact r6005_t40
  have r6006_t43 : am_fR t43 6006 (n0) = some (n0 + 5) := by rw [e_t43, rR_g (by decide)]; exact r6006_t40
  have r6007_t43 : am_fR t43 6007 (n0) = some (n0 + 6) := by rw [e_t43, rR_g (by decide)]; exact r6007_t40
  have r6008_t43 : am_fR t43 6008 (n0) = some (n0 + 7) := by rw [e_t43, rR_g (by decide)]; exact r6008_t40
  have r6009_t43 : am_fR t43 6009 (n0) = some (n0 + 8) := by rw [e_t43, rR_g (by decide)]; exact r6009_t40
  have r6000_t43 : am_fR t43 6000 (n0) = some 1008 := by rw [e_t43, rR_g (by decide)]; exact r6000_t40
  have r6001_t43 : am_fR t43 6001 (n0) = some 1034 := by rw [e_t43]; exact rR_same
  have a2_t43 : ∀ i, am_aI t43 (n0 + 2) i = 0 := fun i => by rw [e_t43]; exact a2_t40 i
  have a6_t43 : ∀ i, am_aI t43 (n0 + 6) i = 0 := fun i => by rw [e_t43]; exact a6_t40 i
  have lI_t43 : am_fI t43 1001 (n0 + 1) = 0 := by rw [e_t43]; exact lI_t40
  intro t46 e_t46
  have x_t46 : am_nx t46 = n0 + 9 := by rw [e_t46]; exact x_t43
  have y_t46 : am_sl t46 = am_sl s5 + 1016 := by rw [e_t46]; exact y_t43
  have k_n0_t46 : am_kd t46 (n0) = (7, 0) := by rw [e_t46]; exact k_n0_t43
  have k_n0p1_t46 : am_kd t46 (n0 + 1) = (2, 0) := by rw [e_t46]; exact k_n0p1_t43
  have k_n0p2_t46 : am_kd t46 (n0 + 2) = (1002, 64) := by rw [e_t46]; exact k_n0p2_t43
  have k_n0p3_t46 : am_kd t46 (n0 + 3) = (2009, 100) := by rw [e_t46]; exact k_n0p3_t43
  have k_n0p4_t46 : am_kd t46 (n0 + 4) = (2010, 200) := by rw [e_t46]; exact k_n0p4_t43
  have k_n0p5_t46 : am_kd t46 (n0 + 5) = (2011, 100) := by rw [e_t46]; exact k_n0p5_t43
  have k_n0p6_t46 : am_kd t46 (n0 + 6) = (1000, 8) := by rw [e_t46]; exact k_n0p6_t43
  have k_n0p7_t46 : am_kd t46 (n0 + 7) = (1001, 420) := by rw [e_t46]; exact k_n0p7_t43
  have k_n0p8_t46 : am_kd t46 (n0 + 8) = (1000, 100) := by rw [e_t46]; exact k_n0p8_t43
  have old_t46 : ∀ c, c < n0 → am_eqc s5 t46 c := fun c hc => (old_t43 c hc).trans (by rw [e_t46]; exact eqc_sfR (nn c hc))
  have fI_t46 : ∀ g, am_fI t46 g n0 = 0 := fun g => by rw [e_t46]; exact fI_t43 g
  have f10_t46 : am_fR t46 6010 n0 = none := by rw [e_t46, rR_g (by decide)]; exact f10_t43
  have r1000_t46 : am_fR t46 1000 (n0 + 1) = some (n0 + 2) := by rw [e_t46, rR_g (by decide)]; exact r1000_t43
  have r6003_t46 : am_fR t46 6003 (n0) = some (n0 + 1) := by rw [e_t46, rR_g (by decide)]; exact r6003_t43
  have r6004_t46 : am_fR t46 6004 (n0) = some (n0 + 3) := by rw [e_t46, rR_g (by decide)]; exact r6004_t43
  have r6005_t46 : am_fR t46 6005 (n0) = some (n0 + 4) := by rw [e_t46, rR_g (by decide)]; exact r6005_t43
  have r6006_t46 : am_fR t46 6006 (n0) = some (n0 + 5) := by rw [e_t46, rR_g (by decide)]; exact r6006_t43
  have r6007_t46 : am_fR t46 6007 (n0) = some (n0 + 6) := by rw [e_t46, rR_g (by decide)]; exact r6007_t43
  have r6008_t46 : am_fR t46 6008 (n0) = some (n0 + 7) := by rw [e_t46, rR_g (by decide)]; exact r6008_t43
  have r6009_t46 : am_fR t46 6009 (n0) = some (n0 + 8) := by rw [e_t46, rR_g (by decide)]; exact r6009_t43
  have r6000_t46 : am_fR t46 6000 (n0) = some 1008 := by rw [e_t46, rR_g (by decide)]; exact r6000_t43
  have r6001_t46 : am_fR t46 6001 (n0) = some 1034 := by rw [e_t46, rR_g (by decide)]; exact r6001_t43
  have r6002_t46 : am_fR t46 6002 (n0) = some 1038 := by rw [e_t46]; exact rR_same
  have a2_t46 : ∀ i, am_aI t46 (n0 + 2) i = 0 := fun i => by rw [e_t46]; exact a2_t43 i
  have a6_t46 : ∀ i, am_aI t46 (n0 + 6) i = 0 := fun i => by rw [e_t46]; exact a6_t43 i
  have lI_t46 : am_fI t46 1001 (n0 + 1) = 0 := by rw [e_t46]; exact lI_t43
  have Z := bk_made (s := t46) hn0 h1189 ho k_n0_t46 k_n0p1_t46 k_n0p2_t46 k_n0p3_t46 k_n0p4_t46 k_n0p5_t46 k_n0p6_t46 k_n0p7_t46 k_n0p8_t46 r6000_t46 r6001_t46 r6002_t46 r6003_t46 r6004_t46 r6005_t46 r6006_t46 r6007_t46 r6008_t46 r6009_t46 f10_t46 r1000_t46 fI_t46 lI_t46 a2_t46 a6_t46 x_t46 old_t46
  exact K t46 Z.1 Z.2 x_t46 y_t46
end
