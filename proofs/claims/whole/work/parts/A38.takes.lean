/-! TAKING IN, by the reference: one act -/
section
variable {nl : Bool} {Ln : Nat} {xs : Nat → Int32} {d : Nat} {σ : am_S} {o : Nat} {M : mOff} {fnd : Int32} {t : List Int32} {e p : Nat}
/-- while acts are taken in: the tape, the new office, where one is -/
def TaS (σ : am_S) (o : Nat) (t : List Int32) (M : mOff) (fnd : Int32) (p : Nat) : Prop := ModK σ ∧ KwR σ ∧ TapR σ t ∧ OffR σ o M ∧ am_fI σ 12006 1053 = fnd ∧ am_fI σ 12019 1053 = Int32.ofNat p
def tkF : List Nat := 12019 :: 12020 :: reF
theorem TaS.rd {σ1 : am_S} {p' : Nat} (S : TaS σ o t M fnd p) (hr : Rc o rdF [] [] σ σ1) (hp : am_fI σ1 12019 1053 = Int32.ofNat p') : TaS σ1 o t M fnd p' := by
  obtain ⟨h1, h2, h3, h4, h5, h6⟩ := S
  exact ⟨h1.rc hr, h2.rc hr, h3.rc hr h4.1.lo (by decide) (by simp), h4.rm hr (by decide), (hr.fI (by decide)).trans h5, hp⟩
theorem TaS.arg {σ1 : am_S} (S : TaS σ o t M fnd p) (hr : Rc o [] [] [1060] σ σ1) : TaS σ1 o t M fnd p := by
  obtain ⟨h1, h2, h3, h4, h5, h6⟩ := S
  exact ⟨h1.rc hr, h2.rc hr, h3.rc hr h4.1.lo (by decide) (by decide), h4.rm hr (by decide), (hr.fI (by simp)).trans h5, (hr.fI (by simp)).trans h6⟩
theorem TaS.txt {σ1 : am_S} (S : TaS σ o t M fnd p) (hr : Rc o [] [62] [] σ σ1) : TaS σ1 o t M fnd p := by
  obtain ⟨h1, h2, h3, h4, h5, h6⟩ := S
  exact ⟨h1.rc hr, h2.rc hr, h3.rc hr h4.1.lo (by decide) (by decide), h4.rc hr (by decide), (hr.fI (by simp)).trans h5, (hr.fI (by simp)).trans h6⟩
theorem TaS.lo (S : TaS σ o t M fnd p) : 1063 ≤ o := S.2.2.2.1.1.lo
theorem tkR {fs as ms : List Nat} {σ σ1 : am_S} (h : Rc o fs as ms σ σ1) (h1 : fs = rdF ∨ fs = []) (h2 : as = [62] ∨ as = []) (h3 : ms = [1060] ∨ ms = []) : Rc o tkF raA [1060] σ σ1 := by
  refine h.mono ?_ ?_ ?_
  · rcases h1 with h | h <;> rw [h]
    · intro x hx; unfold rdF at hx; unfold tkF; simp at hx ⊢; omega
    · simp
  · rcases h2 with h | h <;> rw [h]
    · decide
    · simp
  · rcases h3 with h | h <;> rw [h] <;> simp
theorem d_rd_app : ∀ (vs : List Int64) (v : Int64) (j : Nat), (vs ++ [v]).getD j 0 = if j = vs.length then v else vs.getD j 0 := by
  intro vs v j
  by_cases h : j < vs.length
  · rw [if_neg (by omega), List.getD_eq_getElem?_getD, List.getElem?_append_left h, List.getD_eq_getElem?_getD]
  · by_cases h2 : j = vs.length
    · rw [if_pos h2, h2]; simp [List.getD_eq_getElem?_getD]
    · rw [if_neg h2, List.getD_eq_getElem?_getD, List.getD_eq_getElem?_getD, List.getElem?_eq_none (by simp; omega), List.getElem?_eq_none (by omega)]
theorem r_takesOne {F : Bool → am_S → Prop} (w : WfX M) (hl : (m_rlog M).length ≤ 430000) (hnow : (o_now M).toInt ≤ 2000000000) (S : TaS σ o t M fnd p) (he : e ≤ t.length) (hpe : p ≤ e)
    (K1 : d_rd1 ((t.take e).drop p) = none → ∀ σ', Rc o tkF raA [1060] σ σ' → am_fI σ' 12006 1053 = fnd → F false σ')
    (K2 : ∀ n vs x r, d_rd1 ((t.take e).drop p) = some (n, vs, x, r) → ∀ q, q = m_act M fnd n (d_arg vs) x → ∀ σ' p' (b : Bool), (b = true ↔ d_good n q.1) → TaS σ' o t q.2.1 q.2.2 p' → r = (t.take e).drop p' → p < p' → p' ≤ e → Rc o tkF raA [1060] σ σ' → F b σ') : k_Rm_takesOne nl Ln xs (d + 424) 1053 (some o) (Int32.ofNat e) σ F := by
  have lo := S.lo
  have z1 : (1 : Int64).toInt = 1 := by decide
  have z22 : (22 : Int64).toInt = 22 := by decide
  have z0 : (0 : Int64).toInt = 0 := by decide
  have z255 : (255 : Int64).toInt = 255 := by decide
  have z400 : (400 : Int64).toInt = 400 := by decide
  have h6 := S.2.2.1.2.1
  unfold d_rd1 at K1 K2
  refine w_Rm_takesOne ⟨is_mk S.1.1, (r_reads (o := o) (d := d + 422) S.1 S.2.2.1 he S.2.2.2.2.2 hpe (fun h s2 r2 _ => ⟨fun q => absurd q (by decide), fun _ => ?_⟩) (fun v l1 h s2 p2 r2 hv hp2 hpp hpe2 hl1 _ => ⟨fun _ => ?_, fun q => absurd rfl q⟩))⟩
  · rw [h] at K1
    exact K1 rfl s2 (tkR r2 (Or.inl rfl) (Or.inr rfl) (Or.inr rfl)) ((r2.fI (by decide)).trans S.2.2.2.2.1)
  rw [h] at K1 K2
  simp only [] at K1 K2
  have S2 := S.rd r2 hp2
  have t2 := tkR r2 (Or.inl rfl) (Or.inr rfl) (Or.inr rfl)
  have f2 := S2.2.2.2.2.1
  rw [hv]
  refine (r_in (fun c1 c2 => ?_) (fun c => ?_))
  rotate_left
  · rw [if_pos (fun z => c (by rw [z1, z22]; exact z))] at K1
    exact K1 rfl s2 t2 f2
  rw [z1] at c1
  rw [z22] at c2
  rw [if_neg (fun z => z ⟨c1, c2⟩)] at K1 K2
  rintro v8 rfl
  rw [hv]
  have en : v.toInt32 = Int32.ofNat v.toInt.toNat := by rw [i32e, t32 (by omega) (by omega), n32 (by omega)]; omega
  have e6 : v.toInt = 6 ↔ v.toInt.toNat = 6 := by omega
  rw [en]
  have hn1 : 1 ≤ v.toInt.toNat := by omega
  have hn2 : v.toInt.toNat ≤ 22 := by omega
  generalize v.toInt.toNat = n at K1 K2 en e6 hn1 hn2
  refine (r_argumentsOf (d := d + 422) hn1 hn2 (fun _ => ?_))
  have hma := m_args_le n
  -- the act
  have act : ∀ (vs : List Int64) (x l' : List Int32) (p' : Nat) (s : am_S) (x5 : Int32), TaS s o t M fnd p' → Rc o tkF raA [1060] σ s → (∀ j, j < 6 → am_aL s 1060 j = vs.getD j 0) → (n = 6 → rwI s (o + 62) x (fun b => b) ∧ x.length ≤ 400 ∧ (∀ b ∈ x, 0 ≤ b.toInt) ∧ vs.getD 1 0 = Int64.ofNat x.length) → p < p' → p' ≤ e → l' = (t.take e).drop p' → (∀ q, q = m_act M fnd n (d_arg vs) x → ∀ σ' p' (b : Bool), (b = true ↔ d_good n q.1) → TaS σ' o t q.2.1 q.2.2 p' → l' = (t.take e).drop p' → p < p' → p' ≤ e → Rc o tkF raA [1060] σ σ' → F b σ') → c_Rm_takesOne_202 nl Ln xs (d + 424) 1053 (some o) (Int32.ofNat e) (Int32.ofNat n) (Int32.ofNat (m_args n)) x5 s F := by
    intro vs x l' p' s x5 Ss rs hvs hx h1 h2 h3 KK
    have hK := Ss.2.2.2.1.1
    refine w_Rm_takesOne_202 ⟨is_mk Ss.1.1, is_mk hK.2.1, ?_⟩
    rw [mR_12018 Ss.1, Option.getD_some]
    have hA : ArgR s 1060 (d_arg vs) := ⟨mK_12018 Ss.1, hvs⟩
    refine (r_act (d := d) (t := x) w Ss.2.2.2.1 Ss.1 Ss.2.1 hl hnow hA (Or.inl rfl) Ss.2.2.2.2.1 hn1 hn2 hx (fun q hq s3 R3 f3 r3 _ => ?_))
    have r3' : Rc o tkF raA [1060] s s3 := r3.mono (fun x h => List.mem_cons_of_mem _ (List.mem_cons_of_mem _ h)) (fun x h => h) (by simp)
    refine KK q hq s3 p' _ ?_ ⟨Ss.1.rc r3, Ss.2.1.rc r3, Ss.2.2.1.rc r3 lo (by decide) (by simp), R3, f3, (r3.fI (by decide)).trans Ss.2.2.2.2.2⟩ h3 h1 h2 (rs.trans r3')
    rw [decide_eq_true_eq]
    unfold d_good
    have y0 : (0 : Int32).toInt = 0 := by decide
    have y20 : (-20 : Int32).toInt = -20 := by decide
    have e21 : Int32.ofNat n = 21 ↔ n = 21 := n32i (b := 21) (by omega) (by decide)
    rw [i32lt, i32lt, y0, y20, e21]
    constructor
    · rintro (g | g | g)
      · exact Or.inl (by omega)
      · exact Or.inr (Or.inl g)
      · exact Or.inr (Or.inr ⟨g.1, by omega⟩)
    · rintro (g | g | g)
      · exact Or.inl (by omega)
      · exact Or.inr (Or.inl g)
      · exact Or.inr (Or.inr ⟨g.1, by omega⟩)
  -- the text
  have text : ∀ (vs : List Int64) (len : Nat), n = 6 → vs.getD 1 0 = Int64.ofNat len → len ≤ 400 → ∀ (m : Nat) (x : List Int32) (l : List Int32) (p' : Nat) (s : am_S), x.length + m = len → l = (t.take e).drop p' → TaS s o t M fnd p' → Rc o tkF raA [1060] σ s → (∀ j, j < 6 → am_aL s 1060 j = vs.getD j 0) → rwI s (o + 62) x (fun b => b) → (∀ b ∈ x, 0 ≤ b.toInt) → p < p' → p' ≤ e →
      (d_rdT m l = none → ∀ σ', Rc o tkF raA [1060] σ σ' → am_fI σ' 12006 1053 = fnd → F false σ') →
      (∀ y r, d_rdT m l = some (y, r) → ∀ q, q = m_act M fnd n (d_arg vs) (x ++ y) → ∀ σ' p' (b : Bool), (b = true ↔ d_good n q.1) → TaS σ' o t q.2.1 q.2.2 p' → r = (t.take e).drop p' → p < p' → p' ≤ e → Rc o tkF raA [1060] σ σ' → F b σ') → c_Rm_takesOne_147 nl Ln xs (d + 424) 1053 (some o) (Int32.ofNat e) (Int32.ofNat n) (Int32.ofNat (m_args n)) (Int32.ofNat x.length) s F := by
    intro vs len h6n hv1 hlen m
    induction m with
    | zero =>
      intro x l p' s hx hl Ss rs hvs hrow hb h1 h2 T1 T2
      refine w_Rm_takesOne_147 ⟨is_mk Ss.1.1, mA_12018 Ss.1 (by decide) (by decide), ?_⟩
      rw [mG_12018 Ss.1, show (1 : Int32).toNatClampNeg = 1 by decide, hvs 1 (by decide), hv1]
      refine ⟨fun q => ?_, fun _ => ?_⟩
      · rw [i64lt, t64, n32 (by omega), n64 (by omega)] at q
        omega
      · refine act vs x l p' s _ Ss rs hvs (fun _ => ⟨hrow, by omega, hb, by rw [hv1]; congr 1; omega⟩) h1 h2 hl (fun q hq => T2 [] l rfl q (by rw [List.append_nil]; exact hq))
    | succ m ih =>
      intro x l p' s hx hl Ss rs hvs hrow hb h1 h2 T1 T2
      unfold d_rdT at T1 T2
      refine w_Rm_takesOne_147 ⟨is_mk Ss.1.1, mA_12018 Ss.1 (by decide) (by decide), ?_⟩
      rw [mG_12018 Ss.1, show (1 : Int32).toNatClampNeg = 1 by decide, hvs 1 (by decide), hv1]
      refine ⟨fun _ => ?_, fun q => absurd (by rw [i64lt, t64, n32 (by omega), n64 (by omega)]; omega) q⟩
      refine (r_reads (o := o) (d := d + 422) Ss.1 Ss.2.2.1 he Ss.2.2.2.2.2 h2 (fun h s4 r4 _ => ⟨fun q => absurd q (by decide), fun _ => ?_⟩) (fun v l1 h s4 p4 r4 hv hp4 hpp hpe4 hl1 _ => ⟨fun _ => ?_, fun q => absurd rfl q⟩))
      · rw [← hl] at h
        rw [h] at T1
        exact T1 rfl s4 (rs.trans (tkR r4 (Or.inl rfl) (Or.inr rfl) (Or.inr rfl))) ((r4.fI (by decide)).trans Ss.2.2.2.2.1)
      · rw [← hl] at h
        rw [h] at T1 T2
        simp only [] at T1 T2
        have S4 := Ss.rd r4 hp4
        have t4 := rs.trans (tkR r4 (Or.inl rfl) (Or.inr rfl) (Or.inr rfl))
        rw [hv]
        refine (r_in (fun c3 c4 => ?_) (fun c => ?_))
        rotate_left
        · rw [if_pos (fun z => c (by rw [z0, z255]; exact z))] at T1
          exact T1 rfl s4 t4 S4.2.2.2.2.1
        rw [z0] at c3
        rw [z255] at c4
        rw [if_neg (fun z => z ⟨c3, c4⟩)] at T1 T2
        have K4 := S4.2.2.2.1.1
        have bx : 0 ≤ (Int32.ofNat x.length).toInt ∧ (Int32.ofNat x.length).toInt < 400 := by rw [n32 (by omega)]; omega
        rw [Option.getD_some, oG_13090 K4, n32c (by omega), hv]
        refine ⟨is_mk K4.2.1, oA_13090 K4 bx.1 bx.2, fun s12 q12 => ?_⟩
        have r12 : Rc o [] [62] [] s4 s12 := by rw [q12]; exact Rc.saI (by decide)
        have S12 := S4.txt r12
        have t12 := t4.trans (tkR r12 (Or.inr rfl) (Or.inl rfl) (Or.inr rfl))
        have hxl : x.length + 1 = (x ++ [v.toInt32]).length := by simp
        rw [n32s, hxl]
        refine ih (x ++ [v.toInt32]) l1 p4 s12 (by rw [← hxl]; omega) hl1 S12 t12 (fun j hj => ?_) ?_ (fun b hb' => ?_) (by omega) hpe4 (fun g => ?_) (fun y r g q hq => ?_)
        · rw [r12.aLm lo (by decide) (by simp), r4.aLm lo (by decide) (by simp)]
          exact hvs j hj
        · refine rwI.push (σ := s4) ?_ (fun i => by rw [saI_all q12])
          exact hrow.eq fun i => r4.aI lo (by simp) (by simp)
        · rcases List.mem_append.mp hb' with hb' | hb'
          · exact hb b hb'
          · rw [List.mem_singleton.mp hb', t32 (by omega) (by omega)]; exact c3
        · rw [g] at T1
          exact T1 rfl
        · rw [g] at T2
          refine T2 (v.toInt32 :: y) r rfl q ?_
          rw [hq, List.append_assoc]
          rfl
  -- the arguments
  have args : ∀ (m : Nat) (vs : List Int64) (l : List Int32) (p' : Nat) (s : am_S), vs.length + m = m_args n → l = (t.take e).drop p' → TaS s o t M fnd p' → Rc o tkF raA [1060] σ s → (∀ j, j < 6 → am_aL s 1060 j = vs.getD j 0) → p < p' → p' ≤ e →
      (d_rdA n m vs.length l = none → ∀ σ', Rc o tkF raA [1060] σ σ' → am_fI σ' 12006 1053 = fnd → F false σ') →
      (∀ ws r, d_rdA n m vs.length l = some (ws, r) → (v.toInt = 6 → ¬ (0 ≤ ((vs ++ ws).getD 1 0).toInt ∧ ((vs ++ ws).getD 1 0).toInt ≤ 400) → ∀ σ', Rc o tkF raA [1060] σ σ' → am_fI σ' 12006 1053 = fnd → F false σ') ∧ (v.toInt = 6 → (0 ≤ ((vs ++ ws).getD 1 0).toInt ∧ ((vs ++ ws).getD 1 0).toInt ≤ 400) → d_rdT ((vs ++ ws).getD 1 0).toInt.toNat r = none → ∀ σ', Rc o tkF raA [1060] σ σ' → am_fI σ' 12006 1053 = fnd → F false σ') ∧ (v.toInt = 6 → (0 ≤ ((vs ++ ws).getD 1 0).toInt ∧ ((vs ++ ws).getD 1 0).toInt ≤ 400) → ∀ y r', d_rdT ((vs ++ ws).getD 1 0).toInt.toNat r = some (y, r') → ∀ q, q = m_act M fnd n (d_arg (vs ++ ws)) y → ∀ σ' p' (b : Bool), (b = true ↔ d_good n q.1) → TaS σ' o t q.2.1 q.2.2 p' → r' = (t.take e).drop p' → p < p' → p' ≤ e → Rc o tkF raA [1060] σ σ' → F b σ') ∧ (¬ v.toInt = 6 → ∀ q, q = m_act M fnd n (d_arg (vs ++ ws)) [] → ∀ σ' p' (b : Bool), (b = true ↔ d_good n q.1) → TaS σ' o t q.2.1 q.2.2 p' → r = (t.take e).drop p' → p < p' → p' ≤ e → Rc o tkF raA [1060] σ σ' → F b σ')) → c_Rm_takesOne_63 nl Ln xs (d + 424) 1053 (some o) (Int32.ofNat e) (Int32.ofNat n) (Int32.ofNat (m_args n)) (Int32.ofNat vs.length) s F := by
    intro m
    induction m with
    | zero =>
      intro vs l p' s hm hl Ss rs hvs h1 h2 T1 T2
      obtain ⟨U1, U2, U3, U4⟩ := T2 [] l rfl
      rw [List.append_nil] at U1 U2 U3 U4
      refine w_Rm_takesOne_63 ⟨fun q => ?_, fun _ => ⟨fun q => ⟨is_mk Ss.1.1, mA_12018 Ss.1 (by decide) (by decide), ?_⟩, fun q => ?_⟩⟩
      · rw [n32lt (by omega) (by omega)] at q
        omega
      · have h6n : n = 6 := (n32i (b := 6) (by omega) (by decide)).mp q
        have hv6 := e6.mpr h6n
        rw [mG_12018 Ss.1, show (1 : Int32).toNatClampNeg = 1 by decide, hvs 1 (by decide)]
        refine (r_in (fun c3 c4 => ?_) (fun c => U1 hv6 (fun z => c (by rw [z0, z400]; exact z)) s rs Ss.2.2.2.2.1))
        rw [z0] at c3
        rw [z400] at c4
        have hlen : vs.getD 1 0 = Int64.ofNat (vs.getD 1 0).toInt.toNat := by rw [i64e, n64 (by omega)]; omega
        have := text vs (vs.getD 1 0).toInt.toNat h6n hlen (by omega) (vs.getD 1 0).toInt.toNat [] l p' s (by simp) hl Ss rs hvs (fun i x hx => by simp at hx) (fun b hb => by simp at hb) h1 h2 (fun g => U2 hv6 ⟨c3, c4⟩ g) (fun y r g q hq => U3 hv6 ⟨c3, c4⟩ y r g q (by rw [List.nil_append] at hq; exact hq))
        exact this
      · have n6 : n ≠ 6 := fun h => q (by rw [h]; rfl)
        exact act vs [] l p' s _ Ss rs hvs (fun h => absurd h n6) h1 h2 hl (fun q hq => U4 (fun z => n6 (e6.mp z)) q hq)
    | succ m ih =>
      intro vs l p' s hm hl Ss rs hvs h1 h2 T1 T2
      unfold d_rdA at T1 T2
      refine w_Rm_takesOne_63 ⟨fun _ => ⟨is_mk Ss.1.1, ?_⟩, fun q => absurd (by rw [n32lt (by omega) (by omega)]; omega) q⟩
      refine (r_reads (o := o) (d := d + 422) Ss.1 Ss.2.2.1 he Ss.2.2.2.2.2 h2 (fun h s4 r4 _ => ⟨fun q => absurd q (by decide), fun _ => ?_⟩) (fun u l1 h s4 p4 r4 hu hp4 hpp hpe4 hl1 _ => ⟨fun _ => ?_, fun q => absurd rfl q⟩))
      · rw [← hl] at h
        rw [h] at T1
        exact T1 rfl s4 (rs.trans (tkR r4 (Or.inl rfl) (Or.inr rfl) (Or.inr rfl))) ((r4.fI (by decide)).trans Ss.2.2.2.2.1)
      · rw [← hl] at h
        rw [h] at T1 T2
        simp only [] at T1 T2
        have S4 := Ss.rd r4 hp4
        have t4 := rs.trans (tkR r4 (Or.inl rfl) (Or.inr rfl) (Or.inr rfl))
        have bv : 0 ≤ (Int32.ofNat vs.length).toInt ∧ (Int32.ofNat vs.length).toInt < 6 := by rw [n32 (by omega)]; omega
        have go : ¬ (¬ d_isLong n vs.length ∧ u.toInt32.toInt64 ≠ u) → (am_ar s4 1001 (am_fR s4 12018 1053) (Int32.ofNat vs.length)) ∧ ∀ s10, s10 = am_saL s4 ((am_fR s4 12018 1053).getD 0) (Int32.ofNat vs.length).toNatClampNeg (am_fL s4 12020 1053) → c_Rm_takesOne_63 nl Ln xs (d + 424) 1053 (some o) (Int32.ofNat e) (Int32.ofNat n) (Int32.ofNat (m_args n)) (Int32.ofNat vs.length + 1) s10 F := by
          intro hok
          have hdec : m_dec (¬ d_isLong n vs.length ∧ u.toInt32.toInt64 ≠ u) = false := by
            unfold m_dec
            exact @decide_eq_false _ (Classical.propDecidable _) hok
          rw [if_neg (by rw [hdec]; decide)] at T1 T2
          rw [mG_12018 S4.1, n32c (by omega), hu]
          refine ⟨mA_12018 S4.1 bv.1 bv.2, fun s10 q10 => ?_⟩
          have r10 : Rc o [] [] [1060] s4 s10 := by rw [q10]; exact Rc.saLm (by decide)
          have S10 := S4.arg r10
          have t10 := t4.trans (tkR r10 (Or.inr rfl) (Or.inr rfl) (Or.inl rfl))
          have hxl : vs.length + 1 = (vs ++ [u]).length := by simp
          rw [n32s, hxl]
          refine ih (vs ++ [u]) l1 p4 s10 (by rw [← hxl]; omega) hl1 S10 t10 (fun j hj => ?_) (by omega) hpe4 (fun g => ?_) (fun ws r g => ?_)
          · rw [saL_all q10, d_rd_app]
            split
            · rfl
            · rw [r4.aLm lo (by decide) (by simp)]; exact hvs j hj
          · rw [← hxl] at g
            rw [g] at T1
            exact T1 rfl
          · rw [← hxl] at g
            rw [g] at T2
            have := T2 (u :: ws) r rfl
            rw [List.append_assoc, List.cons_append, List.nil_append]
            exact this
        refine (r_isLong (d := d + 422) hn2 (by omega) (fun b hb _ => ⟨fun q => go (fun z => z.1 (hb.mp q)), fun q => ⟨fun q2 => go (fun z => z.2 (by rw [← hu]; exact q2)), fun q2 => ?_⟩⟩))
        have hdec : m_dec (¬ d_isLong n vs.length ∧ u.toInt32.toInt64 ≠ u) = true := by
          unfold m_dec
          exact @decide_eq_true _ (Classical.propDecidable _) ⟨fun z => q (hb.mpr z), fun z => q2 (by rw [hu]; exact z)⟩
        rw [if_pos hdec] at T1
        exact T1 rfl s4 t4 S4.2.2.2.2.1
  -- the arguments are emptied
  have zero : ∀ (m k : Nat) (s : am_S), k + m = 6 → Rc o [] [] [1060] s2 s → (∀ j, j < k → am_aL s 1060 j = 0) → c_Rm_takesOne_39 nl Ln xs (d + 424) 1053 (some o) (Int32.ofNat e) (Int32.ofNat n) (Int32.ofNat (m_args n)) (Int32.ofNat k) s F := by
    intro m
    induction m with
    | zero =>
      intro k s hk rs hz
      refine w_Rm_takesOne_39 ⟨fun q => absurd q (by rw [show k = 6 by omega]; decide), fun _ => ?_⟩
      refine args (m_args n) [] l1 p2 s (by simp) hl1 (S2.arg rs) (t2.trans (tkR rs (Or.inr rfl) (Or.inr rfl) (Or.inl rfl))) (fun j hj => by rw [hz j (by omega)]; simp) hpp hpe2 (fun g => ?_) (fun ws r g => ⟨fun a1 a2 => ?_, fun a1 a2 a3 => ?_, fun a1 a2 y r' a3 => ?_, fun a1 => ?_⟩)
      · rw [List.length_nil] at g
        rw [g] at K1
        exact K1 rfl
      · rw [List.length_nil] at g
        rw [List.nil_append] at a2
        rw [g] at K1
        simp only [] at K1
        rw [if_pos a1, if_pos a2] at K1
        exact K1 rfl
      · rw [List.length_nil] at g
        rw [List.nil_append] at a2 a3
        rw [g] at K1
        simp only [] at K1
        rw [if_pos a1, if_neg (fun z => z a2), a3] at K1
        exact K1 rfl
      · rw [List.length_nil] at g
        rw [List.nil_append] at a2 a3 ⊢
        rw [g] at K2
        simp only [] at K2
        rw [if_pos a1, if_neg (fun z => z a2), a3] at K2
        have := K2 6 ws y r' rfl
        rw [e6.mp a1]
        exact this
      · rw [List.length_nil] at g
        rw [List.nil_append]
        rw [g] at K2
        simp only [] at K2
        rw [if_neg a1] at K2
        exact K2 n ws [] r rfl
    | succ m ih =>
      intro k s hk rs hz
      have Ms := S2.1.rc rs
      have bk : 0 ≤ (Int32.ofNat k).toInt ∧ (Int32.ofNat k).toInt < 6 := by rw [n32 (by omega)]; omega
      refine w_Rm_takesOne_39 ⟨fun _ => ⟨is_mk Ms.1, mA_12018 Ms bk.1 bk.2, ?_⟩, fun q => absurd (show Int32.ofNat k < Int32.ofNat 6 by rw [n32lt (by omega) (by omega)]; omega) q⟩
      rw [mG_12018 Ms, n32c (by omega)]
      intro s4 q4
      rw [n32s]
      refine ih (k + 1) s4 (by omega) (rs.trans (by rw [q4]; exact Rc.saLm (by decide))) (fun j hj => ?_)
      rw [saL_all q4]
      split
      · rfl
      · exact hz j (by omega)
  exact zero 6 0 s2 (by omega) Rc.rf (fun j hj => by omega)
end
