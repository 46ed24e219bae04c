/-! LETTERS of the reference: conditions -/
def csz : mF → Nat
  | .append a b => csz a + csz b + 40
  | .tag _ a => csz a + 10
  | .nest _ _ => 32
  | _ => 0
theorem dgs_len : ∀ f n, (d_dgs f n).length ≤ f
  | 0, _ => Nat.le_refl _
  | f + 1, n => by
    unfold d_dgs
    split
    · simp
    · have := dgs_len f (n / 10)
      rw [List.length_append, List.length_singleton]
      omega
theorem num_le (v : Int64) : (d_num v).length ≤ 21 := by
  have := dgs_len 20 v.toInt.natAbs
  unfold d_num
  rw [List.length_append]
  split <;> simp <;> omega
theorem txt_9 : (List.range 38).all (fun n => decide (n < 2) || decide ((txt n).length ≤ 9)) = true := by decide +kernel
theorem txt9 {n : Nat} (hn : n < 38) (h2 : 2 ≤ n) : (txt n).length ≤ 9 := by
  have := List.all_eq_true.mp txt_9 n (List.mem_range.mpr hn)
  rw [Bool.or_eq_true, decide_eq_true_eq, decide_eq_true_eq] at this
  omega
theorem tok9 {n : Nat} (L : List Int32) (hn : n < 38) (h2 : 2 ≤ n) : (d_tok L (txt n)).length ≤ L.length + 10 := by
  have := tok_len L (txt n)
  have := txt9 hn h2
  omega
section
variable {nl : Bool} {Ln : Nat} {xs : Nat → Int32} {d : Nat} {o o' : Nat}
/-- what stands while letters are put: the desk's cells, the office -/
def PtR (σ : am_S) (o : Nat) : Prop := ModK σ ∧ KwR σ ∧ OffK σ o ∧ am_fR σ 12016 1053 = some o
theorem PtR.rc {σ σ1 : am_S} {fs as ms : List Nat} (h : PtR σ o) (hr : Rc o fs as ms σ σ1) : PtR σ1 o := ⟨h.1.rc hr, h.2.1.rc hr, h.2.2.1.rc hr, by rw [hr.fR]; exact h.2.2.2⟩
theorem PtR.is {σ : am_S} (h : PtR σ o) : am_is σ (am_fR σ 12016 1053) 13 := by rw [h.2.2.2]; exact is_mk h.2.2.1.2.1
theorem PtR.g {σ : am_S} (h : PtR σ o) : (am_fR σ 12016 1053).getD 0 = o := by rw [h.2.2.2]; rfl
theorem cnd_le : ∀ (f : mF) (σ : am_S) (o op i ar : Nat) (L : List Int32), CndR σ o f op i → (d_cnd f op ar L).length ≤ L.length + csz f := by
  intro f
  induction f with
  | append a b iha ihb =>
    intro σ o op i ar L hc
    obtain ⟨-, x, y, -, -, -, -, h4, h5⟩ := hc
    rw [d_cnd]
    generalize decide ((op = 0 ∧ ar ≠ 0) ∨ (op = 1 ∧ ar = 2)) = br
    show (if br = true then d_tok (d_cnd b op op (d_tok (d_cnd a op op (if br = true then d_tok L (txt 35) else L)) (if op = 0 then txt 30 else txt 29))) (txt 36) else d_cnd b op op (d_tok (d_cnd a op op (if br = true then d_tok L (txt 35) else L)) (if op = 0 then txt 30 else txt 29))).length ≤ _
    have e1 : (if br = true then d_tok L (txt 35) else L).length ≤ L.length + 10 := by
      split
      · exact tok9 L (by decide) (by decide)
      · omega
    generalize (if br = true then d_tok L (txt 35) else L) = L1 at e1 ⊢
    have e2 := iha σ o op x op L1 h4
    generalize d_cnd a op op L1 = L2 at e2 ⊢
    have e3 : (d_tok L2 (if op = 0 then txt 30 else txt 29)).length ≤ L2.length + 10 := by
      split
      · exact tok9 L2 (by decide) (by decide)
      · exact tok9 L2 (by decide) (by decide)
    generalize d_tok L2 (if op = 0 then txt 30 else txt 29) = L3 at e3 ⊢
    have e4 := ihb σ o op y op L3 h5
    generalize d_cnd b op op L3 = L4 at e4 ⊢
    have e5 : (if br = true then d_tok L4 (txt 36) else L4).length ≤ L4.length + 10 := by
      split
      · exact tok9 L4 (by decide) (by decide)
      · omega
    simp only [csz]
    refine Nat.le_trans e5 ?_
    omega
  | tag k a iha =>
    intro σ o op i ar L hc
    unfold CndR at hc
    unfold d_cnd
    simp only [csz]
    split
    · rename_i hk
      rw [if_pos hk] at hc
      obtain ⟨-, x, -, -, h3⟩ := hc
      have e1 := tok9 L (n := 23) (by decide) (by decide)
      have e2 := iha σ o 0 x 2 (d_tok L (txt 23)) h3
      omega
    · rename_i hk
      rw [if_neg hk] at hc
      have e2 := iha σ o k i ar L hc
      omega
  | nest c a _ =>
    intro σ o op i ar L hc
    cases a with
    | nest n b =>
      cases b with
      | nil =>
        unfold d_cnd
        simp only [csz]
        split
        · obtain ⟨-, -, -, -, hn0, hn1, h7⟩ := hc
          rename_i hc7
          have h5 := h7 hc7
          have e1 := tok9 L (n := 28) (by decide) (by decide)
          have e2 := tok9 (d_tok L (txt 28)) (n := n.toNat + 2) (by omega) (by omega)
          show (d_tok (d_tok L (txt 28)) (txt (n.toNat + 2))).length ≤ _
          omega
        · have e1 : (d_tok L (if c = 3 then txt 24 else if c = 4 then txt 25 else if c = 5 then txt 26 else txt 27)).length ≤ L.length + 10 := by
            split
            · exact tok9 L (by decide) (by decide)
            · split
              · exact tok9 L (by decide) (by decide)
              · split
                · exact tok9 L (by decide) (by decide)
                · exact tok9 L (by decide) (by decide)
          have e2 : (d_num (Int64.ofInt n)).length ≤ 21 := num_le _
          unfold d_tokN
          rw [List.length_append, List.length_cons]
          omega
      | _ => exact absurd hc (by simp [CndR])
    | _ => exact absurd hc (by simp [CndR])
  | _ =>
    intro σ o op i ar L hc
    exact absurd hc (by simp [CndR])
/-- a condition is put -/
theorem r_putCond : ∀ (f : mF) (op ar i : Nat) (σ : am_S) (L : List Int32) (F : am_S → Prop), CndR σ o f op i → i < 30400 → ar ≤ 2 → PtR σ o → LetR σ L → L.length + csz f ≤ 500000 → (∀ σ', LetR σ' (d_cnd f op ar L) → Rc o leF [] [1055] σ σ' → F σ') → k_Rm_putCond nl Ln xs (d + hgt f + 8) 1053 (Int32.ofNat i) (Int32.ofNat ar) σ F := by
  intro f
  induction f with
  | append a b iha ihb =>
    intro op ar i σ L F hc hi har P h hl K
    have hc0 := hc
    obtain ⟨⟨ho, h1⟩, x, y, hx, hy, h2, h3, h4, h5⟩ := hc
    have lo := P.2.2.1.lo
    have bi : 0 ≤ (Int32.ofNat i).toInt ∧ (Int32.ofNat i).toInt < 30400 := by rw [n32 (by omega)]; omega
    have hd1 : d + hgt a + 8 ≤ d + hgt (.append a b) + 7 := by simp only [hgt]; omega
    have hd2 : d + hgt b + 8 ≤ d + hgt (.append a b) + 7 := by simp only [hgt]; omega
    have hd3 : d + 6 ≤ d + hgt (.append a b) + 7 := by simp only [hgt]; omega
    simp only [csz] at hl
    refine w_Rm_putCond ⟨is_mk P.1.1, P.is, ?_⟩
    rw [P.g, oG_13032 P.2.2.1, oG_13033 P.2.2.1, n32c (by omega), h1, h2]
    refine ⟨oA_13032 P.2.2.1 bi.1 bi.2, ?_⟩
    rintro v4 rfl
    refine ⟨oA_13033 P.2.2.1 bi.1 bi.2, ?_⟩
    rintro v7 rfl
    have e0 : ∀ q : Nat, q ≤ 2 → (Int32.ofNat q = 0 ↔ q = 0) := fun q hq => n32i (b := 0) (by omega) (by decide)
    have e1 : ∀ q : Nat, q ≤ 2 → (Int32.ofNat q = 1 ↔ q = 1) := fun q hq => n32i (b := 1) (by omega) (by decide)
    have e2 : ∀ q : Nat, q ≤ 2 → (Int32.ofNat q = 2 ↔ q = 2) := fun q hq => n32i (b := 2) (by omega) (by decide)
    have ebr : (if ((Int32.ofNat op = 0) ∧ (¬ (Int32.ofNat ar = 0) ∨ ((Int32.ofNat op = 1) ∧ (Int32.ofNat ar = 2)))) ∨ (¬ (Int32.ofNat op = 0) ∧ ((Int32.ofNat op = 1) ∧ (Int32.ofNat ar = 2))) then (1 : Int32) else 0) = b2i (decide ((op = 0 ∧ ar ≠ 0) ∨ (op = 1 ∧ ar = 2))) := by
      by_cases hb : (op = 0 ∧ ar ≠ 0) ∨ (op = 1 ∧ ar = 2)
      · rw [decide_eq_true hb, if_pos]
        · rfl
        · rw [e0 op (by omega), e0 ar har, e1 op (by omega), e2 ar har]; omega
      · rw [decide_eq_false hb, if_neg]
        · rfl
        · rw [e0 op (by omega), e0 ar har, e1 op (by omega), e2 ar har]; omega
    rw [ebr]
    generalize hbr : decide ((op = 0 ∧ ar ≠ 0) ∨ (op = 1 ∧ ar = 2)) = br
    have ed : d_cnd (.append a b) op ar L = (fun l4 => if br = true then d_tok l4 (txt 36) else l4) (d_cnd b op op (d_tok (d_cnd a op op (if br = true then d_tok L (txt 35) else L)) (if op = 0 then txt 30 else txt 29))) := by
      rw [← hbr, d_cnd]
    rw [ed] at K
    -- behind the opening bracket
    have go : ∀ (σ1 : am_S) (L1 : List Int32), L1 = (if br = true then d_tok L (txt 35) else L) → LetR σ1 L1 → Rc o leF [] [1055] σ σ1 → c_Rm_putCond_57 nl Ln xs (d + hgt (.append a b) + 8) 1053 (Int32.ofNat i) (Int32.ofNat ar) (Int32.ofNat op) (Int32.ofNat x) (b2i br) σ1 F := by
      intro σ1 L1 eL1 hL1 r1
      have hlen1 : L1.length ≤ L.length + 10 := by
        rw [eL1]
        split
        · exact tok9 L (by decide) (by decide)
        · omega
      rw [← eL1] at K
      have mid : c_Rm_putCond_66 nl Ln xs (d + hgt (.append a b) + 8) 1053 (Int32.ofNat i) (Int32.ofNat ar) (Int32.ofNat op) (Int32.ofNat x) (b2i br) σ1 F := by
        have P1 := P.rc r1
        have h4' := r1.nodes lo (by decide) (by simp) (by simp) (by simp) h4
        have cl := cnd_le a σ1 o op x op L1 h4'
        refine w_Rm_putCond_66 ⟨is_mk P1.1.1, (iha op op x σ1 L1 _ h4' (by omega) (by omega) P1 hL1 (by omega) (fun σ2 hL2 r2 _ => ?_)).dn hd1⟩
        rintro w6 rfl
        have r12 := r1.trans r2
        have P2 := P.rc r12
        generalize d_cnd a op op L1 = L2 at cl hL2 K
        have tk : ∀ {n : Nat}, n < 38 → 2 ≤ n → txt n = (if op = 0 then txt 30 else txt 29) → c_Rm_putCond_85 nl Ln xs (d + hgt (.append a b) + 8) 1053 (Int32.ofNat i) (Int32.ofNat ar) (Int32.ofNat op) (Int32.ofNat x) (b2i br) (some 1053) (some n) σ2 F := by
          intro n hn hn2 en
          have t9 := txt9 hn hn2
          have tl := tok9 L2 hn hn2
          rw [← en] at K
          refine w_Rm_putCond_85 ⟨is_mk P2.1.1, (r_putToken (d := d) (o := o) hn hn2 P2.1 hL2 (by omega) (fun σ3 hL3 r3 _ => ?_)).dn hd3⟩
          have r13 := r12.trans r3
          have P3 := P.rc r13
          have v3 : am_aI σ3 (o + 26) i = Int32.ofNat y := (r13.aI lo (by decide) (by simp)).trans h3
          rw [P3.g, oG_13034 P3.2.2.1, n32c (by omega), v3]
          have h5' := r13.nodes lo (by decide) (by simp) (by simp) (by simp) h5
          have cl2 := cnd_le b σ3 o op y op (d_tok L2 (txt n)) h5'
          refine ⟨is_mk P3.1.1, P3.is, oA_13034 P3.2.2.1 bi.1 bi.2, (ihb op op y σ3 _ _ h5' (by omega) (by omega) P3 hL3 (by omega) (fun σ4 hL4 r4 _ => ?_)).dn hd2⟩
          have r14 := r13.trans r4
          refine w_Rm_putCond_195 ⟨fun q => ?_, fun q => ⟨is_mk (P.rc r14).1.1, ?_⟩⟩
          · have hb : br = false := by cases br; rfl; exact absurd q (by decide)
            rw [hb] at K
            exact K σ4 hL4 r14
          · have hb : br = true := by cases br; exact absurd rfl q; rfl
            rw [hb] at K
            refine (r_putToken (d := d) (o := o) (n := 36) (by decide) (by decide) (P.rc r14).1 hL4 (by have := txt9 (n := 36) (by decide) (by decide); omega) (fun σ5 hL5 r5 _ => ?_)).dn hd3
            exact K σ5 hL5 (r14.trans r5)
        by_cases h0 : op = 0
        · rw [if_pos ((e0 op (by omega)).mpr h0)]
          exact tk (by decide) (by decide) (by rw [if_pos h0])
        · rw [if_neg (fun q => h0 ((e0 op (by omega)).mp q))]
          exact tk (by decide) (by decide) (by rw [if_neg h0])
      refine w_Rm_putCond_57 ⟨fun _ => mid, fun q0 => ⟨fun _ => mid, fun q1 => ?_⟩⟩
      exfalso
      rw [e0 op (by omega)] at q0
      rw [e1 op (by omega)] at q1
      omega
    refine w_Rm_putCond_44 ⟨fun q => ?_, fun q => ⟨is_mk P.1.1, ?_⟩⟩
    · have hb : br = false := by cases br; rfl; exact absurd q (by decide)
      exact go σ L (by rw [hb]; rfl) h Rc.rf
    · have hb : br = true := by cases br; exact absurd rfl q; rfl
      refine (r_putToken (d := d) (o := o) (n := 35) (by decide) (by decide) P.1 h (by have := txt9 (n := 35) (by decide) (by decide); omega) (fun σ1 hL1 r1 _ => ?_)).dn hd3
      exact go σ1 _ (by rw [hb]; rfl) hL1 r1
  | tag k a iha =>
    intro op ar i σ L F hc hi har P h hl K
    have lo := P.2.2.1.lo
    unfold CndR at hc
    unfold d_cnd at K
    simp only [csz] at hl
    by_cases hk : k = 2
    · rw [if_pos hk] at hc K
      obtain ⟨h1, x, hx, h2, h3⟩ := hc
      have bi : 0 ≤ (Int32.ofNat i).toInt ∧ (Int32.ofNat i).toInt < 30400 := by rw [n32 (by omega)]; omega
      have hd1 : d + hgt a + 8 ≤ d + hgt (.tag k a) + 7 := by simp only [hgt]; omega
      have hd3 : d + 6 ≤ d + hgt (.tag k a) + 7 := by simp only [hgt]; omega
      refine w_Rm_putCond ⟨is_mk P.1.1, P.is, ?_⟩
      rw [P.g, oG_13032 P.2.2.1, oG_13033 P.2.2.1, n32c (by omega), h1, h2]
      refine ⟨oA_13032 P.2.2.1 bi.1 bi.2, ?_⟩
      rintro v4 rfl
      refine ⟨oA_13033 P.2.2.1 bi.1 bi.2, ?_⟩
      rintro v7 rfl
      rw [if_neg (by rintro (q | q); exact absurd q.1 (by decide); exact absurd q.2.1 (by decide))]
      refine w_Rm_putCond_44 ⟨fun _ => ?_, fun q => absurd rfl q⟩
      refine w_Rm_putCond_57 ⟨fun q => absurd q (by decide), fun _ => ⟨fun q => absurd q (by decide), fun _ => ⟨fun _ => ⟨is_mk P.1.1, ?_⟩, fun q => absurd rfl q⟩⟩⟩
      have tl := tok9 L (n := 23) (by decide) (by decide)
      refine (r_putToken (d := d) (o := o) (n := 23) (by decide) (by decide) P.1 h (by have := txt9 (n := 23) (by decide) (by decide); omega) (fun σ1 hL1 r1 _ => ?_)).dn hd3
      have h3' := r1.nodes lo (by decide) (by simp) (by simp) (by simp) h3
      refine (iha 0 2 x σ1 _ _ h3' (by omega) (by omega) (P.rc r1) hL1 (by omega) (fun σ2 hL2 r2 _ => ?_)).dn hd1
      exact w_Rm_putCond_195 ⟨fun _ => K σ2 hL2 (r1.trans r2), fun q => absurd rfl q⟩
    · rw [if_neg hk] at hc K
      have hd1 : d + hgt a + 8 ≤ d + hgt (.tag k a) + 8 := by simp only [hgt]; omega
      exact (iha k ar i σ L F hc hi har P h (by omega) K).dn hd1
  | nest c a _ =>
    intro op ar i σ L F hc hi har P h hl K
    cases a with
    | nest n b =>
      cases b with
      | nil =>
        obtain ⟨h1, h2, hc3, hc7, hn0, hn1, h7⟩ := hc
        have lo := P.2.2.1.lo
        have bi : 0 ≤ (Int32.ofNat i).toInt ∧ (Int32.ofNat i).toInt < 30400 := by rw [n32 (by omega)]; omega
        unfold d_cnd at K
        simp only [csz] at hl
        have en := ofInt_to hn0 hn1
        have ec := ofInt_to (n := c) (by omega) (by omega)
        have eqc : ∀ q : Int, 0 ≤ q → q < 100 → (Int32.ofInt c = Int32.ofInt q ↔ c = q) := fun q q0 q1 => by
          rw [i32e, ec, ofInt_to q0 (by omega)]
        refine w_Rm_putCond ⟨is_mk P.1.1, P.is, ?_⟩
        rw [P.g, oG_13032 P.2.2.1, oG_13033 P.2.2.1, n32c (by omega), h1, h2]
        refine ⟨oA_13032 P.2.2.1 bi.1 bi.2, ?_⟩
        rintro v4 rfl
        refine ⟨oA_13033 P.2.2.1 bi.1 bi.2, ?_⟩
        rintro v7 rfl
        have n0 : ¬ Int32.ofInt c = 0 := fun q => by have := (eqc 0 (by decide) (by decide)).mp q; omega
        have n1 : ¬ Int32.ofInt c = 1 := fun q => by have := (eqc 1 (by decide) (by decide)).mp q; omega
        have n2 : ¬ Int32.ofInt c = 2 := fun q => by have := (eqc 2 (by decide) (by decide)).mp q; omega
        rw [if_neg (by rintro (q | q); exact n0 q.1; exact n1 q.2.1)]
        refine w_Rm_putCond_44 ⟨fun _ => ?_, fun q => absurd rfl q⟩
        refine w_Rm_putCond_57 ⟨fun q => absurd q n0, fun _ => ⟨fun q => absurd q n1, fun _ => ⟨fun q => absurd q n2, fun _ => ⟨fun q => ⟨is_mk P.1.1, ?_⟩, fun q => ?_⟩⟩⟩⟩
        · have hc7 : c = 7 := (eqc 7 (by decide) (by decide)).mp q
          have h5 := h7 hc7
          rw [if_pos hc7] at K
          have tl := tok9 L (n := 28) (by decide) (by decide)
          refine (r_putToken (d := d + 1) (o := o) (n := 28) (by decide) (by decide) P.1 h (by have := txt9 (n := 28) (by decide) (by decide); omega) (fun σ1 hL1 r1 _ => ?_))
          have P1 := P.rc r1
          have enn : Int32.ofInt n = Int32.ofNat n.toNat := by rw [i32e, en, n32 (by omega)]; omega
          rw [enn, mG_12000 P1.1, n32c (by omega), P1.2.1 n.toNat (by omega)]
          refine ⟨mA_12000 P1.1 (by rw [n32 (by omega)]; omega) (by rw [n32 (by omega)]; omega), ?_⟩
          refine (r_putToken (d := d + 1) (o := o) (n := n.toNat + 2) (by omega) (by omega) P1.1 hL1 (by have := txt9 (n := n.toNat + 2) (by omega) (by omega); omega) (fun σ2 hL2 r2 _ => ?_))
          exact w_Rm_putCond_195 ⟨fun _ => K σ2 hL2 (r1.trans r2), fun q => absurd rfl q⟩
        · have hc7' : c ≠ 7 := fun z => q (by rw [z]; rfl)
          rw [if_neg hc7'] at K
          rintro w20 rfl
          have tk : ∀ {m : Nat}, m < 38 → 2 ≤ m → txt m = (if c = 3 then txt 24 else if c = 4 then txt 25 else if c = 5 then txt 26 else txt 27) → c_Rm_putCond_185 nl Ln xs (d + hgt (.nest c (.nest n .nil)) + 8) 1053 (Int32.ofNat i) (Int32.ofNat ar) (Int32.ofInt c) (Int32.ofInt n) 0 (some 1053) (some m) σ F := by
            intro m hm hm2 em
            rw [← em] at K
            have t9 := txt9 hm hm2
            have tl := tok9 L hm hm2
            refine w_Rm_putCond_185 ⟨is_mk P.1.1, (r_putToken (d := d + 1) (o := o) hm hm2 P.1 h (by omega) (fun σ1 hL1 r1 _ => ?_))⟩
            have P1 := P.rc r1
            refine ⟨is_mk P1.1.1, (r_putTokenNumber (d := d + 4) (o := o) (by rw [t64, en]; omega) P1.1 hL1 (by omega) (fun σ2 hL2 r2 _ _ => ?_))⟩
            have e64 : (Int32.ofInt n).toInt64 = Int64.ofInt n := by
              rw [i64e, t64, en, Int64.toInt_ofInt]
              have hs : Int64.size = 18446744073709551616 := rfl
              rw [hs]
              exact (Int.bmod_eq_of_le (by omega) (by omega)).symm
            rw [e64] at hL2
            exact w_Rm_putCond_195 ⟨fun _ => K σ2 hL2 (r1.trans r2), fun q => absurd rfl q⟩
          have c3 : Int32.ofInt c = 3 ↔ c = 3 := eqc 3 (by decide) (by decide)
          have c4 : Int32.ofInt c = 4 ↔ c = 4 := eqc 4 (by decide) (by decide)
          have c5 : Int32.ofInt c = 5 ↔ c = 5 := eqc 5 (by decide) (by decide)
          by_cases g3 : c = 3
          · rw [if_pos (c3.mpr g3)]; exact tk (by decide) (by decide) (by rw [if_pos g3])
          · rw [if_neg (fun z => g3 (c3.mp z))]
            by_cases g4 : c = 4
            · rw [if_pos (c4.mpr g4)]; exact tk (by decide) (by decide) (by rw [if_neg g3, if_pos g4])
            · rw [if_neg (fun z => g4 (c4.mp z))]
              by_cases g5 : c = 5
              · rw [if_pos (c5.mpr g5)]; exact tk (by decide) (by decide) (by rw [if_neg g3, if_neg g4, if_pos g5])
              · rw [if_neg (fun z => g5 (c5.mp z))]; exact tk (by decide) (by decide) (by rw [if_neg g3, if_neg g4, if_neg g5])
      | _ => exact absurd hc (by simp [CndR])
    | _ => exact absurd hc (by simp [CndR])
  | _ =>
    intro op ar i σ L F hc
    exact absurd hc (by simp [CndR])
end
