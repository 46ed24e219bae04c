/-! THE CLASS: clauses are told -/
theorem clT_len {c : mCl} (h : ClC c) : (clT c).length + 20 ≤ clsz c := by
  obtain ⟨⟨c0, c1, n0, n1, n5⟩, hf⟩ := h
  unfold clT clsz
  by_cases h1 : c.1.toInt ≤ 1
  · rw [if_pos h1]
    have hn5 := n5 h1
    have e1 := wt_len (c := c.1.toInt.toNat) (by omega)
    have e2 := wt_len (c := 20 + c.2.1.toInt.toNat) (by omega)
    cases hc : c.2.2 with
    | none =>
      dsimp only
      simp only [List.length_append, List.length_singleton, List.length_nil]
      omega
    | some f =>
      dsimp only
      have e3 := wt_len (c := 11) (by decide)
      have e4 := tx_len f 0 0 (hf f hc).2.1 (by omega)
      simp only [List.length_append, List.length_singleton]
      omega
  · rw [if_neg h1]
    by_cases h8 : c.1 = 8
    · rw [if_pos h8]
      have e1 := wt_len (c := 7) (by decide)
      omega
    · rw [if_neg h8]
      by_cases h10 : c.1 = 10 ∨ c.1 = 11
      · rw [if_pos h10]
        have hk : (if c.1 = 10 then 10 else 3) < 26 := by split <;> omega
        have e1 := wt_len hk
        have e2 := wt_len (c := 9) (by decide)
        simp only [List.length_append, List.length_singleton]
        omega
      · rw [if_neg h10]
        have hk : (if c.1 = 2 then 2 else if c.1 = 3 ∨ c.1 = 5 then 3 else if c.1 = 4 ∨ c.1 = 6 then 4 else if c.1 = 7 then 6 else 8) < 26 := by
          split
          · omega
          · split
            · omega
            · split
              · omega
              · split <;> omega
        have e1 := wt_len hk
        have e2 : (if c.1 = 5 ∨ c.1 = 6 then txt (wT 5) ++ [(32 : Int32)] else []).length ≤ 10 := by
          split
          · have := wt_len (c := 5) (by decide)
            rw [List.length_append, List.length_singleton]
            omega
          · simp
        have e3 := num_le c.2.1.toInt64
        simp only [List.length_append, List.length_singleton]
        omega
section
variable {nl : Bool} {Ln : Nat} {xs : Nat → Int32} {d : Nat} {σ : am_S} {w : ow_T} {k kn : Nat × Nat} {n g0 : Nat}
theorem nd_clause {x : Nat} {c : mCl} {L : List Int32} {s : am_S} {ws : ow_T} {F : am_S → Prop} (O : WdO w k kn) (hC : ClC c) (hN : NdC σ w kn x c) (h : WdS σ w k n g0 L s ws) (hl : L.length + clsz c ≤ 90000) (K : ∀ s' ws', WdS σ w k n g0 (L ++ (clT c ++ [59, 10])) s' ws' → F s') : k_Nd_writeClause nl Ln xs (d + 411) (some x) (some n) s F := by
  have hlen := clT_len hC
  obtain ⟨⟨c0, c1, n0, n1, n5⟩, hf⟩ := hC
  obtain ⟨hk, h8, h81, h82⟩ := hN
  have fr := h.fr O.2.1 O.2.2.1
  have er := (fr x hk.1).2
  have c171 : ∀ (s1 : am_S) (w1 : ow_T) (L1 : List Int32), WdS σ w k n g0 L1 s1 w1 → L1 = L ++ clT c → c_Nd_writeClause_171 nl Ln xs (d + 411) (some x) (some n) s1 F := by
    intro s1 w1 L1 h1 eL
    have l1 : L1.length < 100000 := by rw [eL, List.length_append]; omega
    refine w_Nd_writeClause_171 ⟨is_mk h1.kd, ?_⟩
    rw [Option.getD_some]
    refine wd_put (d := d + 407) O.1 (by decide) h1 (by omega) (fun s2 w2 h2 => ?_)
    refine wd_put (d := d + 407) O.1 (by decide) h2 (by rw [List.length_append, List.length_singleton]; omega) (fun s3 w3 h3 => K s3 w3 ?_)
    rw [eL] at h3
    simp only [List.append_assoc, List.cons_append, List.nil_append] at h3 ⊢
    exact h3
  have c137 : c.2.2 = none → ∀ (s1 : am_S) (w1 : ow_T) (L1 : List Int32), WdS σ w k n g0 L1 s1 w1 → L1 = L ++ clT c → c_Nd_writeClause_137 nl Ln xs (d + 411) (some x) (some n) s1 F := by
    intro hn s1 w1 L1 h1 eL
    rw [hn] at h82
    have h82 : am_fR σ 8002 x = none := h82
    have f1 := h1.fr O.2.1 O.2.2.1
    refine w_Nd_writeClause_137 ⟨is_mk (hk.fr f1).2, ?_⟩
    rw [Option.getD_some, (f1 x hk.1).2.fR, h82]
    exact ⟨fun _ => c171 s1 w1 L1 h1 eL, fun z => absurd rfl z⟩
  have no : ¬ c.1.toInt ≤ 1 → c.2.2 = none := fun z => by
    cases hc : c.2.2 with
    | none => rfl
    | some f => exact absurd (hf f hc).2.2.2.2 z
  obtain ⟨i, hi, ei⟩ : ∃ i, i ≤ 11 ∧ c.1 = Int32.ofNat i := ⟨c.1.toInt.toNat, by omega, n32of c0⟩
  refine w_Nd_writeClause ⟨is_mk (hk.fr fr).2, ?_⟩
  rw [Option.getD_some, er.fI, h8]
  by_cases h1 : c.1.toInt ≤ 1
  · have hn5 := n5 h1
    have e01 : c.1 = 0 ∨ c.1 = 1 := by
      rcases (show c.1.toInt = 0 ∨ c.1.toInt = 1 by omega) with q | q
      · left; rw [i32e, q]; rfl
      · right; rw [i32e, q]; rfl
    have eop : c_op c.1 = Int32.ofNat c.1.toInt.toNat := by rcases e01 with q | q <;> rw [q] <;> rfl
    have enr : am_fI σ 8001 x = Int32.ofNat (20 + c.2.1.toInt.toNat) := by
      rw [h81]
      unfold c_nr
      rw [if_pos h1, i32e, n32 (by omega), i32add (by rw [show (20 : Int32).toInt = 20 by decide]; omega) (by rw [show (20 : Int32).toInt = 20 by decide]; omega), show (20 : Int32).toInt = 20 by decide]
      omega
    have w1 := wt_len (c := c.1.toInt.toNat) (by omega)
    have w2 := wt_len (c := 20 + c.2.1.toInt.toNat) (by omega)
    have main : k_Nd_writeWord nl Ln xs (d + 410) (c_op c.1) (some n) s (fun σ2 => am_ext s σ2 → (am_is σ2 (some n) 1) ∧ k_By_put nl Ln xs (d + 410) ((some n).getD 0) 32 σ2 (fun σ5 => am_ext σ2 σ5 → k_Nd_writeWord nl Ln xs (d + 410) (am_fI σ5 8001 x) (some n) σ5 (fun σ7 => am_ext σ5 σ7 → c_Nd_writeClause_137 nl Ln xs (d + 411) (some x) (some n) σ7 F))) := by
      rw [eop]
      refine wd_two (d := d + 404) (c := 20 + c.2.1.toInt.toNat) (x := fun s' => am_fI s' 8001 x) O.1 (by omega) (by omega) h (by omega) (fun s' ws' L' h' => by rw [((h'.fr O.2.1 O.2.2.1) x hk.1).2.fI]; exact enr) (fun s1 v1 h1' => ?_)
      cases hc : c.2.2 with
      | none =>
        refine c137 hc s1 v1 _ h1' ?_
        unfold clT
        rw [if_pos h1, hc]
        simp only [List.append_nil]
      | some f =>
        rw [hc] at h82
        obtain ⟨r, r1, rp, r2, r3⟩ := h82
        have hff := hf f hc
        have f1 := h1'.fr O.2.1 O.2.2.1
        have w3 := wt_len (c := 11) (by decide)
        have hsz : clsz c = 70 + csz f := by unfold clsz; rw [hc]
        refine w_Nd_writeClause_137 ⟨is_mk (hk.fr f1).2, ?_⟩
        rw [Option.getD_some, (f1 x hk.1).2.fR, r1]
        refine ⟨fun z => absurd z (by simp), fun _ => ⟨is_mk h1'.kd, ?_⟩⟩
        rw [Option.getD_some]
        refine wd_put (d := d + 407) O.1 (by decide) h1' (by simp only [List.length_append, List.length_singleton]; omega) (fun s2 v2 h2 => ?_)
        refine wd_word (d := d + 404) (c := 11) O.1 (by decide) h2 (by simp only [List.length_append, List.length_singleton]; omega) (fun s3 v3 h3 _ => ?_)
        refine wd_put (d := d + 407) O.1 (by decide) h3 (by simp only [List.length_append, List.length_singleton]; omega) (fun s4 v4 h4 => ?_)
        rw [((h4.fr O.2.1 O.2.2.1) x hk.1).2.fR, r1]
        have hd : d + hgt f + 10 ≤ d + 410 := by have := hff.2.2.1; omega
        refine am_C.dn ((nd_cnd (d := d) O f).1 r 0 s4 v4 _ _ hff.1 hff.2.1 r2 (by have := hff.2.2.2.1; omega) h4 (by simp only [List.length_append, List.length_singleton]; omega) (fun s5 v5 h5 _ => c171 s5 v5 _ h5 ?_)) hd
        unfold clT
        rw [if_pos h1, hc]
        simp only [List.append_assoc]
    refine ⟨fun _ => main, fun z => ?_, fun z => ?_, fun z => ?_, fun z => ?_⟩
    · rcases e01 with q | q <;> rw [q] at z <;> exact absurd z (by decide)
    · rcases e01 with q | q <;> rw [q] at z <;> exact absurd z (by decide)
    · rcases e01 with q | q <;> rw [q] at z <;> exact absurd z (by decide)
    · rcases e01 with q | q <;> rw [q] at z <;> exact absurd z (by decide)
  · have hn := no h1
    have go := c137 hn
    unfold clT at go
    rw [if_neg h1] at go
    rcases (show i = 0 ∨ i = 1 ∨ i = 2 ∨ i = 3 ∨ i = 4 ∨ i = 5 ∨ i = 6 ∨ i = 7 ∨ i = 8 ∨ i = 9 ∨ i = 10 ∨ i = 11 by omega) with q | q | q | q | q | q | q | q | q | q | q | q <;> subst q
    · rw [ei] at h1; exact absurd (by decide) h1
    · rw [ei] at h1; exact absurd (by decide) h1
    · unfold c_nr at h81
      rw [ei] at h81 go ⊢
      rw [er.fI, h81]
      exact ⟨fun z => absurd z (by decide), fun z => absurd z (by decide), fun z => absurd z (by decide), fun z => absurd z (by decide), fun _ => wd_num (d := d + 403) (c := 2) O.1 (by decide) h (by omega) (fun s1 v1 h1' _ => go s1 v1 _ h1' rfl)⟩
    · unfold c_nr at h81
      rw [ei] at h81 go ⊢
      rw [er.fI, h81]
      exact ⟨fun z => absurd z (by decide), fun z => absurd z (by decide), fun z => absurd z (by decide), fun z => absurd z (by decide), fun _ => wd_num (d := d + 403) (c := 3) O.1 (by decide) h (by omega) (fun s1 v1 h1' _ => go s1 v1 _ h1' rfl)⟩
    · unfold c_nr at h81
      rw [ei] at h81 go ⊢
      rw [er.fI, h81]
      exact ⟨fun z => absurd z (by decide), fun z => absurd z (by decide), fun z => absurd z (by decide), fun z => absurd z (by decide), fun _ => wd_num (d := d + 403) (c := 4) O.1 (by decide) h (by omega) (fun s1 v1 h1' _ => go s1 v1 _ h1' rfl)⟩
    · unfold c_nr at h81
      rw [ei] at h81 go ⊢
      rw [er.fI, h81]
      exact ⟨fun z => absurd z (by decide), fun z => absurd z (by decide), fun _ => wd_num2 (d := d + 403) (a := 5) (c := 3) O.1 (by decide) (by decide) h (by omega) (fun s1 v1 h1' _ => go s1 v1 _ h1' rfl), fun z => absurd z (by decide), fun z => absurd z (by decide)⟩
    · unfold c_nr at h81
      rw [ei] at h81 go ⊢
      rw [er.fI, h81]
      exact ⟨fun z => absurd z (by decide), fun z => absurd z (by decide), fun z => absurd z (by decide), fun _ => wd_num2 (d := d + 403) (a := 5) (c := 4) O.1 (by decide) (by decide) h (by omega) (fun s1 v1 h1' _ => go s1 v1 _ h1' rfl), fun z => absurd z (by decide)⟩
    · unfold c_nr at h81
      rw [ei] at h81 go ⊢
      rw [er.fI, h81]
      exact ⟨fun z => absurd z (by decide), fun z => absurd z (by decide), fun z => absurd z (by decide), fun z => absurd z (by decide), fun _ => wd_num (d := d + 403) (c := 6) O.1 (by decide) h (by omega) (fun s1 v1 h1' _ => go s1 v1 _ h1' rfl)⟩
    · rw [ei] at go ⊢
      exact ⟨fun z => absurd z (by decide), fun _ => wd_word (d := d + 404) (c := 7) O.1 (by decide) h (by omega) (fun s1 v1 h1' _ => go s1 v1 _ h1' rfl), fun z => absurd z (by decide), fun z => absurd z (by decide), fun z => absurd z (by decide)⟩
    · unfold c_nr at h81
      rw [ei] at h81 go ⊢
      rw [er.fI, h81]
      exact ⟨fun z => absurd z (by decide), fun z => absurd z (by decide), fun z => absurd z (by decide), fun z => absurd z (by decide), fun _ => wd_num (d := d + 403) (c := 8) O.1 (by decide) h (by omega) (fun s1 v1 h1' _ => go s1 v1 _ h1' rfl)⟩
    · unfold c_nr at h81
      rw [ei] at h81 go ⊢
      exact ⟨fun _ => wd_two (d := d + 404) (a := 9) (c := 10) (x := fun s' => am_fI s' 8001 x) O.1 (by decide) (by decide) h (by omega) (fun s' ws' L' h' => by rw [((h'.fr O.2.1 O.2.2.1) x hk.1).2.fI]; exact h81) (fun s1 v1 h1' => go s1 v1 _ h1' rfl), fun z => absurd z (by decide), fun z => absurd z (by decide), fun z => absurd z (by decide), fun z => absurd z (by decide)⟩
    · unfold c_nr at h81
      rw [ei] at h81 go ⊢
      exact ⟨fun _ => wd_two (d := d + 404) (a := 9) (c := 3) (x := fun s' => am_fI s' 8001 x) O.1 (by decide) (by decide) h (by omega) (fun s' ws' L' h' => by rw [((h'.fr O.2.1 O.2.2.1) x hk.1).2.fI]; exact h81) (fun s1 v1 h1' => go s1 v1 _ h1' rfl), fun z => absurd z (by decide), fun z => absurd z (by decide), fun z => absurd z (by decide), fun z => absurd z (by decide)⟩
end
section
variable {nl : Bool} {Ln : Nat} {xs : Nat → Int32} {d : Nat} {σ : am_S} {w : ow_T} {τ : am_S} {v b gl nu : Nat} {X : Stx} {sp : Option Nat} {g : Grw} {D : mTop}
theorem co_tell {p at' : Int32} {F : Int32 → am_S → Prop} (hI : InvM (d_off D)) (R : DskC τ σ w v X b sp g gl nu D) (K : ∀ s ws g', DskC τ s ws v X b sp g' gl nu (d_tell D p at').2 → F (d_tell D p at').1 s) : k_Co_tell nl Ln xs (d + 412) 1000 p at' σ F := by
  have hw := hI.1.1
  unfold d_tell at K
  have bad : ¬ (m_isCov (o_pol (d_off D)) p.toInt64 ∧ (0 ≤ at'.toInt ∧ at'.toInt ≤ (o_now (d_off D)).toInt)) → F (-2) σ := fun h => by
    rw [if_neg h] at K
    exact K σ w g R
  refine w_Co_tell ⟨is_mk R.1.1.2, co_cover (d := d + 409) hw R (fun h _ => ⟨fun _ => bad h, fun z => absurd rfl z⟩) (fun c q h hq hc hP _ => ⟨fun z => absurd z (by simp), fun _ => ?_⟩)⟩
  rw [if_pos h] at K
  have hC := hI.cls p.toInt.toNat at'
  have ec := cls_tx (m_cls (o_tel (d_off D)) p.toInt.toNat at') [] hC.2.2 (by decide)
  rw [List.nil_append] at ec
  dsimp only at K
  rw [ec] at K
  have S := R.2.2.2.2.2.1
  have A := R.2.2.2.2.2.2.2.1
  have hb := R.2.1
  have hrf := R.2.2.2.2.2.2.2.2.2.2
  rw [R.1.2.1.2.2.1, Option.getD_some]
  refine ⟨is_mk S.2.1, by_clr (d := d + 410) S A.1.1.1 (fun s3 S3 c3 hext => ?_)⟩
  have R3 := R.let S3 c3 hext.2
  have P3 := hP.fr (c3.1.2 (b, 100 + p.toInt.toNat) (fun z => by have : b = 2 := congrArg Prod.fst z; omega) (by simp))
  rw [Option.getD_some]
  refine ⟨is_mk P3.2.1, po_clausesAt (d := d + 409) P3 (fun hd wC _ => ?_)⟩
  have hrf3 := R3.2.2.2.2.2.2.2.2.2.2
  have O : WdO w (2, 1005) (b, 100 + p.toInt.toNat) := ⟨by simp, fun z => by have : b = 2 := congrArg Prod.fst z; omega, by simp, fun x hx => by
    refine Nat.le_of_not_lt (fun hlt => ?_)
    have := (hrf3.2 x hlt).symm.trans hx
    have : 9 = b := congrArg Prod.fst this
    omega⟩
  have loop : ∀ (C : List mCl) (hd : Option Nat) (s : am_S) (ws : ow_T) (L : List Int32), ClN s3 w (b, 100 + p.toInt.toNat) hd C → (∀ c ∈ C, ClC c) → WdS s3 w (2, 1005) 1005 g.2.2.1 L s ws → L.length + cszs C ≤ 17000 → L ++ C.flatMap (fun c => clT c ++ [59, 10]) = (m_cls (o_tel (d_off D)) p.toInt.toNat at').flatMap (fun c => clT c ++ [59, 10]) → c_Co_tell_28 nl Ln xs (d + 412) 1000 p at' (some c) hd s F := by
    intro C
    induction C with
    | nil =>
      intro hd s ws L hh hCC h hl e
      have hh : hd = none := hh
      subst hh
      obtain ⟨g', B, Cc, hn⟩ := h
      have R4 := R3.let B Cc hn
      refine w_Co_tell_28 ⟨fun _ => ⟨is_mk R4.1.1.2, ?_⟩, fun z => absurd rfl z⟩
      rw [R4.1.2.1.2.2.1, Option.getD_some, B.2.2.2.2.1]
      refine ⟨is_mk B.2.1, ?_⟩
      rw [List.flatMap_nil, List.append_nil] at e
      subst e
      exact K s ws _ R4
    | cons cl C ih =>
      intro hd s ws L hh hCC h hl e
      obtain ⟨x, rfl, hN, hrest⟩ := hh
      rw [cszs] at hl
      have hcl := hCC cl List.mem_cons_self
      have hlen := clT_len hcl
      have fr2 := h.fr O.2.1 O.2.2.1
      have f2 : am_fR s 2 1000 = some 1005 := by
        obtain ⟨g', B, Cc, hn⟩ := h
        exact (R3.let B Cc hn).1.2.1.2.2.1
      have k0 : am_kd s 1000 = (1, 0) := by
        obtain ⟨g', B, Cc, hn⟩ := h
        exact (R3.let B Cc hn).1.1.2
      refine w_Co_tell_28 ⟨fun z => absurd z (by simp), fun _ => ⟨is_mk k0, ?_⟩⟩
      rw [f2]
      refine nd_clause (d := d) O hcl hN h (by omega) (fun s5 w5 h5 _ => ?_)
      have fr5 := h5.fr O.2.1 O.2.2.1
      refine ⟨is_mk (hN.1.fr fr5).2, ?_⟩
      rintro _ rfl
      rw [Option.getD_some, (fr5 x hN.1.1).2.fR]
      refine ih _ s5 w5 _ hrest (fun c hc => hCC c (List.mem_cons_of_mem _ hc)) h5 ?_ ?_
      · simp only [List.length_append, List.length_cons, List.length_nil]
        omega
      · rw [← e, List.flatMap_cons]
        simp only [List.append_assoc]
  exact loop _ hd s3 w [] wC hC.2.2 ⟨_, S3, ByC.rf c3.1.1, Nat.le_refl _⟩ (by have := hC.2.1; simpa using this) (by rw [List.nil_append])
end
