/-! THE CLASS: what a book gave back: policies with all that was told of them -/
section
variable {nl : Bool} {Ln : Nat} {xs : Nat → Int32} {d : Nat} {σ σ' : am_S} {w w' : ow_T} {k : Nat × Nat} {b i : Nat}
theorem MdT.on : ∀ {n : Nat} {h : Option Nat} {ns : List Nat}, MdT σ w k n h ns → (∀ c, w c = k → (c ∈ ns ∨ am_kd σ c ≠ (9, 0)) → w' c = k ∧ am_eqc σ σ' c) → MdT σ' w' k n h ns
  | 0, _, _, hh, _ => hh
  | n + 1, _, _, hh, f => by
    obtain ⟨c, n1, n2, h1, ⟨h2, h3⟩, h4, h5, h6⟩ := hh
    have e := f c h2 (Or.inr (by rw [h3]; decide))
    have f1 : ∀ y ∈ n1, w' y = k ∧ am_eqc σ σ' y := fun y hy => f y (h4.2 y hy).1 (Or.inl (by rw [h5]; exact List.mem_append_left _ hy))
    refine ⟨c, n1, n2, h1, ⟨e.1, e.2.kd.trans h3⟩, ?_, h5, ?_⟩
    · rw [e.2.fR]
      exact ⟨h4.1.mono (fun y hy => (f1 y hy).2.fR), fun y hy => ⟨(f1 y hy).1, (f1 y hy).2.kd.trans (h4.2 y hy).2.1, (h4.2 y hy).2.2⟩⟩
    · rw [e.2.fR]
      exact MdT.on h6 (fun y hy hyn => f y hy (hyn.imp (fun z => by rw [h5]; exact List.mem_append_right _ z) id))
/-- the clauses of all that was told go back to the reader -/
theorem bk_give89 {tot : Nat} {F : am_S → Prop} (hk : RdO k) (hkb : k ≠ (b, 2)) (hb : b ≠ 1 ∧ b ≠ 2 ∧ b ≠ 0) (hwb : w b = (b, 2)) (kb : am_kd σ b = (7, 0)) (f1 : am_fR σ 6001 b = some 1034)
    (K : ∀ s' w' lN', RdK s' w' → OwI s' w' → Fls s' w' (1, 5) 9 8004 (am_fR s' 4006 1034) lN' → Eff (rdE k) σ w s' w' → (am_kd s' = am_kd σ ∧ am_nx s' = am_nx σ ∧ am_sl s' = am_sl σ) → (∀ c, w c = k → am_kd σ c ≠ (9, 0) → w' c = k ∧ am_eqc σ s' c) → lN'.length = tot → c_Bk_giveBack_89 nl Ln xs (d + 2) b (Int32.ofNat i) none s' F) : ∀ (n : Nat) (h : Option Nat) (ns cs : List Nat) (s : am_S) (ws : ow_T) (lN : List Nat), cs.length = n → Rch (am_fR σ 7005) h cs → (∀ c ∈ cs, w c = k ∧ am_kd σ c = (8, 0)) → MdT s ws k n h ns → ns.Nodup → RdK s ws → OwI s ws → Fls s ws (1, 5) 9 8004 (am_fR s 4006 1034) lN → Eff (rdE k) σ w s ws → (am_kd s = am_kd σ ∧ am_nx s = am_nx σ ∧ am_sl s = am_sl σ) → (∀ c, w c = k → am_kd σ c ≠ (9, 0) → ws c = k ∧ am_eqc σ s c) → lN.length + ns.length = tot → c_Bk_giveBack_89 nl Ln xs (d + 2) b (Int32.ofNat i) h s F := by
  intro n
  induction n with
  | zero =>
    intro h ns cs s ws lN hcs hr hcc hM hnd R O L E kx S9 ht
    have : cs = [] := List.length_eq_zero_iff.mp hcs
    subst this
    have hr : h = none := hr
    have hM : ns = [] := hM
    subst hr
    subst hM
    exact K s ws lN R O L E kx S9 (by simpa using ht)
  | succ n ih =>
    intro h ns cs s ws lN hcs hr hcc hM hnd R O L E kx S9 ht
    cases cs with
    | nil => cases hcs
    | cons c' cs =>
    obtain ⟨c, n1, n2, h1, ⟨h2, h3⟩, h4, h5, h6⟩ := hM
    obtain ⟨hr1, hr2⟩ := hr
    have ec : c' = c := Option.some.inj (hr1.symm.trans h1)
    subst ec
    subst h1
    subst h5
    have hc := hcc c' List.mem_cons_self
    have hc9 : am_kd σ c' ≠ (9, 0) := by rw [hc.2]; decide
    have sc := S9 c' hc.1 hc9
    have nb : ¬ rdE k (b, 2) := fun z => by
      rcases z with h | h | h
      · exact hb.1 (congrArg Prod.fst h)
      · exact hb.2.1 (congrArg Prod.fst h)
      · exact hkb h.symm
    have eb := E.2 (b, 2) nb (by simp) b hwb
    refine w_Bk_giveBack_89 ⟨fun z => absurd z (by simp), fun _ => ⟨is_mk (eb.2.kd.trans kb), is_mk h3, ?_⟩⟩
    rw [Option.getD_some, eb.2.fR, f1, Option.getD_some]
    refine ⟨is_mk R.2.1, w_Rd_putBack ?_⟩
    refine rd_putBack (d := d) hk n1 s ws lN _ _ _ R O L h4.1 h4.2 (fun s2 w2 R2 O2 L2 E2 k2 _ st2 _ => ?_)
    have hdis := List.nodup_append.mp hnd
    have kd9 : ∀ y, am_kd s y ≠ (9, 0) → y ∉ n1 := fun y hy z => hy (h4.2 y z).2.1
    have sc2 := st2 c' (kd9 c' (by rw [h3]; decide)) h2
    rintro v12 rfl
    rw [sc2.2.fR, sc.2.fR]
    refine ih _ n2 cs s2 w2 _ (by simpa using hcs) hr2 (fun y hy => hcc y (List.mem_cons_of_mem _ hy)) ?_ hdis.2.1 R2 O2 L2 (E.trans E2) ⟨k2.1.trans kx.1, k2.2.1.trans kx.2.1, k2.2.2.trans kx.2.2⟩ (fun y hy hy9 => ?_) ?_
    · rw [sc.2.fR] at h6
      refine h6.on (fun y hy hyn => st2 y ?_ hy)
      rcases hyn with z | z
      · exact fun q => hdis.2.2 y q y z rfl
      · exact kd9 y z
    · have a := S9 y hy hy9
      have bq := st2 y (kd9 y (by rw [a.2.kd]; exact hy9)) a.1
      exact ⟨bq.1, a.2.trans bq.2⟩
    · rw [List.length_append, List.length_reverse]
      rw [List.length_append] at ht
      omega
/-- a policy goes back, with what was told of it -/
theorem sk_putPolicy {c : Nat} {cs lE lP lC : List Nat} {lL : List (Nat × Nat × Nat)} {F : am_S → Prop} (hk : ¬ stK k) (h0 : k ≠ (0, 0)) (S : Stk σ w lE lP lL lC) (ho : OwI σ w) (h1 : w c = k) (h2 : am_kd σ c = (10, 0)) (hc : 1000 ≤ c) (r1 : Rch (am_fR σ 7005) (am_fR σ 9004 c) cs) (r3 : ∀ y ∈ cs, w y = k ∧ am_kd σ y = (8, 0))
    (K : ∀ σ' w' lE', Stk σ' w' lE' (c :: lP) lL lC → lE'.length = lE.length + cs.length → Eff (fun q => stK q ∨ q = k) σ w σ' w' → (am_kd σ' = am_kd σ ∧ am_nx σ' = am_nx σ ∧ am_sl σ' = am_sl σ) → F σ') : k_Sk_putBackPolicy nl Ln xs (d + 3) 1038 (some c) σ F := by
  refine low (fun hL => w_Sk_putBackPolicy ⟨is_mk h2, S.cell, w_Sk_putBackAll ?_⟩)
  rw [Option.getD_some]
  refine sk_putBackAll (d := d) hk h0 cs σ w lE _ _ _ S ho r1 (fun y hy => ⟨(r3 y hy).1, (r3 y hy).2, by
    apply Classical.byContradiction
    intro z
    have := hL y (by omega)
    rw [(r3 y hy).2] at this
    exact absurd this (by decide)⟩) (fun s1 w1 S1 E1 k1 st _ => ?_)
  have cin : c ∉ cs := fun z => by
    have := (r3 c z).2
    rw [h2] at this
    exact absurd this (by decide)
  have cst := st c cin h1
  intro s5 e5 s8 e8
  have kd5 : am_kd s1 c = (10, 0) := by rw [k1.1]; exact h2
  have S8 := S1.pushP cst.1 hk kd5 hc
  have E8 := psh_eff (k1 := (1, 2)) (g := 9005) (g' := 5001) (a := am_fR s1 5001 1038) S1.1.1 cst.1 h0 E1.1
  rw [e8, e5]
  refine K _ _ _ S8 ?_ (E1.trans E8) ⟨k1.1, k1.2.1, k1.2.2⟩
  rw [List.length_append, List.length_reverse]
  omega
end
