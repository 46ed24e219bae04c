/-! THE CLASS: the nodes of a text that is read -/
def RdK (σ : am_S) (w : ow_T) : Prop := (∀ c, 1034 ≤ c → c ≤ 1037 → w c = (2, c)) ∧ am_kd σ 1034 = (5, 0) ∧ (am_fR σ 4000 1034 = some 1035 ∧ am_fR σ 4001 1034 = some 1036 ∧ am_fR σ 4002 1034 = some 1037) ∧ am_kd σ 1035 = (1000, 401) ∧ am_kd σ 1036 = (1000, 401) ∧ am_kd σ 1037 = (1000, 401)
/-- the nodes made so far, from a stock lN, with nx and sl at the start -/
def RdM (σ : am_S) (w : ow_T) (k : Nat × Nat) (L : List Nat × Nat × Nat × Nat) (ms : List Nat) : Prop := (RdK σ w ∧ OwI σ w ∧ 1039 ≤ am_nx σ) ∧ Fls σ w (1, 5) 9 8004 (am_fR σ 4006 1034) (L.1.drop ms.length) ∧ (am_fR σ 4007 1034 = ms.head? ∧ am_fR σ 4008 1034 = ms.getLast?) ∧ (Rch (am_fR σ 8004) ms.head? ms ∧ ∀ c ∈ ms, w c = k ∧ am_kd σ c = (9, 0) ∧ 1000 ≤ c) ∧ am_nx σ = L.2.1 + (ms.length - L.1.length) ∧ am_sl σ = L.2.2.1 + 5 * (ms.length - L.1.length) ∧ am_fI σ 4004 1034 = Int32.ofNat L.2.2.2
def RdO (k : Nat × Nat) : Prop := k ≠ (0, 0) ∧ k ≠ (1, 5) ∧ ∀ c, k ≠ (2, c)
/-- a node is as it was, but for the chain of those made -/
def NdB (σ σ' : am_S) (x : Nat) : Prop := am_fI σ' 8000 x = am_fI σ 8000 x ∧ am_fI σ' 8001 x = am_fI σ 8001 x ∧ am_fR σ' 8002 x = am_fR σ 8002 x ∧ am_fR σ' 8003 x = am_fR σ 8003 x
def rdE (k q : Nat × Nat) : Prop := q = (1, 5) ∨ q = (2, 1034) ∨ q = k
def RdC (k : Nat × Nat) (ms ms' : List Nat) (σ : am_S) (w : ow_T) (σ' : am_S) (w' : ow_T) : Prop := Eff (rdE k) σ w σ' w' ∧ (∃ t, ms' = ms ++ t ∧ ∀ x ∈ t, w x ≠ k) ∧ (∀ x, w x = k → w' x = k) ∧ (∀ x, x ∉ ms → w x = k → am_eqc σ σ' x) ∧ ∀ x ∈ ms, w x = k → NdB σ σ' x
section
variable {σ σ1 σ2 : am_S} {w w1 w2 : ow_T} {k : Nat × Nat} {ms ms1 ms2 : List Nat} {x : Nat}
theorem NdB.rf : NdB σ σ x := ⟨rfl, rfl, rfl, rfl⟩
theorem NdB.trans (h : NdB σ σ1 x) (h2 : NdB σ1 σ2 x) : NdB σ σ2 x := ⟨h2.1.trans h.1, h2.2.1.trans h.2.1, h2.2.2.1.trans h.2.2.1, h2.2.2.2.trans h.2.2.2⟩
theorem NdB.of (h : am_eqc σ σ1 x) : NdB σ σ1 x := ⟨h.fI, h.fI, h.fR, h.fR⟩
theorem RdC.rf (ho : OwI σ w) : RdC k ms ms σ w σ w := ⟨Eff.rf ho, ⟨[], by simp, by simp⟩, fun _ h => h, fun _ _ _ => am_eqc.rf, fun _ _ _ => NdB.rf⟩
theorem RdC.trans (h : RdC k ms ms1 σ w σ1 w1) (h2 : RdC k ms1 ms2 σ1 w1 σ2 w2) : RdC k ms ms2 σ w σ2 w2 := by
  obtain ⟨a1, ⟨t, a2, a3⟩, a4, a5, a6⟩ := h
  obtain ⟨b1, ⟨t', b2, b3⟩, b4, b5, b6⟩ := h2
  refine ⟨a1.trans b1, ⟨t ++ t', by rw [b2, a2, List.append_assoc], fun x hx hw => ?_⟩, fun x hx => b4 x (a4 x hx), fun x hx hw => ?_, fun x hx hw => ?_⟩
  · rcases List.mem_append.mp hx with h | h
    · exact a3 x h hw
    · exact b3 x h (a4 x hw)
  · refine (a5 x hx hw).trans (b5 x (fun z => ?_) (a4 x hw))
    rw [a2] at z
    rcases List.mem_append.mp z with h | h
    · exact hx h
    · exact a3 x h hw
  · exact (a6 x hx hw).trans (b6 x (by rw [a2]; exact List.mem_append_left _ hx) (a4 x hw))
/-- only numbers of the reader have changed -/
theorem RdC.num {g : Nat} {v : Int32} (ho : OwI σ w) (h34 : w 1034 = (2, 1034)) (hk : RdO k) : RdC k ms ms σ w (am_sfI σ g 1034 v) w := by
  have e : ∀ x, w x = k → am_eqc σ (am_sfI σ g 1034 v) x := fun x hx => eqc_sfI (fun z => hk.2.2 1034 (by rw [← hx, z]; exact h34))
  exact ⟨Eff.sfI ho (by rw [h34]; exact Or.inr (Or.inl rfl)), ⟨[], by simp, by simp⟩, fun _ h => h, fun x _ hw => e x hw, fun x _ hw => NdB.of (e x hw)⟩
theorem RdM.num {L : List Nat × Nat × Nat × Nat} {g : Nat} {v : Int32} (R : RdM σ w k L ms) (hk : RdO k) (hg : g ≠ 4004) : RdM (am_sfI σ g 1034 v) w k L ms := by
  obtain ⟨⟨⟨h1, h2, h3, h4⟩, h5, h6⟩, a1, a2, ⟨a3, a4⟩, a5, a6, a7⟩ := R
  have h34 := h1 1034 (by omega) (by omega)
  refine ⟨⟨⟨h1, h2, h3, h4⟩, h5, h6⟩, a1.eqc (fun x hx => ⟨(a1.mem x hx).1, eqc_sfI (fun z => ?_)⟩), a2, ⟨a3, a4⟩, a5, a6, (rI_g (fun z => hg z.symm)).trans a7⟩
  have := (a1.mem x hx).1
  rw [z, h34] at this
  exact absurd this (by simp)
theorem RdM.cnt {lN : List Nat} {nx sl m m' : Nat} (R : RdM σ w k (lN, nx, sl, m) ms) : RdM (am_sfI σ 4004 1034 (Int32.ofNat m')) w k (lN, nx, sl, m') ms := by
  obtain ⟨⟨⟨h1, h2, h3, h4⟩, h5, h6⟩, a1, a2, ⟨a3, a4⟩, a5, a6, a7⟩ := R
  have h34 := h1 1034 (by omega) (by omega)
  refine ⟨⟨⟨h1, h2, h3, h4⟩, h5, h6⟩, a1.eqc (fun x hx => ⟨(a1.mem x hx).1, eqc_sfI (fun z => ?_)⟩), a2, ⟨a3, a4⟩, a5, a6, rI_same⟩
  have := (a1.mem x hx).1
  rw [z, h34] at this
  exact absurd this (by simp)
theorem RdM.isk {L : List Nat × Nat × Nat × Nat} (R : RdM σ w k L ms) : am_is σ (some 1034) 4 := is_mk R.1.1.2.1
theorem RdM.o {L : List Nat × Nat × Nat × Nat} (R : RdM σ w k L ms) : OwI σ w := R.1.2.1
theorem RdM.c {L : List Nat × Nat × Nat × Nat} (R : RdM σ w k L ms) : w 1034 = (2, 1034) := R.1.1.1 1034 (by omega) (by omega)
theorem RdM.nd {L : List Nat × Nat × Nat × Nat} (R : RdM σ w k L ms) : ms.Nodup := by
  have : ∀ (l : List Nat) (h : Option Nat), Rch (am_fR σ 8004) h l → l.Nodup := by
    intro l
    induction l with
    | nil => intro _ _; exact List.nodup_nil
    | cons c l ih => intro h hh; exact List.nodup_cons.mpr ⟨hh.nin, ih _ hh.2⟩
  exact this ms _ R.2.2.2.1.1
theorem Fls.mz {kd g c z : Nat} {l : List Nat} {h : Option Nat} {w' : ow_T} (hh : Fls σ w k kd g h l) (e : ∀ x, x ≠ z → x ≠ c → am_eqc σ σ1 x) (hw : ∀ x, x ≠ c → w' x = w x) (h1 : c ∉ l) (h2 : z ∉ l) : Fls σ1 w' k kd g h l :=
  hh.eqc (fun x hx => ⟨(hw x (fun z => h1 (by rw [← z]; exact hx))).trans (hh.mem x hx).1, e x (fun z => h2 (by rw [← z]; exact hx)) (fun z => h1 (by rw [← z]; exact hx))⟩)
/-- one more behind a chain -/
theorem Rch.snoc {nx nx' : Nat → Option Nat} : ∀ {l : List Nat} {z c : Nat} {h : Option Nat}, Rch nx h (l ++ [z]) → (∀ x ∈ l, nx' x = nx x) → nx' z = some c → nx' c = none → Rch nx' h (l ++ [z] ++ [c])
  | [], z, c, h, hh, _, h1, h2 => ⟨hh.1, h1, h2⟩
  | y :: l, z, c, h, hh, e, h1, h2 => by
    refine ⟨hh.1, ?_⟩
    rw [e y List.mem_cons_self]
    exact Rch.snoc hh.2 (fun x hx => e x (List.mem_cons_of_mem _ hx)) h1 h2
end
section
variable {nl : Bool} {Ln : Nat} {xs : Nat → Int32} {d : Nat} {σ : am_S} {w : ow_T} {k : Nat × Nat} {L : List Nat × Nat × Nat × Nat} {ms : List Nat}
theorem rd_makeNode {op nr : Int32} {fst : Option Nat} {F : Option Nat → am_S → Prop} (hk : RdO k) (R : RdM σ w k L ms)
    (K : ∀ σ' w' c, RdM σ' w' k L (ms ++ [c]) → RdC k ms (ms ++ [c]) σ w σ' w' → (∀ g, am_fI σ' g 1034 = am_fI σ g 1034) → (am_fI σ' 8000 c = op ∧ am_fI σ' 8001 c = nr ∧ am_fR σ' 8002 c = fst ∧ am_fR σ' 8003 c = none) → F (some c) σ') : k_Rd_makeNode nl Ln xs (d + 2) 1034 op nr fst σ F := by
  have go : ∀ (s : am_S) (w1 : ow_T) (c : Nat) (l : List Nat), RdK s w1 → OwI s w1 → 1039 ≤ am_nx s → (w1 c = (1, 5) ∧ am_kd s c = (9, 0) ∧ 1000 ≤ c) → c ∉ l → Fls s w1 (1, 5) 9 8004 (am_fR s 8004 c) l → (am_fR s 4007 1034 = ms.head? ∧ am_fR s 4008 1034 = ms.getLast?) → (Rch (am_fR s 8004) ms.head? ms ∧ ∀ c ∈ ms, w1 c = k ∧ am_kd s c = (9, 0) ∧ 1000 ≤ c) → (∀ σ' w', RdK σ' w' → OwI σ' w' → Fls σ' w' (1, 5) 9 8004 (am_fR σ' 4006 1034) l → (am_fR σ' 4007 1034 = (ms ++ [c]).head? ∧ am_fR σ' 4008 1034 = (ms ++ [c]).getLast?) → (Rch (am_fR σ' 8004) (ms ++ [c]).head? (ms ++ [c]) ∧ ∀ x ∈ ms ++ [c], w' x = k ∧ am_kd σ' x = (9, 0) ∧ 1000 ≤ x) → (am_nx σ' = am_nx s ∧ am_sl σ' = am_sl s) → RdC k ms (ms ++ [c]) s w1 σ' w' → (∀ g, am_fI σ' g 1034 = am_fI s g 1034) → (am_fI σ' 8000 c = op ∧ am_fI σ' 8001 c = nr ∧ am_fR σ' 8002 c = fst ∧ am_fR σ' 8003 c = none) → F (some c) σ') → c_Rd_makeNode_21 nl Ln xs (d + 2) 1034 op nr fst (some c) s F := by
    intro s w1 c l hK o1 n1 ⟨b1, b2, b3⟩ b4 b5 hm ⟨hr, hc⟩ K1
    obtain ⟨h1, h2, ⟨h3, h4, h5⟩, h6, h7, h8⟩ := hK
    have h34 := h1 1034 (by omega) (by omega)
    have ne : c ≠ 1034 := fun z => by rw [z, h34] at b1; simp at b1
    have nc : c ∉ ms := fun z => hk.2.1 (by rw [← (hc c z).1, b1])
    refine w_Rd_makeNode_21 ⟨is_mk b2, is_mk h2, ?_⟩
    rw [Option.getD_some]
    intro s3 q3 s6 q6 s9 q9 s12 q12 s15 q15 s18 q18
    have e18 : ∀ x, x ≠ 1034 → x ≠ c → am_eqc s s18 x := fun x x1 x2 => by
      rw [q18, q15, q12, q9, q6, q3]
      exact (((((eqc_sfR x1).trans (eqc_sfR x2)).trans (eqc_sfI x2)).trans (eqc_sfI x2)).trans (eqc_sfR x2)).trans (eqc_sfR x2)
    have f18 : am_kd s18 = am_kd s ∧ am_nx s18 = am_nx s ∧ am_sl s18 = am_sl s := by rw [q18, q15, q12, q9, q6, q3]; exact ⟨rfl, rfl, rfl⟩
    have i18 : ∀ g, am_fI s18 g 1034 = am_fI s g 1034 := fun g => by
      rw [q18]
      show am_fI s15 g 1034 = _
      rw [q15]
      show am_fI s12 g 1034 = _
      rw [q12, rI_n (fun z => ne z.symm), q9, rI_n (fun z => ne z.symm), q6]
      show am_fI s3 g 1034 = _
      rw [q3]
    have r18 : ∀ g, am_fR s18 g 1034 = am_fR s3 g 1034 := fun g => by
      rw [q18, rR_n (fun z => ne z.symm), q15, rR_n (fun z => ne z.symm), q12]
      show am_fR s9 g 1034 = _
      rw [q9]
      show am_fR s6 g 1034 = _
      rw [q6, rR_n (fun z => ne z.symm)]
    have g46 : am_fR s18 4006 1034 = am_fR s 8004 c := by rw [r18, q3]; exact rR_same
    have gg : ∀ g, g ≠ 4006 → am_fR s18 g 1034 = am_fR s g 1034 := fun g hg => by rw [r18, q3]; exact rR_g hg
    have c0 : am_fI s18 8000 c = op := by
      rw [q18]
      show am_fI s15 8000 c = _
      rw [q15]
      show am_fI s12 8000 c = _
      rw [q12, rI_g (by decide), q9]
      exact rI_same
    have c1 : am_fI s18 8001 c = nr := by
      rw [q18]
      show am_fI s15 8001 c = _
      rw [q15]
      show am_fI s12 8001 c = _
      rw [q12]
      exact rI_same
    have c2 : am_fR s18 8002 c = fst := by
      rw [q18, rR_g (by decide), q15]
      exact rR_same
    have c3 : am_fR s18 8003 c = none := by
      rw [q18]
      exact rR_same
    have c4 : am_fR s18 8004 c = none := by
      rw [q18, rR_g (by decide), q15, rR_g (by decide), q12]
      show am_fR s9 8004 c = _
      rw [q9]
      show am_fR s6 8004 c = _
      rw [q6]
      exact rR_same
    have hw' : ∀ x, x ≠ c → va_up w1 c k x = w1 x := fun x hx => am_vup hx
    have hO : OwI s18 (va_up w1 c k) := fun x hx => by
      rw [f18.2.1] at hx
      have h0 := o1 x hx
      rw [hw' x (fun z => by rw [z, b1] at h0; simp at h0)]
      exact h0
    have nx34 : ∀ x, w1 x = k → x ≠ 1034 ∧ x ≠ c := fun x hx => ⟨fun z => hk.2.2 1034 (by rw [← hx, z]; exact h34), fun z => hk.2.1 (by rw [← hx, z]; exact b1)⟩
    have hC : ∀ x ∈ ms, va_up w1 c k x = k ∧ am_kd s18 x = (9, 0) ∧ 1000 ≤ x := fun x hx => ⟨(hw' x (fun z => nc (by rw [← z]; exact hx))).trans (hc x hx).1, by rw [f18.1]; exact (hc x hx).2.1, (hc x hx).2.2⟩
    have nin34 : 1034 ∉ l := b5.nin (by rw [h34]; simp)
    have wK : ∀ x, 1034 ≤ x → x ≤ 1037 → va_up w1 c k x = (2, x) := fun x x1 x2 => (hw' x (fun z => by rw [z] at x1 x2; have := h1 c x1 x2; rw [b1] at this; simp at this)).trans (h1 x x1 x2)
    rw [gg 4008 (by decide), hm.2]
    refine ⟨fun h0 => ?_, fun h0 => ?_⟩
    · have hms : ms = [] := List.getLast?_eq_none_iff.mp h0
      subst hms
      intro s22 q22 s25 q25
      have eR : ∀ g, g ≠ 4007 → g ≠ 4008 → am_fR s25 g 1034 = am_fR s18 g 1034 := fun g g1 g2 => by rw [q25, rR_g g2, q22]; exact rR_g g1
      have e25 : ∀ x, x ≠ 1034 → am_eqc s18 s25 x := fun x x1 => by rw [q25, q22]; exact (eqc_sfR x1).trans (eqc_sfR x1)
      have ee : ∀ x, x ≠ 1034 → x ≠ c → am_eqc s s25 x := fun x x1 x2 => (e18 x x1 x2).trans (e25 x x1)
      have f25 : am_kd s25 = am_kd s18 ∧ am_nx s25 = am_nx s18 ∧ am_sl s25 = am_sl s18 := by rw [q25, q22]; exact ⟨rfl, rfl, rfl⟩
      have ec := e25 c ne
      refine K1 s25 (va_up w1 c k) ⟨wK, by rw [f25.1, f18.1]; exact h2, ⟨?_, ?_, ?_⟩, by rw [f25.1, f18.1]; exact ⟨h6, h7, h8⟩⟩ (fun x hx => hO x (by rw [← f25.2.1]; exact hx)) ?_ ⟨?_, ?_⟩ ⟨⟨rfl, ?_⟩, fun x hx => ?_⟩ ⟨f25.2.1.trans f18.2.1, f25.2.2.trans f18.2.2⟩ ⟨⟨fun x hx => hO x (by rw [← f25.2.1]; exact hx), fun q hq hq0 x hx => ?_⟩, ⟨[c], rfl, fun x hx => ?_⟩, fun x hx => (hw' x (nx34 x hx).2).trans hx, fun x _ hx => ee x (nx34 x hx).1 (nx34 x hx).2, fun x hx _ => absurd hx (by simp)⟩ (fun g => ?_) ⟨ec.fI.trans c0, ec.fI.trans c1, ec.fR.trans c2, ec.fR.trans c3⟩
      · rw [eR _ (by decide) (by decide), gg _ (by decide)]; exact h3
      · rw [eR _ (by decide) (by decide), gg _ (by decide)]; exact h4
      · rw [eR _ (by decide) (by decide), gg _ (by decide)]; exact h5
      · rw [eR _ (by decide) (by decide), g46]
        exact b5.mz (z := 1034) ee hw' b4 nin34
      · rw [q25, rR_g (by decide), q22]
        exact rR_same
      · rw [q25]
        exact rR_same
      · rw [ec.fR]
        exact c4
      · have hx : x = c := by simpa using hx
        subst hx
        exact ⟨up_same, by rw [f25.1, f18.1]; exact b2, b3⟩
      · have x1 : x ≠ 1034 := fun z => hq (by rw [← hx, z, h34]; exact Or.inr (Or.inl rfl))
        have x2 : x ≠ c := fun z => hq (by rw [← hx, z, b1]; exact Or.inl rfl)
        exact ⟨(hw' x x2).trans hx, ee x x1 x2⟩
      · have hx : x = c := by simpa using hx
        rw [hx, b1]
        exact fun z => hk.2.1 z.symm
      · rw [q25]
        show am_fI s22 g 1034 = _
        rw [q22]
        exact i18 g
    · obtain ⟨z, hz⟩ : ∃ z, ms.getLast? = some z := by
        cases h : ms.getLast? with
        | none => exact absurd h h0
        | some z => exact ⟨z, rfl⟩
      obtain ⟨pre, hpre⟩ : ∃ pre, ms = pre ++ [z] := by
        have hne : ms ≠ [] := fun z => by rw [z] at hz; simp at hz
        refine ⟨ms.dropLast, ?_⟩
        rw [List.getLast?_eq_getLast hne] at hz
        have e := Option.some.inj hz
        rw [← e]
        exact (List.dropLast_concat_getLast hne).symm
      have hzm : z ∈ ms := by rw [hpre]; simp
      have hzk := hc z hzm
      have z34 := nx34 z hzk.1
      rw [hz, Option.getD_some]
      refine ⟨is_mk (by rw [f18.1]; exact hzk.2.1), ?_⟩
      intro s29 q29 s32 q32
      have eR : ∀ g, g ≠ 4008 → am_fR s32 g 1034 = am_fR s18 g 1034 := fun g g1 => by rw [q32, rR_g g1, q29]; exact rR_n (fun t => z34.1 t.symm)
      have e32 : ∀ x, x ≠ 1034 → x ≠ z → am_eqc s18 s32 x := fun x x1 x2 => by rw [q32, q29]; exact (eqc_sfR x2).trans (eqc_sfR x1)
      have ee : ∀ x, x ≠ 1034 → x ≠ c → x ≠ z → am_eqc s s32 x := fun x x1 x2 x3 => (e18 x x1 x2).trans (e32 x x1 x3)
      have f32 : am_kd s32 = am_kd s18 ∧ am_nx s32 = am_nx s18 ∧ am_sl s32 = am_sl s18 := by rw [q32, q29]; exact ⟨rfl, rfl, rfl⟩
      have ec := e32 c ne (fun t => nc (by rw [t]; exact hzm))
      have bz : NdB s s32 z := by
        refine (NdB.of (e18 z z34.1 z34.2)).trans ?_
        rw [q32, q29]
        exact ⟨rfl, rfl, (rR_g (by decide)).trans (rR_g (by decide)), (rR_g (by decide)).trans (rR_g (by decide))⟩
      have nd : z ∉ pre := by
        have : (pre ++ [z]).Nodup := by
          have : ∀ (l : List Nat) (h : Option Nat), Rch (am_fR s 8004) h l → l.Nodup := by
            intro l
            induction l with
            | nil => intro _ _; exact List.nodup_nil
            | cons c l ih => intro h hh; exact List.nodup_cons.mpr ⟨hh.nin, ih _ hh.2⟩
          rw [← hpre]
          exact this ms _ hr
        intro t
        exact (List.nodup_append.mp this).2.2 z t z (by simp) rfl
      have hz5 : z ∉ l := b5.nin (by rw [hzk.1]; exact hk.2.1)
      refine K1 s32 (va_up w1 c k) ⟨wK, by rw [f32.1, f18.1]; exact h2, ⟨?_, ?_, ?_⟩, by rw [f32.1, f18.1]; exact ⟨h6, h7, h8⟩⟩ (fun x hx => hO x (by rw [← f32.2.1]; exact hx)) ?_ ⟨?_, ?_⟩ ⟨?_, fun x hx => ?_⟩ ⟨f32.2.1.trans f18.2.1, f32.2.2.trans f18.2.2⟩ ⟨⟨fun x hx => hO x (by rw [← f32.2.1]; exact hx), fun q hq hq0 x hx => ?_⟩, ⟨[c], rfl, fun x hx => ?_⟩, fun x hx => (hw' x (nx34 x hx).2).trans hx, fun x hm hx => ee x (nx34 x hx).1 (nx34 x hx).2 (fun t => hm (by rw [t]; exact hzm)), fun x hx hxk => ?_⟩ (fun g => ?_) ⟨ec.fI.trans c0, ec.fI.trans c1, ec.fR.trans c2, ec.fR.trans c3⟩
      · rw [eR _ (by decide), gg _ (by decide)]; exact h3
      · rw [eR _ (by decide), gg _ (by decide)]; exact h4
      · rw [eR _ (by decide), gg _ (by decide)]; exact h5
      · rw [eR _ (by decide), g46]
        exact b5.eqc (fun x hx => by
          have x2 : x ≠ c := fun t => b4 (by rw [← t]; exact hx)
          exact ⟨(hw' x x2).trans (b5.mem x hx).1, ee x (fun t => nin34 (by rw [← t]; exact hx)) x2 (fun t => hz5 (by rw [← t]; exact hx))⟩)
      · rw [eR _ (by decide), gg _ (by decide), hm.1, hpre]
        cases pre <;> rfl
      · rw [q32, rR_same]
        simp
      · have hh : (ms ++ [c]).head? = ms.head? := by rw [hpre]; cases pre <;> rfl
        rw [hh]
        rw [hpre] at hr ⊢
        refine hr.snoc (fun x hx => ?_) ?_ (ec.fR.trans c4)
        · have hxm : x ∈ ms := by rw [hpre]; exact List.mem_append_left _ hx
          have := nx34 x (hc x hxm).1
          exact (ee x this.1 this.2 (fun t => nd (by rw [← t]; exact hx))).fR
        · rw [q32, rR_n z34.1, q29]
          exact rR_same
      · rcases List.mem_append.mp hx with h | h
        · have := hC x h
          exact ⟨this.1, by rw [f32.1]; exact this.2.1, this.2.2⟩
        · have hx : x = c := by simpa using h
          subst hx
          exact ⟨up_same, by rw [f32.1, f18.1]; exact b2, b3⟩
      · have x1 : x ≠ 1034 := fun t => hq (by rw [← hx, t, h34]; exact Or.inr (Or.inl rfl))
        have x2 : x ≠ c := fun t => hq (by rw [← hx, t, b1]; exact Or.inl rfl)
        have x3 : x ≠ z := fun t => hq (by rw [← hx, t, hzk.1]; exact Or.inr (Or.inr rfl))
        exact ⟨(hw' x x2).trans hx, ee x x1 x2 x3⟩
      · have hx : x = c := by simpa using hx
        rw [hx, b1]
        exact fun z => hk.2.1 z.symm
      · by_cases hxz : x = z
        · rw [hxz]; exact bz
        · exact NdB.of (ee x (nx34 x hxk).1 (nx34 x hxk).2 hxz)
      · rw [q32]
        show am_fI s29 g 1034 = _
        rw [q29]
        exact i18 g
  have hO := R.o
  obtain ⟨⟨hK, -, n1⟩, a1, a2, a3, a5, a6, a7⟩ := R
  have el : (ms ++ [0]).length = ms.length + 1 := by simp
  refine w_Rd_makeNode ⟨is_mk hK.2.1, fun h0 => ?_, fun h0 => ?_⟩
  · have hE : L.1.drop ms.length = [] := by
      cases h : L.1.drop ms.length with
      | nil => rfl
      | cons c l => rw [h] at a1; exact absurd (a1.1.symm.trans h0) (by simp)
    have hlen : L.1.length ≤ ms.length := by
      have := congrArg List.length hE
      rw [List.length_drop] at this
      simp at this
      omega
    rintro s3 rfl _ hz
    refine w_Nd_init (fun _ => ?_)
    have E3 : Eff (fun _ => False) σ w (am_new σ 9 0 5) (va_up w (am_nx σ) (1, 5)) := Eff.new hO
    have f : ∀ q, q ≠ (0, 0) → Fr σ w (am_new σ 9 0 5) (va_up w (am_nx σ) (1, 5)) q := fun q hq => E3.2 q (fun z => z) hq
    have K3 : RdK (am_new σ 9 0 5) (va_up w (am_nx σ) (1, 5)) := by
      obtain ⟨h1, h2, ⟨h3, h4, h5⟩, h6, h7, h8⟩ := hK
      have c0 := f (2, 1034) (by simp) 1034 (h1 1034 (by omega) (by omega))
      have c1 := f (2, 1035) (by simp) 1035 (h1 1035 (by omega) (by omega))
      have c2 := f (2, 1036) (by simp) 1036 (h1 1036 (by omega) (by omega))
      have c3 := f (2, 1037) (by simp) 1037 (h1 1037 (by omega) (by omega))
      exact ⟨fun x x1 x2 => (f (2, x) (by simp) x (h1 x x1 x2)).1, c0.2.kd.trans h2, ⟨c0.2.fR.trans h3, c0.2.fR.trans h4, c0.2.fR.trans h5⟩, c1.2.kd.trans h6, c2.2.kd.trans h7, c3.2.kd.trans h8⟩
    have c0 := f (2, 1034) (by simp) 1034 (hK.1 1034 (by omega) (by omega))
    refine go _ _ (am_nx σ) [] K3 E3.1 (by rw [new_nx]; omega) ⟨up_same, new_kd, by omega⟩ (by simp) (hz 8004).2.2.1 ⟨c0.2.fR.trans a2.1, c0.2.fR.trans a2.2⟩ ⟨a3.1.mono (fun x hx => (f k hk.1 x (a3.2 x hx).1).2.fR), fun x hx => ?_⟩ (fun σ' w' k1 k2 k3 k4 k5 k6 k7 k8 k9 => ?_)
    · have := f k hk.1 x (a3.2 x hx).1
      exact ⟨this.1, this.2.kd.trans (a3.2 x hx).2.1, (a3.2 x hx).2.2⟩
    · have hC0 : RdC k ms ms σ w (am_new σ 9 0 5) (va_up w (am_nx σ) (1, 5)) := ⟨E3.mono (fun q z => z.elim), ⟨[], by simp, by simp⟩, fun x hx => (f k hk.1 x hx).1, fun x _ hx => (f k hk.1 x hx).2, fun x _ hx => NdB.of (f k hk.1 x hx).2⟩
      refine K σ' w' _ ⟨⟨k1, k2, by rw [k6.1, new_nx]; omega⟩, ?_, k4, k5, ?_, ?_, (k8 _).trans (c0.2.fI.trans a7)⟩ (hC0.trans k7) (fun g => (k8 g).trans c0.2.fI) k9
      · rw [List.drop_eq_nil_of_le (by rw [List.length_append, List.length_singleton]; omega)]
        exact k3
      · rw [k6.1, new_nx, a5, List.length_append, List.length_singleton]
        omega
      · rw [k6.2, new_sl, a6, List.length_append, List.length_singleton]
        omega
  · cases h : L.1.drop ms.length with
    | nil => rw [h] at a1; exact absurd a1 h0
    | cons c l =>
      rw [h] at a1
      obtain ⟨b1, b2, b3, b4⟩ := a1
      rw [b1]
      have hlen : ms.length < L.1.length := by
        have := congrArg List.length h
        rw [List.length_drop, List.length_cons] at this
        omega
      have hd1 : L.1.drop (ms.length + 1) = l := by
        have : (L.1.drop ms.length).drop 1 = l := by rw [h]; rfl
        rw [List.drop_drop] at this
        exact this
      refine go σ w c l hK hO n1 b2 b3 b4 a2 a3 (fun σ' w' k1 k2 k3 k4 k5 k6 k7 k8 k9 => ?_)
      refine K σ' w' _ ⟨⟨k1, k2, by rw [k6.1]; omega⟩, ?_, k4, k5, ?_, ?_, (k8 _).trans a7⟩ k7 k8 k9
      · rw [List.length_append, List.length_singleton, hd1]
        exact k3
      · rw [k6.1, a5, List.length_append, List.length_singleton]
        omega
      · rw [k6.2, a6, List.length_append, List.length_singleton]
        omega
end
