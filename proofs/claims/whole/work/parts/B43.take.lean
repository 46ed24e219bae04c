/-! THE CLASS: tokens, where reading is, taking a token -/
def TkA (σ : am_S) (tk : List mTok) : Prop := ∀ i y, tk[i]? = some y → am_aI σ 1035 i = Int32.ofNat y.1 ∧ am_aI σ 1036 i = y.2.1 ∧ am_aI σ 1037 i = Int32.ofNat y.2.2
def TkW (tk : List mTok) : Prop := tk.length ≤ 401 ∧ (∀ y ∈ tk, y.1 ≤ 31 ∧ y.2.2 ≤ 400 ∧ 0 ≤ y.2.1.toInt ∧ y.2.1.toInt < 1000000000) ∧ ∀ i y, tk[i]? = some y → (y.1 = 30 ↔ i + 1 = tk.length)
/-- reading stands at p; flt: -1, or the place of a fault -/
def PaS (σ : am_S) (w : ow_T) (k : Nat × Nat) (L : List Nat × Nat × Nat × Nat) (ms : List Nat) (tk : List mTok) (p : Nat) (flt : Int32) : Prop := RdM σ w k L ms ∧ TkA σ tk ∧ am_fI σ 4003 1034 = Int32.ofNat p ∧ p < tk.length ∧ am_fI σ 4005 1034 = flt
section
variable {nl : Bool} {Ln : Nat} {xs : Nat → Int32} {d : Nat} {σ σ1 : am_S} {w w1 : ow_T} {k : Nat × Nat} {L : List Nat × Nat × Nat × Nat} {ms ms1 : List Nat} {tk : List mTok} {p : Nat} {flt : Int32}
theorem hd_drop (h : p < tk.length) : tk[p]? = some (m_hd (tk.drop p)) := by
  obtain ⟨y, hy⟩ := get_ex h
  have : tk.drop p = y :: tk.drop (p + 1) := drop_get hy
  rw [hy, this]
  rfl
theorem tl_drop : (tk.drop p).tail = tk.drop (p + 1) := by rw [List.tail_drop]
theorem TkA.rc (h : TkA σ tk) (R : RdK σ w) (r : RdC k ms ms1 σ w σ1 w1) (hk : RdO k) : TkA σ1 tk := by
  intro i y hy
  have f : ∀ c, 1035 ≤ c → c ≤ 1037 → am_eqc σ σ1 c := fun c c1 c2 => (r.1.2 (2, c) (fun z => by
    rcases z with z | z | z
    · simp at z
    · simp at z; omega
    · exact hk.2.2 c z.symm) (by simp) c (R.1 c (by omega) c2)).2
  rw [(f 1035 (by omega) (by omega)).aI, (f 1036 (by omega) (by omega)).aI, (f 1037 (by omega) (by omega)).aI]
  exact h i y hy
theorem PaS.tok (S : PaS σ w k L ms tk p flt) : am_aI σ 1035 p = Int32.ofNat (m_hd (tk.drop p)).1 ∧ am_aI σ 1036 p = (m_hd (tk.drop p)).2.1 ∧ am_aI σ 1037 p = Int32.ofNat (m_hd (tk.drop p)).2.2 := S.2.1 p _ (hd_drop S.2.2.2.1)
theorem PaS.rng (S : PaS σ w k L ms tk p flt) (hT : TkW tk) : (m_hd (tk.drop p)).1 ≤ 31 ∧ (m_hd (tk.drop p)).2.2 ≤ 400 ∧ 0 ≤ (m_hd (tk.drop p)).2.1.toInt ∧ (m_hd (tk.drop p)).2.1.toInt < 1000000000 := hT.2.1 _ (List.mem_of_getElem? (hd_drop S.2.2.2.1))
theorem PaS.go (S : PaS σ w k L ms tk p flt) (hT : TkW tk) (h : (m_hd (tk.drop p)).1 ≠ 30) : p + 1 < tk.length := by
  have := hT.2.2 p _ (hd_drop S.2.2.2.1)
  have hl := S.2.2.2.1
  have : p + 1 ≠ tk.length := fun z => h (this.mpr z)
  omega
theorem PaS.ar (S : PaS σ w k L ms tk p flt) (hT : TkW tk) : 0 ≤ (Int32.ofNat p).toInt ∧ (Int32.ofNat p).toInt < 401 ∧ (Int32.ofNat p).toNatClampNeg = p := by
  have h1 := hT.1
  have h2 := S.2.2.2.1
  exact ⟨by rw [n32 (by omega)]; omega, by rw [n32 (by omega)]; omega, n32c (by omega)⟩
/-- the next token -/
theorem PaS.nxt (S : PaS σ w k L ms tk p flt) (hk : RdO k) (hT : TkW tk) (h : (m_hd (tk.drop p)).1 ≠ 30) : PaS (am_sfI σ 4003 1034 (Int32.ofNat p + 1)) w k L ms tk (p + 1) flt ∧ RdC k ms ms σ w (am_sfI σ 4003 1034 (Int32.ofNat p + 1)) w := by
  refine ⟨⟨S.1.num hk (by decide), S.2.1, ?_, S.go hT h, ?_⟩, RdC.num S.1.o S.1.c hk⟩
  · rw [n32s]; exact rI_same
  · rw [rI_g (by decide)]; exact S.2.2.2.2
theorem PaS.setF {v : Int32} (S : PaS σ w k L ms tk p flt) (hk : RdO k) : PaS (am_sfI σ 4005 1034 v) w k L ms tk p v ∧ RdC k ms ms σ w (am_sfI σ 4005 1034 v) w := by
  refine ⟨⟨S.1.num hk (by decide), S.2.1, ?_, S.2.2.2.1, rI_same⟩, RdC.num S.1.o S.1.c hk⟩
  rw [rI_g (by decide)]; exact S.2.2.1
theorem plc_ne {n : Nat} (h : n ≤ 400) : Int32.ofNat n ≠ -1 := by
  intro z
  rw [i32e, n32 (by omega)] at z
  rw [show (-1 : Int32).toInt = -1 by decide] at z
  omega
theorem rd_take {lo hi : Nat} {F : Bool → am_S → Prop} (h1 : lo ≤ 40) (h2 : hi ≤ 40) (h30 : ¬ (lo ≤ 30 ∧ 30 ≤ hi)) (hk : RdO k) (hT : TkW tk) (S : PaS σ w k L ms tk p (-1))
    (K1 : lo ≤ (m_hd (tk.drop p)).1 ∧ (m_hd (tk.drop p)).1 ≤ hi → ∀ σ', PaS σ' w k L ms tk (p + 1) (-1) → RdC k ms ms σ w σ' w → F true σ')
    (K2 : ¬ (lo ≤ (m_hd (tk.drop p)).1 ∧ (m_hd (tk.drop p)).1 ≤ hi) → ∀ σ', PaS σ' w k L ms tk p (Int32.ofNat (m_hd (tk.drop p)).2.2) → RdC k ms ms σ w σ' w → F false σ') : k_Rd_take nl Ln xs (d + 1) 1034 (Int32.ofNat lo) (Int32.ofNat hi) σ F := by
  obtain ⟨t1, t2, t3⟩ := S.tok
  obtain ⟨g1, g2, g3, g4⟩ := S.rng hT
  obtain ⟨a1, a2, a3⟩ := S.ar hT
  obtain ⟨-, -, ⟨r0, r1, r2⟩, k0, k1, k2⟩ := S.1.1.1
  have fl := PaS.setF (v := Int32.ofNat (m_hd (tk.drop p)).2.2) S hk
  refine w_Rd_take ⟨S.1.isk, ?_⟩
  rw [S.2.2.2.2, S.2.2.1, r0, r2, Option.getD_some, Option.getD_some, a3, t1, t3, n32lt (by omega) (by omega), n32lt (by omega) (by omega)]
  refine ⟨fun _ => ⟨ar_mk k0 a1 a2, fun h => ⟨ar_mk k2 a1 a2, ?_⟩, fun h => ⟨ar_mk k0 a1 a2, fun h' => ⟨ar_mk k2 a1 a2, ?_⟩, fun h' => ?_⟩⟩, fun h => absurd rfl h⟩
  · rintro s6 rfl
    exact K2 (fun z => by omega) _ fl.1 fl.2
  · rintro s12 rfl
    exact K2 (fun z => by omega) _ fl.1 fl.2
  · rintro s15 rfl
    have nx := S.nxt hk hT (fun z => h30 (by omega))
    exact K1 ⟨by omega, by omega⟩ _ nx.1 nx.2
theorem rd_takeF {lo hi : Int32} {F : Bool → am_S → Prop} (hf : flt ≠ -1) (S : PaS σ w k L ms tk p flt) (K : F false σ) : k_Rd_take nl Ln xs (d + 1) 1034 lo hi σ F := by
  refine w_Rd_take ⟨S.1.isk, ?_⟩
  rw [S.2.2.2.2]
  exact ⟨fun h => absurd h hf, fun _ => K⟩
theorem rd_fail {F : Option Nat → am_S → Prop} (hk : RdO k) (hT : TkW tk) (S : PaS σ w k L ms tk p (-1)) (K : ∀ σ', PaS σ' w k L ms tk p (Int32.ofNat (m_hd (tk.drop p)).2.2) → RdC k ms ms σ w σ' w → F none σ') : k_Rd_fail nl Ln xs (d + 1) 1034 σ F := by
  obtain ⟨t1, t2, t3⟩ := S.tok
  obtain ⟨a1, a2, a3⟩ := S.ar hT
  obtain ⟨-, -, ⟨r0, r1, r2⟩, k0, k1, k2⟩ := S.1.1.1
  have fl := PaS.setF (v := Int32.ofNat (m_hd (tk.drop p)).2.2) S hk
  refine w_Rd_fail ⟨S.1.isk, ?_⟩
  rw [S.2.2.2.2, S.2.2.1, r2, Option.getD_some, a3, t3]
  refine ⟨fun _ => ⟨ar_mk k2 a1 a2, ?_⟩, fun h => absurd rfl h⟩
  rintro s4 rfl
  exact K _ fl.1 fl.2
theorem rd_failF {F : Option Nat → am_S → Prop} (hf : flt ≠ -1) (S : PaS σ w k L ms tk p flt) (K : F none σ) : k_Rd_fail nl Ln xs (d + 1) 1034 σ F := by
  refine w_Rd_fail ⟨S.1.isk, ?_⟩
  rw [S.2.2.2.2]
  exact ⟨fun h => absurd h hf, fun _ => K⟩
/-- a node is made while reading -/
theorem rd_node {op nr : Int32} {fst : Option Nat} {F : Option Nat → am_S → Prop} (hk : RdO k) (S : PaS σ w k L ms tk p flt)
    (K : ∀ σ' w' c, PaS σ' w' k L (ms ++ [c]) tk p flt → RdC k ms (ms ++ [c]) σ w σ' w' → (am_fI σ' 8000 c = op ∧ am_fI σ' 8001 c = nr ∧ am_fR σ' 8002 c = fst ∧ am_fR σ' 8003 c = none) → F (some c) σ') : k_Rd_makeNode nl Ln xs (d + 2) 1034 op nr fst σ F :=
  rd_makeNode hk S.1 (fun σ' w' c R r g n => K σ' w' c ⟨R, S.2.1.rc S.1.1.1 r hk, (g _).trans S.2.2.1, S.2.2.2.1, (g _).trans S.2.2.2.2⟩ r n)
/-- a new node gets its next one -/
theorem RdM.link {g z : Nat} {a : Option Nat} (R : RdM σ w k L ms) (hz : z ∈ ms) (hg : g ≠ 8004) (hk : RdO k) : RdM (am_sfR σ g z a) w k L ms := by
  obtain ⟨⟨⟨h1, h2, h3, h4⟩, h5, h6⟩, a1, a2, ⟨a3, a4⟩, a5, a6, a7⟩ := R
  have h34 := h1 1034 (by omega) (by omega)
  have z34 : z ≠ 1034 := fun t => hk.2.2 1034 (by rw [← (a4 z hz).1, t]; exact h34)
  have e : ∀ g', am_fR (am_sfR σ g z a) g' 1034 = am_fR σ g' 1034 := fun g' => rR_n (fun t => z34 t.symm)
  refine ⟨⟨⟨h1, h2, by rw [e, e, e]; exact h3, h4⟩, h5, h6⟩, ?_, by rw [e, e]; exact a2, ⟨a3.mono (fun x _ => rR_g (fun t => hg t.symm)), a4⟩, a5, a6, a7⟩
  rw [e]
  exact a1.eqc (fun x hx => ⟨(a1.mem x hx).1, eqc_sfR (fun t => hk.2.1 (by rw [← (a4 z hz).1, ← t]; exact (a1.mem x hx).1))⟩)
theorem RdM.linkI {g z : Nat} {a : Int32} (R : RdM σ w k L ms) (hz : z ∈ ms) (hk : RdO k) : RdM (am_sfI σ g z a) w k L ms := by
  obtain ⟨⟨⟨h1, h2, h3, h4⟩, h5, h6⟩, a1, a2, ⟨a3, a4⟩, a5, a6, a7⟩ := R
  have z34 : z ≠ 1034 := fun t => hk.2.2 1034 (by rw [← (a4 z hz).1, t]; exact h1 1034 (by omega) (by omega))
  refine ⟨⟨⟨h1, h2, h3, h4⟩, h5, h6⟩, ?_, a2, ⟨a3, a4⟩, a5, a6, (rI_n (fun t => z34 t.symm)).trans a7⟩
  exact a1.eqc (fun x hx => ⟨(a1.mem x hx).1, eqc_sfI (fun t => hk.2.1 (by rw [← (a4 z hz).1, ← t]; exact (a1.mem x hx).1))⟩)
theorem RdC.link {g z : Nat} {a : Option Nat} (r : RdC k ms ms1 σ w σ1 w1) (hz : w1 z = k) (hn : w z ≠ k) : RdC k ms ms1 σ w (am_sfR σ1 g z a) w1 := by
  obtain ⟨a1, a2, a4, a5, a6⟩ := r
  have n : ∀ x, w x = k → x ≠ z := fun x hx t => hn (by rw [← t]; exact hx)
  refine ⟨a1.trans (Eff.sfR a1.1 (by rw [hz]; exact Or.inr (Or.inr rfl))), a2, a4, fun x hm hx => (a5 x hm hx).trans (eqc_sfR (n x hx)), fun x hm hx => (a6 x hm hx).trans (NdB.of (eqc_sfR (n x hx)))⟩
theorem RdC.linkI {g z : Nat} {a : Int32} (r : RdC k ms ms1 σ w σ1 w1) (hz : w1 z = k) (hn : w z ≠ k) : RdC k ms ms1 σ w (am_sfI σ1 g z a) w1 := by
  obtain ⟨a1, a2, a4, a5, a6⟩ := r
  have n : ∀ x, w x = k → x ≠ z := fun x hx t => hn (by rw [← t]; exact hx)
  refine ⟨a1.trans (Eff.sfI a1.1 (by rw [hz]; exact Or.inr (Or.inr rfl))), a2, a4, fun x hm hx => (a5 x hm hx).trans (eqc_sfI (n x hx)), fun x hm hx => (a6 x hm hx).trans (NdB.of (eqc_sfI (n x hx)))⟩
theorem PaS.link {g z : Nat} {a : Option Nat} (S : PaS σ w k L ms tk p flt) (hz : z ∈ ms) (hg : g ≠ 8004) (hk : RdO k) : PaS (am_sfR σ g z a) w k L ms tk p flt := ⟨S.1.link hz hg hk, S.2.1, S.2.2.1, S.2.2.2.1, S.2.2.2.2⟩
theorem PaS.linkI {g z : Nat} {a : Int32} (S : PaS σ w k L ms tk p flt) (hz : z ∈ ms) (hk : RdO k) : PaS (am_sfI σ g z a) w k L ms tk p flt := by
  have z34 : z ≠ 1034 := fun t => hk.2.2 1034 (by rw [← (S.1.2.2.2.1.2 z hz).1, t]; exact S.1.c)
  exact ⟨S.1.linkI hz hk, S.2.1, (rI_n (fun t => z34 t.symm)).trans S.2.2.1, S.2.2.2.1, (rI_n (fun t => z34 t.symm)).trans S.2.2.2.2⟩
/-- what is new was not the owner's -/
theorem RdC.new (r : RdC k ms ms1 σ w σ1 w1) {x : Nat} (h1 : x ∈ ms1) (h2 : x ∉ ms) : w x ≠ k := by
  obtain ⟨-, ⟨t, e, ht⟩, -⟩ := r
  rw [e] at h1
  rcases List.mem_append.mp h1 with h | h
  · exact absurd h h2
  · exact ht x h
end
