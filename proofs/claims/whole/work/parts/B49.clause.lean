/-! THE CLASS: a clause is read -/
def cN (cl : mCl) : Nat := 1 + (match cl.2.2 with
  | none => 0
  | some f => nN f)
def ClG (σ : am_S) (w : ow_T) (k : Nat × Nat) (c : Nat) (cl : mCl) (U : List Nat) : Prop := ∀ σ' w', (∀ y ∈ U, NdA σ w σ' w' y ∧ am_fR σ' 8003 y = am_fR σ 8003 y) → NdA σ w σ' w' c → NdC σ' w' k c cl
def CdP (σ : am_S) (w : ow_T) (k : Nat × Nat) (c : Nat) (o : Option mF) (U : List Nat) : Prop := match o with
  | none => U = [] ∧ am_fR σ 8002 c = none
  | some f => ∃ r U', U = U' ++ [r] ∧ am_fR σ 8002 c = some r ∧ isP f ∧ NdG σ w k f r r U' ∧ am_fR σ 8003 r = none ∧ U.length = nN f
theorem ClG.mk {σ : am_S} {w : ow_T} {k : Nat × Nat} {c : Nat} {cl : mCl} {U : List Nat} (hK : NdK σ w k c) (h0 : am_fI σ 8000 c = c_op cl.1) (h1 : am_fI σ 8001 c = c_nr cl) (h : CdP σ w k c cl.2.2 U) : ClG σ w k c cl U := fun s w1 g1 g => by
  refine ⟨⟨g.1.trans hK.1, g.2.1.trans hK.2⟩, g.2.2.1.trans h0, g.2.2.2.1.trans h1, ?_⟩
  unfold CdP at h
  cases ho : cl.2.2 with
  | none =>
    rw [ho] at h
    exact g.2.2.2.2.trans h.2
  | some f =>
    rw [ho] at h
    obtain ⟨r, U', e1, e2, e3, e4, e5, -⟩ := h
    have gr := g1 r (by rw [e1]; simp)
    exact ⟨r, g.2.2.2.2.trans e2, e3, e4 s w1 (fun y hy => g1 y (by rw [e1]; exact List.mem_append_left _ hy)) gr.1, gr.2.trans e5⟩
theorem ClG.mv {σ σ1 : am_S} {w w1 : ow_T} {k : Nat × Nat} {c : Nat} {cl : mCl} {U : List Nat} (h : ClG σ w k c cl U) (hU : ∀ y ∈ U, NdA σ w σ1 w1 y ∧ am_fR σ1 8003 y = am_fR σ 8003 y) (hz : NdA σ w σ1 w1 c) : ClG σ1 w1 k c cl U := fun s2 w2 g1 g2 => h s2 w2 (fun y hy => ⟨(hU y hy).1.trans (g1 y hy).1, (g1 y hy).2.trans (hU y hy).2⟩) (hz.trans g2)
def CzK (k : Nat × Nat) (L : List Nat × Nat × Nat × Nat) (tk : List mTok) (σ : am_S) (w : ow_T) (ms : List Nat) (p : Nat) (R : mCR) (F : Option Nat → am_S → Prop) : Prop := match R with
  | .inl e => e ≤ 400 → ∀ σ' w' ms' p' r, PaS σ' w' k L ms' tk p' (Int32.ofNat e) → RdC k ms ms' σ w σ' w' → ms'.length + p ≤ ms.length + p' + 1 → (∀ z, r = some z → z ∈ ms' ∧ z ∉ ms) → F r σ'
  | .inr (cl, rest) => ∀ σ' w' c U p', rest = tk.drop p' → PaS σ' w' k L (ms ++ [c] ++ U) tk p' (-1) → RdC k ms (ms ++ [c] ++ U) σ w σ' w' → U.length + 1 + p ≤ p' → ClG σ' w' k c cl U → U.length + 1 = cN cl → am_fR σ' 8003 c = none → F (some c) σ'
section
variable {nl : Bool} {Ln : Nat} {xs : Nat → Int32} {d : Nat} {σ : am_S} {w : ow_T} {k : Nat × Nat} {L : List Nat × Nat × Nat × Nat} {ms : List Nat} {tk : List mTok} {p : Nat}
theorem cop_n : ∀ n ∈ [2, 3, 4, 6, 8], c_op (m_ncode n) = Int32.ofNat n ∧ ¬ (m_ncode n).toInt ≤ 1 ∧ m_ncode n ≠ 10 ∧ m_ncode n ≠ 11 := by decide +kernel
theorem rd_clause {F : Option Nat → am_S → Prop} (hk : RdO k) (hT : TkW tk) (S : PaS σ w k L ms tk p (-1)) (K : CzK k L tk σ w ms p (m_clause (tk.drop p)) F) (h30 : (m_hd (tk.drop p)).1 ≠ 30) : k_Rd_readClause nl Ln xs (d + 66) 1034 σ F := by
  have h401 := hT.1
  obtain ⟨t1, t2, t3⟩ := S.tok
  obtain ⟨g1, g2, g3, g4⟩ := S.rng hT
  obtain ⟨a1, a2, a3⟩ := S.ar hT
  obtain ⟨-, -, ⟨f0, f1, -⟩, k0, k1, -⟩ := S.1.1.1
  have tok : ∀ {m : Nat}, m ≤ 31 → (Int32.ofNat (m_hd (tk.drop p)).1 = Int32.ofNat m ↔ (m_hd (tk.drop p)).1 = m) := fun hm => by
    rw [i32e, n32 (by omega), n32 (by omega)]
    omega
  refine w_Rd_readClause ⟨S.1.isk, ?_⟩
  rw [S.2.2.1, f0, Option.getD_some, a3, t1]
  refine ⟨ar_mk k0 a1 a2, ?_⟩
  rintro v3 rfl
  refine rd_node (d := d + 63) hk S (fun s5 w5 c S5 r5 n5 _ => ?_)
  have hcn : w c ≠ k := r5.new (by simp) (fun t => by
    have := S5.1.nd
    rw [List.nodup_append] at this
    exact this.2.2 c t c (by simp) rfl)
  have cms : c ∉ ms := fun t => by
    have := S5.1.nd
    rw [List.nodup_append] at this
    exact this.2.2 c t c (by simp) rfl
  -- behind a fault
  have finF : ∀ {e : Nat} {s1 : am_S} {w1 : ow_T} {ms1 : List Nat} {p1 : Nat} {word nr : Int32}, e ≤ 400 → CzK k L tk σ w ms p (.inl e) F → PaS s1 w1 k L ms1 tk p1 (Int32.ofNat e) → RdC k ms ms1 σ w s1 w1 → c ∈ ms1 → ms1.length + p ≤ ms.length + p1 + 1 → c_Rd_readClause_293 nl Ln xs (d + 66) 1034 word (some c) nr s1 F := by
    intro e s1 w1 ms1 p1 word nr he K S1 r1 hc hl
    have kc := S1.1.2.2.2.1.2 c hc
    refine w_Rd_readClause_293 ⟨S1.1.isk, rd_takeF (fltE he) S1 (fun _ => ?_)⟩
    rw [Option.getD_some]
    refine ⟨is_mk kc.2.1, ?_⟩
    rintro s5 rfl s8 rfl
    exact K he _ w1 ms1 p1 _ ((S1.linkI hc hk).linkI hc hk) ((r1.linkI kc.1 hcn).linkI kc.1 hcn) hl (fun z hz => by
      have hz := Option.some.inj hz
      subst hz
      exact ⟨hc, cms⟩)
  -- behind all that a clause has
  have fin : ∀ {s1 : am_S} {w1 : ow_T} {U : List Nat} {p1 : Nat} (cl : mCl) {word nr : Int32}, word = c_op cl.1 → nr = c_nr cl → PaS s1 w1 k L (ms ++ [c] ++ U) tk p1 (-1) → RdC k ms (ms ++ [c] ++ U) σ w s1 w1 → U.length + 1 + p ≤ p1 → CdP s1 w1 k c cl.2.2 U → am_fR s1 8003 c = none → CzK k L tk σ w ms p (m_stop cl (tk.drop p1)) F → c_Rd_readClause_293 nl Ln xs (d + 66) 1034 word (some c) nr s1 F := by
    intro s1 w1 U p1 cl word nr hw hn S1 r1 hl hP h3 K
    unfold m_stop at K
    have hc : c ∈ ms ++ [c] ++ U := by simp
    refine w_Rd_readClause_293 ⟨S1.1.isk, rd_take (lo := 29) (hi := 29) (by decide) (by decide) (by decide) hk hT S1 (fun h s2 S2 r2 _ => ?_) (fun h s2 S2 r2 _ => ?_)⟩
    · rw [if_pos (by omega), tl_drop] at K
      have kc := S2.1.2.2.2.1.2 c hc
      rw [Option.getD_some]
      refine ⟨is_mk kc.2.1, ?_⟩
      intro s5 q5 s8 q8
      have S8 : PaS s8 w1 k L (ms ++ [c] ++ U) tk (p1 + 1) (-1) := by rw [q8, q5]; exact (S2.linkI hc hk).linkI hc hk
      have r8 : RdC k ms (ms ++ [c] ++ U) σ w s8 w1 := by rw [q8, q5]; exact ((r1.trans r2).linkI kc.1 hcn).linkI kc.1 hcn
      have fr : ∀ g y, am_fR s8 g y = am_fR s2 g y := fun g y => by rw [q8, q5]
      have ec := r2.keep S1.1 S2.1 hc
      have nd := S1.1.nd
      have cU : c ∉ U := fun t => by
        rw [List.nodup_append] at nd
        exact nd.2.2 c (by simp) c t rfl
      have eU : ∀ y ∈ U, NdA s1 w1 s8 w1 y ∧ am_fR s8 8003 y = am_fR s1 8003 y := fun y hy => by
        have e2 := r2.keep S1.1 S2.1 (x := y) (List.mem_append_right _ hy)
        have yc : y ≠ c := fun t => cU (by rw [← t]; exact hy)
        refine ⟨e2.1.trans ?_, (fr _ _).trans e2.2⟩
        rw [q8, q5]
        exact ⟨rfl, rfl, (rI_n yc).trans (rI_n yc), (rI_n yc).trans (rI_n yc), rfl⟩
      have P8 : CdP s8 w1 k c cl.2.2 U := by
        unfold CdP at hP ⊢
        cases ho : cl.2.2 with
        | none =>
          rw [ho] at hP
          exact ⟨hP.1, (fr _ _).trans (ec.1.2.2.2.2.trans hP.2)⟩
        | some f =>
          rw [ho] at hP
          obtain ⟨r, U', e1, e2, e3, e4, e5, e6⟩ := hP
          have er := eU r (by rw [e1]; simp)
          exact ⟨r, U', e1, (fr _ _).trans (ec.1.2.2.2.2.trans e2), e3, e4.mv (fun y hy => eU y (by rw [e1]; exact List.mem_append_left _ hy)) er.1, er.2.trans e5, e6⟩
      refine K s8 w1 c U (p1 + 1) rfl S8 r8 (by omega) (ClG.mk ⟨kc.1, ?_⟩ ?_ ?_ P8) ?_ ((fr _ _).trans (ec.2.trans h3))
      · rw [q8, q5]
        exact kc.2.1
      · rw [q8, rI_g (by decide), q5, rI_same]
        exact hw
      · rw [q8, rI_same]
        exact hn
      · unfold CdP at hP
        unfold cN
        cases ho : cl.2.2 with
        | none =>
          rw [ho] at hP
          rw [hP.1]
          rfl
        | some f =>
          rw [ho] at hP
          obtain ⟨r, U', -, -, -, -, -, e6⟩ := hP
          show U.length + 1 = 1 + nN f
          omega
    · rw [if_neg (by omega)] at K
      have kc := S2.1.2.2.2.1.2 c hc
      rw [Option.getD_some]
      refine ⟨is_mk kc.2.1, ?_⟩
      rintro s5 rfl s8 rfl
      refine K (S1.rng hT).2.1 _ w1 _ p1 _ ((S2.linkI hc hk).linkI hc hk) (((r1.trans r2).linkI kc.1 hcn).linkI kc.1 hcn) ?_ (fun z hz => by
        have hz := Option.some.inj hz
        subst hz
        exact ⟨hc, cms⟩)
      have : (ms ++ [c] ++ U).length = ms.length + 1 + U.length := by simp <;> omega
      omega
  have l1 : (ms ++ [c]).length = ms.length + 1 := by simp <;> omega
  have c5 : c ∈ ms ++ [c] := by simp
  -- the next token
  have nx : (m_hd (tk.drop p)).1 ≠ 30 → PaS (am_sfI s5 4003 1034 (Int32.ofNat p + 1)) w5 k L (ms ++ [c]) tk (p + 1) (-1) ∧ RdC k (ms ++ [c]) (ms ++ [c]) s5 w5 (am_sfI s5 4003 1034 (Int32.ofNat p + 1)) w5 := fun h => S5.nxt hk hT h
  -- a number, and the end
  have numd : ∀ {s1 : am_S} {p1 : Nat} (code word : Int32), PaS s1 w5 k L (ms ++ [c]) tk p1 (-1) → RdC k ms (ms ++ [c]) σ w s1 w5 → am_fR s1 8002 c = none → am_fR s1 8003 c = none → p + 1 ≤ p1 → word = c_op code → ¬ code.toInt ≤ 1 → code ≠ 10 → code ≠ 11 → CzK k L tk σ w ms p (m_numd code (tk.drop p1)) F → k_Rd_take nl Ln xs (d + 65) 1034 26 26 s1 (fun _ s2 => am_ext s1 s2 → c_Rd_readClause_293 nl Ln xs (d + 66) 1034 word (some c) (m_hd (tk.drop p1)).2.1 s2 F) := by
    intro s1 p1 code word S1 r1 h2 h3 hp hw x1 x2 x3 K
    unfold m_numd at K
    refine rd_take (lo := 26) (hi := 26) (by decide) (by decide) (by decide) hk hT S1 (fun h s2 S2 r2 _ => ?_) (fun h s2 S2 r2 _ => ?_)
    · rw [if_pos (by omega), tl_drop] at K
      have ec := r2.keep S1.1 S2.1 c5
      refine fin (U := []) (code, (m_hd (tk.drop p1)).2.1, none) hw ?_ (by rw [List.append_nil]; exact S2) (by rw [List.append_nil]; exact r1.trans r2) (by simp; omega) ⟨rfl, ec.1.2.2.2.2.trans h2⟩ (ec.2.trans h3) K
      unfold c_nr
      rw [if_neg x1, if_neg x2, if_neg x3]
    · rw [if_neg (by omega)] at K
      exact finF (S1.rng hT).2.1 K S2 (r1.trans r2) c5 (by omega)
  have e46 : am_fI s5 4003 1034 = Int32.ofNat p := S5.2.2.1
  rw [e46]
  unfold m_clause at K
  simp only [tl_drop] at K
  refine ⟨fun hv => ?_, fun hv => ?_, fun hv => ?_, fun hv => ?_, fun hv => ?_, fun hv => ?_⟩
  · -- in, out
    have hv' : (m_hd (tk.drop p)).1 = 0 ∨ (m_hd (tk.drop p)).1 = 1 := by
      rcases hv with h | h
      · exact Or.inl ((tok (m := 0) (by decide)).mp h)
      · exact Or.inr ((tok (m := 1) (by decide)).mp h)
    rw [if_pos hv'] at K
    rintro s7 rfl
    obtain ⟨S7, r7⟩ := nx h30
    obtain ⟨u1, u2, u3⟩ := S7.tok
    obtain ⟨v1, v2, v3, v4⟩ := S7.rng hT
    obtain ⟨b1, b2, b3⟩ := S7.ar hT
    obtain ⟨-, -, ⟨f5, f6, -⟩, k5, k6, -⟩ := S7.1.1.1
    have ec7 := r7.keep S5.1 S7.1 c5
    rw [S7.2.2.1, f5, Option.getD_some, b3, u1]
    refine ⟨ar_mk k5 b1 b2, ?_⟩
    rintro v11 rfl
    refine rd_take (lo := 20) (hi := 25) (by decide) (by decide) (by decide) hk hT S7 (fun h s13 S13 r13 _ => ⟨fun _ => ?_, fun z => absurd rfl z⟩) (fun h s13 S13 r13 _ => ⟨fun z => absurd z (by decide), fun _ => ?_⟩)
    · rw [if_pos h] at K
      obtain ⟨q1, q2, q3⟩ := S13.tok
      obtain ⟨y1, y2, y3, y4⟩ := S13.rng hT
      obtain ⟨z1, z2, z3⟩ := S13.ar hT
      obtain ⟨-, -, ⟨f13, -, -⟩, k13, -, -⟩ := S13.1.1.1
      have ec13 := r13.keep S7.1 S13.1 c5
      have rr := (r5.trans r7).trans r13
      have h82 : am_fR s13 8002 c = none := ec13.1.2.2.2.2.trans (ec7.1.2.2.2.2.trans n5.2.2.1)
      have h83 : am_fR s13 8003 c = none := ec13.2.trans (ec7.2.trans n5.2.2.2)
      have hop : Int32.ofNat (m_hd (tk.drop p)).1 = c_op (Int32.ofNat (m_hd (tk.drop p)).1) := by
        rcases hv' with h | h <;> rw [h] <;> decide
      have hnr : ∀ o, Int32.ofNat (m_hd (tk.drop (p + 1))).1 = c_nr (Int32.ofNat (m_hd (tk.drop p)).1, Int32.ofNat ((m_hd (tk.drop (p + 1))).1 - 20), o) := fun o => by
        unfold c_nr
        rw [if_pos (show (Int32.ofNat (m_hd (tk.drop p)).1).toInt ≤ 1 by rw [n32 (by omega)]; omega)]
        show _ = Int32.ofNat _ + Int32.ofNat 20
        rw [n32a]
        congr 1
        omega
      rw [S13.2.2.1, f13, Option.getD_some, z3, q1]
      refine ⟨ar_mk k13 z1 z2, fun h11 => ?_, fun h11 => ?_⟩
      · have h11 : (m_hd (tk.drop (p + 1 + 1))).1 = 11 := by
          rw [i32e, n32 (by omega), show (11 : Int32).toInt = 11 by decide] at h11
          omega
        rw [if_pos h11] at K
        rintro s18 rfl
        obtain ⟨S18, r18⟩ := S13.nxt hk hT (by rw [h11]; decide)
        refine (cnd_all hk hT (4 * (tk.drop p).length + 20)).2.2.1 d 0 _ w5 _ (p + 1 + 1 + 1) .nil _ (by omega) (by rw [List.length_drop]; omega) S18 ?_
        cases hc : m_cond (4 * (tk.drop p).length + 20) 3 0 .nil (tk.drop (p + 1 + 1 + 1)) with
        | inl e =>
          rw [hc] at K
          intro he s21 w21 ms21 p21 a22 S21 r21 l21 n21 _
          obtain ⟨u, eu, -⟩ := r21.2.1
          have c21 : c ∈ ms21 := by rw [eu]; exact List.mem_append_left _ c5
          have kc := S21.1.2.2.2.1.2 c c21
          rw [Option.getD_some]
          refine ⟨is_mk kc.2.1, ?_⟩
          rintro s24 rfl
          exact finF he K (S21.link c21 (by decide) hk) (((rr.trans r18).trans r21).link kc.1 hcn) c21 (by omega)
        | inr q =>
          obtain ⟨f, rest⟩ := q
          rw [hc] at K
          intro s21 w21 U r p21 er hp S21 r21 l21 hpf G hn h3 _
          subst er
          have e21 : ms ++ [c] ++ U ++ [r] = ms ++ [c] ++ (U ++ [r]) := by simp
          have ec18 := r18.keep S13.1 S18.1 c5
          have ec21 := r21.keep S18.1 S21.1 c5
          have c21 : c ∈ ms ++ [c] ++ U ++ [r] := by simp
          have kc := S21.1.2.2.2.1.2 c c21
          have nd := S21.1.nd
          have cU : c ∉ U ++ [r] := fun t => by
            rw [e21, List.nodup_append] at nd
            exact nd.2.2 c c5 c t rfl
          rw [Option.getD_some]
          refine ⟨is_mk kc.2.1, ?_⟩
          intro s24 q24
          have S24 : PaS s24 w21 k L (ms ++ [c] ++ U ++ [r]) tk p21 (-1) := by rw [q24]; exact S21.link c21 (by decide) hk
          have r24 : RdC k ms (ms ++ [c] ++ U ++ [r]) σ w s24 w21 := by rw [q24]; exact ((rr.trans r18).trans r21).link kc.1 hcn
          have na : ∀ y, y ≠ c → NdA s21 w21 s24 w21 y ∧ am_fR s24 8003 y = am_fR s21 8003 y := fun y hy => by rw [q24]; exact ⟨⟨rfl, rfl, rfl, rfl, rR_n hy⟩, rR_n hy⟩
          have rc : r ≠ c := fun t => cU (by rw [← t]; simp)
          rw [e21] at S24 r24
          refine fin (Int32.ofNat (m_hd (tk.drop p)).1, Int32.ofNat ((m_hd (tk.drop (p + 1))).1 - 20), some f) hop (hnr _) S24 r24 ?_ ⟨r, U, rfl, by rw [q24]; exact rR_same, hpf, G.mv (fun y hy => na y (fun t => cU (by rw [← t]; exact List.mem_append_left _ hy))) (na r rc).1, (na r rc).2.trans h3, ?_⟩ ?_ K
          · rw [List.length_append, List.length_singleton]
            omega
          · rw [List.length_append, List.length_singleton]
            exact hn
          · rw [q24, rR_g (by decide)]
            exact ec21.2.trans (ec18.2.trans h83)
      · have h11 : ¬ (m_hd (tk.drop (p + 1 + 1))).1 = 11 := fun t => h11 (by rw [t]; rfl)
        rw [if_neg h11] at K
        exact fin (U := []) (Int32.ofNat (m_hd (tk.drop p)).1, Int32.ofNat ((m_hd (tk.drop (p + 1))).1 - 20), none) hop (hnr _) (by rw [List.append_nil]; exact S13) (by rw [List.append_nil]; exact rr) (by simp; omega) ⟨rfl, h82⟩ h83 K
    · rw [if_neg h] at K
      exact finF v2 K S13 ((r5.trans r7).trans r13) c5 (by omega)
  · -- numbers
    have hv' : (m_hd (tk.drop p)).1 ∈ [2, 3, 4, 6, 8] := by
      rcases hv with h | h | h | h | h
      · rw [(tok (m := 2) (by decide)).mp h]; decide
      · rw [(tok (m := 3) (by decide)).mp h]; decide
      · rw [(tok (m := 4) (by decide)).mp h]; decide
      · rw [(tok (m := 6) (by decide)).mp h]; decide
      · rw [(tok (m := 8) (by decide)).mp h]; decide
    have hv2 : (m_hd (tk.drop p)).1 = 2 ∨ (m_hd (tk.drop p)).1 = 3 ∨ (m_hd (tk.drop p)).1 = 4 ∨ (m_hd (tk.drop p)).1 = 6 ∨ (m_hd (tk.drop p)).1 = 8 := by simpa using hv'
    rw [if_neg (by omega), if_pos hv2] at K
    obtain ⟨o1, o2, o3, o4⟩ := cop_n _ hv'
    rintro s27 rfl
    obtain ⟨S7, r7⟩ := nx h30
    obtain ⟨u1, u2, u3⟩ := S7.tok
    obtain ⟨b1, b2, b3⟩ := S7.ar hT
    obtain ⟨-, -, ⟨f5, f6, -⟩, k5, k6, -⟩ := S7.1.1.1
    have ec7 := r7.keep S5.1 S7.1 c5
    rw [S7.2.2.1, f6, Option.getD_some, b3, u2]
    refine ⟨ar_mk k6 b1 b2, ?_⟩
    rintro v31 rfl
    exact numd (m_ncode (m_hd (tk.drop p)).1) _ S7 (r5.trans r7) (ec7.1.2.2.2.2.trans n5.2.2.1) (ec7.2.trans n5.2.2.2) (by omega) o1.symm o2 o3 o4 K
  · -- own
    have hv' := (tok (m := 5) (by decide)).mp hv
    rw [if_neg (by omega), if_neg (by omega), if_pos hv'] at K
    rintro s35 rfl
    obtain ⟨S7, r7⟩ := nx h30
    obtain ⟨u1, u2, u3⟩ := S7.tok
    obtain ⟨v1, v2, v3, v4⟩ := S7.rng hT
    obtain ⟨b1, b2, b3⟩ := S7.ar hT
    obtain ⟨-, -, ⟨f5, f6, -⟩, k5, k6, -⟩ := S7.1.1.1
    have ec7 := r7.keep S5.1 S7.1 c5
    have tk7 : ∀ {m : Nat}, m ≤ 31 → (Int32.ofNat (m_hd (tk.drop (p + 1))).1 = Int32.ofNat m ↔ (m_hd (tk.drop (p + 1))).1 = m) := fun hm => by
      rw [i32e, n32 (by omega), n32 (by omega)]
      omega
    rw [S7.2.2.1, f5, Option.getD_some, b3, u1]
    refine ⟨ar_mk k5 b1 b2, ?_⟩
    intro w41 e41
    have e41 : w41 = (if Int32.ofNat (m_hd (tk.drop (p + 1))).1 = Int32.ofNat 3 then 32 else 33) := e41
    refine w_Rd_readClause_205 ⟨S7.1.isk, rd_take (lo := 3) (hi := 4) (by decide) (by decide) (by decide) hk hT S7 (fun h s2 S2 r2 _ => ?_) (fun h s2 S2 r2 _ => ?_)⟩
    · obtain ⟨q1, q2, q3⟩ := S2.tok
      obtain ⟨z1, z2, z3⟩ := S2.ar hT
      obtain ⟨-, -, ⟨-, f2, -⟩, -, k2, -⟩ := S2.1.1.1
      have ec2 := r2.keep S7.1 S2.1 c5
      rw [S2.2.2.1, f2, Option.getD_some, z3, q2]
      refine ⟨ar_mk k2 z1 z2, ?_⟩
      rintro v5 rfl
      by_cases h3 : (m_hd (tk.drop (p + 1))).1 = 3
      · rw [if_pos h3] at K
        rw [if_pos ((tk7 (m := 3) (by decide)).mpr h3)] at e41
        exact numd 5 w41 S2 ((r5.trans r7).trans r2) (ec2.1.2.2.2.2.trans (ec7.1.2.2.2.2.trans n5.2.2.1)) (ec2.2.trans (ec7.2.trans n5.2.2.2)) (by omega) (e41.trans (by decide)) (by decide) (by decide) (by decide) K
      · rw [if_neg h3, if_pos (by omega)] at K
        rw [if_neg (fun t => h3 ((tk7 (m := 3) (by decide)).mp t))] at e41
        exact numd 6 w41 S2 ((r5.trans r7).trans r2) (ec2.1.2.2.2.2.trans (ec7.1.2.2.2.2.trans n5.2.2.1)) (ec2.2.trans (ec7.2.trans n5.2.2.2)) (by omega) (e41.trans (by decide)) (by decide) (by decide) (by decide) K
    · rw [if_neg (by omega), if_neg (by omega)] at K
      obtain ⟨z1, z2, z3⟩ := S2.ar hT
      obtain ⟨-, -, ⟨-, f2, -⟩, -, k2, -⟩ := S2.1.1.1
      rw [S2.2.2.1, f2, Option.getD_some]
      refine ⟨ar_mk k2 z1 z2, ?_⟩
      rintro v5 rfl
      exact rd_takeF (fltE v2) S2 (fun _ => finF v2 K S2 ((r5.trans r7).trans r2) c5 (by omega))
  · -- average
    have hv' := (tok (m := 7) (by decide)).mp hv
    rw [if_neg (by omega), if_neg (by omega), if_neg (by omega), if_pos hv'] at K
    rintro s43 rfl
    obtain ⟨S7, r7⟩ := nx h30
    have ec7 := r7.keep S5.1 S7.1 c5
    exact fin (U := []) (8, 0, none) (by rw [hv']; decide) (by decide) (by rw [List.append_nil]; exact S7) (by rw [List.append_nil]; exact r5.trans r7) (by simp; omega) ⟨rfl, ec7.1.2.2.2.2.trans n5.2.2.1⟩ (ec7.2.trans n5.2.2.2) K
  · -- by
    have hv' := (tok (m := 9) (by decide)).mp hv
    rw [if_neg (by omega), if_neg (by omega), if_neg (by omega), if_neg (by omega), if_pos hv'] at K
    rintro s46 rfl
    obtain ⟨S7, r7⟩ := nx h30
    obtain ⟨u1, u2, u3⟩ := S7.tok
    obtain ⟨v1, v2, v3, v4⟩ := S7.rng hT
    obtain ⟨b1, b2, b3⟩ := S7.ar hT
    obtain ⟨-, -, ⟨f5, f6, -⟩, k5, k6, -⟩ := S7.1.1.1
    have ec7 := r7.keep S5.1 S7.1 c5
    have tk7 : ∀ {m : Nat}, m ≤ 31 → (Int32.ofNat (m_hd (tk.drop (p + 1))).1 = Int32.ofNat m ↔ (m_hd (tk.drop (p + 1))).1 = m) := fun hm => by
      rw [i32e, n32 (by omega), n32 (by omega)]
      omega
    rw [S7.2.2.1, f5, Option.getD_some, b3, u1, hv']
    refine ⟨ar_mk k5 b1 b2, ?_⟩
    intro w52 e52
    have e52 : w52 = (if Int32.ofNat (m_hd (tk.drop (p + 1))).1 = Int32.ofNat 3 then 3 else 10) := e52
    by_cases h3 : (m_hd (tk.drop (p + 1))).1 = 3
    · rw [if_pos ((tk7 (m := 3) (by decide)).mpr h3)] at e52
      subst e52
      rw [if_pos h3] at K
      refine w_Rd_readClause_277 ⟨S7.1.isk, rd_take (lo := 3) (hi := 3) (by decide) (by decide) (by decide) hk hT S7 (fun h s2 S2 r2 _ => ?_) (fun h s2 S2 r2 _ => absurd (by omega) h)⟩
      have ec2 := r2.keep S7.1 S2.1 c5
      exact fin (U := []) (11, 0, none) (by decide) (by decide) (by rw [List.append_nil]; exact S2) (by rw [List.append_nil]; exact (r5.trans r7).trans r2) (by simp; omega) ⟨rfl, ec2.1.2.2.2.2.trans (ec7.1.2.2.2.2.trans n5.2.2.1)⟩ (ec2.2.trans (ec7.2.trans n5.2.2.2)) K
    · rw [if_neg (fun t => h3 ((tk7 (m := 3) (by decide)).mp t))] at e52
      subst e52
      rw [if_neg h3] at K
      refine w_Rd_readClause_277 ⟨S7.1.isk, rd_take (lo := 10) (hi := 10) (by decide) (by decide) (by decide) hk hT S7 (fun h s2 S2 r2 _ => ?_) (fun h s2 S2 r2 _ => ?_)⟩
      · rw [if_pos (by omega)] at K
        have ec2 := r2.keep S7.1 S2.1 c5
        exact fin (U := []) (10, 0, none) (by decide) (by decide) (by rw [List.append_nil]; exact S2) (by rw [List.append_nil]; exact (r5.trans r7).trans r2) (by simp; omega) ⟨rfl, ec2.1.2.2.2.2.trans (ec7.1.2.2.2.2.trans n5.2.2.1)⟩ (ec2.2.trans (ec7.2.trans n5.2.2.2)) K
      · rw [if_neg (by omega)] at K
        exact finF v2 K S2 ((r5.trans r7).trans r2) c5 (by omega)
  · -- none of them
    have hv' : 9 < (m_hd (tk.drop p)).1 := by
      rw [n32 (by omega)] at hv
      omega
    rw [if_neg (by omega), if_neg (by omega), if_neg (by omega), if_neg (by omega), if_neg (by omega)] at K
    obtain ⟨q1, q2, q3⟩ := S5.tok
    exact rd_fail hk hT S5 (fun s4 S4 r4 _ => K g2 s4 w5 _ p none S4 (r5.trans r4) (by omega) (fun z hz => absurd hz (by simp)))
end
