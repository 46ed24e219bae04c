/-! THE CLASS: conditions as they are read: nodes that stay as they are -/
def nN : mF → Nat
  | .append a b => nN a + nN b
  | .tag _ a => nN a + 1
  | .nest _ _ => 1
  | _ => 0
def NdA (σ : am_S) (w : ow_T) (σ' : am_S) (w' : ow_T) (x : Nat) : Prop := w' x = w x ∧ am_kd σ' x = am_kd σ x ∧ am_fI σ' 8000 x = am_fI σ 8000 x ∧ am_fI σ' 8001 x = am_fI σ 8001 x ∧ am_fR σ' 8002 x = am_fR σ 8002 x
/-- a condition from x to z: it stands as long as the nodes U do, and z but for what is next -/
def NdG (σ : am_S) (w : ow_T) (k : Nat × Nat) (t : mF) (x z : Nat) (U : List Nat) : Prop := ∀ σ' w', (∀ y ∈ U, NdA σ w σ' w' y ∧ am_fR σ' 8003 y = am_fR σ 8003 y) → NdA σ w σ' w' z → NdS σ' w' k t x z
section
variable {σ σ1 σ2 : am_S} {w w1 w2 : ow_T} {k : Nat × Nat} {t a b : mF} {x y z : Nat} {U U1 U2 : List Nat}
theorem NdA.rf : NdA σ w σ w x := ⟨rfl, rfl, rfl, rfl, rfl⟩
theorem NdA.trans (h : NdA σ w σ1 w1 x) (h2 : NdA σ1 w1 σ2 w2 x) : NdA σ w σ2 w2 x := ⟨h2.1.trans h.1, h2.2.1.trans h.2.1, h2.2.2.1.trans h.2.2.1, h2.2.2.2.1.trans h.2.2.2.1, h2.2.2.2.2.trans h.2.2.2.2⟩
theorem NdG.s (h : NdG σ w k t x z U) : NdS σ w k t x z := h σ w (fun _ _ => ⟨NdA.rf, rfl⟩) NdA.rf
theorem NdG.mv (h : NdG σ w k t x z U) (hU : ∀ y ∈ U, NdA σ w σ1 w1 y ∧ am_fR σ1 8003 y = am_fR σ 8003 y) (hz : NdA σ w σ1 w1 z) : NdG σ1 w1 k t x z U := fun s2 w2 g1 g2 => h s2 w2 (fun y hy => ⟨(hU y hy).1.trans (g1 y hy).1, (g1 y hy).2.trans (hU y hy).2⟩) (hz.trans g2)
theorem NdG.test {c n : Int} (hK : NdK σ w k z) (h0 : am_fI σ 8000 z = Int32.ofInt (c + 12)) (h1 : am_fI σ 8001 z = Int32.ofInt (if c = 7 then n + 20 else n)) (h2 : am_fR σ 8002 z = none) (c3 : 3 ≤ c) (c7 : c ≤ 7) (n0 : 0 ≤ n) (n1 : n < 1000000000) (n5 : c = 7 → n ≤ 5) : NdG σ w k (.nest c (.nest n .nil)) z z [] := fun s w1 _ g => ⟨rfl, ⟨g.1.trans hK.1, g.2.1.trans hK.2⟩, g.2.2.1.trans h0, g.2.2.2.1.trans h1, g.2.2.2.2.trans h2, c3, c7, n0, n1, n5⟩
theorem NdG.tag2 (hK : NdK σ w k z) (h0 : am_fI σ 8000 z = 14) (h2 : am_fR σ 8002 z = some y) (hp : isP t) (h : NdG σ w k t y y U) (hn : am_fR σ 8003 y = none) : NdG σ w k (.tag 2 t) z z (U ++ [y]) := fun s w1 g1 g => by
  have gy := g1 y (by simp)
  refine ⟨rfl, ⟨g.1.trans hK.1, g.2.1.trans hK.2⟩, ?_⟩
  rw [if_pos rfl]
  exact ⟨g.2.2.1.trans h0, y, g.2.2.2.2.trans h2, hp, h s w1 (fun u hu => g1 u (List.mem_append_left _ hu)) gy.1, gy.2.trans hn⟩
theorem NdG.tag {q : Nat} (hq : q ≤ 1) (hK : NdK σ w k z) (h0 : am_fI σ 8000 z = Int32.ofNat (12 + q)) (h2 : am_fR σ 8002 z = some x) (h : NdG σ w k t x y U) (hn : am_fR σ 8003 y = none) : NdG σ w k (.tag q t) z z (U ++ [y]) := fun s w1 g1 g => by
  have gy := g1 y (by simp)
  refine ⟨rfl, ⟨g.1.trans hK.1, g.2.1.trans hK.2⟩, ?_⟩
  rw [if_neg (by omega)]
  exact ⟨hq, g.2.2.1.trans h0, x, y, g.2.2.2.2.trans h2, h s w1 (fun u hu => g1 u (List.mem_append_left _ hu)) gy.1, gy.2.trans hn⟩
theorem NdG.app (h1 : NdG σ w k a x y U1) (hn : am_fR σ 8003 y = some z) (hp : isP b) (h2 : NdG σ w k b z z U2) : NdG σ w k (.append a b) x z (U1 ++ [y] ++ U2) := fun s w1 g1 g => by
  have gy := g1 y (by simp)
  exact ⟨y, h1 s w1 (fun u hu => g1 u (List.mem_append_left _ (List.mem_append_left _ hu))) gy.1, gy.2.trans hn, hp, h2 s w1 (fun u hu => g1 u (List.mem_append_right _ hu)) g⟩
/-- reading leaves what was made -/
theorem RdC.keep {L : List Nat × Nat × Nat × Nat} {ms ms1 : List Nat} (R : RdM σ w k L ms) (R1 : RdM σ1 w1 k L ms1) (r : RdC k ms ms1 σ w σ1 w1) (hx : x ∈ ms) : NdA σ w σ1 w1 x ∧ am_fR σ1 8003 x = am_fR σ 8003 x := by
  have h := R.2.2.2.1.2 x hx
  obtain ⟨-, ⟨t, e, -⟩, -, -, b⟩ := r
  have h1 := R1.2.2.2.1.2 x (by rw [e]; exact List.mem_append_left _ hx)
  have nb := b x hx h.1
  exact ⟨⟨h1.1.trans h.1.symm, h1.2.1.trans h.2.1.symm, nb.1, nb.2.1, nb.2.2.1⟩, nb.2.2.2⟩
theorem NdG.keep {L : List Nat × Nat × Nat × Nat} {ms ms1 : List Nat} (h : NdG σ w k t x z U) (R : RdM σ w k L ms) (R1 : RdM σ1 w1 k L ms1) (r : RdC k ms ms1 σ w σ1 w1) (hU : ∀ y ∈ U, y ∈ ms) (hz : z ∈ ms) : NdG σ1 w1 k t x z U := h.mv (fun y hy => r.keep R R1 (hU y hy)) (r.keep R R1 hz).1
/-- the next one is put to z -/
theorem NdG.link {v : Nat} {o : Option Nat} (h : NdG σ w k t x z U) (hU : v ∉ U) : NdG (am_sfR σ 8003 v o) w k t x z U := by
  have n : ∀ y, NdA σ w (am_sfR σ 8003 v o) w y := fun y => ⟨rfl, rfl, rfl, rfl, rR_g (by decide)⟩
  exact h.mv (fun y hy => ⟨n y, rR_n (fun t => hU (by rw [← t]; exact hy))⟩) (n z)
end
def CoK (k : Nat × Nat) (L : List Nat × Nat × Nat × Nat) (tk : List mTok) (σ : am_S) (w : ow_T) (ms : List Nat) (p : Nat) (R : mPR) (F : Option Nat → am_S → Prop) : Prop := match R with
  | .inl e => e ≤ 400 → FltK k L tk (Int32.ofNat e) σ w ms p F
  | .inr (t, rest) => ∀ σ' w' U z p', rest = tk.drop p' → p < p' → PaS σ' w' k L (ms ++ U ++ [z]) tk p' (-1) → RdC k ms (ms ++ U ++ [z]) σ w σ' w' → U.length + 1 + p ≤ p' → isP t → NdG σ' w' k t z z U → U.length + 1 = nN t → am_fR σ' 8003 z = none → F (some z) σ'
def NotC (nl : Bool) (Ln : Nat) (xs : Nat → Int32) (k : Nat × Nat) (L : List Nat × Nat × Nat × Nat) (tk : List mTok) (f : Nat) : Prop := ∀ (d op : Nat) (σ : am_S) (w : ow_T) (ms : List Nat) (p : Nat) (acc : mF) (F : Option Nat → am_S → Prop), op ≤ 20 → 4 * (tk.length - p) + 1 ≤ f → PaS σ w k L ms tk p (-1) → CoK k L tk σ w ms p (m_cond f 0 op acc (tk.drop p)) F → k_Rd_readNot nl Ln xs (d + 3 * (20 - op) + 3) 1034 (Int32.ofNat op) σ F
def AndC (nl : Bool) (Ln : Nat) (xs : Nat → Int32) (k : Nat × Nat) (L : List Nat × Nat × Nat × Nat) (tk : List mTok) (f : Nat) : Prop := ∀ (d op : Nat) (σ : am_S) (w : ow_T) (ms : List Nat) (p : Nat) (acc : mF) (F : Option Nat → am_S → Prop), op ≤ 20 → 4 * (tk.length - p) + 2 ≤ f → PaS σ w k L ms tk p (-1) → CoK k L tk σ w ms p (m_cond f 1 op acc (tk.drop p)) F → k_Rd_readAnd nl Ln xs (d + 3 * (20 - op) + 4) 1034 (Int32.ofNat op) σ F
def OrC (nl : Bool) (Ln : Nat) (xs : Nat → Int32) (k : Nat × Nat) (L : List Nat × Nat × Nat × Nat) (tk : List mTok) (f : Nat) : Prop := ∀ (d op : Nat) (σ : am_S) (w : ow_T) (ms : List Nat) (p : Nat) (acc : mF) (F : Option Nat → am_S → Prop), op ≤ 20 → 4 * (tk.length - p) + 3 ≤ f → PaS σ w k L ms tk p (-1) → CoK k L tk σ w ms p (m_cond f 3 op acc (tk.drop p)) F → k_Rd_readOr nl Ln xs (d + 3 * (20 - op) + 5) 1034 (Int32.ofNat op) σ F
def AndL (nl : Bool) (Ln : Nat) (xs : Nat → Int32) (k : Nat × Nat) (L : List Nat × Nat × Nat × Nat) (tk : List mTok) (f : Nat) : Prop := ∀ (d op : Nat) (σ0 : am_S) (w0 : ow_T) (ms : List Nat) (p0 : Nat) (σ : am_S) (w : ow_T) (U : List Nat) (x y p x4 : Nat) (acc : mF) (F : Option Nat → am_S → Prop), op ≤ 20 → 4 * (tk.length - p) + 2 ≤ f → PaS σ w k L (ms ++ U ++ [y]) tk p (-1) → RdC k ms (ms ++ U ++ [y]) σ0 w0 σ w → U.length + 1 + p0 ≤ p → x4 ≤ p → (m_hd (tk.drop p)).1 = 13 → NdG σ w k acc x y U → U.length + 1 = nN acc → am_fR σ 8003 y = none → CoK k L tk σ0 w0 ms p0 (m_cond f 2 op acc (tk.drop p)) F → c_Rd_readAnd_31 nl Ln xs (d + 3 * (20 - op) + 4) 1034 (Int32.ofNat op) (some x) (some y) (Int32.ofNat x4) σ F
def OrL (nl : Bool) (Ln : Nat) (xs : Nat → Int32) (k : Nat × Nat) (L : List Nat × Nat × Nat × Nat) (tk : List mTok) (f : Nat) : Prop := ∀ (d op : Nat) (σ0 : am_S) (w0 : ow_T) (ms : List Nat) (p0 : Nat) (σ : am_S) (w : ow_T) (U : List Nat) (x y p x4 : Nat) (acc : mF) (F : Option Nat → am_S → Prop), op ≤ 20 → 4 * (tk.length - p) + 3 ≤ f → PaS σ w k L (ms ++ U ++ [y]) tk p (-1) → RdC k ms (ms ++ U ++ [y]) σ0 w0 σ w → U.length + 1 + p0 ≤ p → x4 ≤ p → (m_hd (tk.drop p)).1 = 12 → NdG σ w k acc x y U → U.length + 1 = nN acc → am_fR σ 8003 y = none → CoK k L tk σ0 w0 ms p0 (m_cond f 4 op acc (tk.drop p)) F → c_Rd_readOr_31 nl Ln xs (d + 3 * (20 - op) + 5) 1034 (Int32.ofNat op) (some x) (some y) (Int32.ofNat x4) σ F
section
variable {nl : Bool} {Ln : Nat} {xs : Nat → Int32} {k : Nat × Nat} {L : List Nat × Nat × Nat × Nat} {tk : List mTok}
theorem fltE {e : Nat} (h : e ≤ 400) : Int32.ofNat e ≠ -1 := plc_ne h
theorem NotF_op (e : Nat) (h : e ≤ 400) (hk : RdO k) (hT : TkW tk) (n : Nat) : NotF nl Ln xs k L tk (Int32.ofNat e) n := NotF_all (fltE h) hk hT n
theorem AndF_op (e : Nat) (h : e ≤ 400) (hk : RdO k) (hT : TkW tk) (n : Nat) : AndF nl Ln xs k L tk (Int32.ofNat e) n := AndF_of hk hT (NotF_op e h hk hT n)
theorem AndL_step {f : Nat} (hk : RdO k) (hT : TkW tk) (hN : NotC nl Ln xs k L tk f) (hL : AndL nl Ln xs k L tk f) : AndL nl Ln xs k L tk (f + 1) := by
  intro d op σ0 w0 ms p0 σ w U x y p x4 acc F hop hf S r hl hx4 h13 G hnn h3 K
  obtain ⟨t1, t2, t3⟩ := S.tok
  obtain ⟨a1, a2, a3⟩ := S.ar hT
  obtain ⟨-, -, ⟨f0, -, -⟩, k0, -, -⟩ := S.1.1.1
  have h401 := hT.1
  have hgo := S.go hT (by rw [h13]; decide)
  have hym : y ∈ ms ++ U ++ [y] := by simp
  have ky := S.1.2.2.2.1.2 y hym
  have ndS := S.1.nd
  have yU : y ∉ ms ++ U := fun t => (List.nodup_append.mp ndS).2.2 y t y (by simp) rfl
  have ynew : w0 y ≠ k := r.new hym (fun t => yU (List.mem_append_left _ t))
  refine w_Rd_readAnd_31 ⟨fun _ => ⟨fun z => absurd z (by simp), fun _ => ⟨S.1.isk, ?_⟩⟩, fun z => absurd (show Int32.ofNat x4 < Int32.ofNat 400 by rw [n32lt (by omega) (by omega)]; omega) z⟩
  rw [S.2.2.1, f0, Option.getD_some, Option.getD_some, a3, t1, h13]
  refine ⟨ar_mk k0 a1 a2, fun _ => ?_, fun z => absurd rfl z⟩
  rintro s6 rfl
  have nx := S.nxt hk hT (by rw [h13]; decide)
  have hR : m_cond (f + 1) 2 op acc (tk.drop p) = (match m_cond f 0 op acc (tk.drop (p + 1)) with
      | .inl e => .inl e
      | .inr (u, r) => if (m_hd r).1 = 13 then m_cond f 2 op (.append acc u) r else .inr (.tag 1 (.append acc u), r)) := by
    rw [← tl_drop]
    rfl
  rw [hR] at K
  refine hN d op _ w _ (p + 1) acc _ hop (by omega) nx.1 ?_
  cases hc : m_cond f 0 op acc (tk.drop (p + 1)) with
  | inl e =>
    rw [hc] at K
    intro he s9 w9 ms9 p9 a10 S9 r9 l9 n9 _
    have r09 := (r.trans nx.2).trans r9
    obtain ⟨u, eu, -⟩ := r9.2.1
    have hy9 : y ∈ ms9 := by rw [eu]; exact List.mem_append_left _ hym
    have ky9 := S9.1.2.2.2.1.2 y hy9
    refine ⟨is_mk ky9.2.1, ?_⟩
    rintro s12 rfl v15 rfl
    rw [rR_same, n32s]
    refine AndF_loop (n := 20 - op) (d := d) hk hT (NotF_op e he hk hT (20 - op)) (by omega) (K he) (400 - (x4 + 1)) (x4 + 1) (some x) a10 _ w9 ms9 p9 (by omega) (S9.link hy9 (by decide) hk) (r09.link ky9.1 ynew) ?_ (fun z => absurd z (by omega)) (fun v hv => ⟨(n9 v hv).1, fun t => (n9 v hv).2 ?_⟩)
    · rw [if_neg (by omega)]
      have : (ms ++ U ++ [y]).length = ms.length + U.length + 1 := by simp <;> omega
      omega
    · exact List.mem_append_left _ (List.mem_append_left _ t)
  | inr q =>
    obtain ⟨u, rest⟩ := q
    rw [hc] at K
    intro s9 w9 U2 z p9 er hp9 S9 r9 l9 hpu G9 hn9 z9 _
    subst er
    have e9 : ms ++ U ++ [y] ++ U2 ++ [z] = ms ++ (U ++ [y] ++ U2) ++ [z] := by simp
    have r09 := (r.trans nx.2).trans r9
    have hy9 : y ∈ ms ++ U ++ [y] ++ U2 ++ [z] := by simp
    have ky9 := S9.1.2.2.2.1.2 y hy9
    have nd9 := S9.1.nd
    have yz : y ∉ U2 ++ [z] := fun t => by
      rw [List.append_assoc, List.nodup_append] at nd9
      exact nd9.2.2 y hym y t rfl
    have G1 : NdG s9 w9 k acc x y U := (G.keep S.1 nx.1.1 nx.2 (fun v hv => by simp [hv]) hym).keep nx.1.1 S9.1 r9 (fun v hv => by simp [hv]) hym
    refine ⟨is_mk ky9.2.1, ?_⟩
    intro s12 q12 v15 e15
    have S12 : PaS s12 w9 k L (ms ++ U ++ [y] ++ U2 ++ [z]) tk p9 (-1) := by rw [q12]; exact S9.link hy9 (by decide) hk
    have r12 : RdC k ms (ms ++ U ++ [y] ++ U2 ++ [z]) σ0 w0 s12 w9 := by rw [q12]; exact r09.link ky9.1 ynew
    have y12 : am_fR s12 8003 y = some z := by rw [q12]; exact rR_same
    have z12 : am_fR s12 8003 z = none := by
      rw [q12, rR_n (fun t => yz (by rw [t]; simp))]
      exact z9
    have G12 : NdG s12 w9 k (.append acc u) x z (U ++ [y] ++ U2) := by
      have g1 : NdG s12 w9 k acc x y U := by rw [q12]; exact G1.link (fun t => yU (List.mem_append_right _ t))
      have g2 : NdG s12 w9 k u z z U2 := by rw [q12]; exact G9.link (fun t => yz (List.mem_append_left _ t))
      exact g1.app y12 hpu g2
    have n12 : (U ++ [y] ++ U2).length + 1 = nN (.append acc u) := by
      have : (U ++ [y] ++ U2).length = U.length + 1 + U2.length := by simp <;> omega
      rw [this, nN]
      omega
    have l12 : (U ++ [y] ++ U2).length = U.length + 1 + U2.length := by simp <;> omega
    rw [e9] at S12 r12
    rw [e15, y12, n32s]
    have g12 := S12.rng hT
    by_cases hq : (m_hd (tk.drop p9)).1 = 13
    · have K : CoK k L tk σ0 w0 ms p0 (if (m_hd (tk.drop p9)).1 = 13 then m_cond f 2 op (.append acc u) (tk.drop p9) else .inr (.tag 1 (.append acc u), tk.drop p9)) F := K
      rw [if_pos hq] at K
      exact hL d op σ0 w0 ms p0 s12 w9 (U ++ [y] ++ U2) x z p9 (x4 + 1) (.append acc u) F hop (by omega) S12 r12 (by omega) (by omega) hq G12 n12 z12 K
    · have K : CoK k L tk σ0 w0 ms p0 (if (m_hd (tk.drop p9)).1 = 13 then m_cond f 2 op (.append acc u) (tk.drop p9) else .inr (.tag 1 (.append acc u), tk.drop p9)) F := K
      rw [if_neg hq] at K
      have fin : c_Rd_readAnd_87 nl Ln xs (d + 3 * (20 - op) + 4) 1034 (Int32.ofNat op) (some x) (some z) (Int32.ofNat (x4 + 1)) s12 F := by
        refine w_Rd_readAnd_87 ⟨S12.1.isk, rd_node (d := d + 3 * (20 - op) + 1) hk S12 (fun s2 w2 c S2 r2 n2 _ => ?_)⟩
        have e2 : ms ++ (U ++ [y] ++ U2) ++ [z] ++ [c] = ms ++ (U ++ [y] ++ U2 ++ [z]) ++ [c] := by simp
        have kc := S2.1.2.2.2.1.2 c (by simp)
        have zz := r2.keep S12.1 S2.1 (x := z) (by simp)
        have g2 := G12.keep S12.1 S2.1 r2 (fun v hv => List.mem_append_left _ (List.mem_append_right _ hv)) (by simp)
        rw [e2] at S2 r2
        exact K s2 w2 (U ++ [y] ++ U2 ++ [z]) c p9 rfl (by omega) S2 (r12.trans r2) (by rw [List.length_append, l12, List.length_singleton]; omega) trivial (NdG.tag (q := 1) (by decide) ⟨kc.1, kc.2.1⟩ n2.1 n2.2.2.1 g2 (zz.2.trans z12)) (by rw [List.length_append, List.length_singleton, n12]; rfl) n2.2.2.2
      obtain ⟨b1, b2, b3⟩ := S12.tok
      obtain ⟨c1, c2, c3⟩ := S12.ar hT
      obtain ⟨-, -, ⟨f1, -, -⟩, k1, -, -⟩ := S12.1.1.1
      refine w_Rd_readAnd_31 ⟨fun _ => ⟨fun t => absurd t (by simp), fun _ => ⟨S12.1.isk, ?_⟩⟩, fun _ => fin⟩
      rw [S12.2.2.1, f1, Option.getD_some, c3, b1]
      refine ⟨ar_mk k1 c1 c2, fun t => absurd ?_ hq, fun _ => fin⟩
      rw [i32e, n32 (by omega), show (13 : Int32).toInt = 13 by decide] at t
      omega
theorem OrL_step {f : Nat} (hk : RdO k) (hT : TkW tk) (hN : AndC nl Ln xs k L tk f) (hL : OrL nl Ln xs k L tk f) : OrL nl Ln xs k L tk (f + 1) := by
  intro d op σ0 w0 ms p0 σ w U x y p x4 acc F hop hf S r hl hx4 h13 G hnn h3 K
  obtain ⟨t1, t2, t3⟩ := S.tok
  obtain ⟨a1, a2, a3⟩ := S.ar hT
  obtain ⟨-, -, ⟨f0, -, -⟩, k0, -, -⟩ := S.1.1.1
  have h401 := hT.1
  have hgo := S.go hT (by rw [h13]; decide)
  have hym : y ∈ ms ++ U ++ [y] := by simp
  have ky := S.1.2.2.2.1.2 y hym
  have ndS := S.1.nd
  have yU : y ∉ ms ++ U := fun t => (List.nodup_append.mp ndS).2.2 y t y (by simp) rfl
  have ynew : w0 y ≠ k := r.new hym (fun t => yU (List.mem_append_left _ t))
  refine w_Rd_readOr_31 ⟨fun _ => ⟨fun z => absurd z (by simp), fun _ => ⟨S.1.isk, ?_⟩⟩, fun z => absurd (show Int32.ofNat x4 < Int32.ofNat 400 by rw [n32lt (by omega) (by omega)]; omega) z⟩
  rw [S.2.2.1, f0, Option.getD_some, Option.getD_some, a3, t1, h13]
  refine ⟨ar_mk k0 a1 a2, fun _ => ?_, fun z => absurd rfl z⟩
  rintro s6 rfl
  have nx := S.nxt hk hT (by rw [h13]; decide)
  have hR : m_cond (f + 1) 4 op acc (tk.drop p) = (match m_cond f 1 op acc (tk.drop (p + 1)) with
      | .inl e => .inl e
      | .inr (u, r) => if (m_hd r).1 = 12 then m_cond f 4 op (.append acc u) r else .inr (.tag 0 (.append acc u), r)) := by
    rw [← tl_drop]
    rfl
  rw [hR] at K
  refine hN d op _ w _ (p + 1) acc _ hop (by omega) nx.1 ?_
  cases hc : m_cond f 1 op acc (tk.drop (p + 1)) with
  | inl e =>
    rw [hc] at K
    intro he s9 w9 ms9 p9 a10 S9 r9 l9 n9 _
    have r09 := (r.trans nx.2).trans r9
    obtain ⟨u, eu, -⟩ := r9.2.1
    have hy9 : y ∈ ms9 := by rw [eu]; exact List.mem_append_left _ hym
    have ky9 := S9.1.2.2.2.1.2 y hy9
    refine ⟨is_mk ky9.2.1, ?_⟩
    rintro s12 rfl v15 rfl
    rw [rR_same, n32s]
    refine OrF_loop (n := 20 - op) (d := d) hk hT (AndF_op e he hk hT (20 - op)) (by omega) (K he) (400 - (x4 + 1)) (x4 + 1) (some x) a10 _ w9 ms9 p9 (by omega) (S9.link hy9 (by decide) hk) (r09.link ky9.1 ynew) ?_ (fun z => absurd z (by omega)) (fun v hv => ⟨(n9 v hv).1, fun t => (n9 v hv).2 ?_⟩)
    · rw [if_neg (by omega)]
      have : (ms ++ U ++ [y]).length = ms.length + U.length + 1 := by simp <;> omega
      omega
    · exact List.mem_append_left _ (List.mem_append_left _ t)
  | inr q =>
    obtain ⟨u, rest⟩ := q
    rw [hc] at K
    intro s9 w9 U2 z p9 er hp9 S9 r9 l9 hpu G9 hn9 z9 _
    subst er
    have e9 : ms ++ U ++ [y] ++ U2 ++ [z] = ms ++ (U ++ [y] ++ U2) ++ [z] := by simp
    have r09 := (r.trans nx.2).trans r9
    have hy9 : y ∈ ms ++ U ++ [y] ++ U2 ++ [z] := by simp
    have ky9 := S9.1.2.2.2.1.2 y hy9
    have nd9 := S9.1.nd
    have yz : y ∉ U2 ++ [z] := fun t => by
      rw [List.append_assoc, List.nodup_append] at nd9
      exact nd9.2.2 y hym y t rfl
    have G1 : NdG s9 w9 k acc x y U := (G.keep S.1 nx.1.1 nx.2 (fun v hv => by simp [hv]) hym).keep nx.1.1 S9.1 r9 (fun v hv => by simp [hv]) hym
    refine ⟨is_mk ky9.2.1, ?_⟩
    intro s12 q12 v15 e15
    have S12 : PaS s12 w9 k L (ms ++ U ++ [y] ++ U2 ++ [z]) tk p9 (-1) := by rw [q12]; exact S9.link hy9 (by decide) hk
    have r12 : RdC k ms (ms ++ U ++ [y] ++ U2 ++ [z]) σ0 w0 s12 w9 := by rw [q12]; exact r09.link ky9.1 ynew
    have y12 : am_fR s12 8003 y = some z := by rw [q12]; exact rR_same
    have z12 : am_fR s12 8003 z = none := by
      rw [q12, rR_n (fun t => yz (by rw [t]; simp))]
      exact z9
    have G12 : NdG s12 w9 k (.append acc u) x z (U ++ [y] ++ U2) := by
      have g1 : NdG s12 w9 k acc x y U := by rw [q12]; exact G1.link (fun t => yU (List.mem_append_right _ t))
      have g2 : NdG s12 w9 k u z z U2 := by rw [q12]; exact G9.link (fun t => yz (List.mem_append_left _ t))
      exact g1.app y12 hpu g2
    have n12 : (U ++ [y] ++ U2).length + 1 = nN (.append acc u) := by
      have : (U ++ [y] ++ U2).length = U.length + 1 + U2.length := by simp <;> omega
      rw [this, nN]
      omega
    have l12 : (U ++ [y] ++ U2).length = U.length + 1 + U2.length := by simp <;> omega
    rw [e9] at S12 r12
    rw [e15, y12, n32s]
    have g12 := S12.rng hT
    by_cases hq : (m_hd (tk.drop p9)).1 = 12
    · have K : CoK k L tk σ0 w0 ms p0 (if (m_hd (tk.drop p9)).1 = 12 then m_cond f 4 op (.append acc u) (tk.drop p9) else .inr (.tag 0 (.append acc u), tk.drop p9)) F := K
      rw [if_pos hq] at K
      exact hL d op σ0 w0 ms p0 s12 w9 (U ++ [y] ++ U2) x z p9 (x4 + 1) (.append acc u) F hop (by omega) S12 r12 (by omega) (by omega) hq G12 n12 z12 K
    · have K : CoK k L tk σ0 w0 ms p0 (if (m_hd (tk.drop p9)).1 = 12 then m_cond f 4 op (.append acc u) (tk.drop p9) else .inr (.tag 0 (.append acc u), tk.drop p9)) F := K
      rw [if_neg hq] at K
      have fin : c_Rd_readOr_87 nl Ln xs (d + 3 * (20 - op) + 5) 1034 (Int32.ofNat op) (some x) (some z) (Int32.ofNat (x4 + 1)) s12 F := by
        refine w_Rd_readOr_87 ⟨S12.1.isk, rd_node (d := d + 3 * (20 - op) + 2) hk S12 (fun s2 w2 c S2 r2 n2 _ => ?_)⟩
        have e2 : ms ++ (U ++ [y] ++ U2) ++ [z] ++ [c] = ms ++ (U ++ [y] ++ U2 ++ [z]) ++ [c] := by simp
        have kc := S2.1.2.2.2.1.2 c (by simp)
        have zz := r2.keep S12.1 S2.1 (x := z) (by simp)
        have g2 := G12.keep S12.1 S2.1 r2 (fun v hv => List.mem_append_left _ (List.mem_append_right _ hv)) (by simp)
        rw [e2] at S2 r2
        exact K s2 w2 (U ++ [y] ++ U2 ++ [z]) c p9 rfl (by omega) S2 (r12.trans r2) (by rw [List.length_append, l12, List.length_singleton]; omega) trivial (NdG.tag (q := 0) (by decide) ⟨kc.1, kc.2.1⟩ n2.1 n2.2.2.1 g2 (zz.2.trans z12)) (by rw [List.length_append, List.length_singleton, n12]; rfl) n2.2.2.2
      obtain ⟨b1, b2, b3⟩ := S12.tok
      obtain ⟨c1, c2, c3⟩ := S12.ar hT
      obtain ⟨-, -, ⟨f1, -, -⟩, k1, -, -⟩ := S12.1.1.1
      refine w_Rd_readOr_31 ⟨fun _ => ⟨fun t => absurd t (by simp), fun _ => ⟨S12.1.isk, ?_⟩⟩, fun _ => fin⟩
      rw [S12.2.2.1, f1, Option.getD_some, c3, b1]
      refine ⟨ar_mk k1 c1 c2, fun t => absurd ?_ hq, fun _ => fin⟩
      rw [i32e, n32 (by omega), show (12 : Int32).toInt = 12 by decide] at t
      omega
end
