/-! THE CLASS: reading behind a fault: nothing more is told, but it goes on -/
section
variable {nl : Bool} {Ln : Nat} {xs : Nat → Int32} {k : Nat × Nat} {L : List Nat × Nat × Nat × Nat} {tk : List mTok} {flt : Int32}
def FltK (k : Nat × Nat) (L : List Nat × Nat × Nat × Nat) (tk : List mTok) (flt : Int32) (σ : am_S) (w : ow_T) (ms : List Nat) (p : Nat) (F : Option Nat → am_S → Prop) : Prop := ∀ σ' w' ms' p' r, PaS σ' w' k L ms' tk p' flt → RdC k ms ms' σ w σ' w' → ms'.length + p ≤ ms.length + p' → (∀ z, r = some z → z ∈ ms' ∧ z ∉ ms) → F r σ'
def NotF (nl : Bool) (Ln : Nat) (xs : Nat → Int32) (k : Nat × Nat) (L : List Nat × Nat × Nat × Nat) (tk : List mTok) (flt : Int32) (n : Nat) : Prop := ∀ (d op : Nat) (σ : am_S) (w : ow_T) (ms : List Nat) (p : Nat) (F : Option Nat → am_S → Prop), op + n = 20 → PaS σ w k L ms tk p flt → FltK k L tk flt σ w ms p F → k_Rd_readNot nl Ln xs (d + 3 * n + 3) 1034 (Int32.ofNat op) σ F
def AndF (nl : Bool) (Ln : Nat) (xs : Nat → Int32) (k : Nat × Nat) (L : List Nat × Nat × Nat × Nat) (tk : List mTok) (flt : Int32) (n : Nat) : Prop := ∀ (d op : Nat) (σ : am_S) (w : ow_T) (ms : List Nat) (p : Nat) (F : Option Nat → am_S → Prop), op + n = 20 → PaS σ w k L ms tk p flt → FltK k L tk flt σ w ms p F → k_Rd_readAnd nl Ln xs (d + 3 * n + 4) 1034 (Int32.ofNat op) σ F
def OrF (nl : Bool) (Ln : Nat) (xs : Nat → Int32) (k : Nat × Nat) (L : List Nat × Nat × Nat × Nat) (tk : List mTok) (flt : Int32) (n : Nat) : Prop := ∀ (d op : Nat) (σ : am_S) (w : ow_T) (ms : List Nat) (p : Nat) (F : Option Nat → am_S → Prop), op + n = 20 → PaS σ w k L ms tk p flt → FltK k L tk flt σ w ms p F → k_Rd_readOr nl Ln xs (d + 3 * n + 5) 1034 (Int32.ofNat op) σ F
theorem AndF_loop {n d op : Nat} {σ : am_S} {w : ow_T} {ms : List Nat} {p : Nat} {F : Option Nat → am_S → Prop} (hk : RdO k) (hT : TkW tk) (hN : NotF nl Ln xs k L tk flt n) (hop : op + n = 20) (K : FltK k L tk flt σ w ms p F) : ∀ (j x4 : Nat) (x2 : Option Nat) (x3 : Option Nat) (s : am_S) (w1 : ow_T) (ms1 : List Nat) (p1 : Nat), j + x4 = 400 → PaS s w1 k L ms1 tk p1 flt → RdC k ms ms1 σ w s w1 → ms1.length + p + (if x4 = 0 then 0 else 1) ≤ ms.length + p1 → (x4 = 0 → (m_hd (tk.drop p1)).1 = 13 ∧ x3 ≠ none) → (∀ z, x3 = some z → z ∈ ms1 ∧ z ∉ ms) → c_Rd_readAnd_31 nl Ln xs (d + 3 * n + 4) 1034 (Int32.ofNat op) x2 x3 (Int32.ofNat x4) s F := by
  intro j
  induction j with
  | zero =>
    intro x4 x2 x3 s w1 ms1 p1 hj S1 r1 hl h0 h3
    have hx : x4 = 400 := by omega
    subst hx
    rw [if_neg (by decide)] at hl
    refine w_Rd_readAnd_31 ⟨fun z => absurd z (by decide), fun _ => w_Rd_readAnd_87 ⟨S1.1.isk, rd_node (d := d + 3 * n + 1) hk S1 (fun s2 w2 c S2 r2 n2 _ => ?_)⟩⟩
    refine K s2 w2 _ p1 _ S2 (r1.trans r2) (by rw [List.length_append, List.length_singleton]; omega) (fun z hz => ?_)
    have hz := Option.some.inj hz
    subst hz
    have rr := r1.trans r2
    refine ⟨by simp, fun t => ?_⟩
    have := (S2.1.nd)
    rw [List.nodup_append] at this
    obtain ⟨-, ⟨u, e, -⟩, -⟩ := r1
    exact this.2.2 c (by rw [e]; exact List.mem_append_left _ t) c (by simp) rfl
  | succ j ih =>
    intro x4 x2 x3 s w1 ms1 p1 hj S1 r1 hl h0 h3
    have mk : (if x4 = 0 then 0 else 1) = 1 → c_Rd_readAnd_87 nl Ln xs (d + 3 * n + 4) 1034 (Int32.ofNat op) x2 x3 (Int32.ofNat x4) s F := by
      intro h1
      rw [h1] at hl
      refine w_Rd_readAnd_87 ⟨S1.1.isk, rd_node (d := d + 3 * n + 1) hk S1 (fun s2 w2 c S2 r2 n2 _ => ?_)⟩
      refine K s2 w2 _ p1 _ S2 (r1.trans r2) (by rw [List.length_append, List.length_singleton]; omega) (fun z hz => ?_)
      have hz := Option.some.inj hz
      subst hz
      refine ⟨by simp, fun t => ?_⟩
      have := (S2.1.nd)
      rw [List.nodup_append] at this
      obtain ⟨-, ⟨u, e, -⟩, -⟩ := r1
      exact this.2.2 c (by rw [e]; exact List.mem_append_left _ t) c (by simp) rfl
    obtain ⟨t1, t2, t3⟩ := S1.tok
    obtain ⟨g1, -⟩ := S1.rng hT
    obtain ⟨a1, a2, a3⟩ := S1.ar hT
    obtain ⟨-, -, ⟨f0, -, -⟩, k0, -, -⟩ := S1.1.1.1
    refine w_Rd_readAnd_31 ⟨fun _ => ⟨fun hn => mk (if_neg (fun z => (h0 z).2 hn)), fun hn => ⟨S1.1.isk, ?_⟩⟩, fun z => absurd (show Int32.ofNat x4 < Int32.ofNat 400 by rw [n32lt (by omega) (by omega)]; omega) z⟩
    rw [S1.2.2.1, f0, Option.getD_some, a3, t1]
    refine ⟨ar_mk k0 a1 a2, fun h13 => ?_, fun h13 => mk (if_neg (fun z => h13 (by rw [(h0 z).1]; rfl)))⟩
    have h13 : (m_hd (tk.drop p1)).1 = 13 := by
      rw [i32e, n32 (by omega), show (13 : Int32).toInt = 13 by decide] at h13
      omega
    obtain ⟨z, hz⟩ : ∃ z, x3 = some z := by
      cases h : x3 with
      | none => exact absurd h hn
      | some z => exact ⟨z, rfl⟩
    subst hz
    obtain ⟨hzm, hzn⟩ := h3 z rfl
    rintro s6 rfl
    have nx := S1.nxt hk hT (by rw [h13]; decide)
    refine hN (d := d) op _ w1 ms1 (p1 + 1) _ hop nx.1 (fun s9 w9 ms9 p9 a10 S9 r9 l9 n9 _ => ?_)
    have r19 := (r1.trans nx.2).trans r9
    obtain ⟨u, eu, -⟩ := r9.2.1
    have hz9 : z ∈ ms9 := by rw [eu]; exact List.mem_append_left _ hzm
    have kz := S9.1.2.2.2.1.2 z hz9
    rw [Option.getD_some]
    refine ⟨is_mk kz.2.1, ?_⟩
    rintro s12 rfl
    rintro v15 rfl
    rw [rR_same, n32s]
    have S12 : PaS (am_sfR s9 8003 z a10) w9 k L ms9 tk p9 flt := S9.link hz9 (by decide) hk
    refine ih (x4 + 1) x2 a10 _ w9 ms9 p9 (by omega) S12 (r19.link kz.1 (r1.new hzm hzn)) ?_ (fun z => absurd z (by omega)) (fun y hy => ⟨(n9 y hy).1, fun t => (n9 y hy).2 ?_⟩)
    · rw [if_neg (by omega)]
      have : (if x4 = 0 then 0 else 1) ≤ 1 := by split <;> omega
      omega
    · obtain ⟨-, ⟨v, ev, -⟩, -⟩ := r1
      rw [ev]
      exact List.mem_append_left _ t
theorem AndF_of {n : Nat} (hk : RdO k) (hT : TkW tk) (hN : NotF nl Ln xs k L tk flt n) : AndF nl Ln xs k L tk flt n := by
  intro d op σ w ms p F hop S K
  refine w_Rd_readAnd ⟨S.1.isk, hN (d := d) op σ w ms p _ hop S (fun s2 w2 ms2 p2 a3 S2 r2 l2 n2 _ => ⟨fun h => K s2 w2 ms2 p2 a3 S2 r2 l2 n2, fun h => ?_⟩)⟩
  obtain ⟨t1, t2, t3⟩ := S2.tok
  obtain ⟨g1, -⟩ := S2.rng hT
  obtain ⟨a1, a2, a4⟩ := S2.ar hT
  obtain ⟨-, -, ⟨f0, -, -⟩, k0, -, -⟩ := S2.1.1.1
  rw [S2.2.2.1, f0, Option.getD_some, a4, t1]
  refine ⟨ar_mk k0 a1 a2, fun h13 => ?_, fun h13 => K s2 w2 ms2 p2 a3 S2 r2 l2 n2⟩
  have h13 : (m_hd (tk.drop p2)).1 = 13 := by
    rw [i32e, n32 (by omega), show (13 : Int32).toInt = 13 by decide] at h13
    omega
  exact AndF_loop hk hT hN hop K 400 0 a3 a3 s2 w2 ms2 p2 (by omega) S2 r2 (by rw [if_pos rfl]; omega) (fun _ => ⟨h13, h⟩) n2
theorem OrF_loop {n d op : Nat} {σ : am_S} {w : ow_T} {ms : List Nat} {p : Nat} {F : Option Nat → am_S → Prop} (hk : RdO k) (hT : TkW tk) (hN : AndF nl Ln xs k L tk flt n) (hop : op + n = 20) (K : FltK k L tk flt σ w ms p F) : ∀ (j x4 : Nat) (x2 : Option Nat) (x3 : Option Nat) (s : am_S) (w1 : ow_T) (ms1 : List Nat) (p1 : Nat), j + x4 = 400 → PaS s w1 k L ms1 tk p1 flt → RdC k ms ms1 σ w s w1 → ms1.length + p + (if x4 = 0 then 0 else 1) ≤ ms.length + p1 → (x4 = 0 → (m_hd (tk.drop p1)).1 = 12 ∧ x3 ≠ none) → (∀ z, x3 = some z → z ∈ ms1 ∧ z ∉ ms) → c_Rd_readOr_31 nl Ln xs (d + 3 * n + 5) 1034 (Int32.ofNat op) x2 x3 (Int32.ofNat x4) s F := by
  intro j
  induction j with
  | zero =>
    intro x4 x2 x3 s w1 ms1 p1 hj S1 r1 hl h0 h3
    have hx : x4 = 400 := by omega
    subst hx
    rw [if_neg (by decide)] at hl
    refine w_Rd_readOr_31 ⟨fun z => absurd z (by decide), fun _ => w_Rd_readOr_87 ⟨S1.1.isk, rd_node (d := d + 3 * n + 2) hk S1 (fun s2 w2 c S2 r2 n2 _ => ?_)⟩⟩
    refine K s2 w2 _ p1 _ S2 (r1.trans r2) (by rw [List.length_append, List.length_singleton]; omega) (fun z hz => ?_)
    have hz := Option.some.inj hz
    subst hz
    have rr := r1.trans r2
    refine ⟨by simp, fun t => ?_⟩
    have := (S2.1.nd)
    rw [List.nodup_append] at this
    obtain ⟨-, ⟨u, e, -⟩, -⟩ := r1
    exact this.2.2 c (by rw [e]; exact List.mem_append_left _ t) c (by simp) rfl
  | succ j ih =>
    intro x4 x2 x3 s w1 ms1 p1 hj S1 r1 hl h0 h3
    have mk : (if x4 = 0 then 0 else 1) = 1 → c_Rd_readOr_87 nl Ln xs (d + 3 * n + 5) 1034 (Int32.ofNat op) x2 x3 (Int32.ofNat x4) s F := by
      intro h1
      rw [h1] at hl
      refine w_Rd_readOr_87 ⟨S1.1.isk, rd_node (d := d + 3 * n + 2) hk S1 (fun s2 w2 c S2 r2 n2 _ => ?_)⟩
      refine K s2 w2 _ p1 _ S2 (r1.trans r2) (by rw [List.length_append, List.length_singleton]; omega) (fun z hz => ?_)
      have hz := Option.some.inj hz
      subst hz
      refine ⟨by simp, fun t => ?_⟩
      have := (S2.1.nd)
      rw [List.nodup_append] at this
      obtain ⟨-, ⟨u, e, -⟩, -⟩ := r1
      exact this.2.2 c (by rw [e]; exact List.mem_append_left _ t) c (by simp) rfl
    obtain ⟨t1, t2, t3⟩ := S1.tok
    obtain ⟨g1, -⟩ := S1.rng hT
    obtain ⟨a1, a2, a3⟩ := S1.ar hT
    obtain ⟨-, -, ⟨f0, -, -⟩, k0, -, -⟩ := S1.1.1.1
    refine w_Rd_readOr_31 ⟨fun _ => ⟨fun hn => mk (if_neg (fun z => (h0 z).2 hn)), fun hn => ⟨S1.1.isk, ?_⟩⟩, fun z => absurd (show Int32.ofNat x4 < Int32.ofNat 400 by rw [n32lt (by omega) (by omega)]; omega) z⟩
    rw [S1.2.2.1, f0, Option.getD_some, a3, t1]
    refine ⟨ar_mk k0 a1 a2, fun h13 => ?_, fun h13 => mk (if_neg (fun z => h13 (by rw [(h0 z).1]; rfl)))⟩
    have h13 : (m_hd (tk.drop p1)).1 = 12 := by
      rw [i32e, n32 (by omega), show (12 : Int32).toInt = 12 by decide] at h13
      omega
    obtain ⟨z, hz⟩ : ∃ z, x3 = some z := by
      cases h : x3 with
      | none => exact absurd h hn
      | some z => exact ⟨z, rfl⟩
    subst hz
    obtain ⟨hzm, hzn⟩ := h3 z rfl
    rintro s6 rfl
    have nx := S1.nxt hk hT (by rw [h13]; decide)
    refine hN (d := d) op _ w1 ms1 (p1 + 1) _ hop nx.1 (fun s9 w9 ms9 p9 a10 S9 r9 l9 n9 _ => ?_)
    have r19 := (r1.trans nx.2).trans r9
    obtain ⟨u, eu, -⟩ := r9.2.1
    have hz9 : z ∈ ms9 := by rw [eu]; exact List.mem_append_left _ hzm
    have kz := S9.1.2.2.2.1.2 z hz9
    rw [Option.getD_some]
    refine ⟨is_mk kz.2.1, ?_⟩
    rintro s12 rfl
    rintro v15 rfl
    rw [rR_same, n32s]
    have S12 : PaS (am_sfR s9 8003 z a10) w9 k L ms9 tk p9 flt := S9.link hz9 (by decide) hk
    refine ih (x4 + 1) x2 a10 _ w9 ms9 p9 (by omega) S12 (r19.link kz.1 (r1.new hzm hzn)) ?_ (fun z => absurd z (by omega)) (fun y hy => ⟨(n9 y hy).1, fun t => (n9 y hy).2 ?_⟩)
    · rw [if_neg (by omega)]
      have : (if x4 = 0 then 0 else 1) ≤ 1 := by split <;> omega
      omega
    · obtain ⟨-, ⟨v, ev, -⟩, -⟩ := r1
      rw [ev]
      exact List.mem_append_left _ t
theorem OrF_of {n : Nat} (hk : RdO k) (hT : TkW tk) (hN : AndF nl Ln xs k L tk flt n) : OrF nl Ln xs k L tk flt n := by
  intro d op σ w ms p F hop S K
  refine w_Rd_readOr ⟨S.1.isk, hN (d := d) op σ w ms p _ hop S (fun s2 w2 ms2 p2 a3 S2 r2 l2 n2 _ => ⟨fun h => K s2 w2 ms2 p2 a3 S2 r2 l2 n2, fun h => ?_⟩)⟩
  obtain ⟨t1, t2, t3⟩ := S2.tok
  obtain ⟨g1, -⟩ := S2.rng hT
  obtain ⟨a1, a2, a4⟩ := S2.ar hT
  obtain ⟨-, -, ⟨f0, -, -⟩, k0, -, -⟩ := S2.1.1.1
  rw [S2.2.2.1, f0, Option.getD_some, a4, t1]
  refine ⟨ar_mk k0 a1 a2, fun h13 => ?_, fun h13 => K s2 w2 ms2 p2 a3 S2 r2 l2 n2⟩
  have h13 : (m_hd (tk.drop p2)).1 = 12 := by
    rw [i32e, n32 (by omega), show (12 : Int32).toInt = 12 by decide] at h13
    omega
  exact OrF_loop hk hT hN hop K 400 0 a3 a3 s2 w2 ms2 p2 (by omega) S2 r2 (by rw [if_pos rfl]; omega) (fun _ => ⟨h13, h⟩) n2
theorem NotF_all (hf : flt ≠ -1) (hk : RdO k) (hT : TkW tk) : ∀ n, NotF nl Ln xs k L tk flt n := by
  intro n
  induction n with
  | zero =>
    intro d op σ w ms p F hop S K
    have hop : op = 20 := by omega
    subst hop
    obtain ⟨t1, t2, t3⟩ := S.tok
    obtain ⟨a1, a2, a3⟩ := S.ar hT
    obtain ⟨-, -, ⟨f0, -, -⟩, k0, -, -⟩ := S.1.1.1
    have no : F none σ := K σ w ms p none S (RdC.rf S.1.o) (by omega) (fun z hz => absurd hz (by simp))
    have c22 : ∀ v3, c_Rd_readNot_22 nl Ln xs (d + 3 * 0 + 3) 1034 (Int32.ofNat 20) v3 σ F := fun v3 => w_Rd_readNot_22 ⟨fun z => absurd z (by decide), fun _ => ⟨S.1.isk, rd_failF hf S (fun _ => no)⟩⟩
    refine w_Rd_readNot ⟨S.1.isk, ?_⟩
    rw [S.2.2.1, f0, Option.getD_some, a3, t1]
    refine ⟨ar_mk k0 a1 a2, ?_⟩
    rintro v3 rfl
    refine ⟨fun _ => c22 _, fun h14 => ⟨fun _ => c22 _, fun h27 => w_Rd_readNot_33 ⟨fun z => absurd z h14, fun _ => ⟨fun z => absurd z h27, fun _ => ⟨S.1.isk, rd_takeF hf S (fun _ => ⟨fun z => absurd z (by decide), fun _ => no⟩)⟩⟩⟩⟩⟩
  | succ n ih =>
    intro d op σ w ms p F hop S K
    have hA := AndF_of hk hT ih
    have hO := OrF_of hk hT hA
    obtain ⟨t1, t2, t3⟩ := S.tok
    obtain ⟨g1, -⟩ := S.rng hT
    obtain ⟨a1, a2, a3⟩ := S.ar hT
    obtain ⟨-, -, ⟨f0, -, -⟩, k0, -, -⟩ := S.1.1.1
    have no : F none σ := K σ w ms p none S (RdC.rf S.1.o) (by omega) (fun z hz => absurd hz (by simp))
    have lt : Int32.ofNat op < 20 := by
      show Int32.ofNat op < Int32.ofNat 20
      rw [n32lt (by omega) (by omega)]
      omega
    have tok : ∀ {m : Nat}, m ≤ 31 → Int32.ofNat (m_hd (tk.drop p)).1 = Int32.ofNat m → (m_hd (tk.drop p)).1 = m := fun hm h => by
      rw [i32e, n32 (by omega), n32 (by omega)] at h
      omega
    have c33 : c_Rd_readNot_33 nl Ln xs (d + 3 * (n + 1) + 3) 1034 (Int32.ofNat op) (Int32.ofNat (m_hd (tk.drop p)).1) σ F := by
      refine w_Rd_readNot_33 ⟨fun h14 => ⟨S.1.isk, ?_⟩, fun h14 => ⟨fun h27 => ⟨S.1.isk, ?_⟩, fun h27 => ⟨S.1.isk, rd_takeF hf S (fun _ => ⟨fun z => absurd z (by decide), fun _ => no⟩)⟩⟩⟩
      · have h14 := tok (m := 14) (by decide) h14
        rw [S.2.2.1]
        rintro s3 rfl
        have nx := S.nxt hk hT (by rw [h14]; decide)
        rw [n32s op]
        show k_Rd_readNot nl Ln xs (d + 3 * (n + 1) + 2) 1034 (Int32.ofNat (op + 1)) _ _
        rw [show d + 3 * (n + 1) + 2 = (d + 2) + 3 * n + 3 by omega]
        refine ih (d := d + 2) (op + 1) _ w ms (p + 1) _ (by omega) nx.1 (fun s6 w6 ms6 p6 a7 S6 r6 l6 n6 _ => ⟨fun h => ?_, fun h => ?_⟩)
        · exact K s6 w6 ms6 p6 none S6 (nx.2.trans r6) (by omega) (fun z hz => absurd hz (by simp))
        · refine rd_node (d := d + 2 + 3 * n + 1) hk S6 (fun s9 w9 c S9 r9 n9 _ => ?_)
          refine K s9 w9 _ p6 _ S9 ((nx.2.trans r6).trans r9) (by rw [List.length_append, List.length_singleton]; omega) (fun z hz => ?_)
          have hz := Option.some.inj hz
          subst hz
          refine ⟨by simp, fun t => ?_⟩
          have := S9.1.nd
          rw [List.nodup_append] at this
          obtain ⟨-, ⟨u, e, -⟩, -⟩ := r6
          exact this.2.2 c (by rw [e]; exact List.mem_append_left _ t) c (by simp) rfl
      · have h27 := tok (m := 27) (by decide) h27
        rw [S.2.2.1]
        rintro s3 rfl
        have nx := S.nxt hk hT (by rw [h27]; decide)
        rw [n32s]
        refine hO (d := d) (op + 1) _ w ms (p + 1) _ (by omega) nx.1 (fun s6 w6 ms6 p6 a7 S6 r6 l6 n6 _ => rd_takeF hf S6 (fun _ => ?_))
        rintro w22 rfl
        exact K s6 w6 ms6 p6 _ S6 (nx.2.trans r6) (by omega) (fun z hz => absurd hz (by simp))
    refine w_Rd_readNot ⟨S.1.isk, ?_⟩
    rw [S.2.2.1, f0, Option.getD_some, a3, t1]
    refine ⟨ar_mk k0 a1 a2, ?_⟩
    rintro v3 rfl
    exact ⟨fun _ => w_Rd_readNot_22 ⟨fun _ => c33, fun z => absurd lt z⟩, fun _ => ⟨fun _ => w_Rd_readNot_22 ⟨fun _ => c33, fun z => absurd lt z⟩, fun _ => c33⟩⟩
end
