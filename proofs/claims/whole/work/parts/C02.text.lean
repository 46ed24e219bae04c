/-! CLAUSES in letters: as one text -/
/-- the number of a word's text -/
def wT (c : Nat) : Nat := [21, 9, 34, 33, 17, 13, 10, 11, 19, 31, 32, 22, 30, 29, 23, 24, 25, 26, 27, 28, 2, 3, 4, 5, 6, 7].getD c 0
theorem wT_ok : ∀ c, c < 26 → 2 ≤ wT c ∧ wT c < 35 := by decide
theorem nm_word : ∀ c, c < 26 → (((txt 0).drop (8 * c)).take 8).takeWhile (fun x => decide (x ≠ 32)) = txt (wT c) := by decide +kernel
theorem nm_len : (txt 0).length = 208 := by decide +kernel
theorem nm_byte : ∀ j, j < 208 → (txt 0).getD j 0 &&& 255 = (txt 0).getD j 0 := by decide +kernel
/-- something that ends a token -/
def gE (s : List Int32) : Prop := s ≠ [] ∧ s.getLastD 10 ≠ 10 ∧ s.getLastD 10 ≠ 40
theorem wd_all : (List.range 35).all (fun n => decide (n < 2) || (decide ((txt n).headD 0 ≠ 59) && (decide ((txt n).headD 0 ≠ 41) && (decide (txt n ≠ []) && (decide ((txt n).getLastD 10 ≠ 10) && decide ((txt n).getLastD 10 ≠ 40)))))) = true := by decide +kernel
theorem txt_35 : txt 35 = [40] := by decide +kernel
theorem txt_36 : txt 36 = [41] := by decide +kernel
theorem txt_37 : txt 37 = [59] := by decide +kernel
theorem wd_ok {n : Nat} (h0 : 2 ≤ n) (h1 : n < 35) : ((txt n).headD 0 ≠ 59 ∧ (txt n).headD 0 ≠ 41) ∧ gE (txt n) := by
  have := List.all_eq_true.mp wd_all n (List.mem_range.mpr h1)
  rw [Bool.or_eq_true, decide_eq_true_eq, Bool.and_eq_true, Bool.and_eq_true, Bool.and_eq_true, Bool.and_eq_true, decide_eq_true_eq, decide_eq_true_eq, decide_eq_true_eq, decide_eq_true_eq, decide_eq_true_eq] at this
  rcases this with q | q
  · omega
  · exact ⟨⟨q.1, q.2.1⟩, q.2.2⟩
theorem lastD_app {l s : List Int32} (h : s ≠ []) : (l ++ s).getLastD 10 = s.getLastD 10 := by
  rw [List.getLastD_eq_getLast?, List.getLastD_eq_getLast?, List.getLast?_append]
  obtain ⟨x, hx⟩ : ∃ x, s.getLast? = some x := ⟨s.getLast h, List.getLast?_eq_some_getLast h⟩
  rw [hx]
  rfl
theorem gE.app {l s : List Int32} (h : gE s) : gE (l ++ s) := by
  refine ⟨fun z => h.1 (List.append_eq_nil_iff.mp z).2, ?_⟩
  rw [lastD_app h.1]
  exact h.2
/-- the blank before a token -/
def spc (L : List Int32) : List Int32 := if L.getLastD 10 = 10 ∨ L.getLastD 10 = 40 then [] else [32]
theorem spc_g {L s : List Int32} (h : gE s) : spc (L ++ s) = [32] := by
  unfold spc
  rw [lastD_app h.1, if_neg]
  rintro (z | z)
  · exact h.2.1 z
  · exact h.2.2 z
theorem spc_40 {L : List Int32} : spc (L ++ [40]) = [] := by
  unfold spc
  rw [lastD_app (by simp)]
  decide
theorem spc_10 {L : List Int32} : spc (L ++ [10]) = [] := by
  unfold spc
  rw [lastD_app (by simp)]
  decide
theorem tok_s {L s : List Int32} (h1 : s.headD 0 ≠ 59) (h2 : s.headD 0 ≠ 41) : d_tok L s = L ++ (spc L ++ s) := by
  unfold d_tok spc
  by_cases h : L.getLastD 10 = 10 ∨ L.getLastD 10 = 40
  · rw [if_pos (by rcases h with h | h; exact Or.inl h; exact Or.inr (Or.inl h)), if_pos h, List.nil_append]
  · rw [if_neg (by
      rintro (z | z | z | z)
      · exact h (Or.inl z)
      · exact h (Or.inr z)
      · exact h1 z
      · exact h2 z), if_neg h]
    rfl
theorem tok_w {L : List Int32} {n : Nat} (h0 : 2 ≤ n) (h1 : n < 35) : d_tok L (txt n) = L ++ (spc L ++ txt n) := tok_s (wd_ok h0 h1).1.1 (wd_ok h0 h1).1.2
theorem tok_c {L s : List Int32} (h : s.headD 0 = 59 ∨ s.headD 0 = 41) : d_tok L s = L ++ s := by
  unfold d_tok
  rw [if_pos (Or.inr (Or.inr h))]
theorem gE_num (v : Int64) : gE (d_num v) := by
  have key : ∀ f n, 0 < f → ∃ l k, d_dgs f n = l ++ [Int32.ofNat (48 + k)] ∧ k < 10 := by
    intro f n hf
    cases f with
    | zero => omega
    | succ f =>
      rw [d_dgs]
      split
      · exact ⟨[], n, rfl, by assumption⟩
      · exact ⟨_, n % 10, rfl, Nat.mod_lt _ (by decide)⟩
  obtain ⟨l, k, h1, h2⟩ := key 20 v.toInt.natAbs (by decide)
  have hd : ∀ k, k < 10 → Int32.ofNat (48 + k) ≠ 10 ∧ Int32.ofNat (48 + k) ≠ 40 := by decide
  unfold d_num
  rw [h1]
  refine gE.app (gE.app ⟨by simp, ?_⟩)
  exact hd k h2
def bra (op ar : Nat) : Bool := decide ((op = 0 ∧ ar ≠ 0) ∨ (op = 1 ∧ ar = 2))
/-- a condition: op what joins, ar what stands around -/
def tx : mF → Nat → Nat → List Int32
  | .append a b, op, ar => (if bra op ar = true then [40] else []) ++ (tx a op op ++ ([32] ++ (txt (wT (12 + op)) ++ ([32] ++ (tx b op op ++ (if bra op ar = true then [41] else []))))))
  | .tag k a, _, ar => if k = 2 then txt (wT 14) ++ ([32] ++ tx a 0 2) else tx a k ar
  | .nest c (.nest n .nil), _, _ => txt (wT (c.toNat + 12)) ++ ([32] ++ (if c = 7 then txt (wT (n.toNat + 20)) else d_num (Int64.ofInt n)))
  | _, _, _ => []
theorem cnd_tx : ∀ (f : mF) (op ar : Nat), tgO f → op ≤ 1 → gE (tx f op ar) ∧ ∀ L, d_cnd f op ar L = L ++ (spc L ++ tx f op ar) := by
  intro f
  induction f with
  | append a b iha ihb =>
    intro op ar hf hop
    obtain ⟨ga, ea⟩ := iha op op hf.1 hop
    obtain ⟨gb, eb⟩ := ihb op op hf.2.1 hop
    have gw : gE (txt (wT (12 + op))) := (wd_ok (wT_ok (12 + op) (by omega)).1 (wT_ok (12 + op) (by omega)).2).2
    have ew : (if op = 0 then txt 30 else txt 29) = txt (wT (12 + op)) := by
      rcases (show op = 0 ∨ op = 1 by omega) with rfl | rfl <;> rfl
    have tw : ∀ L, d_tok L (txt (wT (12 + op))) = L ++ (spc L ++ txt (wT (12 + op))) := fun L => tok_w (wT_ok (12 + op) (by omega)).1 (wT_ok (12 + op) (by omega)).2
    refine ⟨?_, fun L => ?_⟩
    · rw [tx]
      split
      · refine gE.app (gE.app (gE.app (gE.app (gE.app (gE.app ⟨by simp, by decide⟩)))))
      · rw [List.append_nil]
        exact gE.app (gE.app (gE.app (gE.app (gE.app gb))))
    · rw [d_cnd, tx]
      show (if bra op ar = true then d_tok (d_cnd b op op (d_tok (d_cnd a op op (if bra op ar = true then d_tok L (txt 35) else L)) (if op = 0 then txt 30 else txt 29))) (txt 36) else d_cnd b op op (d_tok (d_cnd a op op (if bra op ar = true then d_tok L (txt 35) else L)) (if op = 0 then txt 30 else txt 29))) = _
      rw [ew]
      cases bra op ar with
      | true =>
        rw [if_pos rfl, if_pos rfl, if_pos rfl, if_pos rfl, txt_35, txt_36, tok_s (s := [40]) (by decide) (by decide), ← List.append_assoc L, ea, spc_40, List.nil_append, tw, spc_g ga, eb]
        rw [show L ++ spc L ++ [40] ++ tx a op op ++ ([32] ++ txt (wT (12 + op))) = (L ++ spc L ++ [40] ++ tx a op op ++ [32]) ++ txt (wT (12 + op)) by simp only [List.append_assoc], spc_g gw, tok_c (Or.inr rfl)]
        simp only [List.append_assoc]
      | false =>
        rw [if_neg (by decide), if_neg (by decide), if_neg (by decide), if_neg (by decide), ea, tw, ← List.append_assoc L (spc L), spc_g ga, eb]
        rw [show L ++ spc L ++ tx a op op ++ ([32] ++ txt (wT (12 + op))) = (L ++ spc L ++ tx a op op ++ [32]) ++ txt (wT (12 + op)) by simp only [List.append_assoc], spc_g gw]
        simp only [List.append_assoc, List.append_nil, List.nil_append]
  | tag k a iha =>
    intro op ar hf hop
    obtain ⟨h1, h2⟩ := hf
    rw [tx]
    by_cases hk : k = 2
    · rw [if_pos hk]
      obtain ⟨ga, ea⟩ := iha 0 2 h2 (by omega)
      refine ⟨gE.app (gE.app ga), fun L => ?_⟩
      rw [d_cnd, if_pos hk, show txt 23 = txt (wT 14) from rfl, tok_w (by decide) (by decide), ea, ← List.append_assoc L, spc_g (wd_ok (n := wT 14) (by decide) (by decide)).2]
      simp only [List.append_assoc]
    · rw [if_neg hk]
      rw [if_neg hk] at h1
      obtain ⟨ga, ea⟩ := iha k ar h2 h1.1
      refine ⟨ga, fun L => ?_⟩
      rw [d_cnd, if_neg hk]
      exact ea L
  | nest c a _ =>
    intro op ar hf hop
    cases a with
    | nest n b =>
      cases b with
      | nil =>
        obtain ⟨c1, c2, n1, n2, n3⟩ := hf
        have hw : c.toNat + 12 < 26 := by omega
        have gw := (wd_ok (wT_ok _ hw).1 (wT_ok _ hw).2).2
        rw [tx]
        by_cases h7 : c = 7
        · rw [if_pos h7]
          have hn := n3 h7
          have hw2 : n.toNat + 20 < 26 := by omega
          refine ⟨gE.app (gE.app (wd_ok (wT_ok _ hw2).1 (wT_ok _ hw2).2).2), fun L => ?_⟩
          have e1 : txt 28 = txt (wT (c.toNat + 12)) := by rw [h7]; rfl
          have e2 : d_kindW n.toNat = txt (wT (n.toNat + 20)) := by
            unfold d_kindW
            have : ∀ m, m ≤ 5 → m + 2 = wT (m + 20) := by decide
            rw [this n.toNat (by omega)]
          rw [d_cnd, if_pos h7, e1, e2, tok_w (wT_ok _ hw).1 (wT_ok _ hw).2, tok_w (wT_ok _ hw2).1 (wT_ok _ hw2).2, ← List.append_assoc L, spc_g gw]
          simp only [List.append_assoc]
        · rw [if_neg h7]
          refine ⟨gE.app (gE.app (gE_num _)), fun L => ?_⟩
          have e1 : (if c = 3 then txt 24 else if c = 4 then txt 25 else if c = 5 then txt 26 else txt 27) = txt (wT (c.toNat + 12)) := by
            rcases (show c = 3 ∨ c = 4 ∨ c = 5 ∨ c = 6 by omega) with rfl | rfl | rfl | rfl <;> rfl
          rw [d_cnd, if_neg h7, e1, tok_w (wT_ok _ hw).1 (wT_ok _ hw).2]
          unfold d_tokN
          simp only [List.append_assoc, List.cons_append, List.nil_append]
      | _ => exact absurd hf (by simp [tgO])
    | _ => exact absurd hf (by simp [tgO])
  | _ => intro op ar hf hop; exact absurd hf (by simp [tgO])
/-- a clause, but for its end -/
def clT (c : mCl) : List Int32 :=
  if c.1.toInt ≤ 1 then txt (wT c.1.toInt.toNat) ++ ([32] ++ (txt (wT (20 + c.2.1.toInt.toNat)) ++ (match c.2.2 with
    | none => []
    | some f => [32] ++ (txt (wT 11) ++ ([32] ++ tx f 0 0)))))
  else if c.1 = 8 then txt (wT 7)
  else if c.1 = 10 ∨ c.1 = 11 then txt (wT 9) ++ ([32] ++ txt (wT (if c.1 = 10 then 10 else 3)))
  else (if c.1 = 5 ∨ c.1 = 6 then txt (wT 5) ++ [32] else []) ++ (txt (wT (if c.1 = 2 then 2 else if c.1 = 3 ∨ c.1 = 5 then 3 else if c.1 = 4 ∨ c.1 = 6 then 4 else if c.1 = 7 then 6 else 8)) ++ ([32] ++ d_num c.2.1.toInt64))
theorem cl_tx {c : mCl} (h : ClC c) (L : List Int32) (hL : spc L = []) : d_cl L c = L ++ (clT c ++ [59, 10]) := by
  obtain ⟨⟨c0, c1, n0, n1, n5⟩, hf⟩ := h
  have wk : ∀ k, k < 26 → gE (txt (wT k)) := fun k hk => (wd_ok (wT_ok k hk).1 (wT_ok k hk).2).2
  have tk : ∀ k, k < 26 → ∀ l, d_tok l (txt (wT k)) = l ++ (spc l ++ txt (wT k)) := fun k hk l => tok_w (wT_ok k hk).1 (wT_ok k hk).2
  have fin : ∀ s, d_clA L c = L ++ s → s = clT c → d_cl L c = L ++ (clT c ++ [59, 10]) := fun s h1 h2 => by
    unfold d_cl
    rw [h1, h2, tok_c (by rw [txt_37]; exact Or.inl rfl), txt_37]
    simp only [List.append_assoc, List.cons_append, List.nil_append]
  refine fin (clT c) ?_ rfl
  unfold d_clA clT
  have e01 : ∀ k : Int32, (k.toInt = 0 ↔ k = 0) := fun k => by rw [i32e]; rfl
  by_cases h1 : c.1.toInt ≤ 1
  · rw [if_pos h1, if_pos h1]
    have hn5 := n5 h1
    have ea : (if c.1 = 0 then txt 21 else txt 9) = txt (wT c.1.toInt.toNat) := by
      by_cases q : c.1 = 0
      · rw [if_pos q, q]; rfl
      · have : c.1.toInt = 1 := by
          have : c.1.toInt ≠ 0 := fun z => q ((e01 _).mp z)
          omega
        rw [if_neg q, this]; rfl
    have eb : d_kindW c.2.1.toInt.toNat = txt (wT (20 + c.2.1.toInt.toNat)) := by
      unfold d_kindW
      have : ∀ m, m ≤ 5 → m + 2 = wT (20 + m) := by decide
      rw [this c.2.1.toInt.toNat (by omega)]
    rw [ea, eb, tk c.1.toInt.toNat (by omega) L, hL, List.nil_append, tk (20 + c.2.1.toInt.toNat) (by omega), spc_g (wk _ (by omega))]
    cases hc : c.2.2 with
    | none =>
      dsimp only
      simp only [List.append_assoc, List.append_nil]
    | some f =>
      dsimp only
      have hff := hf f hc
      have ef := (cnd_tx f 0 0 hff.2.1 (by omega)).2
      rw [show txt 22 = txt (wT 11) from rfl, tk 11 (by decide), ef]
      rw [show L ++ txt (wT c.1.toInt.toNat) ++ ([32] ++ txt (wT (20 + c.2.1.toInt.toNat))) = (L ++ txt (wT c.1.toInt.toNat) ++ [32]) ++ txt (wT (20 + c.2.1.toInt.toNat)) by simp only [List.append_assoc], spc_g (wk _ (by omega))]
      rw [show L ++ txt (wT c.1.toInt.toNat) ++ [32] ++ txt (wT (20 + c.2.1.toInt.toNat)) ++ ([32] ++ txt (wT 11)) = (L ++ txt (wT c.1.toInt.toNat) ++ [32] ++ txt (wT (20 + c.2.1.toInt.toNat)) ++ [32]) ++ txt (wT 11) by simp only [List.append_assoc], spc_g (wk 11 (by decide))]
      simp only [List.append_assoc]
  · rw [if_neg h1, if_neg h1]
    by_cases h8 : c.1 = 8
    · rw [if_pos h8, if_pos h8, show txt 11 = txt (wT 7) from rfl, tk 7 (by decide), hL, List.nil_append]
    · rw [if_neg h8, if_neg h8]
      by_cases h10 : c.1 = 10 ∨ c.1 = 11
      · rw [if_pos h10, if_pos h10]
        have ea : (if c.1 = 10 then txt 32 else txt 33) = txt (wT (if c.1 = 10 then 10 else 3)) := by split <;> rfl
        have hk : (if c.1 = 10 then 10 else 3) < 26 := by split <;> omega
        rw [ea, show txt 31 = txt (wT 9) from rfl, tk 9 (by decide), hL, List.nil_append, tk _ hk, spc_g (wk 9 (by decide))]
        simp only [List.append_assoc]
      · rw [if_neg h10, if_neg h10]
        have ea : (if c.1 = 2 then txt 34 else if c.1 = 3 ∨ c.1 = 5 then txt 33 else if c.1 = 4 ∨ c.1 = 6 then txt 17 else if c.1 = 7 then txt 10 else txt 19) = txt (wT (if c.1 = 2 then 2 else if c.1 = 3 ∨ c.1 = 5 then 3 else if c.1 = 4 ∨ c.1 = 6 then 4 else if c.1 = 7 then 6 else 8)) := by
          split
          · rfl
          · split
            · rfl
            · split
              · rfl
              · split <;> rfl
        have hk : (if c.1 = 2 then 2 else if c.1 = 3 ∨ c.1 = 5 then 3 else if c.1 = 4 ∨ c.1 = 6 then 4 else if c.1 = 7 then 6 else 8) < 26 := by
          split
          · omega
          · split
            · omega
            · split
              · omega
              · split <;> omega
        rw [ea]
        unfold d_tokN
        by_cases h56 : c.1 = 5 ∨ c.1 = 6
        · rw [if_pos h56, if_pos h56, show txt 13 = txt (wT 5) from rfl, tk 5 (by decide), hL, List.nil_append, tk _ hk, spc_g (wk 5 (by decide))]
          simp only [List.append_assoc, List.cons_append, List.nil_append]
        · rw [if_neg h56, if_neg h56, tk _ hk, hL]
          simp only [List.append_assoc, List.cons_append, List.nil_append]
theorem cls_tx : ∀ (C : List mCl) (L : List Int32), (∀ c ∈ C, ClC c) → spc L = [] → d_cls L C = L ++ C.flatMap (fun c => clT c ++ [59, 10])
  | [], L, _, _ => by
    rw [d_cls, List.flatMap_nil, List.append_nil]
  | c :: C, L, h, hL => by
    rw [d_cls, cl_tx (h c List.mem_cons_self) L hL, cls_tx C _ (fun x hx => h x (List.mem_cons_of_mem _ hx)), List.flatMap_cons, List.append_assoc]
    rw [show L ++ (clT c ++ [59, 10]) = (L ++ (clT c ++ [59])) ++ [10] by simp only [List.append_assoc, List.cons_append, List.nil_append]]
    exact spc_10
