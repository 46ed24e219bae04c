/-! A CALCULUS OF STEPS, second part: branches, calls, returns -/
theorem am_cc_eq {a b : Int32} : am_cc .eq a b = true ↔ a = b := by simp [am_cc]
theorem am_cc_ne {a b : Int32} : am_cc .ne a b = true ↔ ¬ a = b := by simp [am_cc]
theorem am_cc_lt {a b : Int32} : am_cc .lt a b = true ↔ a < b := by simp [am_cc]
theorem am_cc_ge {a b : Int32} : am_cc .ge a b = true ↔ ¬ a < b := by simp [am_cc, Int32.not_lt]
theorem am_cc_gt {a b : Int32} : am_cc .gt a b = true ↔ b < a := by simp [am_cc]
theorem am_cc_le {a b : Int32} : am_cc .le a b = true ↔ ¬ b < a := by simp [am_cc, Int32.not_lt]
theorem am_cb_ne {P : Prop} [Decidable P] : am_cc .ne (if P then 1 else 0) 0 = true ↔ P := by
  by_cases h : P
  · rw [if_pos h]; exact ⟨fun _ => h, fun _ => by decide⟩
  · rw [if_neg h]; exact ⟨fun h1 => absurd h1 (by decide), fun h1 => absurd h1 h⟩
theorem am_cb_eq {P : Prop} [Decidable P] : am_cc .eq (if P then 1 else 0) 0 = true ↔ ¬ P := by
  by_cases h : P
  · rw [if_pos h]; exact ⟨fun h1 => absurd h1 (by decide), fun h1 => absurd h h1⟩
  · rw [if_neg h]; exact ⟨fun _ => h, fun _ => by decide⟩
section
variable {a b : Int64}
theorem am_cl_3 : (a < b ∧ ¬ b < a ∧ a ≠ b) ∨ (a = b ∧ ¬ a < b ∧ ¬ b < a) ∨ (b < a ∧ ¬ a < b ∧ a ≠ b) := by grind
theorem am_cl_eq : am_cc .eq (lg_cmp a b) 0 = true ↔ a = b := by
  unfold lg_cmp
  rcases am_cl_3 (a := a) (b := b) with h | h | h <;> grind [am_cc]
theorem am_cl_ne : am_cc .ne (lg_cmp a b) 0 = true ↔ ¬ a = b := by
  unfold lg_cmp
  rcases am_cl_3 (a := a) (b := b) with h | h | h <;> grind [am_cc]
theorem am_cl_lt : am_cc .lt (lg_cmp a b) 0 = true ↔ a < b := by
  unfold lg_cmp
  rcases am_cl_3 (a := a) (b := b) with h | h | h <;> grind [am_cc]
theorem am_cl_ge : am_cc .ge (lg_cmp a b) 0 = true ↔ ¬ a < b := by
  unfold lg_cmp
  rcases am_cl_3 (a := a) (b := b) with h | h | h <;> grind [am_cc]
theorem am_cl_gt : am_cc .gt (lg_cmp a b) 0 = true ↔ b < a := by
  unfold lg_cmp
  rcases am_cl_3 (a := a) (b := b) with h | h | h <;> grind [am_cc]
theorem am_cl_le : am_cc .le (lg_cmp a b) 0 = true ↔ ¬ b < a := by
  unfold lg_cmp
  rcases am_cl_3 (a := a) (b := b) with h | h | h <;> grind [am_cc]
end
section AmK2
variable {T : am_T} {d x pc pc' : Nat} {L : List (Option Value)} {st : List Value} {σ : am_S} {Q : Option Value → am_S → Prop} {ns : List Nat} {i : Instr}
theorem s_if {c : ClassFile.Cond} {off : Int} {t : Nat} {a : Int32} {P : Prop} (hj : am_J T x pc (.ifCond c off) pc' ns) (hl : pc' - pc = 3) (ht : am_j pc off = some t) (hc : am_cc c a 0 = true ↔ P) (h1 : P → am_C T d x t L st σ Q) (h2 : ¬ P → am_C T d x pc' L st σ Q) : am_C T d x pc L (.int a :: st) σ Q := by
  by_cases hp : P
  · refine am_C_h hj rfl rfl (p1 := t) ?_ (h1 hp)
    simp only [am_h, am_p, ht, hl, hc.mpr hp, if_true]
  · have e : am_cc c a 0 = false := by
      cases hq : am_cc c a 0 with
      | false => rfl
      | true => exact absurd (hc.mp hq) hp
    refine am_C_h hj rfl rfl (p1 := pc + 3) ?_ (by rw [am_dl hl (by decide)]; exact h2 hp)
    simp only [am_h, am_p, ht, hl, e, if_true]
    rfl
theorem s_ifn {c : ClassFile.Cond} {off : Int} {t : Nat} {a : Int32} {P : Prop} (hj : am_J T x pc (.ifCond c off) pc' ns) (hl : pc' - pc = 3) (ht : am_j pc off = some t) (hc : am_cc c a 0 = true ↔ ¬ P) (h1 : ¬ P → am_C T d x t L st σ Q) (h2 : P → am_C T d x pc' L st σ Q) : am_C T d x pc L (.int a :: st) σ Q :=
  s_if hj hl ht hc h1 (fun h => h2 (Classical.byContradiction h))
theorem s_ic {c : ClassFile.Cond} {off : Int} {t : Nat} {a b : Int32} {P : Prop} (hj : am_J T x pc (.if_icmp c off) pc' ns) (hl : pc' - pc = 3) (ht : am_j pc off = some t) (hc : am_cc c a b = true ↔ P) (h1 : P → am_C T d x t L st σ Q) (h2 : ¬ P → am_C T d x pc' L st σ Q) : am_C T d x pc L (.int b :: .int a :: st) σ Q := by
  by_cases hp : P
  · refine am_C_h hj rfl rfl (p1 := t) ?_ (h1 hp)
    simp only [am_h, am_p, ht, hl, hc.mpr hp, if_true]
  · have e : am_cc c a b = false := by
      cases hq : am_cc c a b with
      | false => rfl
      | true => exact absurd (hc.mp hq) hp
    refine am_C_h hj rfl rfl (p1 := pc + 3) ?_ (by rw [am_dl hl (by decide)]; exact h2 hp)
    simp only [am_h, am_p, ht, hl, e, if_true]
    rfl
theorem s_icn {c : ClassFile.Cond} {off : Int} {t : Nat} {a b : Int32} {P : Prop} (hj : am_J T x pc (.if_icmp c off) pc' ns) (hl : pc' - pc = 3) (ht : am_j pc off = some t) (hc : am_cc c a b = true ↔ ¬ P) (h1 : ¬ P → am_C T d x t L st σ Q) (h2 : P → am_C T d x pc' L st σ Q) : am_C T d x pc L (.int b :: .int a :: st) σ Q :=
  s_ic hj hl ht hc h1 (fun h => h2 (Classical.byContradiction h))
theorem s_ifnull {off : Int} {t : Nat} {o : Option Nat} (hj : am_J T x pc (.ifnull off) pc' ns) (hl : pc' - pc = 3) (ht : am_j pc off = some t) (h1 : o = none → am_C T d x t L st σ Q) (h2 : ¬ o = none → am_C T d x pc' L st σ Q) : am_C T d x pc L (am_ov o :: st) σ Q := by
  cases o with
  | none =>
    refine am_C_h hj rfl rfl (p1 := t) ?_ (h1 rfl)
    simp only [am_h, am_p, ht, hl, am_ov, if_true]
  | some n =>
    refine am_C_h hj rfl rfl (p1 := pc + 3) ?_ (by rw [am_dl hl (by decide)]; exact h2 (by intro h; cases h))
    simp only [am_h, am_p, ht, hl, am_ov, if_true]
theorem s_ifnonnull {off : Int} {t : Nat} {o : Option Nat} (hj : am_J T x pc (.ifnonnull off) pc' ns) (hl : pc' - pc = 3) (ht : am_j pc off = some t) (h1 : ¬ o = none → am_C T d x t L st σ Q) (h2 : o = none → am_C T d x pc' L st σ Q) : am_C T d x pc L (am_ov o :: st) σ Q := by
  cases o with
  | none =>
    refine am_C_h hj rfl rfl (p1 := pc + 3) ?_ (by rw [am_dl hl (by decide)]; exact h2 rfl)
    simp only [am_h, am_p, ht, hl, am_ov, if_true]
  | some n =>
    refine am_C_h hj rfl rfl (p1 := t) ?_ (h1 (by intro h; cases h))
    simp only [am_h, am_p, ht, hl, am_ov, if_true]
def am_hi (o : Option Nat) : Prop := ∀ n, o = some n → 1000 ≤ n
theorem am_rf_ov {o : Option Nat} (h : am_hi o) : am_rf (am_ov o) = some o := by
  cases o with
  | none => rfl
  | some n => simp only [am_ov, am_rf, if_pos (h n rfl)]
theorem s_acmp_eq {off : Int} {t : Nat} {o q : Option Nat} (hj : am_J T x pc (.if_acmp .eq off) pc' ns) (hl : pc' - pc = 3) (ht : am_j pc off = some t) (ho : am_hi o) (hq : am_hi q) (h1 : o = q → am_C T d x t L st σ Q) (h2 : ¬ o = q → am_C T d x pc' L st σ Q) : am_C T d x pc L (am_ov q :: am_ov o :: st) σ Q := by
  by_cases hp : o = q
  · refine am_C_h hj rfl rfl (p1 := t) ?_ (h1 hp)
    simp only [am_h, am_p, ht, hl, am_rf_ov ho, am_rf_ov hq, hp, if_true]
  · refine am_C_h hj rfl rfl (p1 := pc + 3) ?_ (by rw [am_dl hl (by decide)]; exact h2 hp)
    simp only [am_h, am_p, ht, hl, am_rf_ov ho, am_rf_ov hq, hp, if_true, eq_self_iff_true, if_false]
    rw [if_neg (by simp)]
theorem s_acmp_ne {off : Int} {t : Nat} {o q : Option Nat} (hj : am_J T x pc (.if_acmp .ne off) pc' ns) (hl : pc' - pc = 3) (ht : am_j pc off = some t) (ho : am_hi o) (hq : am_hi q) (h1 : ¬ o = q → am_C T d x t L st σ Q) (h2 : o = q → am_C T d x pc' L st σ Q) : am_C T d x pc L (am_ov q :: am_ov o :: st) σ Q := by
  by_cases hp : o = q
  · refine am_C_h hj rfl rfl (p1 := pc + 3) ?_ (by rw [am_dl hl (by decide)]; exact h2 hp)
    simp only [am_h, am_p, ht, hl, am_rf_ov ho, am_rf_ov hq, hp, if_true]
    rw [if_neg (by intro h; exact absurd (h.mp trivial) (by decide))]
  · refine am_C_h hj rfl rfl (p1 := t) ?_ (h1 hp)
    simp only [am_h, am_p, ht, hl, am_rf_ov ho, am_rf_ov hq, hp, if_true]
    rw [if_pos (propext ⟨fun h => absurd h (by simp), fun h => absurd h (by decide)⟩)]
theorem s_tsw {dflt lo hi : Int} {offs : Array Int} {a : Int32} {t : Nat} (hj : am_J T x pc (.tableswitch dflt lo hi offs) pc' ns) (ht : am_sw pc dflt lo hi offs a.toInt = some t) (K : am_C T d x t L st σ Q) : am_C T d x pc L (.int a :: st) σ Q := by
  refine am_C_h hj rfl rfl (p1 := t) ?_ K
  simp only [am_h, am_p, ht]
theorem am_sw_out {dflt lo hi : Int} {offs : Array Int} {a : Int} (h : a < lo ∨ hi < a) : am_sw pc dflt lo hi offs a = am_j pc dflt := if_pos h
theorem am_sw_in {lo hi : Int} {a : Int32} (h : ¬ (a.toInt < lo ∨ hi < a.toInt)) : ∃ k : Nat, (k : Int) ≤ hi - lo ∧ a.toInt = lo + k := ⟨(a.toInt - lo).toNat, by omega, by omega⟩
theorem s_lsw {dflt : Int} {ps : Array (Int × Int)} {a : Int32} {t : Nat} (hj : am_J T x pc (.lookupswitch dflt ps) pc' ns) (ht : am_j pc (Op.lookupswitch.offset ps.toList dflt a.toInt) = some t) (hs : (ps.toList.zip (ps.toList.drop 1)).all (fun (a, next) => a.1 < next.1) = true) (K : am_C T d x t L st σ Q) : am_C T d x pc L (.int a :: st) σ Q := by
  refine am_C_h hj rfl rfl (p1 := t) ?_ K
  simp only [am_h, am_p, ht]
  rw [if_pos hs]
/-! returns -/
theorem am_C_r {v : Option Value} (hj : am_J T x pc i pc' ns) (hr : am_ret i (pc' - pc) st = some v) (hc : am_rcok (am_ak T (100000 + x)) v = true) (hq : Q v σ) : am_C T d x pc L st σ Q := fun _ fr lo _ => am_wp_ret hj.1 hr hc hq
theorem s_retI {F : Int32 → am_S → Prop} {a : Int32} (hj : am_J T x pc .ireturn pc' [1]) (hl : pc' - pc = 1) (h : F a σ) : am_C T d x pc L [.int a] σ (am_qI F) := by
  have e := (am_q1 hj.2).1
  exact am_C_r (v := some (.int a)) hj (by simp only [am_ret, hl, if_true]) (by rw [e]; rfl) h
theorem s_retZ {F : Bool → am_S → Prop} {P : Prop} [Decidable P] (hj : am_J T x pc .ireturn pc' [4]) (hl : pc' - pc = 1) (h : F (decide P) σ) : am_C T d x pc L [.int (if P then 1 else 0)] σ (am_qB F) := by
  have e := (am_q1 hj.2).1
  by_cases hp : P
  · rw [if_pos hp]
    rw [decide_eq_true hp] at h
    exact am_C_r (v := some (.int 1)) hj (by simp only [am_ret, hl, if_true]) (by rw [e]; rfl) (Or.inr ⟨rfl, h⟩)
  · rw [if_neg hp]
    rw [decide_eq_false hp] at h
    exact am_C_r (v := some (.int 0)) hj (by simp only [am_ret, hl, if_true]) (by rw [e]; rfl) (Or.inl ⟨rfl, h⟩)
theorem s_retZ0 {F : Bool → am_S → Prop} (hj : am_J T x pc .ireturn pc' [4]) (hl : pc' - pc = 1) (h : F false σ) : am_C T d x pc L [.int 0] σ (am_qB F) := by
  have e := (am_q1 hj.2).1
  exact am_C_r (v := some (.int 0)) hj (by simp only [am_ret, hl, if_true]) (by rw [e]; rfl) (Or.inl ⟨rfl, h⟩)
theorem s_retZ1 {F : Bool → am_S → Prop} (hj : am_J T x pc .ireturn pc' [4]) (hl : pc' - pc = 1) (h : F true σ) : am_C T d x pc L [.int 1] σ (am_qB F) := by
  have e := (am_q1 hj.2).1
  exact am_C_r (v := some (.int 1)) hj (by simp only [am_ret, hl, if_true]) (by rw [e]; rfl) (Or.inr ⟨rfl, h⟩)
theorem s_retZf {F : Bool → am_S → Prop} {a : Int32} (hj : am_J T x pc .ireturn pc' [4]) (hl : pc' - pc = 1) (ha : a = 0 ∨ a = 1) (h : F (decide (a = 1)) σ) : am_C T d x pc L [.int a] σ (am_qB F) := by
  rcases ha with rfl | rfl
  · exact s_retZ0 hj hl h
  · exact s_retZ1 hj hl h
theorem s_retL {F : Int64 → am_S → Prop} {a : Int64} (hj : am_J T x pc .lreturn pc' [2]) (hl : pc' - pc = 1) (h : F a σ) : am_C T d x pc L [.long a] σ (am_qL F) := by
  have e := (am_q1 hj.2).1
  exact am_C_r (v := some (.long a)) hj (by simp only [am_ret, hl, if_true]) (by rw [e]; rfl) h
theorem s_retR {F : Option Nat → am_S → Prop} {o : Option Nat} (hj : am_J T x pc .areturn pc' [3]) (hl : pc' - pc = 1) (h : F o σ) : am_C T d x pc L [am_ov o] σ (am_qR F) := by
  have e := (am_q1 hj.2).1
  cases o with
  | none => exact am_C_r (v := some .null) hj (by simp only [am_ret, hl, am_ov, if_true]) (by rw [e]; rfl) h
  | some n => exact am_C_r (v := some (.ref n)) hj (by simp only [am_ret, hl, am_ov, if_true]) (by rw [e]; rfl) h
theorem s_retV {F : am_S → Prop} (hj : am_J T x pc .return_ pc' [0]) (hl : pc' - pc = 1) (h : F σ) : am_C T d x pc L [] σ (am_qV F) := by
  have e := (am_q1 hj.2).1
  exact am_C_r (v := none) hj (by simp only [am_ret, hl, if_true]) (by rw [e]; rfl) h
theorem am_r8 {r : List Value} (h : Nat.ble r.length 4 = true) : (r.map fun v => v.category).sum ≤ 8 := by
  have h1 := am_cat_sum r
  have h2 := Nat.le_of_ble_eq_true h
  omega
def am_all1 : List Value → Prop
  | [] => True
  | v :: t => v.category = 1 ∧ am_all1 t
theorem am_all1_sum : ∀ {r : List Value}, am_all1 r → (r.map fun v => v.category).sum = r.length
  | [], _ => rfl
  | v :: t, h => by
    have h2 := am_all1_sum h.2
    simp only [List.map_cons, List.sum_cons, List.length_cons, h.1, h2]
    omega
theorem am_r81 {r : List Value} (h : Nat.ble r.length 8 = true) (h1 : am_all1 r) : (r.map fun v => v.category).sum ≤ 8 := by
  rw [am_all1_sum h1]
  exact Nat.le_of_ble_eq_true h
/-! calls -/
theorem am_C_call {kd y nl : Nat} {as r : List Value} (hj : am_J T x pc i pc' ns) (hl : pc' - pc = 3) (hc : am_call T x i 3 st σ = some (kd, y, as, r)) (h13 : kd ≠ 13) (h14 : kd ≠ 14) (hm : (am_mi T y).1 = nl) (hn : nl ≤ 31) (hi : (am_in as).length ≤ nl) (h4 : (r.map fun v => v.category).sum ≤ 8)
    (k : am_C T d y 0 (am_lo nl as) [] σ (fun v σ' => am_C T (d + 1) x pc' L (v.toList ++ r) σ' Q)) : am_C T (d + 1) x pc L st σ Q := by
  intro hI fr lo hr
  unfold am_rm at hr
  refine am_wp_call hj.1 (by rw [hl]; exact hc) h13 h14 ⟨by omega, by omega, h4, by rw [hm]; exact hi⟩ ?_
  rw [hm]
  have k2 := k.monoE (Q' := fun v σ' => am_I σ' ∧ am_C T (d + 1) x pc' L (v.toList ++ r) σ' Q) (fun v σ1 h1 _ h2 => ⟨h1, h2⟩)
  refine (k2 hI (fr - 1) (lo - (nl + 19)) ⟨by omega, by omega⟩).mono (fun v σ1 h => ?_)
  rw [am_dl hl (by decide)]
  exact h.2 h.1 fr lo hr
theorem am_v5 {a b c e f : Nat} {l : List Nat} (h : l = [a, b, c, e, f]) : l = [a, b, c, e, f] := h
theorem s_virt {idx y k nl na : Nat} {o : Option Nat} {as r : List Value} (hj : am_J T x pc (.invokevirtual idx) pc' [10, y, k + 1, nl, na]) (hl : pc' - pc = 3) (hst : (st.take na).reverse = am_ov o :: as) (hr : st.drop na = r) (hlen : as.length + 1 = na) (ho : am_is σ o k) (hn : nl ≤ 31) (hi : (am_in (am_ov (some (o.getD 0)) :: as)).length ≤ nl) (h4 : (r.map fun v => v.category).sum ≤ 8)
    (h : am_C T d y 0 (am_lo nl (am_ov (some (o.getD 0)) :: as)) [] σ (fun v σ' => am_C T (d + 1) x pc' L (v.toList ++ r) σ' Q)) : am_C T (d + 1) x pc L st σ Q := by
  obtain ⟨n, rfl, hk⟩ := ho
  have hq := hj.2
  simp only [am_q] at hq
  have e1 := (am_q1 hq).1
  have e2 := (am_q1 (am_q1 hq).2).1
  have e3 := (am_q1 (am_q1 (am_q1 hq).2).2).1
  have e4 := (am_q1 (am_q1 (am_q1 (am_q1 hq).2).2).2).1
  have e5 := (am_q1 (am_q1 (am_q1 (am_q1 (am_q1 hq).2).2).2).2).1
  rw [e2] at e4 e5
  refine am_C_call hj hl (kd := 10) (y := y) (as := .ref n :: as) (r := r) ?_ (by decide) (by decide) e4 hn hi h4 h
  simp only [am_call, e1, e2, e3, e5, hst, am_ov, true_and]
  rw [if_pos ⟨hlen, Or.inl ⟨by omega, hk⟩⟩, hr]
theorem s_virtS {idx y nl na n : Nat} {as r : List Value} (hj : am_J T x pc (.invokevirtual idx) pc' [10, y, 0, nl, na]) (hl : pc' - pc = 3) (hst : (st.take na).reverse = am_ov (some n) :: as) (hr : st.drop na = r) (hlen : as.length + 1 = na) (ho : n < 200 ∧ am_rk (am_tz T) n = 1) (hn : nl ≤ 31) (hi : (am_in (am_ov (some n) :: as)).length ≤ nl) (h4 : (r.map fun v => v.category).sum ≤ 8)
    (h : am_C T d y 0 (am_lo nl (am_ov (some n) :: as)) [] σ (fun v σ' => am_C T (d + 1) x pc' L (v.toList ++ r) σ' Q)) : am_C T (d + 1) x pc L st σ Q := by
  have hq := hj.2
  simp only [am_q] at hq
  have e1 := (am_q1 hq).1
  have e2 := (am_q1 (am_q1 hq).2).1
  have e3 := (am_q1 (am_q1 (am_q1 hq).2).2).1
  have e4 := (am_q1 (am_q1 (am_q1 (am_q1 hq).2).2).2).1
  have e5 := (am_q1 (am_q1 (am_q1 (am_q1 (am_q1 hq).2).2).2).2).1
  rw [e2] at e4 e5
  refine am_C_call hj hl (kd := 10) (y := y) (as := .ref n :: as) (r := r) ?_ (by decide) (by decide) e4 hn hi h4 h
  simp only [am_call, e1, e2, e3, e5, hst, am_ov, true_and]
  rw [if_pos ⟨hlen, Or.inr ho⟩, hr]
theorem s_virtS2 {idx y nl na : Nat} {o : Option Nat} {as r : List Value} (hj : am_J T x pc (.invokevirtual idx) pc' [10, y, 0, nl, na]) (hl : pc' - pc = 3) (hst : (st.take na).reverse = am_ov o :: as) (hr : st.drop na = r) (hlen : as.length + 1 = na) (h0 : ∃ n, o = some n) (ho : o.getD 0 < 200 ∧ am_rk (am_tz T) (o.getD 0) = 1) (hn : nl ≤ 31) (hi : (am_in (am_ov (some (o.getD 0)) :: as)).length ≤ nl) (h4 : (r.map fun v => v.category).sum ≤ 8)
    (h : am_C T d y 0 (am_lo nl (am_ov (some (o.getD 0)) :: as)) [] σ (fun v σ' => am_C T (d + 1) x pc' L (v.toList ++ r) σ' Q)) : am_C T (d + 1) x pc L st σ Q := by
  obtain ⟨n, rfl⟩ := h0
  exact s_virtS hj hl hst hr hlen ho hn hi h4 h
theorem s_spec {idx y k nl na : Nat} {n : Nat} {as r : List Value} (hj : am_J T x pc (.invokespecial idx) pc' [11, y, k, nl, na]) (hl : pc' - pc = 3) (hst : (st.take na).reverse = am_ov (some n) :: as) (hr : st.drop na = r) (hlen : as.length + 1 = na) (hn : nl ≤ 31) (hi : (am_in (am_ov (some n) :: as)).length ≤ nl) (h4 : (r.map fun v => v.category).sum ≤ 8)
    (h : am_C T d y 0 (am_lo nl (am_ov (some n) :: as)) [] σ (fun v σ' => am_C T (d + 1) x pc' L (v.toList ++ r) σ' Q)) : am_C T (d + 1) x pc L st σ Q := by
  have hq := hj.2
  simp only [am_q] at hq
  split at hq
  · exact absurd (am_q1 hq).1 (by decide)
  have e1 := (am_q1 hq).1
  have e2 := (am_q1 (am_q1 hq).2).1
  have e4 := (am_q1 (am_q1 (am_q1 (am_q1 hq).2).2).2).1
  have e5 := (am_q1 (am_q1 (am_q1 (am_q1 (am_q1 hq).2).2).2).2).1
  rw [e2] at e4 e5
  refine am_C_call hj hl (kd := 11) (y := y) (as := .ref n :: as) (r := r) ?_ (by decide) (by decide) e4 hn hi h4 h
  simp only [am_call, e1, e2, e5, hst, am_ov, true_and]
  rw [if_neg (by decide), if_pos hlen, hr]
theorem s_obj {idx n : Nat} (hj : am_J T x pc (.invokespecial idx) pc' [13]) (hl : pc' - pc = 3) (h4 : (st.map fun v => v.category).sum ≤ 8) (h : am_C T (d + 1) x pc' L st σ Q) : am_C T (d + 1) x pc L (am_ov (some n) :: st) σ Q := by
  have hq := hj.2
  simp only [am_q] at hq
  split at hq
  · rename_i e
    intro hI fr lo hr
    have hr' := hr
    unfold am_rm at hr
    refine am_wp_obj (y := 0) (as := [.ref n]) (r := st) hj.1 ?_ ⟨by omega, by omega, h4⟩ (by rw [am_dl hl (by decide)]; exact h hI fr lo hr')
    simp only [am_call, hl, e, and_self, if_true, am_ov]
  · have := congrArg List.length hq
    simp at this
theorem s_stat {idx y nl na : Nat} {as r : List Value} (hj : am_J T x pc (.invokestatic idx) pc' [12, y, nl, na]) (hl : pc' - pc = 3) (hst : (st.take na).reverse = as) (hr : st.drop na = r) (hlen : Nat.ble na st.length = true) (hn : nl ≤ 31) (hi : (am_in as).length ≤ nl) (h4 : (r.map fun v => v.category).sum ≤ 8)
    (h : am_C T d y 0 (am_lo nl as) [] σ (fun v σ' => am_C T (d + 1) x pc' L (v.toList ++ r) σ' Q)) : am_C T (d + 1) x pc L st σ Q := by
  have hq := hj.2
  simp only [am_q] at hq
  split at hq
  · exact absurd (am_q1 hq).1 (by decide)
  have e1 := (am_q1 hq).1
  have e2 := (am_q1 (am_q1 hq).2).1
  have e4 := (am_q1 (am_q1 (am_q1 hq).2).2).1
  have e5 := (am_q1 (am_q1 (am_q1 (am_q1 hq).2).2).2).1
  rw [e2] at e4 e5
  refine am_C_call hj hl (kd := 12) (y := y) (as := as) (r := r) ?_ (by decide) (by decide) e4 hn hi h4 h
  simp only [am_call, e1, e2, e5, true_and]
  rw [if_neg (by decide), if_pos (Nat.le_of_ble_eq_true hlen), hst, hr]
theorem s_cp {idx : Nat} {r : List Value} {σ' : am_S} (hj : am_J T x pc (.invokestatic idx) pc' [14]) (hl : pc' - pc = 3) (hc : am_cp σ st = some (r, σ')) (h4 : (r.map fun v => v.category).sum ≤ 8) (h : am_C T (d + 1) x pc' L r σ' Q) : am_C T (d + 1) x pc L st σ Q := by
  have hq := hj.2
  simp only [am_q] at hq
  split at hq
  · rename_i e
    intro hI fr lo hr
    have hr' := hr
    unfold am_rm at hr
    refine am_wp_cp (y := 0) (as := []) (r := st) hj.1 ?_ hc ⟨by omega, by omega, h4⟩ (by rw [am_dl hl (by decide)]; exact h (am_cp_I hI hc).1 fr lo hr')
    simp only [am_call, hl, e, and_self, if_true]
  · have := congrArg List.length hq
    simp at this
/-! what a call gives back -/
theorem am_bI {y : Nat} {L0 : List (Option Value)} {r : List Value} {F : Int32 → am_S → Prop} (h : am_C T d y 0 L0 [] σ (am_qI F)) (k : ∀ a σ', F a σ' → am_ext σ σ' → am_C T (d + 1) x pc' L (.int a :: r) σ' Q) : am_C T d y 0 L0 [] σ (fun v σ' => am_C T (d + 1) x pc' L (v.toList ++ r) σ' Q) := by
  refine h.monoE (fun v σ1 hI hx hv => ?_)
  unfold am_qI at hv
  split at hv
  · exact k _ _ hv hx
  · exact hv.elim
theorem am_bL {y : Nat} {L0 : List (Option Value)} {r : List Value} {F : Int64 → am_S → Prop} (h : am_C T d y 0 L0 [] σ (am_qL F)) (k : ∀ a σ', F a σ' → am_ext σ σ' → am_C T (d + 1) x pc' L (.long a :: r) σ' Q) : am_C T d y 0 L0 [] σ (fun v σ' => am_C T (d + 1) x pc' L (v.toList ++ r) σ' Q) := by
  refine h.monoE (fun v σ1 hI hx hv => ?_)
  unfold am_qL at hv
  split at hv
  · exact k _ _ hv hx
  · exact hv.elim
theorem am_bR {y : Nat} {L0 : List (Option Value)} {r : List Value} {F : Option Nat → am_S → Prop} (h : am_C T d y 0 L0 [] σ (am_qR F)) (k : ∀ a σ', F a σ' → am_ext σ σ' → am_C T (d + 1) x pc' L (am_ov a :: r) σ' Q) : am_C T d y 0 L0 [] σ (fun v σ' => am_C T (d + 1) x pc' L (v.toList ++ r) σ' Q) := by
  refine h.monoE (fun v σ1 hI hx hv => ?_)
  unfold am_qR at hv
  split at hv
  · exact k _ _ hv hx
  · exact k _ _ hv hx
  · exact hv.elim
theorem am_bV {y : Nat} {L0 : List (Option Value)} {r : List Value} {F : am_S → Prop} (h : am_C T d y 0 L0 [] σ (am_qV F)) (k : ∀ σ', F σ' → am_ext σ σ' → am_C T (d + 1) x pc' L r σ' Q) : am_C T d y 0 L0 [] σ (fun v σ' => am_C T (d + 1) x pc' L (v.toList ++ r) σ' Q) := by
  refine h.monoE (fun v σ1 hI hx hv => ?_)
  unfold am_qV at hv
  split at hv
  · exact k _ hv hx
  · exact hv.elim
theorem am_bB {y : Nat} {L0 : List (Option Value)} {r : List Value} {F : Bool → am_S → Prop} (h : am_C T d y 0 L0 [] σ (am_qB F)) (k : ∀ (a : Bool) σ', F a σ' → am_ext σ σ' → am_C T (d + 1) x pc' L (.int (if a = true then 1 else 0) :: r) σ' Q) : am_C T d y 0 L0 [] σ (fun v σ' => am_C T (d + 1) x pc' L (v.toList ++ r) σ' Q) := by
  refine h.monoE (fun v σ1 hI hx hv => ?_)
  unfold am_qB at hv
  split at hv
  · rcases hv with ⟨rfl, hv⟩ | ⟨rfl, hv⟩
    · exact k false _ hv hx
    · exact k true _ hv hx
  · exact hv.elim
end AmK2
/-! joins: the value where ways meet -/
theorem am_p1 {c p A : Prop} (hc : c) (e : p ↔ A) : p ↔ c ∧ A := ⟨fun h => ⟨hc, e.mp h⟩, fun h => e.mpr h.2⟩
theorem am_p2 {c A : Prop} (hc : ¬ c) : False ↔ c ∧ A := ⟨fun h => h.elim, fun h => hc h.1⟩
theorem am_p3 {c B : Prop} (hc : c) : True ↔ c ∨ B := ⟨fun _ => Or.inl hc, fun _ => trivial⟩
theorem am_p4 {c p B : Prop} (hc : ¬ c) (e : p ↔ B) : p ↔ c ∨ B := ⟨fun h => Or.inr (e.mp h), fun h => h.elim (fun h => absurd h hc) e.mpr⟩
theorem am_p5 {c p B : Prop} (hc : ¬ c) (e : p ↔ B) : p ↔ ¬ c ∧ B := ⟨fun h => ⟨hc, e.mp h⟩, fun h => e.mpr h.2⟩
theorem am_p6 {c B : Prop} (hc : c) : False ↔ ¬ c ∧ B := ⟨fun h => h.elim, fun h => h.1 hc⟩
theorem am_p7 {c A : Prop} (hc : ¬ c) : True ↔ ¬ c ∨ A := ⟨fun _ => Or.inl hc, fun _ => trivial⟩
theorem am_p8 {c p A : Prop} (hc : c) (e : p ↔ A) : p ↔ ¬ c ∨ A := ⟨fun h => Or.inr (e.mp h), fun h => h.elim (fun h => absurd hc h) e.mpr⟩
theorem am_p9 {c : Prop} (hc : c) : True ↔ c := ⟨fun _ => hc, fun _ => trivial⟩
theorem am_p10 {c : Prop} (hc : ¬ c) : False ↔ c := ⟨fun h => h.elim, hc⟩
theorem am_p11 {c : Prop} (hc : c) : False ↔ ¬ c := ⟨fun h => h.elim, fun h => h hc⟩
theorem am_p12 {c : Prop} (hc : ¬ c) : True ↔ ¬ c := ⟨fun _ => hc, fun _ => trivial⟩
theorem am_p13 {c p A B : Prop} (hc : c) (e : p ↔ A) : p ↔ (c ∧ A) ∨ (¬ c ∧ B) := ⟨fun h => Or.inl ⟨hc, e.mp h⟩, fun h => h.elim (fun h => e.mpr h.2) (fun h => absurd hc h.1)⟩
theorem am_p14 {c p A B : Prop} (hc : ¬ c) (e : p ↔ B) : p ↔ (c ∧ A) ∨ (¬ c ∧ B) := ⟨fun h => Or.inr ⟨hc, e.mp h⟩, fun h => h.elim (fun h => absurd h.1 hc) (fun h => e.mpr h.2)⟩
theorem am_e1 {P : Prop} [Decidable P] (e : True ↔ P) : (1 : Int32) = if P then 1 else 0 := (if_pos (e.mp trivial)).symm
theorem am_e0 {P : Prop} [Decidable P] (e : False ↔ P) : (0 : Int32) = if P then 1 else 0 := (if_neg e.mpr).symm
theorem am_eB {p P : Prop} [Decidable p] [Decidable P] (e : p ↔ P) : (if p then (1 : Int32) else 0) = if P then 1 else 0 := by
  by_cases h : p
  · rw [if_pos h, if_pos (e.mp h)]
  · rw [if_neg h, if_neg (fun q => h (e.mpr q))]
theorem am_t1 {α : Type} {c : Prop} [Decidable c] {v a b : α} (hc : c) (e : v = a) : v = if c then a else b := by rw [if_pos hc]; exact e
theorem am_t2 {α : Type} {c : Prop} [Decidable c] {v a b : α} (hc : ¬ c) (e : v = b) : v = if c then a else b := by rw [if_neg hc]; exact e
theorem am_b01 {P : Prop} [Decidable P] : (if P then (1 : Int32) else 0) = 0 ∨ (if P then (1 : Int32) else 0) = 1 := by
  by_cases h : P
  · exact Or.inr (if_pos h)
  · exact Or.inl (if_neg h)
theorem am_te {a b : Int32} {n : Int} (h : a.toInt = n) (hb : b.toInt = n) : a = b := Int32.toInt_inj.mp (h.trans hb.symm)
theorem am_hi0 : am_hi none := fun n h => by cases h
theorem am_ni {a b : Int32} {n : Int} (hb : b.toInt = n) (h : ¬ a = b) : ¬ n = a.toInt := fun e => h (am_te e.symm hb)
theorem am_c2_ov (o : Option Nat) : am_c2 (some (am_ov o)) = some (am_ov o) := by cases o <;> rfl
theorem am_st1_R : ∀ (A : List (Option Value)) (o : Option Nat) (b : Option Value) (C : List (Option Value)) (v : Value), am_st1 (A ++ some (am_ov o) :: b :: C) (A.length + 1) v = A ++ some (am_ov o) :: am_st1 (b :: C) 0 v
  | [], o, b, C, v => by show am_c2 _ :: _ = _; rw [am_c2_ov]; rfl
  | [a], o, b, C, v => by show a :: am_c2 _ :: _ = _; rw [am_c2_ov]; rfl
  | a :: a2 :: A, o, b, C, v => by
    have h := am_st1_R (a2 :: A) o b C v
    show a :: am_st1 ((a2 :: A) ++ some (am_ov o) :: b :: C) ((a2 :: A).length + 1) v = _
    rw [h]; rfl
theorem am_st2_R : ∀ (A : List (Option Value)) (o : Option Nat) (b c : Option Value) (C : List (Option Value)) (v : Value), am_st2 (A ++ some (am_ov o) :: b :: c :: C) (A.length + 1) v = A ++ some (am_ov o) :: am_st2 (b :: c :: C) 0 v
  | [], o, b, c, C, v => by show am_c2 _ :: _ = _; rw [am_c2_ov]; rfl
  | [a], o, b, c, C, v => by show a :: am_c2 _ :: _ = _; rw [am_c2_ov]; rfl
  | a :: a2 :: A, o, b, c, C, v => by
    have h := am_st2_R (a2 :: A) o b c C v
    show a :: am_st2 ((a2 :: A) ++ some (am_ov o) :: b :: c :: C) ((a2 :: A).length + 1) v = _
    rw [h]; rfl
