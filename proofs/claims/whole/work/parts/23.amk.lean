/-! A CALCULUS OF STEPS: am_C says of a place in a method, with room for d calls, that the interpreter ends from there with Q -/
def am_rm (d fr lo : Nat) : Prop := d ≤ fr ∧ 50 * d ≤ lo
def am_C (T : am_T) (d x pc : Nat) (L : List (Option Value)) (st : List Value) (σ : am_S) (Q : Option Value → am_S → Prop) : Prop := am_I σ → ∀ fr lo, am_rm d fr lo → am_wp T fr lo x pc L st σ Q
def am_qI (F : Int32 → am_S → Prop) : Option Value → am_S → Prop := fun v σ => match v with
  | some (.int a) => F a σ
  | _ => False
def am_qL (F : Int64 → am_S → Prop) : Option Value → am_S → Prop := fun v σ => match v with
  | some (.long a) => F a σ
  | _ => False
def am_qR (F : Option Nat → am_S → Prop) : Option Value → am_S → Prop := fun v σ => match v with
  | some (.ref n) => F (some n) σ
  | some .null => F none σ
  | _ => False
def am_qV (F : am_S → Prop) : Option Value → am_S → Prop := fun v σ => match v with
  | none => F σ
  | _ => False
def am_qB (F : Bool → am_S → Prop) : Option Value → am_S → Prop := fun v σ => match v with
  | some (.int a) => (a = 0 ∧ F false σ) ∨ (a = 1 ∧ F true σ)
  | _ => False
/-- numbers that a step needs of the tables -/
def am_q (T : am_T) (x : Nat) (i : Instr) : List Nat := match i with
  | .getfield idx => [if (am_lnk T x idx).1 = 1 then 9 else (am_lnk T x idx).1, (am_lnk T x idx).2.1, (am_lnk T x idx).2.2, am_tf T (am_lnk T x idx).2.1 (am_lnk T x idx).2.2]
  | .putfield idx => [(am_lnk T x idx).1, (am_lnk T x idx).2.1, (am_lnk T x idx).2.2, am_tf T (am_lnk T x idx).2.1 (am_lnk T x idx).2.2]
  | .invokevirtual idx => [(am_lnk T x idx).1, (am_lnk T x idx).2.1, (am_lnk T x idx).2.2, (am_mi T (am_lnk T x idx).2.1).1, (am_mi T (am_lnk T x idx).2.1).2]
  | .invokespecial idx => if (am_lnk T x idx).1 = 13 then [13] else [(am_lnk T x idx).1, (am_lnk T x idx).2.1, (am_lnk T x idx).2.2, (am_mi T (am_lnk T x idx).2.1).1, (am_mi T (am_lnk T x idx).2.1).2]
  | .invokestatic idx => if (am_lnk T x idx).1 = 14 then [14] else [(am_lnk T x idx).1, (am_lnk T x idx).2.1, (am_mi T (am_lnk T x idx).2.1).1, (am_mi T (am_lnk T x idx).2.1).2]
  | .new idx => [(am_lnk T x idx).1, (am_lnk T x idx).2.1, am_tn T (am_lnk T x idx).2.1]
  | .anewarray idx => [(am_lnk T x (100000 + idx)).1, (am_lnk T x (100000 + idx)).2.1]
  | .getstatic idx => [(am_lnk T x idx).1, (am_lnk T x idx).2.1, (am_lnk T x idx).2.2]
  | .ldc idx => if (am_lnk T x idx).1 = 4 then [4, (am_li T x idx).toUInt32.toNat] else [(am_lnk T x idx).1, (am_lnk T x idx).2.1]
  | .ldc_w idx => if (am_lnk T x idx).1 = 4 then [4, (am_li T x idx).toUInt32.toNat] else [(am_lnk T x idx).1, (am_lnk T x idx).2.1]
  | .ldc2_w idx => [(am_lnk T x idx).1, (am_ll T x idx).toUInt64.toNat]
  | .ireturn | .lreturn | .areturn | .return_ => [am_ak T (100000 + x)]
  | _ => []
def am_J (T : am_T) (x pc : Nat) (i : Instr) (pc' : Nat) (ns : List Nat) : Prop := am_ins T x pc = some (i, pc' - pc) ∧ am_q T x i = ns
def am_Jl (T : am_T) (x : Nat) : List (Nat × Instr × Nat × List Nat) → Prop
  | [] => True
  | (a, i, b, n) :: r => am_J T x a i b n ∧ am_Jl T x r
def am_ck (T : am_T) (x : Nat) (l : List (Nat × Instr × Nat × List Nat)) : Bool := l.all (fun q => decide (am_ins T x q.1 = some (q.2.1, q.2.2.1 - q.1)) && decide (am_q T x q.2.1 = q.2.2.2))
theorem am_ck_ok {T : am_T} {x : Nat} : ∀ {l : List (Nat × Instr × Nat × List Nat)}, am_ck T x l = true → am_Jl T x l
  | [], _ => trivial
  | q :: r, h => by
    have h1 : (decide (am_ins T x q.1 = some (q.2.1, q.2.2.1 - q.1)) && decide (am_q T x q.2.1 = q.2.2.2)) = true ∧ am_ck T x r = true := by
      unfold am_ck at h ⊢
      simpa only [List.all_cons, Bool.and_eq_true] using h
    obtain ⟨h2, h3⟩ := am_of_and h1.1
    exact ⟨⟨of_decide_eq_true h2, of_decide_eq_true h3⟩, am_ck_ok h1.2⟩
/-- a reference is to an object of a class -/
def am_is (σ : am_S) (o : Option Nat) (ci : Nat) : Prop := ∃ n, o = some n ∧ (am_kd σ n).1 = ci + 1
/-- a place of a row of that kind -/
def am_ar (σ : am_S) (k : Nat) (o : Option Nat) (i : Int32) : Prop := ∃ n, o = some n ∧ (am_kd σ n).1 = k ∧ 0 ≤ i.toInt ∧ i.toInt < (am_kd σ n).2
theorem am_cov (o : Option Nat) : (am_ov o).category = 1 := by cases o <;> rfl
theorem am_in_ov (o : Option Nat) (t : List Value) : am_in (am_ov o :: t) = some (am_ov o) :: am_in t := by cases o <;> rfl
theorem am_in_int (a : Int32) (t : List Value) : am_in (.int a :: t) = some (.int a) :: am_in t := rfl
theorem am_in_long (a : Int64) (t : List Value) : am_in (.long a :: t) = some (.long a) :: none :: am_in t := rfl
theorem am_in_nil : am_in [] = [] := rfl
theorem am_cat_le (v : Value) : v.category ≤ 2 := by cases v <;> first | exact Nat.le_refl 2 | exact Nat.le_succ 1
theorem am_cat_sum : ∀ r : List Value, (r.map fun v => v.category).sum ≤ 2 * r.length
  | [] => Nat.le_refl _
  | v :: t => by
    have h1 := am_cat_le v
    have h2 := am_cat_sum t
    simp only [List.map_cons, List.sum_cons, List.length_cons]
    omega
def am_fz (σ : am_S) (n : Nat) : Prop := ∀ g, am_fI σ g n = 0 ∧ am_fL σ g n = 0 ∧ am_fR σ g n = none ∧ am_aI σ n g = 0 ∧ am_aL σ n g = 0 ∧ am_aR σ n g = none
theorem am_is_ext {σ σ1 : am_S} {o : Option Nat} {ci : Nat} (e : am_ext σ σ1) (h : am_is σ o ci) : am_is σ1 o ci := by
  obtain ⟨n, h1, h2⟩ := h
  exact ⟨n, h1, by rw [(e.1 n (by rw [h2]; exact Nat.succ_ne_zero _)).1]; exact h2⟩
theorem am_is_kd {σ σ1 : am_S} {o : Option Nat} {ci : Nat} (e : am_kd σ1 = am_kd σ) (h : am_is σ o ci) : am_is σ1 o ci := by
  unfold am_is
  rw [e]
  exact h
section AmK
variable {T : am_T} {d x pc pc' : Nat} {L : List (Option Value)} {st : List Value} {σ : am_S} {Q : Option Value → am_S → Prop} {ns : List Nat} {i : Instr}
theorem am_C.mono {Q' : Option Value → am_S → Prop} (h : am_C T d x pc L st σ Q) (hq : ∀ v σ1, Q v σ1 → Q' v σ1) : am_C T d x pc L st σ Q' := fun hI fr lo hr => (h hI fr lo hr).mono hq
theorem am_C.monoE {Q' : Option Value → am_S → Prop} (h : am_C T d x pc L st σ Q) (hq : ∀ v σ1, am_I σ1 → am_ext σ σ1 → Q v σ1 → Q' v σ1) : am_C T d x pc L st σ Q' := by
  intro hI fr lo hr
  obtain ⟨f, v, σ1, h1, h2⟩ := h hI fr lo hr
  have h3 := am_x_I _ _ _ _ _ _ _ _ _ _ hI h1
  exact ⟨f, v, σ1, h1, hq v σ1 h3.1 h3.2 h2⟩
theorem am_C.dn {d' : Nat} (h : am_C T d x pc L st σ Q) (hd : d ≤ d') : am_C T d' x pc L st σ Q := fun hI fr lo hr => h hI fr lo ⟨Nat.le_trans hd hr.1, Nat.le_trans (Nat.mul_le_mul_left 50 hd) hr.2⟩
theorem am_C_h {p1 : Nat} {L' : List (Option Value)} {st' : List Value} {σ' : am_S} (hj : am_J T x pc i pc' ns) (hr : am_ret i (pc' - pc) st = none) (hc : am_call T x i (pc' - pc) st σ = none) (hh : am_h T x i (pc' - pc) pc L st σ = some (p1, L', st', σ')) (k : am_C T d x p1 L' st' σ' Q) : am_C T d x pc L st σ Q := by
  intro hI fr lo hm
  refine am_wp_1 ?_ (k (am_h_I hI hh).1 fr lo hm)
  unfold am_1
  rw [hj.1]
  simp only
  rw [hr]
  simp only
  rw [hc]
  exact hh
theorem am_dl {n : Nat} (h : pc' - pc = n) (hn : 0 < n) : pc + n = pc' := by omega
theorem s_iload {k : Nat} {v : Int32} (hj : am_J T x pc (.iload k) pc' ns) (hl : pc' - pc = 2) (hL : L[k]? = some (some (.int v))) (K : am_C T d x pc' L (.int v :: st) σ Q) : am_C T d x pc L st σ Q := by
  refine am_C_h hj rfl rfl (p1 := pc + 2) ?_ (by rw [am_dl hl (by decide)]; exact K)
  simp only [am_h, am_p, hL, hl, if_true]
theorem s_iload_n {k : Fin 4} {v : Int32} (hj : am_J T x pc (.iload_n k) pc' ns) (hl : pc' - pc = 1) (hL : L[(k : Nat)]? = some (some (.int v))) (K : am_C T d x pc' L (.int v :: st) σ Q) : am_C T d x pc L st σ Q := by
  refine am_C_h hj rfl rfl (p1 := pc + 1) ?_ (by rw [am_dl hl (by decide)]; exact K)
  simp only [am_h, am_p, hL, hl, if_true]
theorem s_lload {k : Nat} {v : Int64} (hj : am_J T x pc (.lload k) pc' ns) (hl : pc' - pc = 2) (hL : L[k]? = some (some (.long v))) (K : am_C T d x pc' L (.long v :: st) σ Q) : am_C T d x pc L st σ Q := by
  refine am_C_h hj rfl rfl (p1 := pc + 2) ?_ (by rw [am_dl hl (by decide)]; exact K)
  simp only [am_h, am_p, hL, hl, if_true]
theorem s_lload_n {k : Fin 4} {v : Int64} (hj : am_J T x pc (.lload_n k) pc' ns) (hl : pc' - pc = 1) (hL : L[(k : Nat)]? = some (some (.long v))) (K : am_C T d x pc' L (.long v :: st) σ Q) : am_C T d x pc L st σ Q := by
  refine am_C_h hj rfl rfl (p1 := pc + 1) ?_ (by rw [am_dl hl (by decide)]; exact K)
  simp only [am_h, am_p, hL, hl, if_true]
theorem s_aload {k : Nat} {o : Option Nat} (hj : am_J T x pc (.aload k) pc' ns) (hl : pc' - pc = 2) (hL : L[k]? = some (some (am_ov o))) (K : am_C T d x pc' L (am_ov o :: st) σ Q) : am_C T d x pc L st σ Q := by
  refine am_C_h hj rfl rfl (p1 := pc + 2) ?_ (by rw [am_dl hl (by decide)]; exact K)
  cases o <;> simp only [am_h, am_p, hL, hl, if_true, am_ov]
theorem s_aload_n {k : Fin 4} {o : Option Nat} (hj : am_J T x pc (.aload_n k) pc' ns) (hl : pc' - pc = 1) (hL : L[(k : Nat)]? = some (some (am_ov o))) (K : am_C T d x pc' L (am_ov o :: st) σ Q) : am_C T d x pc L st σ Q := by
  refine am_C_h hj rfl rfl (p1 := pc + 1) ?_ (by rw [am_dl hl (by decide)]; exact K)
  cases o <;> simp only [am_h, am_p, hL, hl, if_true, am_ov]
theorem s_istore {k : Nat} {v : Int32} {L' : List (Option Value)} (hj : am_J T x pc (.istore k) pc' ns) (hl : pc' - pc = 2) {n : Nat} (hn : L.length = n) (hk : k < n) (hL : am_st1 L k (.int v) = L') (K : am_C T d x pc' L' st σ Q) : am_C T d x pc L (.int v :: st) σ Q := by
  refine am_C_h hj rfl rfl (p1 := pc + 2) ?_ (by rw [am_dl hl (by decide)]; exact K)
  simp only [am_h, am_p, hL, hl, hn, hk, and_self, if_true]
theorem s_istore_n {k : Fin 4} {v : Int32} {L' : List (Option Value)} (hj : am_J T x pc (.istore_n k) pc' ns) (hl : pc' - pc = 1) {n : Nat} (hn : L.length = n) (hk : (k : Nat) < n) (hL : am_st1 L k (.int v) = L') (K : am_C T d x pc' L' st σ Q) : am_C T d x pc L (.int v :: st) σ Q := by
  refine am_C_h hj rfl rfl (p1 := pc + 1) ?_ (by rw [am_dl hl (by decide)]; exact K)
  simp only [am_h, am_p, hL, hl, hn, hk, and_self, if_true]
theorem s_lstore {k : Nat} {v : Int64} {L' : List (Option Value)} (hj : am_J T x pc (.lstore k) pc' ns) (hl : pc' - pc = 2) {n : Nat} (hn : L.length = n) (hk : k + 1 < n) (hL : am_st2 L k (.long v) = L') (K : am_C T d x pc' L' st σ Q) : am_C T d x pc L (.long v :: st) σ Q := by
  refine am_C_h hj rfl rfl (p1 := pc + 2) ?_ (by rw [am_dl hl (by decide)]; exact K)
  simp only [am_h, am_p, hL, hl, hn, hk, and_self, if_true]
theorem s_lstore_n {k : Fin 4} {v : Int64} {L' : List (Option Value)} (hj : am_J T x pc (.lstore_n k) pc' ns) (hl : pc' - pc = 1) {n : Nat} (hn : L.length = n) (hk : (k : Nat) + 1 < n) (hL : am_st2 L k (.long v) = L') (K : am_C T d x pc' L' st σ Q) : am_C T d x pc L (.long v :: st) σ Q := by
  refine am_C_h hj rfl rfl (p1 := pc + 1) ?_ (by rw [am_dl hl (by decide)]; exact K)
  simp only [am_h, am_p, hL, hl, hn, hk, and_self, if_true]
theorem s_astore {k : Nat} {o : Option Nat} {L' : List (Option Value)} (hj : am_J T x pc (.astore k) pc' ns) (hl : pc' - pc = 2) {n : Nat} (hn : L.length = n) (hk : k < n) (hL : am_st1 L k (am_ov o) = L') (K : am_C T d x pc' L' st σ Q) : am_C T d x pc L (am_ov o :: st) σ Q := by
  refine am_C_h hj rfl rfl (p1 := pc + 2) ?_ (by rw [am_dl hl (by decide)]; exact K)
  cases o <;> simp only [am_h, am_p, hl, hn, hk, and_self, if_true, ← hL, am_ov]
theorem s_astore_n {k : Fin 4} {o : Option Nat} {L' : List (Option Value)} (hj : am_J T x pc (.astore_n k) pc' ns) (hl : pc' - pc = 1) {n : Nat} (hn : L.length = n) (hk : (k : Nat) < n) (hL : am_st1 L k (am_ov o) = L') (K : am_C T d x pc' L' st σ Q) : am_C T d x pc L (am_ov o :: st) σ Q := by
  refine am_C_h hj rfl rfl (p1 := pc + 1) ?_ (by rw [am_dl hl (by decide)]; exact K)
  cases o <;> simp only [am_h, am_p, hl, hn, hk, and_self, if_true, ← hL, am_ov]
theorem s_istoreV {k : Nat} {v : Int32} {L' : Int32 → List (Option Value)} (hj : am_J T x pc (.istore k) pc' ns) (hl : pc' - pc = 2) {n : Nat} (hn : L.length = n) (hk : k < n) (hL : ∀ v, am_st1 L k (.int v) = L' v) (K : ∀ w, w = v → am_C T d x pc' (L' w) st σ Q) : am_C T d x pc L (.int v :: st) σ Q := s_istore hj hl hn hk (hL v) (K v rfl)
theorem s_istore_nV {k : Fin 4} {v : Int32} {L' : Int32 → List (Option Value)} (hj : am_J T x pc (.istore_n k) pc' ns) (hl : pc' - pc = 1) {n : Nat} (hn : L.length = n) (hk : (k : Nat) < n) (hL : ∀ v, am_st1 L k (.int v) = L' v) (K : ∀ w, w = v → am_C T d x pc' (L' w) st σ Q) : am_C T d x pc L (.int v :: st) σ Q := s_istore_n hj hl hn hk (hL v) (K v rfl)
theorem s_lstoreV {k : Nat} {v : Int64} {L' : Int64 → List (Option Value)} (hj : am_J T x pc (.lstore k) pc' ns) (hl : pc' - pc = 2) {n : Nat} (hn : L.length = n) (hk : k + 1 < n) (hL : ∀ v, am_st2 L k (.long v) = L' v) (K : ∀ w, w = v → am_C T d x pc' (L' w) st σ Q) : am_C T d x pc L (.long v :: st) σ Q := s_lstore hj hl hn hk (hL v) (K v rfl)
theorem s_lstore_nV {k : Fin 4} {v : Int64} {L' : Int64 → List (Option Value)} (hj : am_J T x pc (.lstore_n k) pc' ns) (hl : pc' - pc = 1) {n : Nat} (hn : L.length = n) (hk : (k : Nat) + 1 < n) (hL : ∀ v, am_st2 L k (.long v) = L' v) (K : ∀ w, w = v → am_C T d x pc' (L' w) st σ Q) : am_C T d x pc L (.long v :: st) σ Q := s_lstore_n hj hl hn hk (hL v) (K v rfl)
theorem s_astoreV {k : Nat} {v : Option Nat} {L' : Option Nat → List (Option Value)} (hj : am_J T x pc (.astore k) pc' ns) (hl : pc' - pc = 2) {n : Nat} (hn : L.length = n) (hk : k < n) (hL : ∀ v, am_st1 L k (am_ov v) = L' v) (K : ∀ w, w = v → am_C T d x pc' (L' w) st σ Q) : am_C T d x pc L (am_ov v :: st) σ Q := s_astore hj hl hn hk (hL v) (K v rfl)
theorem s_astore_nV {k : Fin 4} {v : Option Nat} {L' : Option Nat → List (Option Value)} (hj : am_J T x pc (.astore_n k) pc' ns) (hl : pc' - pc = 1) {n : Nat} (hn : L.length = n) (hk : (k : Nat) < n) (hL : ∀ v, am_st1 L k (am_ov v) = L' v) (K : ∀ w, w = v → am_C T d x pc' (L' w) st σ Q) : am_C T d x pc L (am_ov v :: st) σ Q := s_astore_n hj hl hn hk (hL v) (K v rfl)
theorem s_iinc {k : Nat} {n : Int} {v w : Int32} {L' : List (Option Value)} (hj : am_J T x pc (.iinc k n) pc' ns) (hl : pc' - pc = 3) (hg : L[k]? = some (some (.int v))) (hn : Int32.ofInt n = w) (hL : am_st1 L k (.int (v + w)) = L') (K : am_C T d x pc' L' st σ Q) : am_C T d x pc L st σ Q := by
  refine am_C_h hj rfl rfl (p1 := pc + 3) ?_ (by rw [am_dl hl (by decide)]; exact K)
  simp only [am_h, am_p, hg, hn, hL, hl, if_true]
theorem s_bipush {n : Int} {v : Int32} (hj : am_J T x pc (.bipush n) pc' ns) (hl : pc' - pc = 2) (hv : (Int8.ofInt n).toInt32 = v) (K : am_C T d x pc' L (.int v :: st) σ Q) : am_C T d x pc L st σ Q := by
  refine am_C_h hj rfl rfl (p1 := pc + 2) ?_ (by rw [am_dl hl (by decide)]; exact K)
  simp only [am_h, am_p, hv, hl, if_true]
theorem s_sipush {n : Int} {v : Int32} (hj : am_J T x pc (.sipush n) pc' ns) (hl : pc' - pc = 3) (hv : (Int16.ofInt n).toInt32 = v) (K : am_C T d x pc' L (.int v :: st) σ Q) : am_C T d x pc L st σ Q := by
  refine am_C_h hj rfl rfl (p1 := pc + 3) ?_ (by rw [am_dl hl (by decide)]; exact K)
  simp only [am_h, am_p, hv, hl, if_true]
theorem s_goto {off : Int} {t : Nat} (hj : am_J T x pc (.goto off) pc' ns) (hl : pc' - pc = 3) (ht : am_j pc off = some t) (K : am_C T d x t L st σ Q) : am_C T d x pc L st σ Q := by
  refine am_C_h hj rfl rfl (p1 := t) ?_ K
  simp only [am_h, am_p, ht, hl, if_true]
/-- what only changes the operand stack -/
theorem s_g {st' : List Value} (hj : am_J T x pc i pc' ns) (hl : pc' - pc = 1) (hr : am_ret i 1 st = none) (hc : am_call T x i 1 st σ = none) (hh : am_h T x i 1 pc L st σ = (match am_p i 1 pc L st with
    | some (p1, L1, s1) => some (p1, L1, s1, σ)
    | none => none)) (hp : am_p i 1 pc L st = (match am_g i st with
    | some s1 => if 1 = 1 then some (pc + 1, L, s1) else none
    | none => none)) (hg : am_g i st = some st') (K : am_C T d x pc' L st' σ Q) : am_C T d x pc L st σ Q := by
  refine am_C_h hj (by rw [hl]; exact hr) (by rw [hl]; exact hc) (p1 := pc + 1) (L' := L) (st' := st') (σ' := σ) ?_ (by rw [am_dl hl (by decide)]; exact K)
  rw [hl, hh, hp, hg]
  rfl
theorem s_iconst {n : Int} {v : Int32} (hj : am_J T x pc (.iconst n) pc' ns) (hl : pc' - pc = 1) (hv : Int32.ofInt n = v) (K : am_C T d x pc' L (.int v :: st) σ Q) : am_C T d x pc L st σ Q :=
  s_g hj hl rfl rfl rfl rfl (by simp only [am_g, hv]) K
theorem s_lconst {n : Fin 2} {v : Int64} (hj : am_J T x pc (.lconst n) pc' ns) (hl : pc' - pc = 1) (hv : Int64.ofNat (n : Nat) = v) (K : am_C T d x pc' L (.long v :: st) σ Q) : am_C T d x pc L st σ Q :=
  s_g hj hl rfl rfl rfl rfl (by simp only [am_g, hv]) K
theorem s_null (hj : am_J T x pc .aconst_null pc' ns) (hl : pc' - pc = 1) (K : am_C T d x pc' L (am_ov none :: st) σ Q) : am_C T d x pc L st σ Q :=
  s_g hj hl rfl rfl rfl rfl rfl K
theorem s_pop {v : Value} (hj : am_J T x pc .pop pc' ns) (hl : pc' - pc = 1) (hv : v.category = 1) (K : am_C T d x pc' L st σ Q) : am_C T d x pc L (v :: st) σ Q :=
  s_g hj hl rfl rfl rfl rfl (by simp only [am_g, hv, if_true]) K
theorem s_dup {v : Value} (hj : am_J T x pc .dup pc' ns) (hl : pc' - pc = 1) (hv : v.category = 1) (K : am_C T d x pc' L (v :: v :: st) σ Q) : am_C T d x pc L (v :: st) σ Q :=
  s_g hj hl rfl rfl rfl rfl (by simp only [am_g, hv, if_true]) K
theorem s_dup_x1 {v w : Value} (hj : am_J T x pc .dup_x1 pc' ns) (hl : pc' - pc = 1) (hv : v.category = 1) (hw : w.category = 1) (K : am_C T d x pc' L (v :: w :: v :: st) σ Q) : am_C T d x pc L (v :: w :: st) σ Q :=
  s_g hj hl rfl rfl rfl rfl (by simp only [am_g, hv, hw, and_self, if_true]) K
theorem s_dup2 {a : Int32} {w : Value} (hj : am_J T x pc .dup2 pc' ns) (hl : pc' - pc = 1) (hw : w.category = 1) (K : am_C T d x pc' L (.int a :: w :: .int a :: w :: st) σ Q) : am_C T d x pc L (.int a :: w :: st) σ Q :=
  s_g hj hl rfl rfl rfl rfl (by simp only [am_g, hw, if_true]) K
theorem s_idiv {a b : Int32} (hj : am_J T x pc .idiv pc' ns) (hl : pc' - pc = 1) (hb : b ≠ 0) (K : am_C T d x pc' L (.int (a / b) :: st) σ Q) : am_C T d x pc L (.int b :: .int a :: st) σ Q :=
  s_g hj hl rfl rfl rfl rfl (by simp only [am_g, hb, if_false]) K
theorem s_irem {a b : Int32} (hj : am_J T x pc .irem pc' ns) (hl : pc' - pc = 1) (hb : b ≠ 0) (K : am_C T d x pc' L (.int (a - a / b * b) :: st) σ Q) : am_C T d x pc L (.int b :: .int a :: st) σ Q :=
  s_g hj hl rfl rfl rfl rfl (by simp only [am_g, hb, if_false]) K
theorem s_ldiv {a b : Int64} (hj : am_J T x pc .ldiv pc' ns) (hl : pc' - pc = 1) (hb : b ≠ 0) (K : am_C T d x pc' L (.long (a / b) :: st) σ Q) : am_C T d x pc L (.long b :: .long a :: st) σ Q :=
  s_g hj hl rfl rfl rfl rfl (by simp only [am_g, hb, if_false]) K
theorem s_lrem {a b : Int64} (hj : am_J T x pc .lrem pc' ns) (hl : pc' - pc = 1) (hb : b ≠ 0) (K : am_C T d x pc' L (.long (a - a / b * b) :: st) σ Q) : am_C T d x pc L (.long b :: .long a :: st) σ Q :=
  s_g hj hl rfl rfl rfl rfl (by simp only [am_g, hb, if_false]) K
/-! constants, fields, rows -/
theorem am_q1 {a b : Nat} {r r' : List Nat} (h : a :: r = b :: r') : a = b ∧ r = r' := by injection h with h1 h2; exact ⟨h1, h2⟩
theorem s_ldcI {idx n : Nat} {v : Int32} (hj : am_J T x pc (.ldc idx) pc' [4, n]) (hl : pc' - pc = 2) (hv : (UInt32.ofNat n).toInt32 = v) (K : am_C T d x pc' L (.int v :: st) σ Q) : am_C T d x pc L st σ Q := by
  have hq := hj.2
  simp only [am_q] at hq
  split at hq
  · rename_i h4
    have e := (am_q1 (am_q1 hq).2).1
    have e2 : am_li T x idx = v := by rw [← hv, ← e, UInt32.ofNat_toNat]; rfl
    refine am_C_h hj rfl rfl (p1 := pc + 2) ?_ (by rw [am_dl hl (by decide)]; exact K)
    simp only [am_h, hl, h4, e2, and_self, if_true]
  · rename_i h4
    exact absurd (am_q1 hq).1 h4
theorem s_ldc_wI {idx n : Nat} {v : Int32} (hj : am_J T x pc (.ldc_w idx) pc' [4, n]) (hl : pc' - pc = 3) (hv : (UInt32.ofNat n).toInt32 = v) (K : am_C T d x pc' L (.int v :: st) σ Q) : am_C T d x pc L st σ Q := by
  have hq := hj.2
  simp only [am_q] at hq
  split at hq
  · rename_i h4
    have e := (am_q1 (am_q1 hq).2).1
    have e2 : am_li T x idx = v := by rw [← hv, ← e, UInt32.ofNat_toNat]; rfl
    refine am_C_h hj rfl rfl (p1 := pc + 3) ?_ (by rw [am_dl hl (by decide)]; exact K)
    simp only [am_h, hl, h4, e2, and_self, if_true]
  · rename_i h4
    exact absurd (am_q1 hq).1 h4
theorem s_ldcS {idx n : Nat} (hj : am_J T x pc (.ldc idx) pc' [5, n]) (hl : pc' - pc = 2) (K : am_C T d x pc' L (am_ov (some n) :: st) σ Q) : am_C T d x pc L st σ Q := by
  have hq := hj.2
  simp only [am_q] at hq
  split at hq
  · rename_i h4
    exact absurd (am_q1 hq).1 (by decide)
  · rename_i h4
    have e5 := (am_q1 hq).1
    have e := (am_q1 (am_q1 hq).2).1
    refine am_C_h hj rfl rfl (p1 := pc + 2) ?_ (by rw [am_dl hl (by decide)]; exact K)
    simp only [am_h, hl, e5, e, and_self, if_true, am_ov]
    rw [if_neg (by decide)]
theorem s_ldc_wS {idx n : Nat} (hj : am_J T x pc (.ldc_w idx) pc' [5, n]) (hl : pc' - pc = 3) (K : am_C T d x pc' L (am_ov (some n) :: st) σ Q) : am_C T d x pc L st σ Q := by
  have hq := hj.2
  simp only [am_q] at hq
  split at hq
  · rename_i h4
    exact absurd (am_q1 hq).1 (by decide)
  · rename_i h4
    have e5 := (am_q1 hq).1
    have e := (am_q1 (am_q1 hq).2).1
    refine am_C_h hj rfl rfl (p1 := pc + 3) ?_ (by rw [am_dl hl (by decide)]; exact K)
    simp only [am_h, hl, e5, e, and_self, if_true, am_ov]
    rw [if_neg (by decide)]
theorem s_ldc2 {idx n : Nat} {v : Int64} (hj : am_J T x pc (.ldc2_w idx) pc' [6, n]) (hl : pc' - pc = 3) (hv : (UInt64.ofNat n).toInt64 = v) (K : am_C T d x pc' L (.long v :: st) σ Q) : am_C T d x pc L st σ Q := by
  have hq := hj.2
  simp only [am_q] at hq
  have e6 := (am_q1 hq).1
  have e := (am_q1 (am_q1 hq).2).1
  have e2 : am_ll T x idx = v := by rw [← hv, ← e, UInt64.ofNat_toNat]; rfl
  refine am_C_h hj rfl rfl (p1 := pc + 3) ?_ (by rw [am_dl hl (by decide)]; exact K)
  simp only [am_h, hl, e6, e2, and_self, if_true]
theorem s_static {idx n : Nat} (hj : am_J T x pc (.getstatic idx) pc' [7, n, 0]) (hl : pc' - pc = 3) (K : am_C T d x pc' L (am_ov (some n) :: st) σ Q) : am_C T d x pc L st σ Q := by
  have hq := hj.2
  simp only [am_q] at hq
  have e7 := (am_q1 hq).1
  have en := (am_q1 (am_q1 hq).2).1
  have e0 := (am_q1 (am_q1 (am_q1 hq).2).2).1
  refine am_C_h hj rfl rfl (p1 := pc + 3) ?_ (by rw [am_dl hl (by decide)]; exact K)
  simp only [am_h, hl, e7, am_sv, e0, en, and_self, if_true, am_ov]
theorem am_q9 {k ci f t : Nat} {l : Nat × Nat × Nat} (hq : [if l.1 = 1 then 9 else l.1, l.2.1, l.2.2, am_tf T l.2.1 l.2.2] = [9, ci, f, t]) : (l.1 = 1 ∨ l.1 = 9) ∧ l.2.1 = ci ∧ l.2.2 = f ∧ am_tf T ci f = t := by
  have e9 := (am_q1 hq).1
  have en := (am_q1 (am_q1 hq).2).1
  have e0 := (am_q1 (am_q1 (am_q1 hq).2).2).1
  have e1 := (am_q1 (am_q1 (am_q1 (am_q1 hq).2).2).2).1
  refine ⟨?_, en, e0, by rw [← en, ← e0]; exact e1⟩
  split at e9
  · rename_i h; exact Or.inl h
  · exact Or.inr e9
theorem s_gf {idx ci f t n : Nat} {v : Value} (hj : am_J T x pc (.getfield idx) pc' [9, ci, f, t]) (hl : pc' - pc = 3) (hk : (am_kd σ n).1 = ci + 1) (hv : ∀ g, g ci f = t → am_av g σ ci f n = v) (K : am_C T d x pc' L (v :: st) σ Q) : am_C T d x pc L (.ref n :: st) σ Q := by
  have hq := hj.2
  simp only [am_q] at hq
  obtain ⟨h1, h2, h3, h4⟩ := am_q9 (k := 0) hq
  refine am_C_h hj rfl rfl (p1 := pc + 3) ?_ (by rw [am_dl hl (by decide)]; exact K)
  simp only [am_h, hl, h2, h3, true_and]
  rw [if_pos ⟨h1, hk⟩, hv _ h4]
theorem s_gfI {idx ci f : Nat} {o : Option Nat} (hj : am_J T x pc (.getfield idx) pc' [9, ci, f, 0]) (hl : pc' - pc = 3) (hk : am_is σ o ci) (K : am_C T d x pc' L (.int (am_fI σ (1000 * ci + f) (o.getD 0)) :: st) σ Q) : am_C T d x pc L (am_ov o :: st) σ Q := by
  obtain ⟨n, rfl, hk⟩ := hk
  exact s_gf hj hl hk (fun g hg => by unfold am_av; rw [hg]; rfl) K
theorem s_gfZ {idx ci f : Nat} {o : Option Nat} (hj : am_J T x pc (.getfield idx) pc' [9, ci, f, 3]) (hl : pc' - pc = 3) (hk : am_is σ o ci) (K : am_C T d x pc' L (.int (am_fI σ (1000 * ci + f) (o.getD 0)) :: st) σ Q) : am_C T d x pc L (am_ov o :: st) σ Q := by
  obtain ⟨n, rfl, hk⟩ := hk
  exact s_gf hj hl hk (fun g hg => by unfold am_av; rw [hg]; rfl) K
theorem s_gfL {idx ci f : Nat} {o : Option Nat} (hj : am_J T x pc (.getfield idx) pc' [9, ci, f, 1]) (hl : pc' - pc = 3) (hk : am_is σ o ci) (K : am_C T d x pc' L (.long (am_fL σ (1000 * ci + f) (o.getD 0)) :: st) σ Q) : am_C T d x pc L (am_ov o :: st) σ Q := by
  obtain ⟨n, rfl, hk⟩ := hk
  exact s_gf hj hl hk (fun g hg => by unfold am_av; rw [hg]; rfl) K
theorem s_gfR {idx ci f : Nat} {o : Option Nat} (hj : am_J T x pc (.getfield idx) pc' [9, ci, f, 2]) (hl : pc' - pc = 3) (hk : am_is σ o ci) (K : am_C T d x pc' L (am_ov (am_fR σ (1000 * ci + f) (o.getD 0)) :: st) σ Q) : am_C T d x pc L (am_ov o :: st) σ Q := by
  obtain ⟨n, rfl, hk⟩ := hk
  exact s_gf hj hl hk (fun g hg => by unfold am_av; rw [hg]; rfl) K
theorem s_pf {idx ci f t n : Nat} {v : Value} {σ' : am_S} (hj : am_J T x pc (.putfield idx) pc' [9, ci, f, t]) (hl : pc' - pc = 3) (hk : (am_kd σ n).1 = ci + 1) (hv : ∀ g, g ci f = t → am_fput g σ ci f n v = some σ') (K : am_C T d x pc' L st σ' Q) : am_C T d x pc L (v :: .ref n :: st) σ Q := by
  have hq := hj.2
  simp only [am_q] at hq
  have e9 := (am_q1 hq).1
  have en := (am_q1 (am_q1 hq).2).1
  have e0 := (am_q1 (am_q1 (am_q1 hq).2).2).1
  have e1 := (am_q1 (am_q1 (am_q1 (am_q1 hq).2).2).2).1
  rw [en, e0] at e1
  refine am_C_h hj rfl rfl (p1 := pc + 3) ?_ (by rw [am_dl hl (by decide)]; exact K)
  simp only [am_h, hl, e9, en, e0, true_and]
  rw [if_pos hk, hv _ e1]
theorem s_pfI {idx ci f : Nat} {o : Option Nat} {v : Int32} (hj : am_J T x pc (.putfield idx) pc' [9, ci, f, 0]) (hl : pc' - pc = 3) (hk : am_is σ o ci) (K : ∀ σ1, σ1 = am_sfI σ (1000 * ci + f) (o.getD 0) v → am_C T d x pc' L st σ1 Q) : am_C T d x pc L (.int v :: am_ov o :: st) σ Q := by
  obtain ⟨n, rfl, hk⟩ := hk
  exact s_pf hj hl hk (fun g hg => by unfold am_fput; rw [hg]; rfl) (K _ rfl)
theorem s_pfZ {idx ci f : Nat} {o : Option Nat} {v : Int32} (hj : am_J T x pc (.putfield idx) pc' [9, ci, f, 3]) (hl : pc' - pc = 3) (hk : am_is σ o ci) (hv : v = 0 ∨ v = 1) (K : ∀ σ1, σ1 = am_sfI σ (1000 * ci + f) (o.getD 0) v → am_C T d x pc' L st σ1 Q) : am_C T d x pc L (.int v :: am_ov o :: st) σ Q := by
  obtain ⟨n, rfl, hk⟩ := hk
  exact s_pf hj hl hk (fun g hg => by unfold am_fput; rw [hg]; exact if_pos hv) (K _ rfl)
theorem s_pfL {idx ci f : Nat} {o : Option Nat} {v : Int64} (hj : am_J T x pc (.putfield idx) pc' [9, ci, f, 1]) (hl : pc' - pc = 3) (hk : am_is σ o ci) (K : ∀ σ1, σ1 = am_sfL σ (1000 * ci + f) (o.getD 0) v → am_C T d x pc' L st σ1 Q) : am_C T d x pc L (.long v :: am_ov o :: st) σ Q := by
  obtain ⟨n, rfl, hk⟩ := hk
  exact s_pf hj hl hk (fun g hg => by unfold am_fput; rw [hg]; rfl) (K _ rfl)
theorem s_pfR {idx ci f : Nat} {o v : Option Nat} (hj : am_J T x pc (.putfield idx) pc' [9, ci, f, 2]) (hl : pc' - pc = 3) (hk : am_is σ o ci) (K : ∀ σ1, σ1 = am_sfR σ (1000 * ci + f) (o.getD 0) v → am_C T d x pc' L st σ1 Q) : am_C T d x pc L (am_ov v :: am_ov o :: st) σ Q := by
  obtain ⟨n, rfl, hk⟩ := hk
  exact s_pf hj hl hk (fun g hg => by unfold am_fput; rw [hg]; cases v <;> rfl) (K _ rfl)
theorem s_new {idx ci n : Nat} (hj : am_J T x pc (.new idx) pc' [2, ci, n]) (hl : pc' - pc = 3) (K : ∀ σ1, σ1 = am_new σ (ci + 1) 0 n → am_ext σ σ1 → am_fz σ1 (am_nx σ) → am_C T d x pc' L (am_ov (some (am_nx σ)) :: st) σ1 Q) : am_C T d x pc L st σ Q := by
  have hq := hj.2
  simp only [am_q] at hq
  have e9 := (am_q1 hq).1
  have en := (am_q1 (am_q1 hq).2).1
  have e0 := (am_q1 (am_q1 (am_q1 hq).2).2).1
  rw [en] at e0
  intro hI
  refine (am_C_h hj rfl rfl (p1 := pc + 3) ?_ (by rw [am_dl hl (by decide)]; exact K _ rfl (am_I_new hI).2 (fun g => hI.2.2 _ (Nat.le_refl _) g))) hI
  simp only [am_h, hl, e9, en, e0, and_self, if_true, am_ov]
theorem s_newarray {t : ArrayType} {k m : Nat} {n : Int32} (hj : am_J T x pc (.newarray t) pc' ns) (hl : pc' - pc = 2) (ht : am_at t = k) (hk : k ≠ 0) (h0 : ¬ n < 0) (hm : n.toNatClampNeg = m) (h1 : m ≤ 1000000) (K : ∀ σ1, σ1 = am_new σ k m m → am_ext σ σ1 → am_fz σ1 (am_nx σ) → am_C T d x pc' L (am_ov (some (am_nx σ)) :: st) σ1 Q) : am_C T d x pc L (.int n :: st) σ Q := by
  intro hI
  refine (am_C_h hj rfl rfl (p1 := pc + 2) ?_ (by rw [am_dl hl (by decide)]; exact K _ rfl (am_I_new hI).2 (fun g => hI.2.2 _ (Nat.le_refl _) g))) hI
  simp only [am_h, hl, ht, true_and, am_ov]
  rw [if_pos ⟨hk, h0, by rw [hm]; exact h1⟩, hm]
theorem s_anewarray {idx k m : Nat} {n : Int32} (hj : am_J T x pc (.anewarray idx) pc' [3, k]) (hl : pc' - pc = 3) (h0 : ¬ n < 0) (hm : n.toNatClampNeg = m) (h1 : m ≤ 1000000) (K : ∀ σ1, σ1 = am_new σ (2000 + k) m m → am_ext σ σ1 → am_fz σ1 (am_nx σ) → am_C T d x pc' L (am_ov (some (am_nx σ)) :: st) σ1 Q) : am_C T d x pc L (.int n :: st) σ Q := by
  have hq := hj.2
  simp only [am_q] at hq
  have e9 := (am_q1 hq).1
  have en := (am_q1 (am_q1 hq).2).1
  intro hI
  refine (am_C_h hj rfl rfl (p1 := pc + 3) ?_ (by rw [am_dl hl (by decide)]; exact K _ rfl (am_I_new hI).2 (fun g => hI.2.2 _ (Nat.le_refl _) g))) hI
  simp only [am_h, hl, e9, en, true_and, am_ov]
  rw [if_pos ⟨h0, by rw [hm]; exact h1⟩, hm]
theorem s_iaload {o : Option Nat} {j : Int32} (hj : am_J T x pc .iaload pc' ns) (hl : pc' - pc = 1) (h : am_ar σ 1000 o j) (K : am_C T d x pc' L (.int (am_aI σ (o.getD 0) j.toNatClampNeg) :: st) σ Q) : am_C T d x pc L (.int j :: am_ov o :: st) σ Q := by
  obtain ⟨n, rfl, h1, h2, h3⟩ := h
  refine am_C_h hj rfl rfl (p1 := pc + 1) ?_ (by rw [am_dl hl (by decide)]; exact K)
  simp only [am_h, hl, am_ov, true_and]
  rw [if_pos ⟨h1, h2, h3⟩]
  rfl
theorem s_ialoadR {n : Nat} {j : Int32} (hj : am_J T x pc .iaload pc' ns) (hl : pc' - pc = 1) (hn : n < 1000) (h0 : (am_kd σ n).1 = 0) (h1 : am_rk (am_tz T) n = 1000) (h2 : 0 ≤ j.toInt) (h3 : j.toInt < am_rl (am_tz T) n) (K : am_C T d x pc' L (.int (am_rv (am_tz T) n j.toNatClampNeg) :: st) σ Q) : am_C T d x pc L (.int j :: am_ov (some n) :: st) σ Q := by
  refine am_C_h hj rfl rfl (p1 := pc + 1) ?_ (by rw [am_dl hl (by decide)]; exact K)
  simp only [am_h, hl, am_ov, true_and]
  rw [if_neg (by rw [h0]; intro h; exact absurd h.1 (by decide)), if_pos ⟨hn, h1, h2, h3⟩]
theorem s_laload {o : Option Nat} {j : Int32} (hj : am_J T x pc .laload pc' ns) (hl : pc' - pc = 1) (h : am_ar σ 1001 o j) (K : am_C T d x pc' L (.long (am_aL σ (o.getD 0) j.toNatClampNeg) :: st) σ Q) : am_C T d x pc L (.int j :: am_ov o :: st) σ Q := by
  obtain ⟨n, rfl, h1, h2, h3⟩ := h
  refine am_C_h hj rfl rfl (p1 := pc + 1) ?_ (by rw [am_dl hl (by decide)]; exact K)
  simp only [am_h, hl, am_ov, true_and]
  rw [if_pos ⟨h1, h2, h3⟩]
  rfl
theorem s_baload {k : Nat} {o : Option Nat} {j : Int32} (hk : k = 1002 ∨ k = 1003) (hj : am_J T x pc .baload pc' ns) (hl : pc' - pc = 1) (h : am_ar σ k o j) (K : am_C T d x pc' L (.int (am_aI σ (o.getD 0) j.toNatClampNeg) :: st) σ Q) : am_C T d x pc L (.int j :: am_ov o :: st) σ Q := by
  obtain ⟨n, rfl, h1, h2, h3⟩ := h
  refine am_C_h hj rfl rfl (p1 := pc + 1) ?_ (by rw [am_dl hl (by decide)]; exact K)
  simp only [am_h, hl, am_ov, true_and]
  rw [if_pos ⟨by rw [h1]; exact hk, h2, h3⟩]
  rfl
theorem s_aaload {k : Nat} {o : Option Nat} {j : Int32} (hk : 2000 ≤ k) (hq : am_aq T k ≠ 0) (hj : am_J T x pc .aaload pc' ns) (hl : pc' - pc = 1) (h : am_ar σ k o j) (K : am_C T d x pc' L (am_ov (am_aR σ (o.getD 0) j.toNatClampNeg) :: st) σ Q) : am_C T d x pc L (.int j :: am_ov o :: st) σ Q := by
  obtain ⟨n, rfl, h1, h2, h3⟩ := h
  refine am_C_h hj rfl rfl (p1 := pc + 1) ?_ (by rw [am_dl hl (by decide)]; exact K)
  simp only [am_h, hl, am_ov, true_and]
  rw [if_pos ⟨by rw [h1]; exact hk, by rw [h1]; exact hq, h2, h3⟩]
  rfl
theorem s_iastore {o : Option Nat} {j v : Int32} (hj : am_J T x pc .iastore pc' ns) (hl : pc' - pc = 1) (h : am_ar σ 1000 o j) (K : ∀ σ1, σ1 = am_saI σ (o.getD 0) j.toNatClampNeg v → am_C T d x pc' L st σ1 Q) : am_C T d x pc L (.int v :: .int j :: am_ov o :: st) σ Q := by
  obtain ⟨n, rfl, h1, h2, h3⟩ := h
  refine am_C_h hj rfl rfl (p1 := pc + 1) ?_ (by rw [am_dl hl (by decide)]; exact K _ rfl)
  simp only [am_h, hl, am_ov, true_and]
  rw [if_pos ⟨h1, h2, h3⟩]
  rfl
theorem s_lastore {o : Option Nat} {j : Int32} {v : Int64} (hj : am_J T x pc .lastore pc' ns) (hl : pc' - pc = 1) (h : am_ar σ 1001 o j) (K : ∀ σ1, σ1 = am_saL σ (o.getD 0) j.toNatClampNeg v → am_C T d x pc' L st σ1 Q) : am_C T d x pc L (.long v :: .int j :: am_ov o :: st) σ Q := by
  obtain ⟨n, rfl, h1, h2, h3⟩ := h
  refine am_C_h hj rfl rfl (p1 := pc + 1) ?_ (by rw [am_dl hl (by decide)]; exact K _ rfl)
  simp only [am_h, hl, am_ov, true_and]
  rw [if_pos ⟨h1, h2, h3⟩]
  rfl
theorem s_bastore {o : Option Nat} {j v : Int32} (hj : am_J T x pc .bastore pc' ns) (hl : pc' - pc = 1) (h : am_ar σ 1002 o j) (K : ∀ σ1, σ1 = am_saI σ (o.getD 0) j.toNatClampNeg (vp_nar .byte v) → am_C T d x pc' L st σ1 Q) : am_C T d x pc L (.int v :: .int j :: am_ov o :: st) σ Q := by
  obtain ⟨n, rfl, h1, h2, h3⟩ := h
  refine am_C_h hj rfl rfl (p1 := pc + 1) ?_ (by rw [am_dl hl (by decide)]; exact K _ rfl)
  simp only [am_h, hl, am_ov, true_and]
  rw [if_pos ⟨h1, h2, h3⟩]
  rfl
theorem s_zastore {o : Option Nat} {j v : Int32} (hj : am_J T x pc .bastore pc' ns) (hl : pc' - pc = 1) (h : am_ar σ 1003 o j) (K : ∀ σ1, σ1 = am_saI σ (o.getD 0) j.toNatClampNeg (vp_nar .boolean v) → am_C T d x pc' L st σ1 Q) : am_C T d x pc L (.int v :: .int j :: am_ov o :: st) σ Q := by
  obtain ⟨n, rfl, h1, h2, h3⟩ := h
  refine am_C_h hj rfl rfl (p1 := pc + 1) ?_ (by rw [am_dl hl (by decide)]; exact K _ rfl)
  simp only [am_h, hl, am_ov, true_and]
  rw [if_neg (by rw [h1]; intro h; exact absurd h.1 (by decide)), if_pos ⟨h1, h2, h3⟩]
  rfl
theorem s_aastoreN {k : Nat} {o : Option Nat} {j : Int32} {v : Option Nat} (hk : 2000 ≤ k) (hq : am_aq T k = 1) (hv : ∀ n, v = some n → (am_kd σ n).1 = k - 2000 + 1) (hj : am_J T x pc .aastore pc' ns) (hl : pc' - pc = 1) (h : am_ar σ k o j) (K : ∀ σ1, σ1 = am_saR σ (o.getD 0) j.toNatClampNeg v → am_C T d x pc' L st σ1 Q) : am_C T d x pc L (am_ov v :: .int j :: am_ov o :: st) σ Q := by
  obtain ⟨n, rfl, h1, h2, h3⟩ := h
  refine am_C_h hj rfl rfl (p1 := pc + 1) ?_ (by rw [am_dl hl (by decide)]; exact K _ rfl)
  cases v with
  | none =>
    simp only [am_h, hl, am_ov, true_and]
    rw [if_pos ⟨by rw [h1]; exact hk, by rw [h1, hq]; decide, h2, h3⟩]
    rfl
  | some w =>
    simp only [am_h, hl, am_ov, true_and]
    rw [if_pos ⟨by rw [h1]; exact hk, by rw [h1]; exact hq, by rw [h1]; exact hv w rfl, h2, h3⟩]
    rfl
theorem s_aastoreS {o : Option Nat} {j : Int32} {v : Nat} (hq : am_aq T 2500 = 2) (hv : v < 200) (hr : am_rk (am_tz T) v = 1) (hj : am_J T x pc .aastore pc' ns) (hl : pc' - pc = 1) (h : am_ar σ 2500 o j) (K : ∀ σ1, σ1 = am_saR σ (o.getD 0) j.toNatClampNeg (some v) → am_C T d x pc' L st σ1 Q) : am_C T d x pc L (am_ov (some v) :: .int j :: am_ov o :: st) σ Q := by
  obtain ⟨n, rfl, h1, h2, h3⟩ := h
  refine am_C_h hj rfl rfl (p1 := pc + 1) ?_ (by rw [am_dl hl (by decide)]; exact K _ rfl)
  simp only [am_h, hl, am_ov, true_and]
  rw [if_neg (by rw [h1, hq]; intro h; exact absurd h.2.1 (by decide)), if_pos ⟨by rw [h1]; decide, by rw [h1]; exact hq, hv, hr, h2, h3⟩]
  rfl
theorem s_len {k : Nat} {o : Option Nat} (hq : am_aq T k ≠ 0) (hk : 1000 ≤ k) (hj : am_J T x pc .arraylength pc' ns) (hl : pc' - pc = 1) (h : ∃ n, o = some n ∧ (am_kd σ n).1 = k) (K : am_C T d x pc' L (.int (Int32.ofNat (am_kd σ (o.getD 0)).2) :: st) σ Q) : am_C T d x pc L (am_ov o :: st) σ Q := by
  obtain ⟨n, rfl, h1⟩ := h
  refine am_C_h hj rfl rfl (p1 := pc + 1) ?_ (by rw [am_dl hl (by decide)]; exact K)
  simp only [am_h, hl, am_ov, true_and]
  rw [if_pos ⟨by rw [h1]; exact hk, by rw [h1]; exact hq⟩]
  rfl
theorem s_lenR {n : Nat} (hj : am_J T x pc .arraylength pc' ns) (hl : pc' - pc = 1) (hn : n < 1000) (h0 : (am_kd σ n).1 = 0) (h1 : am_rk (am_tz T) n = 1000 ∨ am_rk (am_tz T) n = 1002) {v : Int32} (hv : Int32.ofNat (am_rl (am_tz T) n) = v) (K : am_C T d x pc' L (.int v :: st) σ Q) : am_C T d x pc L (am_ov (some n) :: st) σ Q := by
  refine am_C_h hj rfl rfl (p1 := pc + 1) ?_ (by rw [am_dl hl (by decide)]; exact K)
  simp only [am_h, hl, am_ov, true_and]
  rw [if_neg (by rw [h0]; intro h; exact absurd h.1 (by decide)), if_pos ⟨hn, h1⟩, hv]
end AmK
