/-! locals and jumps -/
def am_j (pc : Nat) (off : Int) : Option Nat := if 0 ≤ (pc : Int) + off then some ((pc : Int) + off).toNat else none
theorem am_j_ok {pc t : Nat} {off : Int} (h : am_j pc off = some t) : (pc : Int) + off = (t : Int) := by
  unfold am_j at h
  split at h
  · cases h
    omega
  · cases h
def am_cc (c : ClassFile.Cond) (x y : Int32) : Bool := match c with
  | .eq => decide (x = y)
  | .ne => !decide (x = y)
  | .lt => decide (x < y)
  | .ge => decide (y ≤ x)
  | .gt => decide (y < x)
  | .le => decide (x ≤ y)
def am_rf (v : Value) : Option (Option Nat) := match v with
  | .null => some none
  | .ref n => if 1000 ≤ n then some (some n) else none
  | _ => none
def am_qr (ad : Nat → Nat) (r : Option Nat) : Option Nat := r.map ad
theorem am_rf_ok {ad : Nat → Nat} {v : Value} {r : Option Nat} (h : am_rf v = some r) : am_tr ad v = va_rf (r.map ad) ∧ ∀ n, r = some n → 1000 ≤ n := by
  cases v <;> simp only [am_rf] at h <;> first
    | (cases h; done)
    | (cases h; exact ⟨rfl, fun n h => by cases h⟩)
    | (split at h
       · rename_i h1
         cases h
         exact ⟨rfl, fun n h => by cases h; exact h1⟩
       · cases h)
theorem am_rf_eq {ad : Nat → Nat} (hinj : ∀ a b, 1000 ≤ a → 1000 ≤ b → ad a = ad b → a = b) {r q : Option Nat} (hr : ∀ n, r = some n → 1000 ≤ n) (hq : ∀ n, q = some n → 1000 ≤ n) : r.map ad = q.map ad ↔ r = q := by
  constructor
  · intro h
    cases r with
    | none => cases q with
      | none => rfl
      | some b => cases h
    | some a => cases q with
      | none => cases h
      | some b => rw [hinj a b (hr a rfl) (hq b rfl) (Option.some.inj h)]
  · intro h
    rw [h]
def am_sw (pc : Nat) (dflt lo hi : Int) (offs : Array Int) (x : Int) : Option Nat :=
  if x < lo ∨ hi < x then am_j pc dflt else match offs[(x - lo).toNat]? with
    | some off => am_j pc off
    | none => none
def am_p (i : Instr) (len pc : Nat) (L : List (Option Value)) (st : List Value) : Option (Nat × List (Option Value) × List Value) := match i with
  | .bipush n => if len = 2 then some (pc + 2, L, .int (Int8.ofInt n).toInt32 :: st) else none
  | .sipush n => if len = 3 then some (pc + 3, L, .int (Int16.ofInt n).toInt32 :: st) else none
  | .iload k => (match L[k]? with
    | some (some (.int x)) => if len = 2 then some (pc + 2, L, .int x :: st) else none
    | _ => none)
  | .iload_n k => (match L[(k : Nat)]? with
    | some (some (.int x)) => if len = 1 then some (pc + 1, L, .int x :: st) else none
    | _ => none)
  | .lload k => (match L[k]? with
    | some (some (.long x)) => if len = 2 then some (pc + 2, L, .long x :: st) else none
    | _ => none)
  | .lload_n k => (match L[(k : Nat)]? with
    | some (some (.long x)) => if len = 1 then some (pc + 1, L, .long x :: st) else none
    | _ => none)
  | .aload k => (match L[k]? with
    | some (some (.ref x)) => if len = 2 then some (pc + 2, L, .ref x :: st) else none
    | some (some .null) => if len = 2 then some (pc + 2, L, .null :: st) else none
    | _ => none)
  | .aload_n k => (match L[(k : Nat)]? with
    | some (some (.ref x)) => if len = 1 then some (pc + 1, L, .ref x :: st) else none
    | some (some .null) => if len = 1 then some (pc + 1, L, .null :: st) else none
    | _ => none)
  | .istore k => (match st with
    | .int x :: r => if len = 2 ∧ k < L.length then some (pc + 2, am_st1 L k (.int x), r) else none
    | _ => none)
  | .istore_n k => (match st with
    | .int x :: r => if len = 1 ∧ (k : Nat) < L.length then some (pc + 1, am_st1 L k (.int x), r) else none
    | _ => none)
  | .lstore k => (match st with
    | .long x :: r => if len = 2 ∧ k + 1 < L.length then some (pc + 2, am_st2 L k (.long x), r) else none
    | _ => none)
  | .lstore_n k => (match st with
    | .long x :: r => if len = 1 ∧ (k : Nat) + 1 < L.length then some (pc + 1, am_st2 L k (.long x), r) else none
    | _ => none)
  | .astore k => (match st with
    | .ref x :: r => if len = 2 ∧ k < L.length then some (pc + 2, am_st1 L k (.ref x), r) else none
    | .null :: r => if len = 2 ∧ k < L.length then some (pc + 2, am_st1 L k .null, r) else none
    | _ => none)
  | .astore_n k => (match st with
    | .ref x :: r => if len = 1 ∧ (k : Nat) < L.length then some (pc + 1, am_st1 L k (.ref x), r) else none
    | .null :: r => if len = 1 ∧ (k : Nat) < L.length then some (pc + 1, am_st1 L k .null, r) else none
    | _ => none)
  | .iinc k n => (match L[k]? with
    | some (some (.int x)) => if len = 3 then some (pc + 3, am_st1 L k (.int (x + Int32.ofInt n)), st) else none
    | _ => none)
  | .goto off => (match am_j pc off with
    | some t => if len = 3 then some (t, L, st) else none
    | none => none)
  | .ifCond c off => (match st, am_j pc off with
    | .int x :: r, some t => if len = 3 then some (if am_cc c x 0 then t else pc + 3, L, r) else none
    | _, _ => none)
  | .if_icmp c off => (match st, am_j pc off with
    | .int y :: .int x :: r, some t => if len = 3 then some (if am_cc c x y then t else pc + 3, L, r) else none
    | _, _ => none)
  | .ifnull off => (match st, am_j pc off with
    | .null :: r, some t => if len = 3 then some (t, L, r) else none
    | .ref _ :: r, some _ => if len = 3 then some (pc + 3, L, r) else none
    | _, _ => none)
  | .ifnonnull off => (match st, am_j pc off with
    | .null :: r, some _ => if len = 3 then some (pc + 3, L, r) else none
    | .ref _ :: r, some t => if len = 3 then some (t, L, r) else none
    | _, _ => none)
  | .if_acmp c off => (match st, am_j pc off with
    | w :: v :: r, some t => (match am_rf v, am_rf w with
      | some x, some y => if len = 3 then some (if (x = y) = (c = .eq) then t else pc + 3, L, r) else none
      | _, _ => none)
    | _, _ => none)
  | .tableswitch dflt lo hi offs => (match st with
    | .int x :: r => (match am_sw pc dflt lo hi offs x.toInt with
      | some t => some (t, L, r)
      | none => none)
    | _ => none)
  | .lookupswitch dflt ps => (match st with
    | .int x :: r => (match am_j pc (Op.lookupswitch.offset ps.toList dflt x.toInt) with
      | some t => if (ps.toList.zip (ps.toList.drop 1)).all (fun (a, next) => a.1 < next.1) = true then some (t, L, r) else none
      | none => none)
    | _ => none)
  | i => (match am_g i st with
    | some st' => if len = 1 then some (pc + 1, L, st') else none
    | none => none)
section AmP
variable {p : Program} {l : Launch} {e : Env} {R : Room} {s : State} {m : MethodId} {args : Array Value} {below : List Frame} {meth : Method} {c : Code} {H : Heap} {locs : List Loc} {cells slots : Nat} {Q : State → Prop}
variable {cc : ByteArray} {pc : Nat} {ls : Array Slot} {ad : Nat → Nat}
theorem am_jp {m : MethodId} {t1 t2 : Nat} {b : Bool} {ls : Array Slot} {st : List Value} (k : W p l e R s m args below meth c H locs cells slots Q (F0 m (if b then t1 else t2) ls st)) : (b = true → W p l e R s m args below meth c H locs cells slots Q (F0 m t1 ls st)) ∧ (b = false → W p l e R s m args below meth c H locs cells slots Q (F0 m t2 ls st)) :=
  ⟨fun h => by rw [h] at k; exact k, fun h => by rw [h] at k; exact k⟩
set_option maxHeartbeats 4000000 in
theorem am_p_ok (hx : p.tables.exec = Jvm.exec) (hb : c.code = cc) (hinj : ∀ a b, 1000 ≤ a → 1000 ≤ b → ad a = ad b → a = b) {i : Instr} {len nL pc' : Nat} {L L' : List (Option Value)} {st st' : List Value} (hd : decode cc pc = .ok (i, len)) (hl : am_L ad ls nL L) (h : am_p i len pc L st = some (pc', L', st'))
    (k : ∀ ls' : Array Slot, am_L ad ls' nL L' → W p l e R s m args below meth c H locs cells slots Q (F0 m pc' ls' (st'.map (am_tr ad)))) : W p l e R s m args below meth c H locs cells slots Q (F0 m pc ls (st.map (am_tr ad))) := by
  cases i with
  | bipush n =>
    simp only [am_p] at h
    split at h
    · rename_i hn; subst hn; cases h; exact lv_bipush hx hb hd rfl (k ls hl)
    · cases h
  | sipush n =>
    simp only [am_p] at h
    split at h
    · rename_i hn; subst hn; cases h; exact lv_sipush hx hb hd rfl (k ls hl)
    · cases h
  | iload j =>
    simp only [am_p] at h
    split at h
    · rename_i x hg
      split at h
      · rename_i hn; subst hn; cases h; exact lv_iload hx hb hd (hl.get hg) (k ls hl)
      · cases h
    · cases h
  | iload_n j =>
    simp only [am_p] at h
    split at h
    · rename_i x hg
      split at h
      · rename_i hn; subst hn; cases h; exact lv_iload_n hx hb hd rfl (hl.get hg) (k ls hl)
      · cases h
    · cases h
  | lload j =>
    simp only [am_p] at h
    split at h
    · rename_i x hg
      split at h
      · rename_i hn; subst hn; cases h; exact lv_lload hx hb hd (hl.get hg) (k ls hl)
      · cases h
    · cases h
  | lload_n j =>
    simp only [am_p] at h
    split at h
    · rename_i x hg
      split at h
      · rename_i hn; subst hn; cases h; exact lv_lload_n hx hb hd rfl (hl.get hg) (k ls hl)
      · cases h
    · cases h
  | aload j =>
    simp only [am_p] at h
    split at h
    · rename_i x hg
      split at h
      · rename_i hn; subst hn; cases h; exact lv_aload hx hb hd (hl.get hg) (k ls hl)
      · cases h
    · rename_i hg
      split at h
      · rename_i hn; subst hn; cases h; exact lv_aloadN hx hb hd (hl.get hg) (k ls hl)
      · cases h
    · cases h
  | aload_n j =>
    simp only [am_p] at h
    split at h
    · rename_i x hg
      split at h
      · rename_i hn; subst hn; cases h; exact lv_aload_n hx hb hd rfl (hl.get hg) (k ls hl)
      · cases h
    · rename_i hg
      split at h
      · rename_i hn; subst hn; cases h; exact lv_aload_nN hx hb hd rfl (hl.get hg) (k ls hl)
      · cases h
    · cases h
  | istore j =>
    simp only [am_p] at h
    split at h
    · split at h
      · rename_i hn; obtain ⟨hn, hj⟩ := hn; subst hn; cases h
        exact lv_istore hx hb hd hl.2 (by rw [← hl.1]; exact hj) rfl (fun ls' h' => k ls' (am_L.st1 hl.1 h'))
      · cases h
    · cases h
  | istore_n j =>
    simp only [am_p] at h
    split at h
    · split at h
      · rename_i hn; obtain ⟨hn, hj⟩ := hn; subst hn; cases h
        exact lv_istore_n hx hb hd rfl hl.2 (by rw [← hl.1]; exact hj) rfl (fun ls' h' => k ls' (am_L.st1 hl.1 h'))
      · cases h
    · cases h
  | lstore j =>
    simp only [am_p] at h
    split at h
    · split at h
      · rename_i hn; obtain ⟨hn, hj⟩ := hn; subst hn; cases h
        exact lv_lstore hx hb hd hl.2 (by rw [← hl.1]; exact hj) rfl (fun ls' h' => k ls' (am_L.st2 hl.1 (by rw [← hl.1]; exact hj) h'))
      · cases h
    · cases h
  | lstore_n j =>
    simp only [am_p] at h
    split at h
    · split at h
      · rename_i hn; obtain ⟨hn, hj⟩ := hn; subst hn; cases h
        exact lv_lstore_n hx hb hd rfl hl.2 (by rw [← hl.1]; exact hj) rfl (fun ls' h' => k ls' (am_L.st2 hl.1 (by rw [← hl.1]; exact hj) h'))
      · cases h
    · cases h
  | astore j =>
    simp only [am_p] at h
    split at h
    · split at h
      · rename_i hn; obtain ⟨hn, hj⟩ := hn; subst hn; cases h
        exact lv_astore hx hb hd hl.2 (by rw [← hl.1]; exact hj) rfl (fun ls' h' => k ls' (am_L.st1 hl.1 h'))
      · cases h
    · split at h
      · rename_i hn; obtain ⟨hn, hj⟩ := hn; subst hn; cases h
        exact lv_astoreN hx hb hd hl.2 (by rw [← hl.1]; exact hj) rfl (fun ls' h' => k ls' (am_L.st1 hl.1 h'))
      · cases h
    · cases h
  | astore_n j =>
    simp only [am_p] at h
    split at h
    · split at h
      · rename_i hn; obtain ⟨hn, hj⟩ := hn; subst hn; cases h
        exact lv_astore_n hx hb hd rfl hl.2 (by rw [← hl.1]; exact hj) rfl (fun ls' h' => k ls' (am_L.st1 hl.1 h'))
      · cases h
    · split at h
      · rename_i hn; obtain ⟨hn, hj⟩ := hn; subst hn; cases h
        exact lv_astore_nN hx hb hd rfl hl.2 (by rw [← hl.1]; exact hj) rfl (fun ls' h' => k ls' (am_L.st1 hl.1 h'))
      · cases h
    · cases h
  | iinc j n =>
    simp only [am_p] at h
    split at h
    · rename_i x hg
      split at h
      · rename_i hn; subst hn; cases h
        obtain ⟨q, hq⟩ := List.getElem?_of_mem ((am_prs_mem L 0).mpr ⟨_, Nat.zero_le _, hg, rfl⟩)
        have hj : j < L.length := (List.getElem?_eq_some_iff.mp hg).1
        exact lv_iinc (ls := ls) hx hb hd hl.2 hq rfl (by rw [← hl.1]; exact hj) rfl (fun ls' h' => k ls' (am_L.st1 (v := .int (x + Int32.ofInt n)) hl.1 h'))
      · cases h
    · cases h
  | goto off =>
    simp only [am_p] at h
    split at h
    · rename_i t hg
      split at h
      · rename_i hn; subst hn; cases h; exact lv_goto hx hb hd (am_j_ok hg) (k ls hl)
      · cases h
    · cases h
  | ifCond cd off =>
    simp only [am_p] at h
    split at h
    · rename_i x r t hg
      split at h
      · rename_i hn; subst hn; cases h
        obtain ⟨k1, k2⟩ := am_jp (k ls hl)
        cases cd with
        | eq => exact lv_if_eq hx hb hd (am_j_ok hg) (fun q => k1 (by simp [am_cc, q])) (fun q => k2 (by simp [am_cc, q]))
        | ne => exact lv_if_ne hx hb hd (am_j_ok hg) (fun q => k1 (by simp [am_cc, q])) (fun q => k2 (by simp [am_cc, q]))
        | lt => exact lv_if_lt hx hb hd (am_j_ok hg) (fun q => k1 (decide_eq_true q)) (fun q => k2 (decide_eq_false q))
        | ge => exact lv_if_ge hx hb hd (am_j_ok hg) (fun q => k1 (decide_eq_true q)) (fun q => k2 (decide_eq_false q))
        | gt => exact lv_if_gt hx hb hd (am_j_ok hg) (fun q => k1 (decide_eq_true q)) (fun q => k2 (decide_eq_false q))
        | le => exact lv_if_le hx hb hd (am_j_ok hg) (fun q => k1 (decide_eq_true q)) (fun q => k2 (decide_eq_false q))
      · cases h
    · cases h
  | if_icmp cd off =>
    simp only [am_p] at h
    split at h
    · rename_i y x r t hg
      split at h
      · rename_i hn; subst hn; cases h
        obtain ⟨k1, k2⟩ := am_jp (k ls hl)
        cases cd with
        | eq => exact lv_icmp_eq hx hb hd (am_j_ok hg) (fun q => k1 (by simp [am_cc, q])) (fun q => k2 (by simp [am_cc, q]))
        | ne => exact lv_icmp_ne hx hb hd (am_j_ok hg) (fun q => k1 (by simp [am_cc, q])) (fun q => k2 (by simp [am_cc, q]))
        | lt => exact lv_icmp_lt hx hb hd (am_j_ok hg) (fun q => k1 (decide_eq_true q)) (fun q => k2 (decide_eq_false q))
        | ge => exact lv_icmp_ge hx hb hd (am_j_ok hg) (fun q => k1 (decide_eq_true q)) (fun q => k2 (decide_eq_false q))
        | gt => exact lv_icmp_gt hx hb hd (am_j_ok hg) (fun q => k1 (decide_eq_true q)) (fun q => k2 (decide_eq_false q))
        | le => exact lv_icmp_le hx hb hd (am_j_ok hg) (fun q => k1 (decide_eq_true q)) (fun q => k2 (decide_eq_false q))
      · cases h
    · cases h
  | ifnull off =>
    simp only [am_p] at h
    split at h
    · rename_i r t hg
      split at h
      · rename_i hn; subst hn; cases h; exact lv_ifnullN hx hb hd (am_j_ok hg) (k ls hl)
      · cases h
    · split at h
      · rename_i hn; subst hn; cases h; exact lv_ifnull hx hb hd (k ls hl)
      · cases h
    · cases h
  | ifnonnull off =>
    simp only [am_p] at h
    split at h
    · split at h
      · rename_i hn; subst hn; cases h; exact lv_ifnonnullN hx hb hd (k ls hl)
      · cases h
    · rename_i r t hg
      split at h
      · rename_i hn; subst hn; cases h; exact lv_ifnonnull hx hb hd (am_j_ok hg) (k ls hl)
      · cases h
    · cases h
  | if_acmp cd off =>
    simp only [am_p] at h
    split at h
    · rename_i w v r t hg
      split at h
      · rename_i x y hv hw
        split at h
        · rename_i hn; subst hn; cases h
          obtain ⟨e1, e2⟩ := am_rf_ok (ad := ad) hv
          obtain ⟨e3, e4⟩ := am_rf_ok (ad := ad) hw
          have hE := am_rf_eq hinj e2 e4
          have k := k ls hl
          show W p l e R s m args below meth c H locs cells slots Q (F0 m pc ls (am_tr ad w :: am_tr ad v :: st'.map (am_tr ad)))
          rw [e1, e3]
          cases cd with
          | eq =>
            refine lv_acmp_eq hx hb hd (am_j_ok hg) (fun q => ?_) (fun q => ?_)
            · rw [if_pos (by simp [hE.mp q])] at k; exact k
            · rw [if_neg (by simp; exact fun z => q (hE.mpr z))] at k; exact k
          | ne =>
            refine lv_acmp_ne hx hb hd (am_j_ok hg) (fun q => ?_) (fun q => ?_)
            · rw [if_pos (by simp; exact fun z => q (hE.mpr z))] at k; exact k
            · rw [if_neg (by simp [hE.mp q])] at k; exact k
        · cases h
      · cases h
    · cases h
  | tableswitch dflt lo hi offs =>
    simp only [am_p] at h
    split at h
    · rename_i x r
      split at h
      · rename_i t hg
        cases h
        unfold am_sw at hg
        split at hg
        · rename_i ho; exact lv_tableOut hx hb hd ho (am_j_ok hg) (k ls hl)
        · rename_i ho
          split at hg
          · rename_i off hof
            exact lv_tableIn hx hb hd (fun z => ho (Or.inl z)) (fun z => ho (Or.inr z)) hof (am_j_ok hg) (k ls hl)
          · cases hg
      · cases h
    · cases h
  | lookupswitch dflt ps =>
    simp only [am_p] at h
    split at h
    · rename_i x r
      split at h
      · rename_i t hg
        split at h
        · rename_i hp
          cases h
          exact lv_lookup hx hb hd hp rfl (am_j_ok hg) (k ls hl)
        · cases h
      · cases h
    · cases h
  | _ =>
    simp only [am_p] at h
    split at h
    · rename_i st' hg
      split at h
      · rename_i hn; subst hn; cases h
        exact am_g_ok hx hb hd hg (k ls hl)
      · cases h
    · cases h
end AmP
