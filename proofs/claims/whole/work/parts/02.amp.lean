/-! what instructions do to the operand stack alone (by wip/whole/gen02.py) -/
def am_g (i : Instr) (st : List Value) : Option (List Value) := match i with
  | .iadd => (match st with
    | .int y :: .int x :: r => some (.int (x + y) :: r)
    | _ => none)
  | .isub => (match st with
    | .int y :: .int x :: r => some (.int (x - y) :: r)
    | _ => none)
  | .imul => (match st with
    | .int y :: .int x :: r => some (.int (x * y) :: r)
    | _ => none)
  | .iand => (match st with
    | .int y :: .int x :: r => some (.int (x &&& y) :: r)
    | _ => none)
  | .ior => (match st with
    | .int y :: .int x :: r => some (.int (x ||| y) :: r)
    | _ => none)
  | .ixor => (match st with
    | .int y :: .int x :: r => some (.int (x ^^^ y) :: r)
    | _ => none)
  | .ishl => (match st with
    | .int y :: .int x :: r => some (.int (x <<< (y &&& 31)) :: r)
    | _ => none)
  | .ishr => (match st with
    | .int y :: .int x :: r => some (.int (x >>> (y &&& 31)) :: r)
    | _ => none)
  | .iushr => (match st with
    | .int y :: .int x :: r => some (.int ((x.toUInt32 >>> (y.toUInt32 &&& Int32.toUInt32 31)).toInt32) :: r)
    | _ => none)
  | .idiv => (match st with
    | .int y :: .int x :: r => if y = 0 then none else some (.int (x / y) :: r)
    | _ => none)
  | .irem => (match st with
    | .int y :: .int x :: r => if y = 0 then none else some (.int (x - x / y * y) :: r)
    | _ => none)
  | .ineg => (match st with
    | .int x :: r => some (.int (-x) :: r)
    | _ => none)
  | .i2l => (match st with
    | .int x :: r => some (.long (x.toInt64) :: r)
    | _ => none)
  | .l2i => (match st with
    | .long x :: r => some (.int (x.toInt32) :: r)
    | _ => none)
  | .i2b => (match st with
    | .int x :: r => some (.int (x.toInt8.toInt32) :: r)
    | _ => none)
  | .i2s => (match st with
    | .int x :: r => some (.int (x.toInt16.toInt32) :: r)
    | _ => none)
  | .i2c => (match st with
    | .int x :: r => some (.int ((x.toUInt32 % 65536).toInt32) :: r)
    | _ => none)
  | .lneg => (match st with
    | .long x :: r => some (.long (-x) :: r)
    | _ => none)
  | .ladd => (match st with
    | .long y :: .long x :: r => some (.long (x + y) :: r)
    | _ => none)
  | .lsub => (match st with
    | .long y :: .long x :: r => some (.long (x - y) :: r)
    | _ => none)
  | .lmul => (match st with
    | .long y :: .long x :: r => some (.long (x * y) :: r)
    | _ => none)
  | .land => (match st with
    | .long y :: .long x :: r => some (.long (x &&& y) :: r)
    | _ => none)
  | .lor => (match st with
    | .long y :: .long x :: r => some (.long (x ||| y) :: r)
    | _ => none)
  | .lxor => (match st with
    | .long y :: .long x :: r => some (.long (x ^^^ y) :: r)
    | _ => none)
  | .ldiv => (match st with
    | .long y :: .long x :: r => if y = 0 then none else some (.long (x / y) :: r)
    | _ => none)
  | .lrem => (match st with
    | .long y :: .long x :: r => if y = 0 then none else some (.long (x - x / y * y) :: r)
    | _ => none)
  | .lshl => (match st with
    | .int y :: .long x :: r => some (.long (x <<< (y.toInt64 &&& 63)) :: r)
    | _ => none)
  | .lshr => (match st with
    | .int y :: .long x :: r => some (.long (x >>> (y.toInt64 &&& 63)) :: r)
    | _ => none)
  | .lushr => (match st with
    | .int y :: .long x :: r => some (.long ((x.toUInt64 >>> (y.toInt64.toUInt64 &&& Int64.toUInt64 63)).toInt64) :: r)
    | _ => none)
  | .lcmp => (match st with
    | .long y :: .long x :: r => some (.int (lg_cmp x y) :: r)
    | _ => none)
  | .pop => (match st with
    | v :: r => if v.category = 1 then some r else none
    | _ => none)
  | .dup => (match st with
    | v :: r => if v.category = 1 then some (v :: v :: r) else none
    | _ => none)
  | .dup_x1 => (match st with
    | v :: w :: r => if v.category = 1 ∧ w.category = 1 then some (v :: w :: v :: r) else none
    | _ => none)
  | .dup2 => (match st with
    | .long x :: r => some (.long x :: .long x :: r)
    | .int y :: w :: r => if w.category = 1 then some (.int y :: w :: .int y :: w :: r) else none
    | _ => none)
  | .aconst_null => some (.null :: st)
  | .iconst n => some (.int (Int32.ofInt n) :: st)
  | .lconst n => some (.long (Int64.ofNat (n : Nat)) :: st)
  | _ => none
section AmG
variable {p : Program} {l : Launch} {e : Env} {R : Room} {s : State} {m : MethodId} {args : Array Value} {below : List Frame} {meth : Method} {c : Code} {H : Heap} {locs : List Loc} {cells slots : Nat} {Q : State → Prop}
variable {cc : ByteArray} {pc : Nat} {ls : Array Slot} {ad : Nat → Nat}
set_option maxHeartbeats 4000000 in
theorem am_g_ok (hx : p.tables.exec = Jvm.exec) (hb : c.code = cc) {i : Instr} {st st' : List Value} (hd : decode cc pc = .ok (i, 1)) (h : am_g i st = some st')
    (k : W p l e R s m args below meth c H locs cells slots Q (F0 m (pc + 1) ls (st'.map (am_tr ad)))) : W p l e R s m args below meth c H locs cells slots Q (F0 m pc ls (st.map (am_tr ad))) := by
  cases i with
  | iadd =>
    simp only [am_g] at h
    split at h
    · cases h; exact lv_iadd hx hb hd  k
    · cases h
  | isub =>
    simp only [am_g] at h
    split at h
    · cases h; exact lv_isub hx hb hd  k
    · cases h
  | imul =>
    simp only [am_g] at h
    split at h
    · cases h; exact lv_imul hx hb hd  k
    · cases h
  | iand =>
    simp only [am_g] at h
    split at h
    · cases h; exact lv_iand hx hb hd  k
    · cases h
  | ior =>
    simp only [am_g] at h
    split at h
    · cases h; exact lv_ior hx hb hd  k
    · cases h
  | ixor =>
    simp only [am_g] at h
    split at h
    · cases h; exact lv_ixor hx hb hd  k
    · cases h
  | ishl =>
    simp only [am_g] at h
    split at h
    · cases h; exact lv_ishl hx hb hd  k
    · cases h
  | ishr =>
    simp only [am_g] at h
    split at h
    · cases h; exact lv_ishr hx hb hd  k
    · cases h
  | iushr =>
    simp only [am_g] at h
    split at h
    · cases h; exact lv_iushr hx hb hd rfl k
    · cases h
  | idiv =>
    simp only [am_g] at h
    split at h
    · split at h
      · cases h
      · rename_i hne
        cases h; exact lv_idiv hx hb hd hne k
    · cases h
  | irem =>
    simp only [am_g] at h
    split at h
    · split at h
      · cases h
      · rename_i hne
        cases h; exact lv_irem hx hb hd hne k
    · cases h
  | ineg =>
    simp only [am_g] at h
    split at h
    · cases h; exact lv_ineg hx hb hd  k
    · cases h
  | i2l =>
    simp only [am_g] at h
    split at h
    · cases h; exact lv_i2l hx hb hd rfl k
    · cases h
  | l2i =>
    simp only [am_g] at h
    split at h
    · cases h; exact lv_l2i hx hb hd rfl k
    · cases h
  | i2b =>
    simp only [am_g] at h
    split at h
    · cases h; exact lv_i2b hx hb hd rfl k
    · cases h
  | i2s =>
    simp only [am_g] at h
    split at h
    · cases h; exact lv_i2s hx hb hd rfl k
    · cases h
  | i2c =>
    simp only [am_g] at h
    split at h
    · cases h; exact lv_i2c hx hb hd rfl k
    · cases h
  | lneg =>
    simp only [am_g] at h
    split at h
    · cases h; exact lv_lneg hx hb hd  k
    · cases h
  | ladd =>
    simp only [am_g] at h
    split at h
    · cases h; exact lv_ladd hx hb hd  k
    · cases h
  | lsub =>
    simp only [am_g] at h
    split at h
    · cases h; exact lv_lsub hx hb hd  k
    · cases h
  | lmul =>
    simp only [am_g] at h
    split at h
    · cases h; exact lv_lmul hx hb hd  k
    · cases h
  | land =>
    simp only [am_g] at h
    split at h
    · cases h; exact lv_land hx hb hd  k
    · cases h
  | lor =>
    simp only [am_g] at h
    split at h
    · cases h; exact lv_lor hx hb hd  k
    · cases h
  | lxor =>
    simp only [am_g] at h
    split at h
    · cases h; exact lv_lxor hx hb hd  k
    · cases h
  | ldiv =>
    simp only [am_g] at h
    split at h
    · split at h
      · cases h
      · rename_i hne
        cases h; exact lv_ldiv hx hb hd hne k
    · cases h
  | lrem =>
    simp only [am_g] at h
    split at h
    · split at h
      · cases h
      · rename_i hne
        cases h; exact lv_lrem hx hb hd hne k
    · cases h
  | lshl =>
    simp only [am_g] at h
    split at h
    · cases h; exact lv_lshl hx hb hd rfl k
    · cases h
  | lshr =>
    simp only [am_g] at h
    split at h
    · cases h; exact lv_lshr hx hb hd rfl k
    · cases h
  | lushr =>
    simp only [am_g] at h
    split at h
    · cases h; exact lv_lushr hx hb hd rfl k
    · cases h
  | lcmp =>
    simp only [am_g] at h
    split at h
    · cases h; exact W.lcmp hx hb hd k
    · cases h
  | pop =>
    simp only [am_g] at h
    split at h
    · split at h
      · rename_i hc
        cases h; exact lv_pop hx hb hd (by rw [am_tr_cat]; exact hc) k
      · cases h
    · cases h
  | dup =>
    simp only [am_g] at h
    split at h
    · split at h
      · rename_i hc
        cases h; exact lv_dup hx hb hd (by rw [am_tr_cat]; exact hc) k
      · cases h
    · cases h
  | dup_x1 =>
    simp only [am_g] at h
    split at h
    · split at h
      · rename_i hc
        cases h; exact lv_dup_x1 hx hb hd (by rw [am_tr_cat]; exact hc.1) (by rw [am_tr_cat]; exact hc.2) k
      · cases h
    · cases h
  | dup2 =>
    simp only [am_g] at h
    split at h
    · cases h; exact lv_dup2_2 hx hb hd rfl k
    · split at h
      · rename_i hc
        cases h; exact lv_dup2_11 hx hb hd rfl (by rw [am_tr_cat]; exact hc) k
      · cases h
    · cases h
  | aconst_null => cases h; exact lv_null hx hb hd k
  | iconst n => cases h; exact lv_iconst hx hb hd rfl k
  | lconst n => cases h; exact lv_lconst hx hb hd rfl k
  | _ => cases h
end AmG
