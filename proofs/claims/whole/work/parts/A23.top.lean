/-! THE MODEL: the desk: office, tape, letters, what was met, takings, the last look -/
abbrev mLook : Type := Int32 × List mRow × List Int32
abbrev mTop : Type := mOff × List Int32 × List Int32 × Int32 × Nat × mLook
section
variable (D : mTop)
abbrev d_off : mOff := D.1
abbrev d_tap : List Int32 := D.2.1
abbrev d_let : List Int32 := D.2.2.1
abbrev d_fnd : Int32 := D.2.2.2.1
abbrev d_tak : Nat := D.2.2.2.2.1
abbrev d_lok : mLook := D.2.2.2.2.2
def d_setOff (M : mOff) : mTop := (M, D.2)
def d_setTap (l : List Int32) : mTop := (D.1, l, D.2.2)
def d_setLet (l : List Int32) : mTop := (D.1, D.2.1, l, D.2.2.2)
def d_setFnd (x : Int32) : mTop := (D.1, D.2.1, D.2.2.1, x, D.2.2.2.2)
def d_setTak (n : Nat) : mTop := (D.1, D.2.1, D.2.2.1, D.2.2.2.1, n, D.2.2.2.2.2)
def d_setLok (x : mLook) : mTop := (D.1, D.2.1, D.2.2.1, D.2.2.2.1, D.2.2.2.2.1, x)
end
def m_new : mOff := ((0, 0, 0, 0, false), [], [], [], [], [], [])
def d_new : mTop := (m_new, [], [], 0, 0, (0, [], []))
def d_arg (l : List Int64) : mArg := fun j => l.getD j 0
def d_no : Int64 := -9223372036854775808
noncomputable def d_act (D : mTop) (n : Nat) (l : List Int64) : Int32 × mTop := (fun r : mAns => (r.1, d_setFnd (d_setOff D r.2.1) r.2.2)) (m_act (d_off D) (d_fnd D) n (d_arg l) [])
/-- typed: k bytes, the highest first -/
def d_bytes (w : Int64) : Nat → List Int32
  | 0 => []
  | k + 1 => ((w >>> ((8 * Int32.ofNat k).toInt64 &&& 63)) &&& 255).toInt32 :: d_bytes w k
def d_type (D : mTop) (w : Int64) (n : Int32) : Int32 × mTop :=
  if n.toInt < 0 ∨ 8 < n.toInt then (-2, D) else if n.toInt = 0 then (0, d_setTap D []) else if 6000 < (d_tap D).length + n.toInt.toNat then (-7, D)
  else (Int32.ofNat ((d_tap D).length + n.toInt.toNat), d_setTap D (d_tap D ++ d_bytes w n.toInt.toNat))
noncomputable def d_clauses (D : mTop) (p : Int32) : Int32 × mTop := (fun r : mAns => (r.1, d_setTap (d_setFnd (d_setOff D r.2.1) r.2.2) (if r.1.toInt < 0 then d_tap D else []))) (m_act (d_off D) (d_fnd D) 6 (d_arg [p.toInt64, Int64.ofNat (d_tap D).length]) (d_tap D))
def d_isCase (M : mOff) (k : Int32) : Prop := 0 ≤ k.toInt ∧ k.toInt < (o_cas M).length
def d_isMom (M : mOff) (at' : Int32) : Prop := 0 ≤ at'.toInt ∧ at'.toInt ≤ (o_now M).toInt
def d_case (M : mOff) (k : Int32) : mCase := (o_cas M).getD k.toInt.toNat mCase0
def d_owed (D : mTop) (k day at' : Int32) : Int64 × mTop :=
  if (0 ≤ k.toInt ∧ k.toInt < (o_cas (d_off D)).length) ∧ ((d_case (d_off D) k).2.2.2.1.toInt ≤ day.toInt ∧ day.toInt ≤ 10949) ∧ ((d_case (d_off D) k).2.2.2.2.1.toInt ≤ at'.toInt ∧ at'.toInt ≤ (o_now (d_off D)).toInt) ∧ d_fnd D < 2500 then
    (fun W : mWork => ((if W.2.2.1 = 0 then m_total W.1 else d_no), d_setLok (d_setFnd D (d_fnd D + Int32.ofNat W.2.2.2.2)) (W.2.2.1, W.1, W.2.1))) (m_work (o_pol (d_off D)) (o_tel (d_off D)) (o_los (d_off D)) (o_cas (d_off D)) k.toInt.toNat day at')
  else (d_no, D)
def d_row (D : mTop) (i what : Int32) : Int32 := if what.toInt < 0 ∨ 1 < what.toInt then -2 else if 0 ≤ i.toInt ∧ i.toInt < (d_lok D).2.1.length then (fun r : mRow => if what.toInt = 0 then r.1 else r.2.1) ((d_lok D).2.1.getD i.toInt.toNat (0, 0, 0)) else -1
def d_cents (D : mTop) (i : Int32) : Int64 := if 0 ≤ i.toInt ∧ i.toInt < (d_lok D).2.1.length then ((d_lok D).2.1.getD i.toInt.toNat (0, 0, 0)).2.2 else 0
def d_trace (D : mTop) (i : Int32) : Int32 := if 0 ≤ i.toInt ∧ i.toInt < (min (d_lok D).2.2.length 200 : Nat) then (d_lok D).2.2.getD i.toInt.toNat 0 else -1
/-! letters -/
def d_dgs : Nat → Nat → List Int32
  | 0, _ => []
  | f + 1, n => if n < 10 then [Int32.ofNat (48 + n)] else d_dgs f (n / 10) ++ [Int32.ofNat (48 + n % 10)]
def d_num (v : Int64) : List Int32 := (if v.toInt < 0 then [45] else []) ++ d_dgs 20 v.toInt.natAbs
def d_rowW (c : Int32) : List Int32 := txt (c.toInt.toNat + 8)
def d_kindW (k : Nat) : List Int32 := txt (k + 2)
def d_sayR (r : mRow) : List Int32 := d_rowW r.1 ++ (32 :: (d_num r.2.2 ++ [10]))
def d_say (D : mTop) : Int32 × mTop := (Int32.ofNat ((d_lok D).2.1.flatMap d_sayR).length, d_setLet D ((d_lok D).2.1.flatMap d_sayR))
/-- a token behind what is written: a blank before it, or none -/
def d_tok (l s : List Int32) : List Int32 := if l.getLastD 10 = 10 ∨ l.getLastD 10 = 40 ∨ s.headD 0 = 59 ∨ s.headD 0 = 41 then l ++ s else l ++ (32 :: s)
def d_tokN (l : List Int32) (v : Int64) : List Int32 := l ++ (32 :: d_num v)
/-- a condition: op what the tree's joints are, ar what stands around -/
def d_cnd : mF → Nat → Nat → List Int32 → List Int32
  | .append a b, op, ar, l => (fun br : Bool => (fun l4 => if br = true then d_tok l4 (txt 36) else l4) (d_cnd b op op (d_tok (d_cnd a op op (if br = true then d_tok l (txt 35) else l)) (if op = 0 then txt 30 else txt 29)))) (decide ((op = 0 ∧ ar ≠ 0) ∨ (op = 1 ∧ ar = 2)))
  | .tag k a, _, ar, l => if k = 2 then d_cnd a 0 2 (d_tok l (txt 23)) else d_cnd a k ar l
  | .nest c (.nest n .nil), _, _, l => if c = 7 then d_tok (d_tok l (txt 28)) (d_kindW n.toNat) else d_tokN (d_tok l (if c = 3 then txt 24 else if c = 4 then txt 25 else if c = 5 then txt 26 else txt 27)) (Int64.ofInt n)
  | _, _, _, l => l
def d_clA (l : List Int32) (c : mCl) : List Int32 :=
  if c.1.toInt ≤ 1 then (fun l2 => match c.2.2 with
    | none => l2
    | some f => d_cnd f 0 0 (d_tok l2 (txt 22))) (d_tok (d_tok l (if c.1 = 0 then txt 21 else txt 9)) (d_kindW c.2.1.toInt.toNat))
  else if c.1 = 8 then d_tok l (txt 11)
  else if c.1 = 10 ∨ c.1 = 11 then d_tok (d_tok l (txt 31)) (if c.1 = 10 then txt 32 else txt 33)
  else d_tokN (d_tok (if c.1 = 5 ∨ c.1 = 6 then d_tok l (txt 13) else l) (if c.1 = 2 then txt 34 else if c.1 = 3 ∨ c.1 = 5 then txt 33 else if c.1 = 4 ∨ c.1 = 6 then txt 17 else if c.1 = 7 then txt 10 else txt 19)) c.2.1.toInt64
def d_cl (l : List Int32) (c : mCl) : List Int32 := d_tok (d_clA l c) (txt 37) ++ [10]
def d_cls : List Int32 → List mCl → List Int32
  | l, [] => l
  | l, c :: C => d_cls (d_cl l c) C
def d_tell (D : mTop) (p at' : Int32) : Int32 × mTop := if m_isCov (o_pol (d_off D)) p.toInt64 ∧ (0 ≤ at'.toInt ∧ at'.toInt ≤ (o_now (d_off D)).toInt) then
    (fun l => (Int32.ofNat l.length, d_setLet D l)) (d_cls [] (m_cls (o_tel (d_off D)) p.toInt.toNat at')) else (-2, D)
def d_letter (D : mTop) (i : Int32) : Int32 := if 0 ≤ i.toInt ∧ i.toInt < (d_let D).length then (d_let D).getD i.toInt.toNat 0 else -1
/-! sums -/
def d_used (D : mTop) (p year at' : Int32) : Int64 := if m_isCov (o_pol (d_off D)) p.toInt64 ∧ (0 ≤ year.toInt ∧ year.toInt ≤ 29) ∧ (0 ≤ at'.toInt ∧ at'.toInt ≤ (o_now (d_off D)).toInt) then m_usedL (o_pol (d_off D)) (o_tel (d_off D)) (o_los (d_off D)) year at' p.toInt.toNat (o_cas (d_off D)) else d_no
def d_left (D : mTop) (p year at' : Int32) : Int64 := if d_used D p year at' = d_no then d_no else if m_told (m_cls (o_tel (d_off D)) p.toInt.toNat at') 4 = -1 then d_no else m_told (m_cls (o_tel (d_off D)) p.toInt.toNat at') 4 - d_used D p year at'
def d_resL (Ls : List mLoss) (kind year at' : Int32) : List mCase → Int64
  | [] => 0
  | c :: l => (if ¬ at' < c.2.2.2.2.1 ∧ m_year (m_ld Ls c) = year ∧ m_open c.2.2.2.2.2 10950 at' = true then m_last (fun f => decide (f.1 = 12) && (decide (f.2.2.2.1 = kind) && decide (¬ at' < f.2.2.1))) m_fc 0 c.2.2.2.2.2 else 0) + d_resL Ls kind year at' l
def d_reserved (D : mTop) (kind year at' : Int32) : Int64 := if (0 ≤ kind.toInt ∧ kind.toInt ≤ 2) ∧ (0 ≤ year.toInt ∧ year.toInt ≤ 29) ∧ (0 ≤ at'.toInt ∧ at'.toInt ≤ (o_now (d_off D)).toInt) then d_resL (o_los (d_off D)) kind year at' (o_cas (d_off D)) else d_no
def d_runL (Ls : List mLoss) (bY : Int32) (i j : Nat) (at' : Int32) : List mCase → Int64
  | [] => 0
  | c :: l => (if (if bY = 0 then m_year (m_ld Ls c) else m_year c.2.2.2.1) = Int32.ofNat i then m_sumf (fun f => decide (f.1 = 13) && (decide (¬ at' < f.2.2.1) && decide (m_year f.2.1 = Int32.ofNat (i + j)))) m_fc c.2.2.2.2.2 else 0) + d_runL Ls bY i j at' l
def d_run (D : mTop) (bY i j at' : Int32) : Int64 := if (0 ≤ bY.toInt ∧ bY.toInt ≤ 1) ∧ (0 ≤ i.toInt ∧ i.toInt ≤ 29) ∧ (0 ≤ j.toInt ∧ j.toInt ≤ 29) ∧ (0 ≤ at'.toInt ∧ at'.toInt ≤ (o_now (d_off D)).toInt) then d_runL (o_los (d_off D)) bY i.toInt.toNat j.toInt.toNat at' (o_cas (d_off D)) else d_no
def d_sum (f : Nat → Int64) : Nat → Int64
  | 0 => 0
  | n + 1 => d_sum f n + f n
def d_below (M : mOff) (bY : Int32) (j n : Nat) (at' : Int32) : Int64 := d_sum (fun i => d_sum (fun k => d_runL (o_los M) bY i k at' (o_cas M)) (j + 1)) n
def d_next (M : mOff) (bY : Int32) (j n : Nat) (at' : Int32) : Int64 := d_sum (fun i => d_runL (o_los M) bY i (j + 1) at' (o_cas M)) n
def d_gcd (a b : Int64) : Int64 := Int64.ofNat (Nat.gcd a.toInt.toNat b.toInt.toNat)
def d_factor (D : mTop) (bY j y part at' : Int32) : Int64 := if (0 ≤ bY.toInt ∧ bY.toInt ≤ 1) ∧ (0 ≤ j.toInt ∧ j.toInt ≤ 29) ∧ (0 ≤ y.toInt ∧ y.toInt ≤ 29) ∧ (0 ≤ part.toInt ∧ part.toInt ≤ 1) ∧ (0 ≤ at'.toInt ∧ at'.toInt ≤ (o_now (d_off D)).toInt) then
    (fun b a => if b = 0 then d_no else if part.toInt = 0 then (b + a) / d_gcd (b + a) b else b / d_gcd (b + a) b) (d_below (d_off D) bY j.toInt.toNat (y.toInt.toNat - j.toInt.toNat) at') (d_next (d_off D) bY j.toInt.toNat (y.toInt.toNat - j.toInt.toNat) at')
  else d_no
/-! asked of one, of all -/
def d_of (D : mTop) (k what : Int32) : Int32 := if (0 ≤ k.toInt ∧ k.toInt < (o_cas (d_off D)).length) ∧ (0 ≤ what.toInt ∧ what.toInt ≤ 6) then
    (fun c : mCase => if what = 0 then Int32.ofNat c.1 else if what = 1 then c.2.1 else if what = 2 then Int32.ofNat c.2.2.1 else if what = 3 then c.2.2.2.1 else if what = 4 then b2i (m_open c.2.2.2.2.2 10950 (o_now (d_off D))) else if what = 5 then Int32.ofNat c.2.2.2.2.2.length else c.2.2.2.2.1) (d_case (d_off D) k) else -2
def d_count (D : mTop) (what : Int32) : Int32 := if what = 0 then o_per (d_off D) else if what = 1 then Int32.ofNat (o_pol (d_off D)).length else if what = 2 then Int32.ofNat (o_los (d_off D)).length else if what = 3 then Int32.ofNat (o_cas (d_off D)).length else if what = 4 then o_now (d_off D) else if what = 5 then o_bat (d_off D) else if what = 6 then o_tri (d_off D) else if what = 7 then Int32.ofNat (o_hel (d_off D)).length else if what = 8 then Int32.ofNat (d_tap D).length else if what = 9 then Int32.ofNat (d_let D).length else if what = 10 then d_fnd D else -2
/-! written, taken in -/
def d_hash : Int32 → List Int32 → Int32
  | h, [] => h
  | h, b :: l => d_hash (31 * h + b) l
def d_hb (h : Int32) : List Int32 := [(h >>> 24) &&& 255, (h >>> 16) &&& 255, (h >>> 8) &&& 255, h &&& 255]
def d_write (D : mTop) : Int32 × mTop := if o_und (d_off D) = true then (-3, D) else (fun l => (Int32.ofNat l.length, d_setLet D l)) (o_log (d_off D) ++ d_hb (d_hash 0 (o_log (d_off D))))
def d_zz (u : Int64) : Int64 := if u &&& 1 = 0 then (u.toUInt64 >>> 1).toInt64 else -(u.toUInt64 >>> 1).toInt64 - 1
def d_rd : List Int32 → Nat → Int64 → Option (Int64 × List Int32)
  | [], _, _ => none
  | b :: l, sh, u => if 63 < sh ∨ (sh = 63 ∧ 1 < (b &&& 127).toInt) ∨ (b.toInt < 128 ∧ b &&& 127 = 0 ∧ 0 < sh) then none
    else if b.toInt < 128 then some (d_zz (u ||| ((b &&& 127).toInt64 <<< Int64.ofNat sh)), l) else d_rd l (sh + 7) (u ||| ((b &&& 127).toInt64 <<< Int64.ofNat sh))
def d_isLong (n k : Nat) : Prop := (n = 5 ∧ k = 2) ∨ (n = 10 ∧ 2 ≤ k) ∨ ((n = 12 ∨ n = 17) ∧ k = 3) ∨ ((n = 13 ∨ n = 18 ∨ n = 19) ∧ k = 2) ∨ (n = 16 ∧ k = 4)
noncomputable def d_rdA (n : Nat) : Nat → Nat → List Int32 → Option (List Int64 × List Int32)
  | 0, _, l => some ([], l)
  | m + 1, k, l => match d_rd l 0 0 with
    | none => none
    | some (v, r) => if m_dec (¬ d_isLong n k ∧ v.toInt32.toInt64 ≠ v) = true then none else (match d_rdA n m (k + 1) r with
      | none => none
      | some (vs, r') => some (v :: vs, r'))
def d_rdT : Nat → List Int32 → Option (List Int32 × List Int32)
  | 0, l => some ([], l)
  | m + 1, l => match d_rd l 0 0 with
    | none => none
    | some (v, r) => if ¬ (0 ≤ v.toInt ∧ v.toInt ≤ 255) then none else (match d_rdT m r with
      | none => none
      | some (vs, r') => some (v.toInt32 :: vs, r'))
/-- one act is read: its number, its arguments, its text, what is left -/
noncomputable def d_rd1 (l : List Int32) : Option (Nat × List Int64 × List Int32 × List Int32) := match d_rd l 0 0 with
  | none => none
  | some (v, l1) => if ¬ (1 ≤ v.toInt ∧ v.toInt ≤ 22) then none else (match d_rdA v.toInt.toNat (m_args v.toInt.toNat) 0 l1 with
    | none => none
    | some (vs, l2) => if v.toInt = 6 then (if ¬ (0 ≤ (vs.getD 1 0).toInt ∧ (vs.getD 1 0).toInt ≤ 400) then none else (match d_rdT (vs.getD 1 0).toInt.toNat l2 with
        | none => none
        | some (t, l3) => some (6, vs, t, l3)))
      else some (v.toInt.toNat, vs, [], l2))
def d_good (n : Nat) (x : Int32) : Prop := 0 ≤ x.toInt ∨ x = -8 ∨ (n = 21 ∧ x.toInt ≤ -20)
/-- acts, one after the other: how much was left where one failed, or the office and how many -/
noncomputable def d_acts : Nat → Nat → mOff → Int32 → List Int32 → (Nat ⊕ (mOff × Nat)) × Int32
  | 0, k, M, fnd, _ => (.inr (M, k), fnd)
  | f + 1, k, M, fnd, l => if l = [] then (.inr (M, k), fnd) else (match d_rd1 l with
    | none => (.inl l.length, fnd)
    | some (n, vs, t, r) => (fun q : mAns => if m_dec (d_good n q.1) = true then d_acts f (k + 1) q.2.1 q.2.2 r else (.inl l.length, q.2.2)) (m_act M fnd n (d_arg vs) t))
noncomputable def d_takeIn (D : mTop) : Int32 × mTop :=
  if o_und (d_off D) = true then (-3, D) else if d_tak D = 40 then (-7, D)
  else if (d_tap D).length < 4 then (-10, d_setTak D (d_tak D + 1))
  else (fun b : List Int32 => (fun r : (Nat ⊕ (mOff × Nat)) × Int32 => (fun E : mTop => match r.1 with
    | .inl left => (-10 - Int32.ofNat (b.length - left), E)
    | .inr (M, k) => if (d_tap D).drop b.length = d_hb (d_hash 0 b) then (Int32.ofNat k, d_setTap (d_setOff E M) []) else (-10 - Int32.ofNat b.length, E)) (d_setFnd (d_setTak D (d_tak D + 1)) r.2)) (d_acts b.length 0 m_new (d_fnd D) b)) ((d_tap D).take ((d_tap D).length - 4))
