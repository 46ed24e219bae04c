/-! THE MODEL: acts -/
section
variable (M : mOff)
abbrev o_per : Int32 := M.1.1
abbrev o_now : Int32 := M.1.2.1
abbrev o_bat : Int32 := M.1.2.2.1
abbrev o_tri : Int32 := M.1.2.2.2.1
abbrev o_und : Bool := M.1.2.2.2.2
abbrev o_pol : List mPol := M.2.1
abbrev o_tel : List mTell := M.2.2.1
abbrev o_los : List mLoss := M.2.2.2.1
abbrev o_cas : List mCase := M.2.2.2.2.1
abbrev o_hel : List mDeed := M.2.2.2.2.2.1
abbrev o_log : List Int32 := M.2.2.2.2.2.2
/-- the act is done: the moment, the log -/
def m_done (n : Nat) (a : mArg) (t : List Int32) : mOff := ((o_per M, o_now M + 1, o_bat M, o_tri M, o_und M), o_pol M, o_tel M, o_los M, o_cas M, o_hel M, o_log M ++ m_note n a t)
def m_setPer (x : Int32) : mOff := ((x, M.1.2), M.2)
def m_setPol (x : List mPol) : mOff := (M.1, x, M.2.2)
def m_setTel (x : List mTell) : mOff := (M.1, M.2.1, x, M.2.2.2)
def m_setLos (x : List mLoss) : mOff := (M.1, M.2.1, M.2.2.1, x, M.2.2.2.2)
def m_setCas (x : List mCase) : mOff := (M.1, M.2.1, M.2.2.1, M.2.2.2.1, x, M.2.2.2.2.2)
def m_setHel (x : List mDeed) : mOff := (M.1, M.2.1, M.2.2.1, M.2.2.2.1, M.2.2.2.2.1, x, M.2.2.2.2.2.2)
end
abbrev m_rg (v : Int64) (lo hi : Int) : Prop := lo ≤ v.toInt ∧ v.toInt ≤ hi
abbrev m_isPol (P : List mPol) (v : Int64) : Prop := 0 ≤ v.toInt ∧ v.toInt < P.length
abbrev m_ix (v : Int64) : Nat := v.toInt.toNat
abbrev m_isCov (P : List mPol) (v : Int64) : Prop := m_isPol P v ∧ (P.getD (m_ix v) mPol0).1 ≠ 6
/-- what stands in a bundle's places now -/
def m_edge (P : List mPol) (T : List mTell) (now : Int32) (x y : Nat) : Prop := (P.getD x mPol0).1 = 6 ∧ ∃ k, k < 4 ∧ m_part T x (Int32.ofNat k) now = some y
def m_rch (P : List mPol) (T : List mTell) (now : Int32) : Nat → Nat → Nat → Prop
  | 0, x, y => x = y
  | n + 1, x, y => x = y ∨ ∃ z, m_edge P T now x z ∧ m_rch P T now n z y
def m_within (P : List mPol) (T : List mTell) (now : Int32) (inner outer : Nat) : Prop := ∃ n, m_rch P T now n outer inner
def m_parts5 (Ls : List mLoss) : Nat → Nat → Nat
  | 0, _ => 0
  | f + 1, l => match (Ls.getD l mLoss0).2.2.1 with
    | none => 0
    | some u => m_parts5 Ls f u + 1
abbrev mAns : Type := Int32 × mOff × Int32
def m_tellA (M : mOff) (fnd : Int32) (n : Nat) (most : Nat) (a : mArg) (t : List Int32) (who : Nat) (which : Int32) (v : Int64) (C : List mCl) (ans : Int32) : mAns :=
  if m_cnt (o_tel M) (Int32.ofNat n) = most then (-7, M, fnd) else (ans, m_done (m_setTel M (o_tel M ++ [(Int32.ofNat n, who, which, o_now M + 1, v, C)])) n a t, fnd)
def m_addLoss (M : mOff) (fnd : Int32) (n : Nat) (a : mArg) (kind day : Int32) (whole : Option Nat) (hund : Int32) : mAns :=
  if (o_los M).length = 200 then (-7, M, fnd) else (Int32.ofNat (o_los M).length, m_done (m_setLos M (o_los M ++ [(kind, day, whole, hund, false, [])])) n a [], fnd)
/-! facts -/
def m_good (n : Nat) (a : mArg) (items : Nat) : Prop := match n with
  | 12 => m_rg (a 2) 0 2 ∧ m_rg (a 3) 0 1000000000000
  | 13 => m_rg (a 2) 1 1000000000000
  | 15 => m_rg (a 2) 0 2
  | 16 => (0 ≤ (a 2).toInt ∧ (a 2).toInt < items) ∧ m_rg (a 3) 0 1 ∧ m_rg (a 4) 0 1000000000000 ∧ m_rg (a 5) 0 10949
  | 17 => m_rg (a 2) 1 5 ∧ m_rg (a 3) 0 1000000000000
  | 18 => m_rg (a 2) 0 1000000000000
  | 19 => m_rg (a 2) 0 1000000000000
  | _ => True
def m_lastDay (c : mCase) : Int32 := match c.2.2.2.2.2.getLast? with
  | none => c.2.2.2.1
  | some f => f.2.1
def m_closed (fs : List mFact) : Int32 := m_last (fun f => decide (f.1 = 14)) (fun f => f.2.1) 0 fs
def m_late (fs : List mFact) (day : Int32) (g : Int64) : Prop := (g = 0 ∧ 30 < day.toInt - (m_closed fs).toInt) ∨ (g = 1 ∧ 365 < day.toInt - (m_closed fs).toInt)
def m_cOf (n : Nat) (a : mArg) : Int64 := if n = 16 then a 4 else if n = 12 ∨ n = 17 then a 3 else if n = 14 ∨ n = 15 then 0 else a 2
def m_factOf (n : Nat) (a : mArg) (mom : Int32) (it : Int64) : mFact := (Int32.ofNat n, (a 1).toInt32, mom, (if n = 12 ∨ n = 15 ∨ n = 16 ∨ n = 17 then (a 2).toInt32 else 0), (if n = 16 then (a 3).toInt32 else 0), (if n = 16 then (a 5).toInt32 else 0), m_cOf n a, it)
/-- what of a payment is interest; none: too much -/
def m_paying (M : mOff) (k : Nat) (day : Int32) (cents : Int64) : Option Int64 :=
  (fun r : mWork => (fun c : mCase => if r.2.2.1 ≠ 0 ∨ m_total r.1 < cents then none else
    (fun it : Int64 => match m_cover (o_pol M) (o_tel M) c (o_now M) with
      | none => none
      | some p => if m_told (m_cls (o_tel M) p (o_now M)) 4 ≠ -1 ∧ m_told (m_cls (o_tel M) p (o_now M)) 4 - m_usedL (o_pol M) (o_tel M) (o_los M) (m_year (m_ld (o_los M) c)) (o_now M) p (o_cas M) < cents - it then none else some it)
    (m_least cents (if m_sumf (fun f => decide (f.1 = 13)) m_fi c.2.2.2.2.2 < r.2.2.2.1 then r.2.2.2.1 - m_sumf (fun f => decide (f.1 = 13)) m_fi c.2.2.2.2.2 else 0))) ((o_cas M).getD k mCase0))
  (m_work (o_pol M) (o_tel M) (o_los M) (o_cas M) k day (o_now M))
def m_metBy (M : mOff) (k : Nat) (day : Int32) : Int32 := Int32.ofNat (m_work (o_pol M) (o_tel M) (o_los M) (o_cas M) k day (o_now M)).2.2.2.2
/-- the fact is put to its case; the moment goes on; the log is not written here -/
def m_keep (M : mOff) (n : Nat) (a : mArg) (it : Int64) : mOff :=
  ((o_per M, o_now M + 1, o_bat M, o_tri M, o_und M), o_pol M, o_tel M, o_los M, (o_cas M).modify (m_ix (a 0)) (fun c => (c.1, c.2.1, c.2.2.1, c.2.2.2.1, c.2.2.2.2.1, c.2.2.2.2.2 ++ [m_factOf n a (o_now M + 1) it])), o_hel M, o_log M)
noncomputable def m_dec (p : Prop) : Bool := @decide p (Classical.propDecidable p)
noncomputable def m_factC (M : mOff) (fnd : Int32) (n : Nat) (a : mArg) (c : mCase) : mAns :=
    if m_dec (¬ (0 ≤ (a 0).toInt ∧ (a 0).toInt < (o_cas M).length) ∨ ¬ m_rg (a 1) 0 10949 ∨ ¬ m_good n a (m_items (o_los M) (m_base (o_los M) c.2.2.1)).length) = true then (-2, M, fnd)
    else if m_open c.2.2.2.2.2 10949 (o_now M) = decide (n = 15) then (-3, M, fnd)
    else if (a 1).toInt < (m_lastDay c).toInt then (-4, M, fnd)
    else if m_dec (n = 15 ∧ m_late c.2.2.2.2.2 (a 1).toInt32 (a 2)) = true then (-5, M, fnd)
    else if n = 13 then (if ¬ fnd < 2500 then (-7, M, fnd) else (match m_paying M (m_ix (a 0)) (a 1).toInt32 (a 2) with
      | none => (-6, M, fnd + m_metBy M (m_ix (a 0)) (a 1).toInt32)
      | some it => if c.2.2.2.2.2.length = 40 then (-7, M, fnd + m_metBy M (m_ix (a 0)) (a 1).toInt32) else (1, m_keep M n a it, fnd + m_metBy M (m_ix (a 0)) (a 1).toInt32)))
    else if n = 19 ∧ m_paidOf c.2.2.2.2.2 (o_now M) < m_recOf c.2.2.2.2.2 (o_now M) + a 2 then (-6, M, fnd)
    else if c.2.2.2.2.2.length = 40 then (-7, M, fnd) else (1, m_keep M n a 0, fnd)
noncomputable def m_fact (M : mOff) (fnd : Int32) (n : Nat) (a : mArg) : mAns := m_factC M fnd n a ((o_cas M).getD (m_ix (a 0)) mCase0)
/-- the facts of a batch, one after the other: the number of the one that was refused -/
noncomputable def m_endL : Nat → mOff → Int32 → List mDeed → Option Nat × mOff × Int32
  | _, M, fnd, [] => (none, M, fnd)
  | h, M, fnd, q :: l => (fun r : mAns => if r.1 < 0 then (some h, r.2.1, r.2.2) else m_endL (h + 1) r.2.1 r.2.2 l) (m_fact M fnd q.1 q.2)
def m_batchLog (h : List mDeed) : List Int32 := m_enc 20 ++ h.flatMap (fun q => m_note q.1 q.2 [])
/-- the batch is over: cases, now, the act -/
def m_over (M : mOff) (now : Int32) (Cs : List mCase) (n : Nat) : mOff := ((o_per M, now, o_bat M, o_tri M + 1, false), o_pol M, o_tel M, o_los M, Cs, [], o_log M ++ (m_batchLog (o_hel M) ++ m_enc (Int64.ofNat n)))
noncomputable def m_end (M : mOff) (fnd : Int32) : mAns :=
  (fun r : Option Nat × mOff × Int32 => match r.1 with
    | none => (Int32.ofNat (o_hel M).length, m_over M (o_now r.2.1) (o_cas r.2.1) 21, r.2.2)
    | some h => (-20 - Int32.ofNat h, m_over M (o_now r.2.1) (o_cas M) 21, r.2.2)) (m_endL 0 M fnd (o_hel M))
noncomputable def m_act (M : mOff) (fnd : Int32) (n : Nat) (a : mArg) (t : List Int32) : mAns :=
  if 12 ≤ n ∧ n ≤ 19 then (if o_und M = true then (if (o_hel M).length = 60 then (-7, M, fnd) else (-8, m_setHel M (o_hel M ++ [(n, a)]), fnd))
    else (fun r : mAns => (r.1, (if r.1 = 1 then (r.2.1.1, r.2.1.2.1, r.2.1.2.2.1, r.2.1.2.2.2.1, r.2.1.2.2.2.2.1, r.2.1.2.2.2.2.2.1, o_log M ++ m_note n a []) else r.2.1), r.2.2)) (m_fact M fnd n a))
  else if o_und M ≠ decide (n = 21 ∨ n = 22) then (-3, M, fnd)
  else if n = 1 then (if o_per M = 100 then (-7, M, fnd) else (o_per M, m_done (m_setPer M (o_per M + 1)) 1 a [], fnd))
  else if n = 2 then (if ¬ (m_rg (a 0) 0 5 ∧ m_rg (a 1) 0 9) then (-2, M, fnd) else m_tellA M fnd 2 60 a [] 0 (a 0).toInt32 (a 1) [] 1)
  else if n = 3 then (if ¬ (m_rg (a 0) 0 6 ∧ (0 ≤ (a 1).toInt ∧ (a 1).toInt < (o_per M).toInt) ∧ m_rg (a 2) 0 10949 ∧ m_rg (a 3) (a 2).toInt 10949) then (-2, M, fnd) else if (o_pol M).length = 100 then (-7, M, fnd) else (Int32.ofNat (o_pol M).length, m_done (m_setPol M (o_pol M ++ [((a 0).toInt32, (a 2).toInt32, (a 3).toInt32)])) 3 a [], fnd))
  else if n = 4 then (if ¬ (m_isPol (o_pol M) (a 0) ∧ ((o_pol M).getD (m_ix (a 0)) mPol0).1 = 6 ∧ m_rg (a 1) 0 3 ∧ (a 2 = -1 ∨ m_isPol (o_pol M) (a 2))) then (-2, M, fnd)
    else if m_dec (a 2 ≠ -1 ∧ m_within (o_pol M) (o_tel M) (o_now M) (m_ix (a 0)) (m_ix (a 2))) = true then (-3, M, fnd)
    else m_tellA M fnd 4 200 a [] (m_ix (a 0)) (a 1).toInt32 (a 2) [] 1)
  else if n = 5 then (if ¬ (m_isCov (o_pol M) (a 0) ∧ m_rg (a 1) (m_year ((o_pol M).getD (m_ix (a 0)) mPol0).2.1).toInt (m_year ((o_pol M).getD (m_ix (a 0)) mPol0).2.2).toInt ∧ m_rg (a 2) 0 1000000000000) then (-2, M, fnd) else m_tellA M fnd 5 300 a [] (m_ix (a 0)) (a 1).toInt32 (a 2) [] 1)
  else if n = 6 then (if ¬ (m_isCov (o_pol M) (a 0) ∧ t.length ≤ 400) then (-2, M, fnd) else if m_cnt (o_tel M) 6 = 150 then (-7, M, fnd) else (match m_parse t with
    | .inl e => (-10 - Int32.ofNat e, M, fnd)
    | .inr C => m_tellA M fnd 6 150 a t (m_ix (a 0)) 0 0 C (Int32.ofNat C.length)))
  else if n = 7 then (if ¬ (m_isCov (o_pol M) (a 0) ∧ m_rg (a 1) 0 2) then (-2, M, fnd) else m_tellA M fnd 7 150 a [] (m_ix (a 0)) 0 (a 1) [] 1)
  else if n = 8 then (if ¬ (m_rg (a 0) 0 4 ∧ m_rg (a 1) 0 10949) then (-2, M, fnd) else m_addLoss M fnd 8 a (a 0).toInt32 (a 1).toInt32 none 0)
  else if n = 9 then (if ¬ ((0 ≤ (a 0).toInt ∧ (a 0).toInt < (o_los M).length) ∧ m_rg (a 1) 1 100) then (-2, M, fnd) else if m_parts5 (o_los M) 4 (m_ix (a 0)) = 4 then (-3, M, fnd) else m_addLoss M fnd 9 a 5 ((o_los M).getD (m_ix (a 0)) mLoss0).2.1 (some (m_ix (a 0))) (a 1).toInt32)
  else if n = 10 then (if ¬ ((0 ≤ (a 0).toInt ∧ (a 0).toInt < (o_los M).length) ∧ ((o_los M).getD (m_ix (a 0)) mLoss0).1 ≠ 5 ∧ m_rg (a 1) 0 9 ∧ m_rg (a 2) 0 1000000000000 ∧ m_rg (a 3) 0 1000000000000) then (-2, M, fnd)
    else if ((o_los M).getD (m_ix (a 0)) mLoss0).2.2.2.2.1 = true then (-3, M, fnd)
    else if (m_items (o_los M) (m_ix (a 0))).length = 6 then (-7, M, fnd)
    else (Int32.ofNat ((m_items (o_los M) (m_ix (a 0))).length + 1), m_done (m_setLos M ((o_los M).modify (m_ix (a 0)) (fun l => (l.1, l.2.1, l.2.2.1, l.2.2.2.1, l.2.2.2.2.1, l.2.2.2.2.2 ++ [((a 1).toInt32, a 2, a 3)])))) 10 a [], fnd))
  else if n = 11 then (if ¬ (m_isPol (o_pol M) (a 0) ∧ (if ((o_pol M).getD (m_ix (a 0)) mPol0).1 = 6 then m_rg (a 1) 0 3 else a 1 = -1) ∧ (0 ≤ (a 2).toInt ∧ (a 2).toInt < (o_los M).length) ∧ m_rg (a 3) 0 10949) then (-2, M, fnd)
    else if (a 3).toInt < ((o_los M).getD (m_ix (a 2)) mLoss0).2.1.toInt ∨ ((o_cas M) ≠ [] ∧ (a 3).toInt < ((o_cas M).getD ((o_cas M).length - 1) mCase0).2.2.2.1.toInt) then (-4, M, fnd)
    else if (o_cas M).length = 100 then (-7, M, fnd)
    else (Int32.ofNat (o_cas M).length, m_done (m_setLos (m_setCas M (o_cas M ++ [(m_ix (a 0), (a 1).toInt32, m_ix (a 2), (a 3).toInt32, o_now M + 1, [])])) ((o_los M).modify (m_base (o_los M) (m_ix (a 2))) (fun l => (l.1, l.2.1, l.2.2.1, l.2.2.2.1, true, l.2.2.2.2.2)))) 11 a [], fnd))
  else if n = 20 then (o_bat M + 1, ((o_per M, o_now M, o_bat M + 1, o_tri M, true), o_pol M, o_tel M, o_los M, o_cas M, [], o_log M), fnd)
  else if n = 21 then m_end M fnd
  else (Int32.ofNat (o_hel M).length, m_over M (o_now M) (o_cas M) 22, fnd)
