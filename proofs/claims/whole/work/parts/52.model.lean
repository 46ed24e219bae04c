/-! THE MODEL: one office in lists; numbers as the machine has them -/
abbrev mF : Type := Std.Format
abbrev mCl : Type := Int32 × Int32 × Option mF
/-- act, whose, which, moment, value, clauses -/
abbrev mTell : Type := Int32 × Nat × Int32 × Int32 × Int64 × List mCl
/-- kind, first, last -/
abbrev mPol : Type := Int32 × Int32 × Int32
/-- sort, amount, value -/
abbrev mItem : Type := Int32 × Int64 × Int64
/-- kind, day, whole, hundredths, notified, items -/
abbrev mLoss : Type := Int32 × Int32 × Option Nat × Int32 × Bool × List mItem
/-- act, day, moment, which, what, from, cents, interest -/
abbrev mFact : Type := Int32 × Int32 × Int32 × Int32 × Int32 × Int32 × Int64 × Int64
/-- policy, place, loss, notice, moment, facts -/
abbrev mCase : Type := Nat × Int32 × Nat × Int32 × Int32 × List mFact
abbrev mArg : Type := Nat → Int64
abbrev mDeed : Type := Nat × mArg
/-- persons, now, batches, tries, under way -/
abbrev mNum : Type := Int32 × Int32 × Int32 × Int32 × Bool
abbrev mOff : Type := mNum × List mPol × List mTell × List mLoss × List mCase × List mDeed × List Int32
def mPol0 : mPol := (0, 0, 0)
def mLoss0 : mLoss := (0, 0, none, 0, false, [])
def mCase0 : mCase := (0, 0, 0, 0, 0, [])
def mItem0 : mItem := (0, 0, 0)
/-! numbers in THE LOG -/
def m_zz (v : Int64) : Nat := if v.toInt < 0 then (-2 * v.toInt - 1).toNat else (2 * v.toInt).toNat
def m_encN : Nat → Nat → List Int32
  | 0, _ => []
  | f + 1, u => if u < 128 then [Int32.ofNat u] else Int32.ofNat (u % 128 + 128) :: m_encN f (u / 128)
def m_enc (v : Int64) : List Int32 := m_encN 10 (m_zz v)
def m_args (n : Nat) : Nat := [0, 0, 2, 4, 3, 3, 2, 2, 2, 2, 4, 4, 4, 3, 2, 3, 6, 4, 3, 3, 0, 0, 0].getD n 0
def m_note (n : Nat) (a : mArg) (t : List Int32) : List Int32 := m_enc (Int64.ofNat n) ++ ((List.range (m_args n)).flatMap (fun k => m_enc (a k)) ++ (if n = 6 then t.flatMap (fun b => m_enc b.toInt64) else []))
/-! what was told last -/
def m_last {α β : Type} (q : α → Bool) (f : α → β) : β → List α → β
  | z, [] => z
  | z, x :: l => m_last q f (if q x then f x else z) l
def m_tq (act : Int32) (who : Nat) (which at' : Int32) (t : mTell) : Bool := decide (t.1 = act) && (decide (t.2.1 = who) && (decide (t.2.2.1 = which) && decide (¬ at' < t.2.2.2.1)))
def m_look (T : List mTell) (act : Int32) (who : Nat) (which at' : Int32) : Option mTell := m_last (m_tq act who which at') some none T
def m_rank (T : List mTell) (who at' : Int32) : Int32 := match m_look T 2 0 who at' with
  | none => who
  | some t => t.2.2.2.2.1.toInt32
def m_part (T : List mTell) (p : Nat) (pl at' : Int32) : Option Nat := match m_look T 4 p pl at' with
  | none => none
  | some t => if t.2.2.2.2.1.toInt < 0 then none else some t.2.2.2.2.1.toInt.toNat
def m_sum (T : List mTell) (p : Nat) (year at' : Int32) : Option Int64 := match m_look T 5 p year at' with
  | none => none
  | some t => some t.2.2.2.2.1
def m_cls (T : List mTell) (p : Nat) (at' : Int32) : List mCl := match m_look T 6 p 0 at' with
  | none => []
  | some t => t.2.2.2.2.2
def m_rule (T : List mTell) (p : Nat) (at' : Int32) : Int32 := match m_look T 7 p 0 at' with
  | none => 0
  | some t => t.2.2.2.2.1.toInt32
def m_cnt (T : List mTell) (n : Int32) : Nat := (T.filter (fun t => decide (t.1 = n))).length
/-- the number of the last clause of a sort; -1: none -/
def m_told (C : List mCl) (code : Int32) : Int64 := m_last (fun c => decide (c.1 = code)) (fun c => c.2.1.toInt64) (-1) C
def m_by (C : List mCl) : Int32 := m_last (fun c => decide (¬ c.1 < 10)) (fun c => c.1) (-1) C
/-! covers -/
def m_cov (P : List mPol) (T : List mTell) (at' : Int32) : Nat → Nat → Int32 → Option Nat
  | 0, _, _ => none
  | f + 1, p, pl => if (P.getD p mPol0).1 = 6 then (match m_part T p pl at' with
      | none => none
      | some q => m_cov P T at' f q 0) else some p
def m_cover (P : List mPol) (T : List mTell) (c : mCase) (at' : Int32) : Option Nat := m_cov P T at' 101 c.1 c.2.1
/-- the loss that has the items -/
def m_root (Ls : List mLoss) : Nat → Nat → Nat
  | 0, l => l
  | f + 1, l => match (Ls.getD l mLoss0).2.2.1 with
    | none => l
    | some u => m_root Ls f u
def m_base (Ls : List mLoss) (l : Nat) : Nat := m_root Ls 4 l
def m_counts (f : mFact) (day at' : Int32) : Bool := decide (¬ at' < f.2.2.1) && decide (¬ day < f.2.1)
def m_open (fs : List mFact) (day at' : Int32) : Bool := m_last (fun f => m_counts f day at' && (decide (f.1 = 14) || decide (f.1 = 15))) (fun f => decide (f.1 = 15)) true fs
/-- sums over facts -/
def m_sumf (q : mFact → Bool) (v : mFact → Int64) : List mFact → Int64
  | [] => 0
  | f :: l => (if q f then v f else 0) + m_sumf q v l
abbrev m_fc (f : mFact) : Int64 := f.2.2.2.2.2.2.1
abbrev m_fi (f : mFact) : Int64 := f.2.2.2.2.2.2.2
def m_summed (fs : List mFact) (act day at' : Int32) : Int64 := m_sumf (fun f => decide (f.1 = act) && m_counts f day at') m_fc fs
def m_paidOf (fs : List mFact) (at' : Int32) : Int64 := m_sumf (fun f => decide (f.1 = 13) && decide (¬ at' < f.2.2.1)) (fun f => m_fc f - m_fi f) fs
def m_recOf (fs : List mFact) (at' : Int32) : Int64 := m_sumf (fun f => decide (f.1 = 19) && decide (¬ at' < f.2.2.1)) m_fc fs
/-- an amount or a value as corrected -/
def m_corr (day at' item what : Int32) : Int32 → Int64 → List mFact → Int64
  | _, v, [] => v
  | fr, v, f :: l => if decide (f.1 = 16) && (m_counts f day at' && (decide (f.2.2.2.1 = item) && (decide (f.2.2.2.2.1 = what) && (decide (¬ day < f.2.2.2.2.2.1) && decide (¬ f.2.2.2.2.2.1 < fr))))) then m_corr day at' item what f.2.2.2.2.2.1 (m_fc f) l else m_corr day at' item what fr v l
def m_amt (Ls : List mLoss) (c : mCase) (day at' : Int32) (i : Nat) (what : Int32) : Int64 := m_corr day at' (Int32.ofNat i) what (-1) (if what = 0 then (((Ls.getD (m_base Ls c.2.2.1) mLoss0).2.2.2.2.2).getD i mItem0).2.1 else (((Ls.getD (m_base Ls c.2.2.1) mLoss0).2.2.2.2.2).getD i mItem0).2.2) c.2.2.2.2.2
def m_items (Ls : List mLoss) (l : Nat) : List mItem := (Ls.getD l mLoss0).2.2.2.2.2
def m_allOf (f : Nat → Int64) : Nat → Int64
  | 0 => 0
  | n + 1 => m_allOf f n + f n
def m_all (Ls : List mLoss) (c : mCase) (day at' what : Int32) : Int64 := m_allOf (fun i => m_amt Ls c day at' i what) (m_items Ls (m_base Ls c.2.2.1)).length
def m_hasSort (Ls : List mLoss) (l : Nat) (sort : Int32) : Bool := (m_items Ls l).any (fun i => decide (i.1 = sort))
/-! bodies: an answer, and what is traced -/
abbrev mTr (α : Type) : Type := α × List Int32
def m_tr {α : Type} (n : Int32) (x : mTr α) : mTr α := (x.1, n :: x.2)
def m_or (a b : mTr Bool) : mTr Bool := if a.1 then (true, a.2) else (b.1, a.2 ++ b.2)
def m_is (Ls : List mLoss) (kind : Int32) : Nat → Nat → mTr Bool
  | 0, _ => (false, [])
  | f + 1, l => match (Ls.getD l mLoss0).2.2.1 with
    | some u => m_tr 145 (m_is Ls kind f u)
    | none => if (Ls.getD l mLoss0).1 = 3 then (if kind = 1 ∧ m_hasSort Ls l 3 = true then (true, [125]) else (decide ((Ls.getD l mLoss0).1 = kind), [125, 95])) else (decide ((Ls.getD l mLoss0).1 = kind), [95])
def m_lis (Ls : List mLoss) (l : Nat) (kind : Int32) : mTr Bool := m_is Ls kind 5 l
def m_least (a b : Int64) : Int64 := if a < b then a else b
def m_worthN (amt : Nat → Int32 → Int64) (third : Bool) (n : Int64) : Nat → Int64
  | 0 => 0
  | k + 1 => m_worthN amt third n k + m_least (m_least (amt k 0) (if third then amt k 0 else amt k 1)) n
def m_worth (Ls : List mLoss) (amt : Nat → Int32 → Int64) (n : Int64) : Nat → Nat → mTr Int64
  | 0, _ => (0, [])
  | f + 1, l => match (Ls.getD l mLoss0).2.2.1 with
    | some u => m_tr 144 ((m_worth Ls amt n f u).1 * (Ls.getD l mLoss0).2.2.2.1.toInt64 / 100, (m_worth Ls amt n f u).2)
    | none => if (Ls.getD l mLoss0).1 = 2 then (m_worthN amt false n (m_items Ls l).length / 100 * 100, [114, 104]) else if (Ls.getD l mLoss0).1 = 4 then (m_worthN amt true n (m_items Ls l).length, [94]) else (m_worthN amt false n (m_items Ls l).length, [104])
def m_cov1 : mTr Bool := (false, [10])
def m_cov2 (is : Int32 → mTr Bool) : mTr Bool := m_tr 20 (m_or (is 0) m_cov1)
def m_cov3 (is : Int32 → mTr Bool) : mTr Bool := m_tr 30 (m_or (is 1) (m_or (is 3) (m_cov2 is)))
def m_cov4 (is : Int32 → mTr Bool) : mTr Bool := m_tr 40 (m_or (is 2) (m_cov3 is))
def m_cov6 (is : Int32 → mTr Bool) : mTr Bool := m_tr 60 (m_or (is 0) (m_or (is 2) (m_or (is 4) m_cov1)))
def m_cov7 (is : Int32 → mTr Bool) : mTr Bool := m_tr 70 (if (is 4).1 then (false, (is 4).2) else ((m_or (is 1) (m_cov6 is)).1, (is 4).2 ++ (m_or (is 1) (m_cov6 is)).2))
/-- by the kind of the policy: dwelling, contents, car, liability, crop, transport -/
def m_covers (is : Int32 → mTr Bool) (third : Bool) (items : Nat) (kind : Int32) : mTr Bool :=
  if kind = 0 then m_cov3 is else if kind = 1 then m_cov4 is else if kind = 2 then m_cov6 is else if kind = 3 then (third && decide (0 < items), [80]) else if kind = 4 then m_tr 50 (is 3) else m_cov7 is
def m_waits (is : Int32 → mTr Bool) (kind : Int32) : mTr Int32 :=
  if kind = 1 then m_tr 41 (if (is 2).1 then 3 else 0, (is 2).2) else if kind = 4 then (14, [51]) else if kind = 5 then m_tr 71 (if (is 1).1 then 2 else 0, (is 1).2) else (0, [1])
def m_averages (is : Int32 → mTr Bool) (kind : Int32) : mTr Bool :=
  if kind = 0 then (true, [22]) else if kind = 1 then m_tr 42 (if (is 2).1 then (false, (is 2).2) else (true, (is 2).2 ++ [22])) else if kind = 4 then (false, [52]) else (false, [2])
def m_self (is : Int32 → mTr Bool) (kind : Int32) : mTr Int32 :=
  if kind = 2 then m_tr 63 (if (is 2).1 then (10, (is 2).2) else (0, (is 2).2 ++ [13])) else if kind = 5 then m_tr 73 (m_tr 63 (if (is 2).1 then (15, (is 2).2) else (5, (is 2).2 ++ [13]))) else (0, [13])
/-! conditions: tag 0 or, 1 and, 2 not; nest code (nest number nil) a test -/
def m_holds (is : Int32 → mTr Bool) (all : Int64) (items late : Int32) (has : Int32 → Bool) : mF → Bool → mTr Bool
  | .append a b, op => if (m_holds is all items late has a op).1 = op then (op, (m_holds is all items late has a op).2) else ((m_holds is all items late has b op).1, (m_holds is all items late has a op).2 ++ (m_holds is all items late has b op).2)
  | .tag k a, _ => if k = 2 then (! (m_holds is all items late has a true).1, (m_holds is all items late has a true).2) else m_holds is all items late has a (decide (k = 0))
  | .nest c (.nest n .nil), _ => if c = 3 then (decide (n < all.toInt), []) else if c = 4 then (decide (n < items.toInt), []) else if c = 5 then (decide (n < late.toInt), []) else if c = 6 then (has (Int32.ofInt n), []) else if n = 5 then (true, []) else is (Int32.ofInt n)
  | _, _ => (false, [])
