/-! THE MODEL: what is owed -/
abbrev mRow : Type := Int32 × Int32 × Int64
/-- rows, trace, finding, whether it ends, s -/
abbrev mRes : Type := List mRow × List Int32 × Int32 × Bool × Int64
def m_less (rs : List mRow × Int64) (code arg : Int32) (cents : Int64) : List mRow × Int64 := if cents = 0 then rs else (rs.1 ++ [(code, arg, -cents)], rs.2 - cents)
def m_outL (is : Int32 → mTr Bool) (hold : mF → mTr Bool) : Bool → Int32 → Nat → List mCl → mTr (Bool × Int32)
  | cov, arg, _, [] => ((cov, arg), [])
  | cov, arg, k, c :: l => if c.1 < 2 then (if c.2.1 = 5 ∨ (is c.2.1).1 = true then (match c.2.2 with
        | none => ((m_outL is hold (decide (c.1 = 0)) (Int32.ofNat k) (k + 1) l).1, (if c.2.1 = 5 then [] else (is c.2.1).2) ++ (m_outL is hold (decide (c.1 = 0)) (Int32.ofNat k) (k + 1) l).2)
        | some t => if (hold t).1 = true then ((m_outL is hold cov arg (k + 1) l).1, (if c.2.1 = 5 then [] else (is c.2.1).2) ++ ((hold t).2 ++ (m_outL is hold cov arg (k + 1) l).2)) else ((m_outL is hold (decide (c.1 = 0)) (Int32.ofNat k) (k + 1) l).1, (if c.2.1 = 5 then [] else (is c.2.1).2) ++ ((hold t).2 ++ (m_outL is hold (decide (c.1 = 0)) (Int32.ofNat k) (k + 1) l).2)))
      else ((m_outL is hold cov arg (k + 1) l).1, (is c.2.1).2 ++ (m_outL is hold cov arg (k + 1) l).2))
    else m_outL is hold cov arg (k + 1) l
/-! shares between insurers -/
def m_alone (fs : List mFact) (day at' : Int32) (i : Nat) : Option Int64 := m_last (fun f => decide (f.1 = 17) && (m_counts f day at' && decide (f.2.2.2.1 = Int32.ofNat i))) (fun f => some (m_fc f)) none fs
/-- those told of: this office with s, the others -/
def m_al (fs : List mFact) (day at' : Int32) (s : Int64) (i : Nat) : Option Int64 := if i = 0 then some s else m_alone fs day at' i
/-- where one goes, from the end: behind all that are not greater -/
def m_pos (rk : Nat → Int32) (i : Nat) (l : List Nat) : Nat → Nat
  | 0 => 0
  | k + 1 => if rk i < rk (l.getD k 0) then m_pos rk i l k else k + 1
def m_ins (rk : Nat → Int32) (i : Nat) (l : List Nat) : List Nat := l.take (m_pos rk i l l.length) ++ i :: l.drop (m_pos rk i l l.length)
/-- in the order of ranks: those up to n -/
def m_ord (rk : Nat → Int32) (al : Nat → Option Int64) : Nat → List Nat
  | 0 => []
  | n + 1 => if (al n).isSome = true then m_ins rk n (m_ord rk al n) else m_ord rk al n
def m_tot (al : Nat → Option Int64) : List Nat → Int64
  | [] => 0
  | i :: l => (al i).getD 0 + m_tot al l
/-- a cent to each that has less, as far as it goes -/
def m_cent (al : Nat → Option Int64) : List Nat → (Nat → Int64) × Int64 → (Nat → Int64) × Int64
  | [], x => x
  | i :: l, x => m_cent al l (if 0 < x.2.toInt ∧ x.1 i < (al i).getD 0 then (va_up x.1 i (x.1 i + 1), x.2 - 1) else x)
def m_cents (al : Nat → Option Int64) (ord : List Nat) : Nat → (Nat → Int64) × Int64 → (Nat → Int64) × Int64
  | 0, x => x
  | n + 1, x => if 0 < x.2.toInt then m_cents al ord n (m_cent al ord x) else x
def m_parts (al : Nat → Option Int64) (all sum : Int64) : List Nat → (Nat → Int64) × Int64 → (Nat → Int64) × Int64
  | [], x => x
  | i :: l, x => m_parts al all sum l (va_up x.1 i (all * (al i).getD 0 / sum), x.2 - all * (al i).getD 0 / sum)
def m_great (a b : Int64) : Bool := decide (4611686018427387904 < a.toInt * b.toInt)
def m_lack (al : Nat → Option Int64) (g : Nat → Int64) (l : List Nat) : Nat := (l.filter (fun i => decide (g i < (al i).getD 0))).length
def m_give (al : Nat → Option Int64) (each : Int64) : List Nat → (Nat → Int64) × Int64 → (Nat → Int64) × Int64
  | [], x => x
  | i :: l, x => m_give al each l (va_up x.1 i (x.1 i + m_least ((al i).getD 0 - x.1 i) each), x.2 - m_least ((al i).getD 0 - x.1 i) each)
def m_rounds (al : Nat → Option Int64) (ord : List Nat) : Nat → (Nat → Int64) × Int64 → (Nat → Int64) × Int64
  | 0, x => x
  | n + 1, x => if 0 < x.2.toInt ∧ m_lack al x.1 ord ≠ 0 then (if x.2 / Int64.ofNat (m_lack al x.1 ord) = 0 then m_cent al ord x else m_rounds al ord n (m_give al (x.2 / Int64.ofNat (m_lack al x.1 ord)) ord x)) else x
def m_ranks (al : Nat → Option Int64) : List Nat → (Nat → Int64) × Int64 → (Nat → Int64) × Int64
  | [], x => x
  | i :: l, x => m_ranks al l (va_up x.1 i (m_least ((al i).getD 0) x.2), x.2 - m_least ((al i).getD 0) x.2)
/-- a finding, or what this office gets -/
def m_share (rule : Int32) (al : Nat → Option Int64) (ord : List Nat) (all sum : Int64) : Int32 × Int64 :=
  if rule = 0 then (if sum = 0 then (4, 0) else if ord.any (fun i => m_great all ((al i).getD 0)) = true then (5, 0) else (0, (m_cents al ord 6 (m_parts al all sum ord (fun _ => 0, all))).1 0))
  else if rule = 1 then (0, (m_rounds al ord 14 (fun _ => 0, all)).1 0)
  else (0, (m_ranks al ord (fun _ => 0, all)).1 0)
section
variable (P : List mPol) (T : List mTell) (Ls : List mLoss) (c : mCase) (day at' : Int32) (p : Nat) (C : List mCl)
abbrev m_ld : Int32 := (Ls.getD c.2.2.1 mLoss0).2.1
def m_sG (w : Int64) (rs : List mRow × Int64) (tr : List Int32) (al : Nat → Option Int64) (ord : List Nat) : mRes :=
  if ord.length = 1 then (rs.1, tr, 0, false, rs.2) else
  if (m_share (m_rule T p at') al ord (m_least w (m_tot al ord)) (m_tot al ord)).1 = 0 then ((m_less rs 7 (Int32.ofNat (ord.length - 1)) (rs.2 - (m_share (m_rule T p at') al ord (m_least w (m_tot al ord)) (m_tot al ord)).2)).1, tr, 0, false, (m_less rs 7 (Int32.ofNat (ord.length - 1)) (rs.2 - (m_share (m_rule T p at') al ord (m_least w (m_tot al ord)) (m_tot al ord)).2)).2)
  else (rs.1, tr, (m_share (m_rule T p at') al ord (m_least w (m_tot al ord)) (m_tot al ord)).1, false, 0)
def m_own (s : Int64) : Int64 := if m_told C 5 = -1 then 0 else m_least (m_told C 5) s
def m_lim (s : Int64) : Int64 := if m_told C 3 ≠ -1 ∧ m_told C 3 < s then s - m_told C 3 else 0
def m_sF (w : Int64) (rs : List mRow × Int64) (tr : List Int32) (sf : mTr Int32) : mRes :=
  (fun r1 : List mRow × Int64 => (fun r2 : List mRow × Int64 => (fun r3 : List mRow × Int64 => m_sG T at' p w r3 (tr ++ sf.2) (m_al c.2.2.2.2.2 day at' r3.2) (m_ord (fun i => m_rank T (Int32.ofNat i) at') (m_al c.2.2.2.2.2 day at' r3.2) 6)) (m_less r2 6 0 (m_lim C r2.2))) (m_less r1 5 0 (m_own C r1.2))) (m_less rs 4 sf.1 (rs.2 * sf.1.toInt64 / 100))
def m_sE (sum w : Int64) (tr : List Int32) (av : mTr Bool) : mRes :=
  if av.1 = false ∧ m_told C 8 = -1 then m_sF T c day at' p C w ([(0, 0, w)], w) (tr ++ av.2) (m_self (m_lis Ls c.2.2.1) (P.getD p mPol0).1)
  else if m_great w sum = true then ([(0, 0, w)], tr ++ av.2, 5, false, 0)
  else if m_all Ls c day at' 1 = 0 then ([(0, 0, w)], tr ++ av.2, 4, false, 0)
  else m_sF T c day at' p C w (m_less ([(0, 0, w)], w) 3 0 (if w * sum / m_all Ls c day at' 1 < w then w - w * sum / m_all Ls c day at' 1 else 0)) (tr ++ av.2) (m_self (m_lis Ls c.2.2.1) (P.getD p mPol0).1)
def m_days (wt : Int32) : Int64 := if wt.toInt64 < m_told C 7 then m_told C 7 else wt.toInt64
def m_sD (sum w : Int64) (tr : List Int32) (wt : mTr Int32) : mRes :=
  if (m_ld Ls c).toInt < (P.getD p mPol0).2.1.toInt + (m_days C wt.1).toInt then ([(0, 0, w), (2, (m_days C wt.1).toInt32, -w)], tr ++ wt.2, 0, true, 0)
  else m_sE P T Ls c day at' p C sum w (tr ++ wt.2) (m_averages (m_lis Ls c.2.2.1) (P.getD p mPol0).1)
def m_sC (sum w : Int64) (tr : List Int32) (o : mTr (Bool × Int32)) : mRes :=
  if o.1.1 = false then ([(0, 0, w), (1, o.1.2, -w)], tr ++ o.2, 0, true, 0)
  else m_sD P T Ls c day at' p C sum w (tr ++ o.2) (m_waits (m_lis Ls c.2.2.1) (P.getD p mPol0).1)
def m_hold (t : mF) : mTr Bool := m_holds (m_lis Ls c.2.2.1) (m_all Ls c day at' 0) (Int32.ofNat (m_items Ls (m_base Ls c.2.2.1)).length) (c.2.2.2.1 - m_ld Ls c) (m_hasSort Ls (m_base Ls c.2.2.1)) t true
def m_outs (cov : mTr Bool) : mTr (Bool × Int32) := ((m_outL (m_lis Ls c.2.2.1) (m_hold Ls c day at') cov.1 (-1) 0 C).1, cov.2 ++ (m_outL (m_lis Ls c.2.2.1) (m_hold Ls c day at') cov.1 (-1) 0 C).2)
def m_sB (sum : Int64) (w : mTr Int64) : mRes :=
  if m_ld Ls c < (P.getD p mPol0).2.1 ∨ (P.getD p mPol0).2.2 < m_ld Ls c then ([(0, 0, w.1), (1, -2, -w.1)], w.2, 0, true, 0)
  else if (P.getD p mPol0).1 = 3 ∧ (Ls.getD c.2.2.1 mLoss0).1 ≠ 4 then ([(0, 0, w.1)], w.2 ++ [80], 2, false, 0)
  else m_sC P T Ls c day at' p C sum w.1 w.2 (m_outs Ls c day at' C (m_covers (m_lis Ls c.2.2.1) (decide ((Ls.getD c.2.2.1 mLoss0).1 = 4)) (m_items Ls c.2.2.1).length (P.getD p mPol0).1))
end
def m_most (C : List mCl) : Int64 := if m_told C 2 = -1 then 1000000000000 else m_told C 2
def m_year (d : Int32) : Int32 := d / 365
def m_seven (P : List mPol) (T : List mTell) (Ls : List mLoss) (c : mCase) (day at' : Int32) (p : Nat) (sum : Int64) : mRes :=
  m_sB P T Ls c day at' p (m_cls T p at') sum (m_worth Ls (m_amt Ls c day at') (m_most (m_cls T p at')) 5 c.2.2.1)
def m_begin (P : List mPol) (T : List mTell) (Ls : List mLoss) (c : mCase) (day at' : Int32) : mRes := match m_cover P T c at' with
  | none => ([], [], 1, false, 0)
  | some p => if m_year (m_ld Ls c) < m_year (P.getD p mPol0).2.1 ∨ m_year (P.getD p mPol0).2.2 < m_year (m_ld Ls c) then ([], [], 3, false, 0) else (match m_sum T p (m_year (m_ld Ls c)) at' with
    | none => ([], [], 1, false, 0)
    | some sum => m_seven P T Ls c day at' p sum)
/-! cases that are laid -/
def m_of (P : List mPol) (T : List mTell) (Ls : List mLoss) (year at' : Int32) (p : Nat) (k : mCase) : Bool := decide (¬ at' < k.2.2.2.2.1) && (decide (m_year (m_ld Ls k) = year) && decide (m_cover P T k at' = some p))
/-- -1 for those that are not open -/
def m_key (Ls : List mLoss) (day at' : Int32) (by' : Bool) (k : mCase) : Int32 := if by' && m_open k.2.2.2.2.2 day at' then m_ld Ls k else -1
def m_lay (q : Nat → Bool) (key : Nat → Int32) : Nat → List Nat
  | 0 => []
  | n + 1 => if q n = true then m_ins key n (m_lay q key n) else m_lay q key n
/-- what one gives up, what is beyond: own year, year (-1: none) -/
def m_laid (brings : Nat → Int64) (mine : Nat) (isY : Bool) : Int64 → Int64 → Int64 × Int64 → List Nat → Int64 × Int64
  | _, _, z, [] => z
  | own, left, z, k :: l => (fun g : Int64 => (fun b : Int64 => m_laid brings mine isY (own - g) (left - (brings k - g - b)) (if k = mine then (g, b) else z) l) (if isY = true ∧ left < brings k - g then brings k - g - left else 0)) (m_least (brings k) own)
/-- s summed over the days, less what was paid ahead -/
def m_days2 (s : Int64) (day at' : Int32) : Int64 → Int32 → List mFact → Int64
  | paid, fr, [] => (if paid < s then s - paid else 0) * (day - fr).toInt64
  | paid, fr, f :: l => if decide (f.1 = 13) && m_counts f day at' then (fun to : Int32 => (if paid < s then s - paid else 0) * (to - fr).toInt64 + m_days2 s day at' (paid + (m_fc f - m_fi f)) to l) (if f.2.1 + 1 < day then f.2.1 + 1 else day) else m_days2 s day at' paid fr l
/-- rows, trace, finding, interest, how many findings were met -/
abbrev mWork : Type := List mRow × List Int32 × Int32 × Int64 × Nat
def m_total : List mRow → Int64
  | [] => 0
  | r :: l => r.2.2 + m_total l
section
variable (P : List mPol) (T : List mTell) (Ls : List mLoss) (Cs : List mCase) (c : mCase) (day at' : Int32) (p : Nat) (C : List mCl)
/-- salvage, interest, paid -/
def m_behind (rs : List mRow × Int64) (tr : List Int32) (n : Nat) : mWork :=
  (fun r1 : List mRow × Int64 => (fun days : Int64 =>
    if m_told C 9 ≠ -1 ∧ m_great days (m_told C 9) = true then (r1.1, tr, 5, 0, n + 1)
    else (fun it : Int64 => ((if m_summed c.2.2.2.2.2 13 day at' = 0 then (if it = 0 then r1.1 else r1.1 ++ [(11, 0, it)]) else (if it = 0 then r1.1 else r1.1 ++ [(11, 0, it)]) ++ [(12, 0, -m_summed c.2.2.2.2.2 13 day at')]), tr, 0, it, n)) (if m_told C 9 = -1 then 0 else days * m_told C 9 / 3650000))
    (m_days2 r1.2 day at' 0 c.2.2.2.1 c.2.2.2.2.2)) (m_less rs 10 0 (m_least (m_summed c.2.2.2.2.2 18 day at') rs.2))
def m_ordL (mine : Nat) : List Nat := m_lay (fun k => decide (¬ day < (Cs.getD k mCase0).2.2.2.1) && m_of P T Ls (m_year (m_ld Ls c)) at' p (Cs.getD k mCase0)) (fun k => m_key Ls day at' (decide (m_by C = 11)) (Cs.getD k mCase0)) Cs.length
def m_brings (mine : Nat) (s : Int64) (k : Nat) : Int64 := if k = mine then s else (m_begin P T Ls (Cs.getD k mCase0) day at').2.2.2.2
def m_met (mine : Nat) (l : List Nat) : Nat := (l.filter (fun k => decide (k ≠ mine) && decide ((m_begin P T Ls (Cs.getD k mCase0) day at').2.2.1 ≠ 0))).length
def m_after (mine : Nat) (r : mRes) : mWork :=
  if m_told C 6 = -1 ∧ m_told C 4 = -1 then m_behind c day at' C (r.1, r.2.2.2.2) r.2.1 0
  else (fun z : Int64 × Int64 => m_behind c day at' C (m_less (m_less (r.1, r.2.2.2.2) 8 0 z.1) 9 0 z.2) r.2.1 (m_met P T Ls Cs day at' mine (m_ordL P T Ls Cs c day at' p C mine)))
    (m_laid (m_brings P T Ls Cs day at' mine r.2.2.2.2) mine (decide (m_told C 4 ≠ -1)) (if m_told C 6 = -1 then 0 else m_told C 6) (m_told C 4) (0, 0) (m_ordL P T Ls Cs c day at' p C mine))
end
def m_work (P : List mPol) (T : List mTell) (Ls : List mLoss) (Cs : List mCase) (mine : Nat) (day at' : Int32) : mWork :=
  (fun c : mCase => (fun r : mRes => if r.2.2.1 ≠ 0 then (r.1, r.2.1, r.2.2.1, 0, 1) else if r.2.2.2.1 = true then (r.1, r.2.1, 0, 0, 0) else (match m_cover P T c at' with
    | none => (r.1, r.2.1, 0, 0, 0)
    | some p => m_after P T Ls Cs c day at' p (m_cls T p at') mine r)) (m_begin P T Ls c day at')) (Cs.getD mine mCase0)
/-- used of a cover in a year -/
def m_usedL (P : List mPol) (T : List mTell) (Ls : List mLoss) (year at' : Int32) (p : Nat) : List mCase → Int64
  | [] => 0
  | k :: l => (if m_of P T Ls year at' p k = true then m_paidOf k.2.2.2.2.2 at' - m_recOf k.2.2.2.2.2 at' else 0) + m_usedL P T Ls year at' p l
