/-! THE MODEL: texts of clauses. Tokens: words 0 .. 25, 26 a number, 27 (, 28 ), 29 ;, 30 the end, 31 none; each with a number and its place -/
abbrev mTok : Type := Nat × Int32 × Nat
def m_wd : List (List Int32) := [[105, 110], [111, 117, 116], [105, 116, 101, 109], [108, 111, 115, 115], [121, 101, 97, 114], [111, 119, 110], [119, 97, 105, 116], [97, 118, 101, 114, 97, 103, 101], [105, 110, 116, 101, 114, 101, 115, 116], [98, 121], [110, 111, 116, 105, 99, 101], [117, 110, 108, 101, 115, 115], [111, 114], [97, 110, 100], [110, 111, 116], [97, 109, 111, 117, 110, 116], [105, 116, 101, 109, 115], [108, 97, 116, 101], [115, 111, 114, 116], [105, 115], [102, 105, 114, 101], [119, 97, 116, 101, 114], [116, 104, 101, 102, 116], [115, 116, 111, 114, 109], [116, 104, 105, 114, 100], [97, 110, 121]]
def m_wdi (r : List Int32) : Nat → List (List Int32) → Nat
  | _, [] => 31
  | k, x :: l => if x = r then k else m_wdi r (k + 1) l
def m_word (r : List Int32) : Nat := m_wdi r 0 m_wd
abbrev m_let (b : Int32) : Bool := decide (97 ≤ b.toInt ∧ b.toInt ≤ 122)
abbrev m_dig (b : Int32) : Bool := decide (48 ≤ b.toInt ∧ b.toInt ≤ 57)
def m_num : Int32 → List Int32 → Int32
  | v, [] => v
  | v, b :: l => m_num (10 * v + b - 48) l
def m_sgn (b : Int32) : Nat := if b = 40 then 27 else if b = 41 then 28 else if b = 59 then 29 else 31
def m_lex : Nat → Nat → List Int32 → List mTok
  | 0, i, _ => [(30, 0, i)]
  | _ + 1, i, [] => [(30, 0, i)]
  | f + 1, i, b :: r => if b = 32 ∨ b = 10 then m_lex f (i + 1) r
    else if m_let b = true then (m_word ((b :: r).takeWhile m_let), 0, i) :: m_lex f (i + ((b :: r).takeWhile m_let).length) ((b :: r).drop ((b :: r).takeWhile m_let).length)
    else if m_dig b = true then (26, m_num 0 (((b :: r).takeWhile m_dig).take 9), i) :: m_lex f (i + (((b :: r).takeWhile m_dig).take 9).length) ((b :: r).drop (((b :: r).takeWhile m_dig).take 9).length)
    else (m_sgn b, 0, i) :: m_lex f (i + 1) r
def m_hd (l : List mTok) : mTok := l.headD (30, 0, 0)
abbrev mPR : Type := Nat ⊕ (mF × List mTok)
/-- mode 0 NOT, 1 AND, 2 more of an and, 3 COND, 4 more of an or -/
def m_cond : Nat → Nat → Nat → mF → List mTok → mPR
  | 0, _, _, _, l => .inl (m_hd l).2.2
  | f + 1, md, op, acc, l =>
    if md = 0 then
      (if (m_hd l).1 = 14 then (if 20 ≤ op then .inl (m_hd l).2.2 else (match m_cond f 0 (op + 1) acc l.tail with
          | .inl e => .inl e
          | .inr (t, r) => .inr (.tag 2 t, r)))
      else if (m_hd l).1 = 27 then (if 20 ≤ op then .inl (m_hd l).2.2 else (match m_cond f 3 (op + 1) acc l.tail with
          | .inl e => .inl e
          | .inr (t, r) => if (m_hd r).1 = 28 then .inr (t, r.tail) else .inl (m_hd r).2.2))
      else if 15 ≤ (m_hd l).1 ∧ (m_hd l).1 ≤ 18 then (if (m_hd l.tail).1 = 26 then .inr (.nest (Int.ofNat ((m_hd l).1 - 12)) (.nest (m_hd l.tail).2.1.toInt .nil), l.tail.tail) else .inl (m_hd l.tail).2.2)
      else if (m_hd l).1 = 19 then (if 20 ≤ (m_hd l.tail).1 ∧ (m_hd l.tail).1 ≤ 25 then .inr (.nest 7 (.nest (Int.ofNat ((m_hd l.tail).1 - 20)) .nil), l.tail.tail) else .inl (m_hd l.tail).2.2)
      else .inl (m_hd l).2.2)
    else if md = 1 then (match m_cond f 0 op acc l with
      | .inl e => .inl e
      | .inr (t, r) => if (m_hd r).1 = 13 then m_cond f 2 op t r else .inr (t, r))
    else if md = 2 then (match m_cond f 0 op acc l.tail with
      | .inl e => .inl e
      | .inr (t, r) => if (m_hd r).1 = 13 then m_cond f 2 op (.append acc t) r else .inr (.tag 1 (.append acc t), r))
    else if md = 3 then (match m_cond f 1 op acc l with
      | .inl e => .inl e
      | .inr (t, r) => if (m_hd r).1 = 12 then m_cond f 4 op t r else .inr (t, r))
    else (match m_cond f 1 op acc l.tail with
      | .inl e => .inl e
      | .inr (t, r) => if (m_hd r).1 = 12 then m_cond f 4 op (.append acc t) r else .inr (.tag 0 (.append acc t), r))
abbrev mCR : Type := Nat ⊕ (mCl × List mTok)
def m_stop (c : mCl) (l : List mTok) : mCR := if (m_hd l).1 = 29 then .inr (c, l.tail) else .inl (m_hd l).2.2
def m_numd (code : Int32) (l : List mTok) : mCR := if (m_hd l).1 = 26 then m_stop (code, (m_hd l).2.1, none) l.tail else .inl (m_hd l).2.2
def m_ncode (t : Nat) : Int32 := if t = 2 then 2 else if t = 3 then 3 else if t = 4 then 4 else if t = 6 then 7 else 9
def m_clause (l : List mTok) : mCR :=
  if (m_hd l).1 = 0 ∨ (m_hd l).1 = 1 then
    (if 20 ≤ (m_hd l.tail).1 ∧ (m_hd l.tail).1 ≤ 25 then
      (if (m_hd l.tail.tail).1 = 11 then (match m_cond (4 * l.length + 20) 3 0 .nil l.tail.tail.tail with
        | .inl e => .inl e
        | .inr (t, r) => m_stop (Int32.ofNat (m_hd l).1, Int32.ofNat ((m_hd l.tail).1 - 20), some t) r)
      else m_stop (Int32.ofNat (m_hd l).1, Int32.ofNat ((m_hd l.tail).1 - 20), none) l.tail.tail)
    else .inl (m_hd l.tail).2.2)
  else if (m_hd l).1 = 2 ∨ (m_hd l).1 = 3 ∨ (m_hd l).1 = 4 ∨ (m_hd l).1 = 6 ∨ (m_hd l).1 = 8 then m_numd (m_ncode (m_hd l).1) l.tail
  else if (m_hd l).1 = 5 then (if (m_hd l.tail).1 = 3 then m_numd 5 l.tail.tail else if (m_hd l.tail).1 = 4 then m_numd 6 l.tail.tail else .inl (m_hd l.tail).2.2)
  else if (m_hd l).1 = 7 then m_stop (8, 0, none) l.tail
  else if (m_hd l).1 = 9 then (if (m_hd l.tail).1 = 3 then m_stop (11, 0, none) l.tail.tail else if (m_hd l.tail).1 = 10 then m_stop (10, 0, none) l.tail.tail else .inl (m_hd l.tail).2.2)
  else .inl (m_hd l).2.2
/-- n clauses may still come -/
def m_cll : Nat → List mTok → Nat ⊕ List mCl
  | n, l => if (m_hd l).1 = 30 then .inr [] else (match n with
    | 0 => .inl (m_hd l).2.2
    | k + 1 => (match m_clause l with
      | .inl e => .inl e
      | .inr (c, r) => (match m_cll k r with
        | .inl e => .inl e
        | .inr cs => .inr (c :: cs))))
def m_parse (t : List Int32) : Nat ⊕ List mCl := m_cll 30 (m_lex (t.length + 1) 0 t)
