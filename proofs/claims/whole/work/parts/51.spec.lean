/-! what the class and the reference both compute: boards, moments, mornings -/
section S51
/-- masters, places, ways, people, kin, ties; rows: 1 danger, 2 and 3 the ends of ways, 4 gates, 5 goods, 6 kin, 7 to 9 ties (master, person, friend), 10 the first row; the rule's codes (none: no rule) -/
abbrev e_B : Type := (Nat × Nat × Nat × Nat × Nat × Nat) × (Nat → Nat → Int32) × List Int32
def bMa (B : e_B) : Nat := B.1.1
def bPl (B : e_B) : Nat := B.1.2.1
def bWy (B : e_B) : Nat := B.1.2.2.1
def bPe (B : e_B) : Nat := B.1.2.2.2.1
def bKi (B : e_B) : Nat := B.1.2.2.2.2.1
def bTi (B : e_B) : Nat := B.1.2.2.2.2.2
def bR (B : e_B) : Nat → Nat → Int32 := B.2.1
def bO (B : e_B) : List Int32 := B.2.2
/-- friends (1) or foes (0) of a master -/
def fm (B : e_B) (m is : Int32) : Int32 := itr (fun k q => q ||| (if bR B 7 k = m then if bR B 9 k = is then e_shl (e_n 1) (bR B 8 k) else e_n 0 else e_n 0)) (bTi B) 0 (e_n 0)
/-- the list -/
def lm (B : e_B) (M : Nat → Int32) : Int32 := itr (fun p q => q ||| (if M (4 + p) = e_n (-1) then e_n 0 else e_shl (e_n 1) (e_n (p : Nat)))) (bPe B) 0 (e_n 0)
def bc (x : Int32) : Int32 := itr (fun i q => q + (e_shr x (e_n (i : Nat)) &&& e_n 1)) 9 0 (e_n 0)
-- the rule
def ap (c a b : Int32) : Int32 := if c = e_n (-9) then tf (¬ a = 0 ∨ ¬ b = 0) else if c = e_n (-10) then tf (¬ a = 0 ∧ ¬ b = 0) else if c = e_n (-12) then tf (a < b) else if c = e_n (-13) then tf (a = b) else if c = e_n (-14) then a + b else if c = e_n (-15) then a - b else if c = e_n (-16) then a * b else if b = 0 then e_n 0 else a / b
def ev1 (F : Nat → Int32) (c : Int32) (st : List Int32) : List Int32 :=
  if c < e_n (-8) then
    if c = e_n (-11) then (match st with | a :: r => tf (a = 0) :: r | [] => [])
    else (match st with | b :: a :: r => ap c a b :: r | st => st)
  else (if c < 0 then F (e_n (-1) - c).toNatClampNeg else c) :: st
def ev (F : Nat → Int32) : List Int32 → List Int32 → List Int32
  | [], st => st
  | c :: r, st => ev F r (ev1 F c st)
/-- codes of the class: a number, a value (-1 to -8), not (-11), an operator -/
def cOK (c : Int32) (h : Nat) : Bool :=
  if c < e_n (-8) then
    if c = e_n (-11) then decide (1 ≤ h) else decide (2 ≤ h) && (decide (c = e_n (-9)) || decide (c = e_n (-10)) || decide (c = e_n (-12)) || decide (c = e_n (-13)) || decide (c = e_n (-14)) || decide (c = e_n (-15)) || decide (c = e_n (-16)) || decide (c = e_n (-17)))
  else decide (h < 40)
def cH (c : Int32) (h : Nat) : Nat := if c < e_n (-8) then (if c = e_n (-11) then h else h - 1) else h + 1
def okO : List Int32 → Nat → Bool
  | [], h => decide (h = 1)
  | c :: r, h => cOK c h && okO r (cH c h)
def fct (B : e_B) (M : Nat → Int32) (m p : Nat) (k : Nat) : Int32 :=
  if k = 0 then bR B 5 p else if k = 1 then M (31 + m) else if k = 2 then tf (bt (fm B (e_n (m : Nat)) (e_n 0)) p = true) else if k = 3 then tf (bt (fm B (e_n (m : Nat)) (e_n 1)) p = true)
  else if k = 4 then bc (bR B 6 p &&& lm B M) else if k = 5 then bc (lm B M) else if k = 6 then M 0 else M 2
def grS (B : e_B) (M : Nat → Int32) (m p : Nat) : Int32 := if bO B = [] then bR B 5 p else (ev (fct B M m p) (bO B) []).headD 0
-- a morning; S: 0 the row, 1 names, 2 found on, 3 brought, 4 (how many names, how many sales of nothing, the first morning without a name), 5 to 7 written, found, the list by mornings
abbrev e_T : Type := Nat → Nat → Int32
def chS (B : e_B) (sk : Int32) (M : Nat → Int32) (m : Nat) : Int32 × Int32 :=
  itr (fun p q => if e_n (p : Nat) = sk then q else if M (4 + p) = e_n (-1) then (if q.2 < grS B M m p then (e_n (p : Nat), grS B M m p) else q) else q) (bPe B) 0 (e_n (-1), e_n 0)
def entS (S : e_T) (c : Nat) (by_ : Int32) : e_T := e_u (e_u S 0 (4 + c) (S 0 0)) 0 (13 + c) by_
def wr1 (B : e_B) (sk : Int32) (m : Nat) (q : Int32 × e_T) : Int32 × e_T :=
  if (chS B sk (q.2 0) m).1 = e_n (-1) then q
  else (q.1 + e_n 1, e_u (e_u (entS q.2 (chS B sk (q.2 0) m).1.toNatClampNeg (e_n (m : Nat))) 1 (q.2 4 0).toNatClampNeg (chS B sk (q.2 0) m).1) 4 0 (q.2 4 0 + e_n 1))
def wrS (B : e_B) (sk : Int32) (S : e_T) : Int32 × e_T := if S 0 3 = e_n 1 then itr (wr1 B sk) (bMa B) 0 (e_n 0, S) else (e_n 0, S)
abbrev fndC (B : e_B) (M : Nat → Int32) (p : Nat) : Prop := ¬ M (4 + p) = e_n (-1) ∧ ¬ bt (M 1) p = true ∧ ¬ bR B 1 (M (22 + p)).toNatClampNeg = e_n (-1) ∧ ¬ bR B 1 (M (22 + p)).toNatClampNeg + M 0 - M (4 + p) < e_n 10
def saleS (B : e_B) (M : Nat → Int32) (p : Nat) : Int32 := bR B 5 p * (e_n 10 - (if e_n 9 < M 2 then e_n 9 else M 2)) / e_n 10
def dieS (B : e_B) (p : Nat) (S : e_T) : e_T :=
  let v := saleS B (S 0) p
  let S1 := e_u (e_u (e_u S 0 1 (S 0 1 ||| e_shl (e_n 1) (e_n (p : Nat)))) 0 2 (S 0 2 + e_n 1)) 4 1 (S 4 1 + tf (v = 0))
  if S 0 (13 + p) < 0 then S1
  else e_u (e_u S1 3 (S 0 (13 + p)).toNatClampNeg (S 3 (S 0 (13 + p)).toNatClampNeg + v)) 0 (31 + (S 0 (13 + p)).toNatClampNeg) (if S 0 (31 + (S 0 (13 + p)).toNatClampNeg) < v then e_n 0 else S 0 (31 + (S 0 (13 + p)).toNatClampNeg) - v)

def fn1 (B : e_B) (p : Nat) (q : Int32 × e_T) : Int32 × e_T := if fndC B (q.2 0) p then (q.1 + e_n 1, e_u (dieS B p q.2) 2 p (q.2 0 0)) else q
def fnS (B : e_B) (S : e_T) : Int32 × e_T := itr (fn1 B) (bPe B) 0 (e_n 0, S)
def moS (B : e_B) (sk : Int32) (k : Nat) (S : e_T) : e_T :=
  let w := wrS B sk S
  let S1 := if w.1 = e_n 0 ∧ S 4 2 = e_n (-1) then e_u w.2 4 2 (S 0 0) else w.2
  let f := fnS B S1
  let S3 := if k < 30 then e_u (e_u (e_u f.2 5 k w.1) 6 k f.1) 7 k (lm B (f.2 0)) else f.2
  e_u S3 0 0 (S3 0 0 + e_n 1)
end S51
