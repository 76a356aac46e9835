/-! both languages: what a text says. Tokens: a sign's byte, 256 + a number (at most 1001), 2000 + a frame word's place, 3000 + a part word's place, 4000 another word, 9999 the end -/
abbrev Cd : Type := List (Nat × Nat)
abbrev Dn : Type := (Nat → Int32) → Option Int64
/-- a sum: the class's code, the reference's, what it is worth -/
abbrev Ex : Type := Cd × Cd × Dn
/-- a test: its codes hang on where they begin -/
abbrev Te : Type := (Nat → Cd) × (Nat → Cd) × Dn
/-- what reading gives: the token that can't go on, or a thing, the parts so far, the next token -/
abbrev Rd (α : Type) : Type := Nat ⊕ (α × Nat × Nat)
def mwL (k : Nat) : Nat × Nat := (k + 1, 0)
def mwO (k : Nat) : Nat × Nat := if k < 3 then (k + 1, 0) else if k < 9 then (4, k - 3) else if k < 15 then (5, k - 9) else if k < 19 then (6, k - 15) else (7, k - 19)
def mwF (q : Bool) (k : Nat) : Nat × Nat := if q = true then mwO k else mwL k
def eNum (v : Nat) : Ex := ([(1, v)], [(0, v)], fun _ => some (nI v).toInt64)
def eWrd (q : Bool) (k : Nat) : Ex := ([(2, k)], [mwF q k], fun w => some (w k).toInt64)
def dBin (o : Nat) (f g : Dn) : Dn := fun w => match f w with
  | none => none
  | some x => match g w with
    | none => none
    | some y => joi o x y
def eBin (o : Nat) (a b : Ex) : Ex := (a.1 ++ (b.1 ++ [(o, 0)]), a.2.1 ++ (b.2.1 ++ [(o + 17, 0)]), dBin o a.2.2 b.2.2)
def tCmp (o : Nat) (a b : Ex) : Te := (fun _ => a.1 ++ (b.1 ++ [(o, 0)]), fun _ => a.2.1 ++ (b.2.1 ++ [(o + 17, 0)]), dBin o a.2.2 b.2.2)
def dNts (k : Nat) (f : Dn) : Dn := fun w => match f w with
  | none => none
  | some x => some (if k % 2 = 1 then lN 1 - x else x)
def tNts (k : Nat) (t : Te) : Te := (fun n => t.1 n ++ (if k % 2 = 1 then [(11, 0)] else []), fun n => t.2.1 n ++ List.replicate k (28, 0), dNts k t.2.2)
def dCon (f g : Dn) : Dn := fun w => match f w with
  | none => none
  | some x => if x = lN 0 then some x else g w
def dDis (f g : Dn) : Dn := fun w => match f w with
  | none => none
  | some x => if x = lN 0 then g w else some x
/-- two codes, a jump over the second between them -/
def jmp (o : Nat) (a b : Nat → Cd) : Nat → Cd := fun n => a n ++ ((o, n + (a n).length + 1 + (b (n + (a n).length + 1)).length) :: b (n + (a n).length + 1))
def tCon (a b : Te) : Te := (jmp 13 a.1 b.1, jmp 29 a.2.1 b.2.1, dCon a.2.2 b.2.2)
def tDis (a b : Te) : Te := (jmp 12 a.1 b.1, jmp 30 a.2.1 b.2.1, dDis a.2.2 b.2.2)
/-- a number's value -/
def numT (t : Nat) : Option Nat := if 256 ≤ t ∧ t ≤ 1256 then some (t - 256) else none
/-- of orders: a word that stands alone; one of many: the first's place, how many -/
def aloT (t : Nat) : Option Nat := if t = 3008 then some 0 else if t = 3010 then some 1 else if t = 3011 then some 2 else none
def manT (t : Nat) : Option (Nat × Nat) := if t = 3002 then some (3, 6) else if t = 3003 then some (9, 6) else if t = 3006 then some (15, 4) else if t = 3012 then some (19, 4) else none
/-- a number or a word -/
def pLeaf (q : Bool) (tk : Nat → Nat) (c i : Nat) : Rd Ex :=
  if 50 ≤ c then .inl i else match numT (tk i) with
    | some v => .inr (eNum v, c + 1, i + 1)
    | none => if q = true then (match aloT (tk i) with
        | some k => .inr (eWrd q k, c + 1, i + 1)
        | none => match manT (tk i) with
          | none => .inl i
          | some m => match numT (tk (i + 1)) with
            | none => .inl (i + 1)
            | some v => if v < m.2 then .inr (eWrd q (m.1 + v), c + 1, i + 2) else .inl (i + 1))
      else if 3000 ≤ tk i ∧ tk i ≤ 3009 then .inr (eWrd q (tk i - 3000), c + 1, i + 1) else .inl i
/-- behind one thing the next -/
def thn {α β : Type} (r : Rd α) (f : α → Nat → Nat → Rd β) : Rd β := match r with
  | .inl e => .inl e
  | .inr x => f x.1 x.2.1 x.2.2
/-- a bracket shut -/
def shut {α : Type} (tk : Nat → Nat) (s : Nat) (f : α → α) (r : Rd α) : Rd α := thn r (fun x c i => if tk i = s then .inr (f x, c, i + 1) else .inl i)
def partF (q : Bool) (tk : Nat → Nat) (rec : Option (Nat → Nat → Rd Ex)) (c i : Nat) : Rd Ex := if tk i = 91 then (match rec with
    | none => .inl i
    | some f => shut tk 93 id (f c (i + 1))) else pLeaf q tk c i
def mulT (t : Nat) : Option Nat := if t = 42 then some 5 else if t = 47 then some 6 else if t = 37 then some 7 else none
def addT (t : Nat) : Option Nat := if t = 43 then some 3 else if t = 45 then some 4 else none
def cmpT (t : Nat) : Option Nat := if t = 60 then some 8 else if t = 62 then some 9 else if t = 61 then some 10 else none
def andT (t : Nat) : Option Nat := if t = 2013 then some 13 else none
def orT (t : Nat) : Option Nat := if t = 2012 then some 12 else none
/-- a row of things with signs between them -/
def rowL {α : Type} (sg : Nat → Option Nat) (mk : Nat → α → α → α) (tk : Nat → Nat) (it : Nat → Nat → Rd α) : Nat → α → Nat → Nat → Rd α
  | 0, x, c, i => .inr (x, c, i)
  | k + 1, x, c, i => match sg (tk i) with
    | none => .inr (x, c, i)
    | some o => thn (it c (i + 1)) (fun y c2 i2 => rowL sg mk tk it k (mk o x y) c2 i2)
def rowF {α : Type} (sg : Nat → Option Nat) (mk : Nat → α → α → α) (tk : Nat → Nat) (it : Nat → Nat → Rd α) (c i : Nat) : Rd α := thn (it c i) (fun x c2 i2 => rowL sg mk tk it 400 x c2 i2)
def sumF (q : Bool) (tk : Nat → Nat) (rec : Option (Nat → Nat → Rd Ex)) : Nat → Nat → Rd Ex := rowF addT eBin tk (rowF mulT eBin tk (partF q tk rec))
/-- a sum with b brackets left -/
def pSum (q : Bool) (tk : Nat → Nat) : Nat → Nat → Nat → Rd Ex
  | 0 => sumF q tk none
  | b + 1 => sumF q tk (some (pSum q tk b))
/-- how many nots stand there -/
def nots (tk : Nat → Nat) : Nat → Nat → Nat
  | 0, _ => 0
  | k + 1, i => if tk i = 2014 then nots tk k (i + 1) + 1 else 0
def plainB (_q : Bool) (tk : Nat → Nat) (sum : Nat → Nat → Rd Ex) (rec : Option (Nat → Nat → Rd Te)) (m c i : Nat) : Rd Te :=
  if tk i = 40 then (match rec with
    | none => .inl i
    | some f => shut tk 41 (tNts m) (f c (i + 1)))
  else thn (sum c i) (fun a c1 i1 => match cmpT (tk i1) with
    | none => .inl i1
    | some o => thn (sum c1 (i1 + 1)) (fun b c2 i2 => .inr (tNts m (tCmp o a b), c2, i2)))
def plainF (q : Bool) (tk : Nat → Nat) (sum : Nat → Nat → Rd Ex) (rec : Option (Nat → Nat → Rd Te)) (c i : Nat) : Rd Te := plainB q tk sum rec (nots tk 400 i) c (i + nots tk 400 i)
def testF (q : Bool) (tk : Nat → Nat) (sum : Nat → Nat → Rd Ex) (rec : Option (Nat → Nat → Rd Te)) : Nat → Nat → Rd Te := rowF orT (fun _ => tDis) tk (rowF andT (fun _ => tCon) tk (plainF q tk sum rec))
def pTest (q : Bool) (tk : Nat → Nat) : Nat → Nat → Nat → Rd Te
  | 0 => testF q tk (pSum q tk 0) none
  | b + 1 => testF q tk (pSum q tk (b + 1)) (some (pTest q tk b))
