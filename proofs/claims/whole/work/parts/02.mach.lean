/-! THE SMALL MACHINE: a pure machine over a store of whole numbers; later it is shown that the real one does what it does. -/
/-- values: an int, a long, a reference (none: null; below 1000000 a cell of our own, from there on one that was there before) -/
abbrev XV : Type := Int32 ⊕ (Int64 ⊕ Option Nat)
/-- a cell: its kind (a number of xcl; 50 int[], 51 long[], 52 boolean[], 53 World[], 54 Program[]), its size, its references -/
abbrev XC : Type := Nat × Nat × List (Option Nat)
/-- a heap: the cells; the ints of each cell by place; the longs of each cell by place -/
abbrev XH : Type := List XC × (Nat → Nat → Int32) × (Nat → Nat → Int64)
abbrev XR : Type := Option XV × XH
abbrev XP : Type := Nat × Nat × Nat × Nat
abbrev XE : Type := Nat → Option (Nat × (Nat → Int32))
abbrev XL : Type := List (Option XV)
abbrev XS : Type := List XV
abbrev XCl : Type := Nat → XS → XH → Option XR
abbrev XI : Type := Instr × Nat × XP
def upd2 {α : Type} (f : Nat → Nat → α) (a k : Nat) (x : α) : Nat → Nat → α := fun b j => if b = a ∧ j = k then x else f b j
def upr {α : Type} (f : Nat → Nat → α) (a : Nat) (g : Nat → α) : Nat → Nat → α := fun b j => if b = a then g j else f b j
def inb (i : Int32) (n : Nat) : Bool := decide (¬ i < 0) && decide (i.toNatClampNeg < n)
def is01 (x : Int32) : Bool := decide (x = 0) || decide (x = 1)
def bV {ρ : Type} (r : Option XR) (k : XH → Option ρ) : Option ρ := match r with
  | some (none, h) => k h
  | _ => none
def bI {ρ : Type} (r : Option XR) (k : Int32 → XH → Option ρ) : Option ρ := match r with
  | some (some (.inl x), h) => k x h
  | _ => none
def bL {ρ : Type} (r : Option XR) (k : Int64 → XH → Option ρ) : Option ρ := match r with
  | some (some (.inr (.inl x)), h) => k x h
  | _ => none
def bR {ρ : Type} (r : Option XR) (k : Option Nat → XH → Option ρ) : Option ρ := match r with
  | some (some (.inr (.inr x)), h) => k x h
  | _ => none
theorem bV_some {ρ : Type} (h : XH) (k : XH → Option ρ) : bV (some (none, h)) k = k h := rfl
theorem bI_some {ρ : Type} (x : Int32) (h : XH) (k : Int32 → XH → Option ρ) : bI (some (some (.inl x), h)) k = k x h := rfl
theorem bL_some {ρ : Type} (x : Int64) (h : XH) (k : Int64 → XH → Option ρ) : bL (some (some (.inr (.inl x)), h)) k = k x h := rfl
theorem bR_some {ρ : Type} (x : Option Nat) (h : XH) (k : Option Nat → XH → Option ρ) : bR (some (some (.inr (.inr x)), h)) k = k x h := rfl
/-- the cell that a reference names is an object of a kind -/
def objR {ρ : Type} (S : List XC) (r : Option Nat) (ci : Nat) (k : Nat → Option ρ) : Option ρ := match r with
  | some a => match S[a]? with
    | some c => if c.1 = ci then k a else none
    | none => none
  | none => none
/-- .. and has a field of that place -/
def obj {ρ : Type} (S : List XC) (r : Option Nat) (ci fi : Nat) (k : Nat → XC → Option ρ) : Option ρ := match r with
  | some a => match S[a]? with
    | some c => if c.1 = ci ∧ fi < c.2.1 then k a c else none
    | none => none
  | none => none
/-- .. is an array of a kind, of n places, and i is one of them -/
def arr {ρ : Type} (S : List XC) (r : Option Nat) (kd : Nat) (i : Int32) (k : Nat → List (Option Nat) → Option ρ) : Option ρ := match r with
  | some a => match S[a]? with
    | some c => if c.1 = kd then (if inb i c.2.1 = true then k a c.2.2 else none) else none
    | none => none
  | none => none
/-- a load out of an array of ints or bytes, also of one that was there before -/
def ild {ρ : Type} (X : XE) (S : List XC) (iv : Nat → Nat → Int32) (r : Option Nat) (kd : Nat) (i : Int32) (k : Int32 → Option ρ) : Option ρ := match r with
  | some a => if a < 1000000 then arr S (some a) kd i (fun a _ => k (iv a i.toNatClampNeg)) else match X (a - 1000000) with
    | some q => if decide (kd = 50) = decide (a < 1000003) then (if inb i q.1 = true then k (q.2 i.toNatClampNeg) else none) else none
    | none => none
  | none => none
def alen {ρ : Type} (X : XE) (S : List XC) (r : Option Nat) (k : Int32 → Option ρ) : Option ρ := match r with
  | some a => if a < 1000000 then (match S[a]? with
    | some c => if 50 ≤ c.1 then k (nI c.2.1) else none
    | none => none) else match X (a - 1000000) with
    | some q => k (nI q.1)
    | none => none
  | none => none
def xcat (v : XV) : Nat := match v with
  | .inr (.inl _) => 2
  | _ => 1
def xcats (st : XS) : Nat := match st with
  | [] => 0
  | v :: r => xcat v + xcats r
def popN (n : Nat) (st : XS) (as : XS) : Option (XS × XS) := match n with
  | 0 => some (as, st)
  | n + 1 => match st with
    | [] => none
    | v :: r => popN n r (v :: as)
def xcall {ρ : Type} (rk : Nat) (r : Option XR) (st : XS) (k : XS → XH → Option ρ) : Option ρ := match rk with
  | 0 => bV r (fun h => k st h)
  | 1 => bI r (fun x h => k (.inl x :: st) h)
  | 2 => bL r (fun x h => k (.inr (.inl x) :: st) h)
  | _ => bR r (fun x h => k (.inr (.inr x) :: st) h)
def sclr (ls : XL) (i : Nat) : XL := match i with
  | 0 => ls
  | j + 1 => match ls[j]? with
    | some (some (.inr (.inl _))) => ls.set j none
    | _ => ls
def sto1 (ls : XL) (i : Nat) (v : XV) : XL := (sclr ls i).set i (some v)
def sto2 (ls : XL) (i : Nat) (v : XV) : XL := ((sclr ls i).set i (some v)).set (i + 1) none
def tgt (pc : Nat) (off : Int) : Nat := ((pc : Int) + off).toNat
def swk {ρ : Type} (x : Int32) (lo : Int) (os : List Int) (dflt : Int) (k : Int → Option ρ) : Option ρ := match os with
  | [] => k dflt
  | o :: r => if x.toInt = lo then k o else swk x (lo + 1) r dflt k
def sld {ρ : Type} (ls : XL) (i : Nat) (kd : Nat) (k : XV → Option ρ) : Option ρ := match ls[i]? with
  | some (some (.inl x)) => if kd = 0 then k (.inl x) else none
  | some (some (.inr (.inl x))) => if kd = 1 then k (.inr (.inl x)) else none
  | some (some (.inr (.inr x))) => if kd = 2 then k (.inr (.inr x)) else none
  | _ => none
def sst {ρ : Type} (ls : XL) (i : Nat) (kd : Nat) (st : XS) (k : XL → XS → Option ρ) : Option ρ := match st with
  | .inl x :: r => if kd = 0 then (if i < ls.length then k (sto1 ls i (.inl x)) r else none) else none
  | .inr (.inl x) :: r => if kd = 1 then (if i + 1 < ls.length then k (sto2 ls i (.inr (.inl x))) r else none) else none
  | .inr (.inr x) :: r => if kd = 2 then (if i < ls.length then k (sto1 ls i (.inr (.inr x))) r else none) else none
  | [] => none
def bin {ρ : Type} (st : XS) (k : Int32 → Int32 → XS → Option ρ) : Option ρ := match st with
  | .inl y :: .inl x :: r => k x y r
  | _ => none
def binL {ρ : Type} (st : XS) (k : Int64 → Int64 → XS → Option ρ) : Option ρ := match st with
  | .inr (.inl y) :: .inr (.inl x) :: r => k x y r
  | _ => none
def un {ρ : Type} (st : XS) (k : Int32 → XS → Option ρ) : Option ρ := match st with
  | .inl x :: r => k x r
  | _ => none
def unR {ρ : Type} (st : XS) (k : Option Nat → XS → Option ρ) : Option ρ := match st with
  | .inr (.inr x) :: r => k x r
  | _ => none
/-- a field: 0 int, 1 long, 2 reference, 3 boolean; 4 more: final -/
def gfld {ρ : Type} (S : List XC) (iv : Nat → Nat → Int32) (lv : Nat → Nat → Int64) (r : Option Nat) (e : XP) (k : XV → Option ρ) : Option ρ := match e.1 with
  | 1 => obj S r e.2.1 e.2.2.1 (fun a c => match e.2.2.2 with
    | 0 => k (.inl (iv a e.2.2.1))
    | 1 => k (.inr (.inl (lv a e.2.2.1)))
    | 3 => k (.inl (iv a e.2.2.1))
    | _ => k (.inr (.inr (c.2.2.getD e.2.2.1 none))))
  | 12 => match r with
    | some a => if a = 1000003 ∨ a = 1000005 then (match e.2.1 with
      | 0 => k (.inr (.inr (some (a + 1))))
      | _ => k (.inl 0)) else none
    | none => none
  | _ => none
def pfld {ρ : Type} (h : XH) (ini : Bool) (st : XS) (e : XP) (k : XS → XH → Option ρ) : Option ρ := match st with
  | .inl x :: .inr (.inr r) :: q => obj h.1 r e.2.1 e.2.2.1 (fun a _ => match e.2.2.2 with
    | 0 => k q (h.1, upd2 h.2.1 a e.2.2.1 x, h.2.2)
    | 3 => if is01 x = true then k q (h.1, upd2 h.2.1 a e.2.2.1 x, h.2.2) else none
    | _ => none)
  | .inr (.inl x) :: .inr (.inr r) :: q => obj h.1 r e.2.1 e.2.2.1 (fun a _ => match e.2.2.2 with
    | 1 => k q (h.1, h.2.1, upd2 h.2.2 a e.2.2.1 x)
    | _ => none)
  | .inr (.inr x) :: .inr (.inr r) :: q => obj h.1 r e.2.1 e.2.2.1 (fun a c => match e.2.2.2 with
    | 2 => if e.2.2.1 < c.2.2.length then k q (h.1.set a (c.1, c.2.1, c.2.2.set e.2.2.1 x), h.2.1, h.2.2) else none
    | 6 => if ini = true ∧ e.2.2.1 < c.2.2.length then k q (h.1.set a (c.1, c.2.1, c.2.2.set e.2.2.1 x), h.2.1, h.2.2) else none
    | _ => none)
  | _ => none
/-- a new cell: all its places are empty -/
def xnew {ρ : Type} (h : XH) (kd n : Nat) (k : Nat → XH → Option ρ) : Option ρ := k h.1.length (h.1 ++ [(kd, n, List.replicate (if kd < 50 ∨ 53 ≤ kd then n else 0) none)], upr h.2.1 h.1.length (fun _ => 0), upr h.2.2 h.1.length (fun _ => 0))
def bin2 {ρ : Type} (st : XS) (k : Option Nat → Int32 → XS → Option ρ) : Option ρ := match st with
  | .inl j :: .inr (.inr r) :: q => k r j q
  | _ => none
/-- an array of references, and i is a place of it -/
def arrR {ρ : Type} (S : List XC) (r : Option Nat) (i : Int32) (k : Nat → List (Option Nat) → XC → Option ρ) : Option ρ := match r with
  | some a => match S[a]? with
    | some c => if c.1 = 53 ∨ c.1 = 54 then (if inb i c.2.1 = true then k a c.2.2 c else none) else none
    | none => none
  | none => none
def lowR (x : Option Nat) : Bool := match x with
  | none => true
  | some b => decide (b < 1000000)
/-- what may lie in an array of references: nothing, or an object of its kind (53: World, 54: Program) -/
def fitR (S : List XC) (kd : Nat) (x : Option Nat) : Bool := match x with
  | none => true
  | some b => match S[b]? with
    | some c => decide (kd = 53 ∧ c.1 = 9 ∨ kd = 54 ∧ c.1 = 5)
    | none => false
def xcopy {ρ : Type} (h : XH) (b : Nat) (sp : Int32) (a : Nat) (dp n : Int32) (k : XH → Option ρ) : Option ρ := match h.1[b]?, h.1[a]? with
  | some cb, some ca => if (decide (cb.1 = 50) && decide (ca.1 = 50) && decide (¬ sp < 0) && decide (¬ dp < 0) && decide (¬ n < 0) && decide (sp.toNatClampNeg + n.toNatClampNeg ≤ cb.2.1) && decide (dp.toNatClampNeg + n.toNatClampNeg ≤ ca.2.1)) = true then k (h.1, upr h.2.1 a (va_cpy (h.2.1 b) (h.2.1 a) sp.toNatClampNeg dp.toNatClampNeg n.toNatClampNeg), h.2.2) else none
  | _, _ => none
def xclone {ρ : Type} (h : XH) (a : Nat) (k : Nat → XH → Option ρ) : Option ρ := match h.1[a]? with
  | some c => if c.1 = 50 then k h.1.length (h.1 ++ [(50, c.2.1, [])], upr h.2.1 h.1.length (h.2.1 a), upr h.2.2 h.1.length (fun _ => 0)) else none
  | none => none
def akind (t : ArrayType) : Nat := match t with
  | .int => 50
  | .long => 51
  | .boolean => 52
  | _ => 0
def brn {ρ : Type} (c : Prop) [Decidable c] (a b : Option ρ) : Option ρ := if c then a else b
def ifc {ρ : Type} (cc : ClassFile.Cond) (x y : Int32) (a b : Option ρ) : Option ρ := match cc with
  | .eq => if x = y then a else b
  | .ne => if x = y then b else a
  | .lt => if x < y then a else b
  | .ge => if y ≤ x then a else b
  | .gt => if y < x then a else b
  | .le => if x ≤ y then a else b
/-- a whole number out of the code -/
def xlit (n : Int) : Int32 := match n with
  | .ofNat m => nI m
  | .negSucc m => Int32.ofInt (.negSucc m)
/-- one instruction: behind it (kn), or elsewhere (kj) -/
def stepK {ρ : Type} (X : XE) (cl : XCl) (ini : Bool) (rk : Nat) (i : Instr) (e : XP) (pc : Nat) (ls : XL) (st : XS) (h : XH) (kn : XL → XS → XH → Option ρ) (kj : Nat → XL → XS → XH → Option ρ) (kr : XR → Option ρ) : Option ρ := match i with
  | .aload k => sld ls k 2 (fun v => kn ls (v :: st) h)
  | .aload_n k => sld ls k.val 2 (fun v => kn ls (v :: st) h)
  | .iload k => sld ls k 0 (fun v => kn ls (v :: st) h)
  | .iload_n k => sld ls k.val 0 (fun v => kn ls (v :: st) h)
  | .lload k => sld ls k 1 (fun v => kn ls (v :: st) h)
  | .lload_n k => sld ls k.val 1 (fun v => kn ls (v :: st) h)
  | .astore k => sst ls k 2 st (fun l r => kn l r h)
  | .astore_n k => sst ls k.val 2 st (fun l r => kn l r h)
  | .istore k => sst ls k 0 st (fun l r => kn l r h)
  | .istore_n k => sst ls k.val 0 st (fun l r => kn l r h)
  | .lstore k => sst ls k 1 st (fun l r => kn l r h)
  | .lstore_n k => sst ls k.val 1 st (fun l r => kn l r h)
  | .iinc k n => sld ls k 0 (fun v => match v with
    | .inl x => if k < ls.length then kn (sto1 ls k (.inl (x + xlit n))) st h else none
    | _ => none)
  | .aconst_null => kn ls (.inr (.inr none) :: st) h
  | .iconst n => kn ls (.inl (xlit n) :: st) h
  | .bipush n => kn ls (.inl (xlit n) :: st) h
  | .sipush n => kn ls (.inl (xlit n) :: st) h
  | .lconst n => kn ls (.inr (.inl (lN n.val)) :: st) h
  | .ldc _ => match e.1 with
    | 20 => kn ls (.inl (nI e.2.1) :: st) h
    | 22 => kn ls (.inr (.inr (some (1000000 + e.2.1))) :: st) h
    | _ => none
  | .ldc_w _ => match e.1 with
    | 20 => kn ls (.inl (nI e.2.1) :: st) h
    | _ => none
  | .ldc2_w _ => match e.1 with
    | 21 => kn ls (.inr (.inl (lN e.2.1)) :: st) h
    | _ => none
  | .getfield _ => unR st (fun r q => gfld h.1 h.2.1 h.2.2 r e (fun v => kn ls (v :: q) h))
  | .putfield _ => match e.1 with
    | 1 => pfld h ini st e (fun q h2 => kn ls q h2)
    | _ => none
  | .getstatic _ => match e.1 with
    | 9 => kn ls (.inr (.inr (some (1000000 + e.2.1))) :: st) h
    | 10 => kn ls (.inl (nI e.2.1) :: st) h
    | _ => none
  | .iaload => bin2 st (fun r j q => ild X h.1 h.2.1 r 50 j (fun x => kn ls (.inl x :: q) h))
  | .baload => bin2 st (fun r j q => ild X h.1 h.2.1 r 52 j (fun x => kn ls (.inl x :: q) h))
  | .laload => bin2 st (fun r j q => arr h.1 r 51 j (fun a _ => kn ls (.inr (.inl (h.2.2 a j.toNatClampNeg)) :: q) h))
  | .aaload => bin2 st (fun r j q => arrR h.1 r j (fun _ rs _ => if lowR (rs.getD j.toNatClampNeg none) = true then kn ls (.inr (.inr (rs.getD j.toNatClampNeg none)) :: q) h else none))
  | .iastore => match st with
    | .inl x :: .inl j :: .inr (.inr r) :: q => arr h.1 r 50 j (fun a _ => kn ls q (h.1, upd2 h.2.1 a j.toNatClampNeg x, h.2.2))
    | _ => none
  | .bastore => match st with
    | .inl x :: .inl j :: .inr (.inr r) :: q => if is01 x = true then arr h.1 r 52 j (fun a _ => kn ls q (h.1, upd2 h.2.1 a j.toNatClampNeg x, h.2.2)) else none
    | _ => none
  | .lastore => match st with
    | .inr (.inl x) :: .inl j :: .inr (.inr r) :: q => arr h.1 r 51 j (fun a _ => kn ls q (h.1, h.2.1, upd2 h.2.2 a j.toNatClampNeg x))
    | _ => none
  | .aastore => match st with
    | .inr (.inr x) :: .inl j :: .inr (.inr r) :: q => arrR h.1 r j (fun a rs c => if fitR h.1 c.1 x = true ∧ j.toNatClampNeg < rs.length then kn ls q (h.1.set a (c.1, c.2.1, rs.set j.toNatClampNeg x), h.2.1, h.2.2) else none)
    | _ => none
  | .arraylength => unR st (fun r q => alen X h.1 r (fun n => kn ls (.inl n :: q) h))
  | .newarray t => un st (fun n q => if (decide (¬ n < 0) && decide (n.toNatClampNeg ≤ 100000) && decide (0 < akind t)) = true then xnew h (akind t) n.toNatClampNeg (fun a h2 => kn ls (.inr (.inr (some a)) :: q) h2) else none)
  | .anewarray _ => match e.1 with
    | 7 => un st (fun n q => if (decide (¬ n < 0) && decide (n.toNatClampNeg ≤ 100000)) = true then xnew h e.2.1 n.toNatClampNeg (fun a h2 => kn ls (.inr (.inr (some a)) :: q) h2) else none)
    | _ => none
  | .new _ => match e.1 with
    | 6 => xnew h e.2.1 e.2.2.1 (fun a h2 => kn ls (.inr (.inr (some a)) :: st) h2)
    | _ => none
  | .dup => match st with
    | v :: q => if xcat v = 1 then kn ls (v :: v :: q) h else none
    | _ => none
  | .pop => match st with
    | v :: q => if xcat v = 1 then kn ls q h else none
    | _ => none
  | .dup2 => match st with
    | .inr (.inl x) :: q => kn ls (.inr (.inl x) :: .inr (.inl x) :: q) h
    | v :: w :: q => if xcat v = 1 ∧ xcat w = 1 then kn ls (v :: w :: v :: w :: q) h else none
    | _ => none
  | .iadd => bin st (fun x y q => kn ls (.inl (x + y) :: q) h)
  | .isub => bin st (fun x y q => kn ls (.inl (x - y) :: q) h)
  | .imul => bin st (fun x y q => kn ls (.inl (x * y) :: q) h)
  | .idiv => bin st (fun x y q => if y = 0 then none else kn ls (.inl (x / y) :: q) h)
  | .irem => bin st (fun x y q => if y = 0 then none else kn ls (.inl (x - x / y * y) :: q) h)
  | .iand => bin st (fun x y q => kn ls (.inl (x &&& y) :: q) h)
  | .ior => bin st (fun x y q => kn ls (.inl (x ||| y) :: q) h)
  | .ixor => bin st (fun x y q => kn ls (.inl (x ^^^ y) :: q) h)
  | .ishl => bin st (fun x y q => kn ls (.inl (x <<< (y &&& 31)) :: q) h)
  | .ishr => bin st (fun x y q => kn ls (.inl (x >>> (y &&& 31)) :: q) h)
  | .iushr => bin st (fun x y q => kn ls (.inl (x.toUInt32 >>> (y.toUInt32 &&& Int32.toUInt32 31)).toInt32 :: q) h)
  | .ineg => un st (fun x q => kn ls (.inl (-x) :: q) h)
  | .ladd => binL st (fun x y q => kn ls (.inr (.inl (x + y)) :: q) h)
  | .lsub => binL st (fun x y q => kn ls (.inr (.inl (x - y)) :: q) h)
  | .lmul => binL st (fun x y q => kn ls (.inr (.inl (x * y)) :: q) h)
  | .ldiv => binL st (fun x y q => if y = 0 then none else kn ls (.inr (.inl (x / y)) :: q) h)
  | .lrem => binL st (fun x y q => if y = 0 then none else kn ls (.inr (.inl (x - x / y * y)) :: q) h)
  | .lcmp => binL st (fun x y q => kn ls (.inl (lg_cmp x y) :: q) h)
  | .lshl => match st with
    | .inl y :: .inr (.inl x) :: q => kn ls (.inr (.inl (x <<< (y.toInt64 &&& 63))) :: q) h
    | _ => none
  | .i2l => un st (fun x q => kn ls (.inr (.inl x.toInt64) :: q) h)
  | .i2c => un st (fun x q => kn ls (.inl (x.toUInt32 % 65536).toInt32 :: q) h)
  | .l2i => match st with
    | .inr (.inl x) :: q => kn ls (.inl x.toInt32 :: q) h
    | _ => none
  | .goto off => kj (tgt pc off) ls st h
  | .ifCond c off => un st (fun x q => ifc c x 0 (kj (tgt pc off) ls q h) (kn ls q h))
  | .if_icmp c off => bin st (fun x y q => ifc c x y (kj (tgt pc off) ls q h) (kn ls q h))
  | .ifnonnull off => unR st (fun r q => match r with
    | none => kn ls q h
    | some b => if b < 1000000 then kj (tgt pc off) ls q h else none)
  | .tableswitch d lo _ os => un st (fun x q => swk x lo os.toList d (fun o => kj (tgt pc o) ls q h))
  | .invokestatic _ => match e.1 with
    | 4 => match popN e.2.2.1 st [] with
      | some (as, q) => if xcats q ≤ 8 then xcall e.2.2.2 (cl e.2.1 as h) q (fun q2 h2 => kn ls q2 h2) else none
      | none => none
    | 30 => match st with
      | .inl n :: .inl dp :: .inr (.inr (some a)) :: .inl sp :: .inr (.inr (some b)) :: q => if xcats q ≤ 8 then xcopy h b sp a dp n (fun h2 => kn ls q h2) else none
      | _ => none
    | 31 => bin st (fun x y q => if xcats q ≤ 8 then kn ls (.inl (if x < y then y else x) :: q) h else none)
    | 32 => bin st (fun x y q => if xcats q ≤ 8 then kn ls (.inl (if y < x then y else x) :: q) h else none)
    | 33 => un st (fun x q => if xcats q ≤ 8 then kn ls (.inl (if 0 ≤ x then x else 0 - x) :: q) h else none)
    | _ => none
  | .invokevirtual _ => match e.1 with
    | 2 => match popN (e.2.2.1 / 1000) st [] with
      | some (as, .inr (.inr r) :: q) => if xcats q ≤ 8 then objR h.1 r (e.2.2.1 % 1000) (fun a => xcall e.2.2.2 (cl e.2.1 (.inr (.inr (some a)) :: as) h) q (fun q2 h2 => kn ls q2 h2)) else none
      | _ => none
    | 13 => match popN (e.2.2.1 / 1000) st [] with
      | some (as, .inr (.inr (some a)) :: q) => if xcats q ≤ 8 ∧ (a = 1000003 ∨ a = 1000005) then xcall e.2.2.2 (cl e.2.1 (.inr (.inr (some a)) :: as) h) q (fun q2 h2 => kn ls q2 h2) else none
      | _ => none
    | 34 => match st with
      | .inr (.inr (some a)) :: q => if xcats q ≤ 8 then xclone h a (fun a2 h2 => kn ls (.inr (.inr (some a2)) :: q) h2) else none
      | _ => none
    | _ => none
  | .checkcast _ => match e.1 with
    | 35 => match st with
      | .inr (.inr (some a)) :: q => (match h.1[a]? with
        | some c => if c.1 = 50 then kn ls (.inr (.inr (some a)) :: q) h else none
        | none => none)
      | _ => none
    | _ => none
  | .invokespecial _ => match e.1 with
    | 3 => match popN (e.2.2.1 / 1000) st [] with
      | some (as, .inr (.inr r) :: q) => if xcats q ≤ 8 then objR h.1 r (e.2.2.1 % 1000) (fun a => xcall 0 (cl e.2.1 (.inr (.inr (some a)) :: as) h) q (fun q2 h2 => kn ls q2 h2)) else none
      | _ => none
    | 5 => match st with
      | .inr (.inr (some a)) :: q => if xcats q ≤ 8 ∧ a < 1000000 then kn ls q h else none
      | _ => none
    | _ => none
  | .ireturn => match st with
    | [.inl x] => (match rk with
      | 1 => kr (some (.inl x), h)
      | 4 => if is01 x = true then kr (some (.inl x), h) else none
      | 5 => if (x.toUInt32 % 65536).toInt32 = x then kr (some (.inl x), h) else none
      | 6 => if x.toInt8.toInt32 = x then kr (some (.inl x), h) else none
      | _ => none)
    | _ => none
  | .lreturn => match st with
    | [.inr (.inl x)] => if rk = 2 then kr (some (.inr (.inl x)), h) else none
    | _ => none
  | .areturn => match st with
    | [.inr (.inr x)] => if rk = 3 then kr (some (.inr (.inr x)), h) else none
    | _ => none
  | .return_ => match st with
    | [] => if rk = 0 then kr (none, h) else none
    | _ => none
  | _ => none
def XO : Type := (XL × XS × XH) ⊕ ((Nat × XL × XS × XH) ⊕ XR)
def step1 (X : XE) (cl : XCl) (ini : Bool) (rk : Nat) (i : Instr) (e : XP) (pc : Nat) (ls : XL) (st : XS) (h : XH) : Option XO := stepK X cl ini rk i e pc ls st h (fun l s h => some (Sum.inl (l, s, h) : XO)) (fun p l s h => some (Sum.inr (Sum.inl (p, l, s, h)) : XO)) (fun r => some (Sum.inr (Sum.inr r) : XO))
def goO {ρ : Type} (o : Option XO) (kn : XL → XS → XH → Option ρ) (kj : Nat → XL → XS → XH → Option ρ) (kr : XR → Option ρ) : Option ρ := match o with
  | some (Sum.inl (l, s, h)) => kn l s h
  | some (Sum.inr (Sum.inl (p, l, s, h))) => kj p l s h
  | some (Sum.inr (Sum.inr r)) => kr r
  | none => none
/-- the code from a place on -/
def lkp (C : List XI) (pc : Nat) : List XI := match C with
  | [] => []
  | q :: r => if pc = 0 then q :: r else if pc < q.2.1 then [] else lkp r (pc - q.2.1)
def runF (X : XE) (cl : XCl) (ini : Bool) (rk : Nat) (C : List XI) : Nat → Nat → XL → XS → XH → Option XR
  | 0, _, _, _, _ => none
  | n + 1, pc, ls, st, h => match lkp C pc with
    | [] => none
    | q :: _ => stepK X cl ini rk q.1 q.2.2 pc ls st h (fun l s h => runF X cl ini rk C n (pc + q.2.1) l s h) (fun p l s h => runF X cl ini rk C n p l s h) some
noncomputable def lim (f : Nat → Option XR) : Option XR := @dite (Option XR) (∃ n, (f n).isSome = true) (Classical.propDecidable _) (fun h => f (Classical.choose h)) (fun _ => none)
noncomputable def run (X : XE) (cl : XCl) (ini : Bool) (rk : Nat) (C : List XI) (pc : Nat) (ls : XL) (st : XS) (h : XH) : Option XR := lim (fun n => runF X cl ini rk C n pc ls st h)
/-- a method: its code, whether it is a constructor, what it answers, how many locals it has -/
abbrev XM : Type := List XI × Bool × Nat × Nat
def lay (as : XS) : XL := match as with
  | [] => []
  | v :: r => if xcat v = 2 then some v :: none :: lay r else some v :: lay r
def ent (n : Nat) (as : XS) : XL := lay as ++ List.replicate (n - (lay as).length) none
noncomputable def call (X : XE) (T : Nat → Option XM) : Nat → XCl
  | 0 => fun _ _ _ => none
  | d + 1 => fun k as h => match T k with
    | none => none
    | some m => if (lay as).length ≤ m.2.2.2 then run X (call X T d) m.2.1 m.2.2.1 m.1 0 (ent m.2.2.2 as) [] h else none
/-- many steps at once, up to a place of 'cut' (or of an end) -/
def blk (X : XE) (cl : XCl) (ini : Bool) (rk : Nat) (C : List XI) (cut : List Nat) (kk : Nat → XL → XS → XH → Option XR) : Nat → Nat → List XI → XL → XS → XH → Option XR
  | 0, pc, _, ls, st, h => kk pc ls st h
  | n + 1, pc, q, ls, st, h => match q with
    | [] => none
    | q :: r => stepK X cl ini rk q.1 q.2.2 pc ls st h (fun l s h => if cut.contains (pc + q.2.1) = true then kk (pc + q.2.1) l s h else blk X cl ini rk C cut kk n (pc + q.2.1) r l s h)
      (fun p l s h => if cut.contains p = true then kk p l s h else blk X cl ini rk C cut kk n p (lkp C p) l s h) some
