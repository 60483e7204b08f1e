/-! THE ABSTRACT MACHINE: the part of the JVM that the claim's methods use, over a store whose addresses are numbers counted from 64 on (below: things that were there before), ints and longs as integers; 'run' goes n steps deep. Its soundness is proved once (parts 2x); all else is said of it. -/
/-- a value: an int, a long, a reference or null -/
abbrev AV : Type := Int ⊕ Int ⊕ Option Nat
abbrev AI (i : Int) : AV := .inl i
abbrev AL (i : Int) : AV := .inr (.inl i)
abbrev AR (a : Nat) : AV := .inr (.inr (some a))
abbrev AN : AV := .inr (.inr none)
/-- a cell: an object (class number, fields), an array of numbers (type, length, contents), an array of references -/
abbrev AC : Type := (Nat × List AV) ⊕ (Nat × Nat × (Nat → Int)) ⊕ (Nat × Nat × (Nat → Option Nat))
abbrev AO (ci : Nat) (fs : List AV) : AC := .inl (ci, fs)
abbrev AA (ty n : Nat) (f : Nat → Int) : AC := .inr (.inl (ty, n, f))
abbrev AQ (ty n : Nat) (f : Nat → Option Nat) : AC := .inr (.inr (ty, n, f))
/-- no cell -/
abbrev DEAD : AC := .inl (1000, [])
/-- a store: cells, the next free address, slots made so far -/
abbrev ST : Type := (Nat → AC) × Nat × Nat
abbrev LO : Type := List (Option AV)
/-- how a method ends: it returned, or threw the thing at an address -/
abbrev RS : Type := Option AV ⊕ Nat
abbrev FR : Type := Nat × LO × List AV
/-- what an instruction leads to: a frame and a store; a call (callee, arguments, the frame behind it); an end -/
abbrev SO : Type := (FR × ST) ⊕ ((Nat × List AV × FR) ⊕ (RS × ST))
def sU (σ : ST) (a : Nat) (c : AC) : ST := (fun b => if b = a then c else σ.1 b, σ.2.1, σ.2.2)
def sN (σ : ST) (c : AC) (k : Nat) : ST := (fun b => if b = σ.2.1 then c else σ.1 b, σ.2.1 + 1, σ.2.2 + k)
def aU {α : Type} (f : Nat → α) (k : Nat) (x : α) : Nat → α := fun j => if j = k then x else f j
/-- 32 and 64 bits -/
def wr (x : Int) : Int := (x + 2147483648) % 4294967296 - 2147483648
def wl (x : Int) : Int := (x + 9223372036854775808) % 18446744073709551616 - 9223372036854775808
abbrev i3 (x : Int) : Int32 := Int32.ofInt x
abbrev i6 (x : Int) : Int64 := Int64.ofInt x
def zand (x y : Int) : Int := (i3 x &&& i3 y).toInt
def zor (x y : Int) : Int := (i3 x ||| i3 y).toInt
def zxor (x y : Int) : Int := (i3 x ^^^ i3 y).toInt
def zshl (x y : Int) : Int := (i3 x <<< (i3 y &&& 31)).toInt
def zshr (x y : Int) : Int := (i3 x >>> (i3 y &&& 31)).toInt
def zush (x y : Int) : Int := ((i3 x).toUInt32 >>> ((i3 y).toUInt32 &&& Int32.toUInt32 31)).toInt32.toInt
def zdiv (x y : Int) : Int := (i3 x / i3 y).toInt
def zrem (x y : Int) : Int := (i3 x - i3 x / i3 y * i3 y).toInt
def zbyt (x : Int) : Int := (i3 x).toInt8.toInt32.toInt
def land (x y : Int) : Int := (i6 x &&& i6 y).toInt
def lor (x y : Int) : Int := (i6 x ||| i6 y).toInt
def lshl (x y : Int) : Int := (i6 x <<< ((i3 y).toInt64 &&& 63)).toInt
def lshr (x y : Int) : Int := (i6 x >>> ((i3 y).toInt64 &&& 63)).toInt
def lush (x y : Int) : Int := ((i6 x).toUInt64 >>> ((i3 y).toInt64.toUInt64 &&& Int64.toUInt64 63)).toInt64.toInt
def lcm (x y : Int) : Int := if x < y then -1 else if x = y then 0 else 1
/-- a local is written: a long that its cell was the second half of is gone -/
def clrL (L : LO) (k : Nat) : LO := match k with
  | 0 => L
  | j + 1 => match L[j]? with
    | some (some (.inr (.inl _))) => L.set j none
    | _ => L
def setL (L : LO) (k : Nat) (v : AV) : LO := (clrL L k).set k (some v)
def setL2 (L : LO) (k : Nat) (v : AV) : LO := ((clrL L k).set k (some v)).set (k + 1) none
def isLg (v : AV) : Bool := match v with
  | .inr (.inl _) => true
  | _ => false
/-- a method's first locals -/
def iA : List AV → LO
  | [] => []
  | v :: r => if isLg v then some v :: none :: iA r else some v :: iA r
def iL (mx : Nat) (as : List AV) : LO := iA as ++ List.replicate (mx - (iA as).length) none
def p2 (f : Int → Int → Int) (st : List AV) : Option (List AV) := match st with
  | .inl y :: .inl x :: r => some (.inl (f x y) :: r)
  | _ => none
def q2 (f : Int → Int → Int) (st : List AV) : Option (List AV) := match st with
  | .inr (.inl y) :: .inr (.inl x) :: r => some (.inr (.inl (f x y)) :: r)
  | _ => none
/-- a long, shifted by an int -/
def q1 (f : Int → Int → Int) (st : List AV) : Option (List AV) := match st with
  | .inl y :: .inr (.inl x) :: r => some (.inr (.inl (f x y)) :: r)
  | _ => none
def tgt (pc : Nat) (off : Int) : Option Nat := if 0 ≤ (pc : Int) + off then some ((pc : Int) + off).toNat else none
def cmpI (c : ClassFile.Cond) (x y : Int) : Bool := match c with
  | .eq => decide (x = y)
  | .ne => decide (x ≠ y)
  | .lt => decide (x < y)
  | .ge => decide (y ≤ x)
  | .gt => decide (y < x)
  | .le => decide (x ≤ y)
