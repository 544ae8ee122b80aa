/-! THE SMALL MACHINE: a method's run over a pure heap, as a predicate transformer ('wp'). One theorem (part 05) says that what it says, the machine does; all else about the classes is said over it. -/
-- values: int, long, reference or null
abbrev V : Type := Int ⊕ (Int ⊕ Option Nat)
abbrev vI (x : Int) : V := Sum.inl x
abbrev vL (x : Int) : V := Sum.inr (Sum.inl x)
abbrev vO (r : Option Nat) : V := Sum.inr (Sum.inr r)
abbrev vR (a : Nat) : V := Sum.inr (Sum.inr (some a))
abbrev vN : V := Sum.inr (Sum.inr none)
-- cells: an object (class, fields); a row of numbers (type, length, contents); a row of references (type, length, contents)
abbrev MC : Type := (Nat × List V) ⊕ ((Nat × Nat × (Nat → Int)) ⊕ (Nat × Nat × (Nat → Option Nat)))
abbrev cObj (t : Nat) (fs : List V) : MC := Sum.inl (t, fs)
abbrev cArr (ty n : Nat) (f : Nat → Int) : MC := Sum.inr (Sum.inl (ty, n, f))
abbrev cRef (ty n : Nat) (f : Nat → Option Nat) : MC := Sum.inr (Sum.inr (ty, n, f))
-- heap: how many cells were made, how many slots, the cells
abbrev MH : Type := Nat × Nat × (Nat → Option MC)
abbrev Loc' : Type := List (Option V)
def up1 {α : Type} (f : Nat → α) (k : Nat) (v : α) : Nat → α := fun j => if j = k then v else f j
def hset (h : MH) (a : Nat) (c : MC) : MH := (h.1, h.2.1, up1 h.2.2 a (some c))
def hnew (h : MH) (a : Nat) (n : Nat) (c : MC) : MH := (h.1 + 1, h.2.1 + n, up1 h.2.2 a (some c))
-- arithmetic on whole numbers that are ints
def wr (x : Int) : Int := (x + 2147483648) % 4294967296 - 2147483648
def wrL (x : Int) : Int := (x + 9223372036854775808) % 18446744073709551616 - 9223372036854775808
def iBin (k : Nat) (a b : Int) : Int :=
  match k with
  | 0 => (Int32.ofInt a + Int32.ofInt b).toInt
  | 1 => (Int32.ofInt a - Int32.ofInt b).toInt
  | 2 => (Int32.ofInt a * Int32.ofInt b).toInt
  | 3 => (Int32.ofInt a &&& Int32.ofInt b).toInt
  | 4 => (Int32.ofInt a ||| Int32.ofInt b).toInt
  | 5 => (Int32.ofInt a ^^^ Int32.ofInt b).toInt
  | 6 => (Int32.ofInt a <<< (Int32.ofInt b &&& 31)).toInt
  | 7 => (Int32.ofInt a >>> (Int32.ofInt b &&& 31)).toInt
  | _ => ((Int32.ofInt a).toUInt32 >>> ((Int32.ofInt b).toUInt32 &&& Int32.toUInt32 31)).toInt32.toInt
def iDiv (a b : Int) : Int := (Int32.ofInt a / Int32.ofInt b).toInt
def iRem (a b : Int) : Int := (Int32.ofInt a - Int32.ofInt a / Int32.ofInt b * Int32.ofInt b).toInt
def iNeg (a : Int) : Int := (-(Int32.ofInt a)).toInt
def lAdd (a b : Int) : Int := (Int64.ofInt a + Int64.ofInt b).toInt
def lNeg (a : Int) : Int := (-(Int64.ofInt a)).toInt
def lDiv (a b : Int) : Int := (Int64.ofInt a / Int64.ofInt b).toInt
def lRem (a b : Int) : Int := (Int64.ofInt a - Int64.ofInt a / Int64.ofInt b * Int64.ofInt b).toInt
def cmpI (k : ClassFile.Cond) (a b : Int) : Prop :=
  match k with
  | .eq => a = b
  | .ne => ¬ a = b
  | .lt => a < b
  | .ge => b ≤ a
  | .gt => b < a
  | .le => a ≤ b
def noLg (L : Loc') (n : Nat) : Bool := match L[n]? with
  | some (some (Sum.inr (Sum.inl _))) => false
  | _ => true
/-- no long in the slot ahead of n -/
def noLgB (L : Loc') (n : Nat) : Bool := match n with
  | 0 => true
  | k + 1 => noLg L k
/-- what the machine is made over: the first new cell's address, the addresses of the constants -/
abbrev MG : Type := Nat × ((Nat → Nat) × Option Nat × (Nat → Option Nat))
/-- a state of a method: pc, locals, stack, heap -/
abbrev KP : Type := Nat → Loc' → List V → MH → Prop
abbrev KQ : Type := Option V → MH → Prop
abbrev KC : Type := Nat → List V → MH → KQ → Prop
/-! the tables' words -/
def auntT (t : Nat) : Bool := t == 2 || t == 3 || t == 4 || t == 5 || t == 6 || t == 8 || t == 9
def okSet (w t : Nat) : Bool := match w with
  | 50 => auntT t
  | 51 => t == 4 || t == 6
  | 52 => t == 5 || t == 3
  | 53 => t == 8 || t == 9
  | _ => t == w
/-- the fields of a new object -/
def defs (t : Nat) : List V := match t with
  | 0 => [vI 0, vN, vI 0]
  | 1 => [vI 0, vI 0, vI 0, vI 0]
  | 2 => [vI 0, vI 0, vI 0]
  | 3 => [vI 0, vI 0, vI 0]
  | 4 => [vI 0, vI 0, vI 0]
  | 5 => [vI 0, vI 0, vI 0]
  | 6 => [vI 0, vI 0, vI 0]
  | 7 => [vN, vN, vI 0]
  | 8 => [vI 0, vI 0, vI 0]
  | 9 => [vI 0, vI 0, vI 0, vN]
  | 10 => [vN, vI 0, vN, vI 0, vN, vN, vI 0, vN, vI 0]
  | 11 => [vN, vN, vN, vN, vN, vI 0, vN, vN, vN, vI 0, vI 0, vN, vN]
  | 12 => [vN, vN, vN, vN, vI 0]
  | 13 => [vI 0, vN, vN, vN, vI 0, vI 0, vI 0, vI 0, vI 0, vI 0, vN, vN, vI 0, vI 0, vI 0, vN, vN, vI 0, vI 0, vN, vI 0, vI 0, vI 0, vI 0]
  | _ => []
/-- which method a class has for a reference -/
def vselT : List (List (Nat × Nat)) := [
  [(11, 45)],
  [(0, 228)],
  [(10, 72)],
  [(0, 229)],
  [(11, 46)],
  [(0, 233)],
  [(2, 99), (3, 127), (4, 107), (5, 112), (6, 122), (8, 117), (9, 132)],
  [(11, 47)],
  [(2, 100), (3, 100), (4, 100), (5, 100), (6, 100), (8, 100), (9, 100)],
  [(11, 48)],
  [(10, 82)],
  [(11, 49)],
  [(9, 134)],
  [(11, 51)],
  [(11, 52)],
  [(12, 16)],
  [(11, 53)],
  [(11, 54)],
  [(1, 97)],
  [(11, 57)],
  [(11, 58)],
  [(11, 59)],
  [(11, 60)],
  [(11, 66)],
  [(11, 68)],
  [(11, 62)],
  [(11, 69)],
  [(7, 88)],
  [(7, 89)],
  [(7, 90)],
  [(2, 102), (3, 129), (4, 109), (5, 114), (6, 124), (8, 119), (9, 135)],
  [(11, 70)],
  [(7, 87)],
  [(7, 91)],
  [(7, 92)],
  [(2, 103), (3, 130), (4, 110), (5, 103), (6, 110), (8, 103), (9, 103)],
  [(2, 104), (3, 115), (4, 104), (5, 115), (6, 104), (8, 104), (9, 136)],
  [(2, 105), (3, 105), (4, 105), (5, 105), (6, 125), (8, 120), (9, 120)],
  [(7, 93)],
  [(0, 235)],
  [(2, 101), (3, 128), (4, 108), (5, 113), (6, 123), (8, 118), (9, 133)],
  [(0, 236)],
  [(1, 95)],
  [(7, 86)],
  [(11, 55)],
  [(11, 56)],
  [(1, 96)],
  [(11, 61)],
  [(10, 73)],
  [(10, 74)],
  [(10, 75)],
  [(10, 76)],
  [(10, 77)],
  [(10, 78)],
  [(10, 80)],
  [(10, 79)],
  [(10, 81)],
  [(10, 83)],
  [(10, 84)],
  [(11, 50)],
  [(6, 110)],
  [(13, 141)],
  [(13, 142)],
  [(13, 143)],
  [(13, 147)],
  [(13, 144)],
  [(13, 146)],
  [(13, 145)],
  [(13, 148)],
  [(13, 151)],
  [(13, 149)],
  [(13, 150)],
  [(13, 152)],
  [(13, 156)],
  [(13, 158)],
  [(13, 159)],
  [(13, 162)],
  [(13, 161)],
  [(13, 163)],
  [(13, 165)],
  [(13, 170)],
  [(13, 172)],
  [(13, 173)],
  [(13, 174)],
  [(13, 175)],
  [(13, 179)],
  [(13, 176)],
  [(13, 177)],
  [(13, 178)],
  [(13, 182)],
  [(13, 183)],
  [(13, 184)],
  [(13, 186)],
  [(13, 189)],
  [(13, 190)],
  [(13, 192)],
  [(13, 193)],
  [(13, 195)],
  [(13, 197)],
  [(13, 200)],
  [(13, 201)],
  [(13, 209)],
  [(13, 213)],
  [(13, 217)],
  [(13, 219)],
  [(13, 215)],
  [(13, 216)],
  [(13, 218)],
  [(13, 220)],
  [(12, 1)],
  [(13, 138)],
  [(12, 2)],
  [(13, 140)],
  [(12, 4)],
  [(13, 153)],
  [(12, 7)],
  [(13, 155)],
  [(12, 8)],
  [(13, 157)],
  [(12, 9)],
  [(13, 164)],
  [(12, 10)],
  [(13, 166)],
  [(12, 11)],
  [(13, 167)],
  [(12, 12)],
  [(13, 168)],
  [(12, 14)],
  [(13, 169)],
  [(12, 15)],
  [(13, 171)],
  [(12, 17)],
  [(13, 180)],
  [(12, 18)],
  [(13, 181)],
  [(12, 19)],
  [(13, 185)],
  [(12, 21)],
  [(13, 187)],
  [(12, 22)],
  [(13, 188)],
  [(12, 23)],
  [(13, 191)],
  [(12, 24)],
  [(13, 194)],
  [(12, 25)],
  [(13, 196)],
  [(12, 26)],
  [(13, 198)],
  [(12, 27)],
  [(13, 199)],
  [(12, 28)],
  [(13, 202)],
  [(12, 29)],
  [(13, 203)],
  [(12, 30)],
  [(13, 204)],
  [(12, 32)],
  [(13, 206)],
  [(12, 33)],
  [(13, 207)],
  [(12, 34)],
  [(13, 208)],
  [(12, 35)],
  [(13, 210)],
  [(12, 36)],
  [(13, 211)],
  [(12, 37)],
  [(13, 212)],
  [(12, 38)],
  [(13, 221)],
  [(12, 39)],
  [(13, 222)],
  [(12, 41)],
  [(13, 223)],
  [(12, 42)],
  [(13, 224)],
  [(12, 43)],
  [(13, 225)],
  [(0, 230)],
  [(0, 231)],
  [(0, 232)],
  [(0, 234)]]
def assoc : List (Nat × Nat) → Nat → Option Nat
  | [], _ => none
  | (a, b) :: l, t => if t = a then some b else assoc l t
def vsel (x t : Nat) : Option Nat := assoc ((vselT[x]?).getD []) t
def xSel (y : Option Nat) (K : Nat → Prop) : Prop := match y with
  | some y => K y
  | none => False
/-! what an instruction does: the reading ones -/
def fsOf (c : Option MC) : Option (Nat × List V) := match c with
  | some (Sum.inl x) => some x
  | _ => none
def xGet (k w : Nat) (c : Option MC) (K : V → Prop) : Prop := match c with
  | some (Sum.inl (t, fs)) => okSet w t = true ∧ (match fs[k]? with
    | some v => K v
    | none => False)
  | _ => False
def xPut (k w : Nat) (v : V) (c : Option MC) (K : MC → Prop) : Prop := match c with
  | some (Sum.inl (t, fs)) => okSet w t = true ∧ t < 14 ∧ k < fs.length ∧ K (cObj t (fs.set k v))
  | _ => False
def xAld (ok : Nat → Bool) (i : Int) (c : Option MC) (K : Int → Prop) : Prop := match c with
  | some (Sum.inr (Sum.inl (ty, n, f))) => ok ty = true ∧ 0 ≤ i ∧ i < n ∧ K (f i.toNat)
  | _ => False
def xAst (ty0 : Nat) (i x : Int) (c : Option MC) (K : MC → Prop) : Prop := match c with
  | some (Sum.inr (Sum.inl (ty, n, f))) => ty = ty0 ∧ 0 ≤ i ∧ i < n ∧ K (cArr ty n (up1 f i.toNat x))
  | _ => False
def xRld (i : Int) (c : Option MC) (K : V → Prop) : Prop := match c with
  | some (Sum.inr (Sum.inr (ty, n, f))) => ty = 0 ∧ 0 ≤ i ∧ i < n ∧ K (vO (f i.toNat))
  | _ => False
def xRst (i : Int) (r : Option Nat) (c : Option MC) (K : MC → Prop) : Prop := match c with
  | some (Sum.inr (Sum.inr (ty, n, f))) => ty = 0 ∧ 0 ≤ i ∧ i < n ∧ K (cRef ty n (up1 f i.toNat r))
  | _ => False
def xLen (c : Option MC) (K : Int → Prop) : Prop := match c with
  | some (Sum.inr (Sum.inl (_, n, _))) => K n
  | some (Sum.inr (Sum.inr (_, n, _))) => K n
  | _ => False
/-- the class of an object -/
def xTag (c : Option MC) (K : Nat → Prop) : Prop := match c with
  | some (Sum.inl (t, _)) => K t
  | _ => False
/-- a cell's copy: an int row's part -/
def cpy (f g : Nat → Int) (sp dp n : Nat) : Nat → Int := fun j => if dp ≤ j ∧ j < dp + n then f (sp + (j - dp)) else g j
def xCpy (a b : Option MC) (sp dp n : Int) (K : MC → Prop) : Prop := match a, b with
  | some (Sum.inr (Sum.inl (ty, m, f))), some (Sum.inr (Sum.inl (ty', m', g))) => ty = 0 ∧ ty' = 0 ∧ 0 ≤ sp ∧ 0 ≤ dp ∧ 0 ≤ n ∧ sp + n ≤ m ∧ dp + n ≤ m' ∧ K (cArr 0 m' (cpy f g sp.toNat dp.toNat n.toNat))
  | _, _ => False
def xCln (c : Option MC) (K : Nat → MC → Prop) : Prop := match c with
  | some (Sum.inr (Sum.inl (ty, n, f))) => ty = 0 ∧ K n (cArr 0 n f)
  | _ => False
/-- the cells and slots that there are for the whole run -/
def maxC : Nat := 683770
def maxS : Nat := 7050939
def nOp (l : List Nat) (k : Nat) : Nat := l.getD k 0
/-- a field of a text that is a constant: its bytes, its coder -/
def xRoS (k : Nat) (r : Option Nat) (K : V → Prop) : Prop := match k, r with
  | 0, some v => K (vR v)
  | 1, some _ => K (vI 0)
  | _, _ => False
def vFit (ty : Nat) (v : V) : Prop := match ty, v with
  | 0, Sum.inl _ => True
  | 1, Sum.inl x => x = 0 ∨ x = 1
  | 2, Sum.inr (Sum.inr _) => True
  | _, _ => False
def rFit (ty : Nat) (x : Int) : Prop := match ty with
  | 0 => True
  | 1 => x = 0 ∨ x = 1
  | 2 => 0 ≤ x ∧ x < 65536
  | _ => -128 ≤ x ∧ x < 128
def xIsO (r : Option Nat) (h : MH) : Prop := match r with
  | none => True
  | some q => xTag (h.2.2 q) (fun t => t < 14)
def xRow (c : Option MC) (K : Prop) : Prop := match c with
  | some (Sum.inr (Sum.inl (ty, _, _))) => ty = 0 ∧ K
  | _ => False
def i2cF (a : Int) : Int := ((Int32.ofInt a).toUInt32 % 65536).toInt32.toInt
def i2bF (a : Int) : Int := (Int32.ofInt a).toInt8.toInt32.toInt
def lCmp (a b : Int) : Int := if a < b then -1 else if a = b then 0 else 1
/-! the step -/
