/-! the pure world: memory by numbers of objects, values as whole numbers -/
abbrev Mem : Type := Nat → Nat → Int
abbrev V : Type := Int ⊕ (Int ⊕ Nat)
abbrev vI (x : Int) : V := Sum.inl x
abbrev vL (x : Int) : V := Sum.inr (Sum.inl x)
abbrev vR (x : Nat) : V := Sum.inr (Sum.inr x)
def up (m : Mem) (a k : Nat) (v : Int) : Mem := fun b j => if b = a ∧ j = k then v else m b j
def inI (x : Int) : Prop := -2147483648 ≤ x ∧ x < 2147483648
def inL (x : Int) : Prop := -9223372036854775808 ≤ x ∧ x < 9223372036854775808
def wI (x : Int) : Int := (x + 2147483648) % 4294967296 - 2147483648
def wL (x : Int) : Int := (x + 9223372036854775808) % 18446744073709551616 - 9223372036854775808
theorem inI_wI (x : Int) : inI (wI x) := by unfold inI wI; omega
theorem inL_wL (x : Int) : inL (wL x) := by unfold inL wL; omega
theorem wI_of {x : Int} (h : inI x) : wI x = x := by unfold inI at h; unfold wI; omega
theorem wL_of {x : Int} (h : inL x) : wL x = x := by unfold inL at h; unfold wL; omega
theorem bmod_wI (x : Int) : x.bmod 4294967296 = wI x := by unfold wI Int.bmod; simp only []; split <;> omega
theorem bmod_wL (x : Int) : x.bmod 18446744073709551616 = wL x := by unfold wL Int.bmod; simp only []; split <;> omega
theorem toI (x : Int) : (Int32.ofInt x).toInt = wI x := by rw [Int32.toInt_ofInt]; exact bmod_wI x
theorem toL (x : Int) : (Int64.ofInt x).toInt = wL x := by rw [Int64.toInt_ofInt]; exact bmod_wL x
theorem toI_of {x : Int} (h : inI x) : (Int32.ofInt x).toInt = x := by rw [toI, wI_of h]
theorem toL_of {x : Int} (h : inL x) : (Int64.ofInt x).toInt = x := by rw [toL, wL_of h]
theorem inI_toInt (x : Int32) : inI x.toInt := by
  have h1 := x.minValue_le_toInt
  have h2 := x.toInt_lt
  have e : Int32.minValue.toInt = -2147483648 := by decide
  exact ⟨by omega, by omega⟩
theorem inL_toInt (x : Int64) : inL x.toInt := by
  have h1 := x.minValue_le_toInt
  have h2 := x.toInt_lt
  have e : Int64.minValue.toInt = -9223372036854775808 := by decide
  exact ⟨by omega, by omega⟩
theorem eqI {a : Int32} {x : Int} (h : a.toInt = wI x) : a = Int32.ofInt x := Int32.toInt_inj.mp (h.trans (toI x).symm)
theorem eqL {a : Int64} {x : Int} (h : a.toInt = wL x) : a = Int64.ofInt x := Int64.toInt_inj.mp (h.trans (toL x).symm)
theorem ofI_w (x : Int) : Int32.ofInt (wI x) = Int32.ofInt x := eqI (by rw [toI, wI_of (inI_wI x)])
theorem ofL_w (x : Int) : Int64.ofInt (wL x) = Int64.ofInt x := eqL (by rw [toL, wL_of (inL_wL x)])
theorem ofI_add (x y : Int) : Int32.ofInt x + Int32.ofInt y = Int32.ofInt (wI (x + y)) := eqI (by
  rw [Int32.toInt_add, toI, toI, show ((2 : Nat) ^ 32) = 4294967296 from rfl, bmod_wI]; unfold wI; omega)
theorem ofI_sub (x y : Int) : Int32.ofInt x - Int32.ofInt y = Int32.ofInt (wI (x - y)) := eqI (by
  rw [Int32.toInt_sub, toI, toI, show ((2 : Nat) ^ 32) = 4294967296 from rfl, bmod_wI]; unfold wI; omega)
theorem ofI_neg (x : Int) : -Int32.ofInt x = Int32.ofInt (wI (-x)) := eqI (by
  rw [Int32.toInt_neg, toI, show ((2 : Nat) ^ 32) = 4294967296 from rfl, bmod_wI]; unfold wI; omega)
theorem ofL_add (x y : Int) : Int64.ofInt x + Int64.ofInt y = Int64.ofInt (wL (x + y)) := eqL (by
  rw [Int64.toInt_add, toL, toL, show ((2 : Nat) ^ 64) = 18446744073709551616 from rfl, bmod_wL]; unfold wL; omega)
theorem ofL_sub (x y : Int) : Int64.ofInt x - Int64.ofInt y = Int64.ofInt (wL (x - y)) := eqL (by
  rw [Int64.toInt_sub, toL, toL, show ((2 : Nat) ^ 64) = 18446744073709551616 from rfl, bmod_wL]; unfold wL; omega)
theorem ofI_mul {x y : Int} (hx : inI x) (hy : inI y) : Int32.ofInt x * Int32.ofInt y = Int32.ofInt (wI (x * y)) := eqI (by
  rw [Int32.toInt_mul, toI_of hx, toI_of hy, show ((2 : Nat) ^ 32) = 4294967296 from rfl, bmod_wI, wI_of (inI_wI _)])
theorem ofL_mul {x y : Int} (hx : inL x) (hy : inL y) : Int64.ofInt x * Int64.ofInt y = Int64.ofInt (wL (x * y)) := eqL (by
  rw [Int64.toInt_mul, toL_of hx, toL_of hy, show ((2 : Nat) ^ 64) = 18446744073709551616 from rfl, bmod_wL, wL_of (inL_wL _)])
theorem ofI_div {x y : Int} (hx : inI x) (hy : inI y) : Int32.ofInt x / Int32.ofInt y = Int32.ofInt (wI (x.tdiv y)) := eqI (by
  rw [Int32.toInt_div, toI_of hx, toI_of hy, show ((2 : Nat) ^ 32) = 4294967296 from rfl, bmod_wI, wI_of (inI_wI _)])
theorem ofL_div {x y : Int} (hx : inL x) (hy : inL y) : Int64.ofInt x / Int64.ofInt y = Int64.ofInt (wL (x.tdiv y)) := eqL (by
  rw [Int64.toInt_div, toL_of hx, toL_of hy, show ((2 : Nat) ^ 64) = 18446744073709551616 from rfl, bmod_wL, wL_of (inL_wL _)])
theorem ltI {x y : Int} (hx : inI x) (hy : inI y) : Int32.ofInt x < Int32.ofInt y ↔ x < y := by rw [Int32.lt_iff_toInt_lt, toI_of hx, toI_of hy]
theorem leI {x y : Int} (hx : inI x) (hy : inI y) : Int32.ofInt x ≤ Int32.ofInt y ↔ x ≤ y := by rw [Int32.le_iff_toInt_le, toI_of hx, toI_of hy]
theorem eqIi {x y : Int} (hx : inI x) (hy : inI y) : Int32.ofInt x = Int32.ofInt y ↔ x = y := by rw [← Int32.toInt_inj, toI_of hx, toI_of hy]
theorem ltL {x y : Int} (hx : inL x) (hy : inL y) : Int64.ofInt x < Int64.ofInt y ↔ x < y := by rw [Int64.lt_iff_toInt_lt, toL_of hx, toL_of hy]
theorem eqLi {x y : Int} (hx : inL x) (hy : inL y) : Int64.ofInt x = Int64.ofInt y ↔ x = y := by rw [← Int64.toInt_inj, toL_of hx, toL_of hy]
theorem ltI0 {x : Int} (hx : inI x) : Int32.ofInt x < 0 ↔ x < 0 := ltI hx (y := 0) (by unfold inI; omega)
theorem natI {x : Int} (hx : inI x) : (Int32.ofInt x).toNatClampNeg = x.toNat := by
  show (Int32.ofInt x).toInt.toNat = x.toNat
  rw [toI_of hx]
/-- shifts and bits, by the machine's own -/
def sI (y : Int) : Nat := (y % 32).toNat
def sL (y : Int) : Nat := (y % 64).toNat
def ishl (x y : Int) : Int := wI (x * 2 ^ sI y)
def ishr (x y : Int) : Int := x / 2 ^ sI y
def lshl (x y : Int) : Int := wL (x * 2 ^ sL y)
def lshr (x y : Int) : Int := x / 2 ^ sL y
def iand (x y : Int) : Int := (Int32.ofInt x &&& Int32.ofInt y).toInt
def ior (x y : Int) : Int := (Int32.ofInt x ||| Int32.ofInt y).toInt
def land (x y : Int) : Int := (Int64.ofInt x &&& Int64.ofInt y).toInt
def lor (x y : Int) : Int := (Int64.ofInt x ||| Int64.ofInt y).toInt
def lcm (x y : Int) : Int := if x < y then -1 else if x = y then 0 else 1
def iushr (x y : Int) : Int := wI ((x % 4294967296) / 2 ^ sI y)
