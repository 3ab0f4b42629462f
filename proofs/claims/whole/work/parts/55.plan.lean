/-! the plan's own small answers -/
theorem plan_k {m : Mem} {P b : Nat} (B : Bank m P b) : shK P = 15 ∧ shN P = 20 := by
  rcases B.1 with ⟨e, _⟩ | ⟨e, _⟩
  · subst e
    exact ⟨by decide +kernel, by decide +kernel⟩
  · subst e
    exact ⟨by decide +kernel, by decide +kernel⟩
theorem plan_get {m : Mem} {P b : Nat} (B : Bank m P b) {k : Nat} (hk : k < 20) (m2 : Mem) : getI 5 k P m2 = some (m2 P k) := if_pos ⟨(plan_k B).1, by rw [(plan_k B).2]; exact hk⟩
theorem cistern_1 {m : Mem} {P b : Nat} (B : Bank m P b) {a : Int} (h0 : 0 ≤ a) (h1 : a < m P 6) : X5_isCistern P a m = some 1 := by
  unfold X5_isCistern
  rw [if_pos (plan_k B).1, if_neg (by omega), plan_get B (by decide), Option.bind_some, if_neg (by omega)]
  rfl
theorem cistern_0 {m : Mem} {P b : Nat} (B : Bank m P b) {a : Int} (h : a < 0 ∨ m P 6 ≤ a) : X5_isCistern P a m = some 0 := by
  unfold X5_isCistern
  rw [if_pos (plan_k B).1]
  by_cases q : a < 0
  · rw [if_pos q]
    rfl
  · rw [if_neg q, plan_get B (by decide), Option.bind_some, if_pos (by omega)]
    rfl
theorem cloth_1 {m : Mem} {P b : Nat} (B : Bank m P b) {a : Int} (h0 : 0 ≤ a) (h1 : a < m P 12) : X5_isCloth P a m = some 1 := by
  unfold X5_isCloth
  rw [if_pos (plan_k B).1, if_neg (by omega), plan_get B (by decide), Option.bind_some, if_neg (by omega)]
  rfl
theorem cloth_0 {m : Mem} {P b : Nat} (B : Bank m P b) {a : Int} (h : a < 0 ∨ m P 12 ≤ a) : X5_isCloth P a m = some 0 := by
  unfold X5_isCloth
  rw [if_pos (plan_k B).1]
  by_cases q : a < 0
  · rw [if_pos q]
    rfl
  · rw [if_neg q, plan_get B (by decide), Option.bind_some, if_pos (by omega)]
    rfl
/-- the size, in both -/
def SizeEq (m : Mem) (P b : Nat) : Prop := m P 0 = m 266 b ∧ m P 1 = m 267 b ∧ 0 ≤ m P 0 ∧ m P 0 ≤ 7 ∧ 0 ≤ m P 1 ∧ m P 1 ≤ 6 ∧ (m P 0 = 0 ∧ m P 1 = 0 ∨ 2 ≤ m P 0 ∧ 2 ≤ m P 1)
theorem size_mul {m : Mem} {P b : Nat} (S : SizeEq m P b) : 0 ≤ m P 0 * m P 1 ∧ m P 0 * m P 1 ≤ 42 := by
  obtain ⟨_, _, s1, s2, s3, s4, _⟩ := S
  refine ⟨Int.mul_nonneg s1 s3, ?_⟩
  exact Int.le_trans (Int.mul_le_mul_of_nonneg_right s2 s3) (by omega)
theorem cells_x {m : Mem} {P b : Nat} (B : Bank m P b) (S : SizeEq m P b) : X5_cells P m = some (m P 0 * m P 1) := by
  have q := size_mul S
  unfold X5_cells
  rw [if_pos (plan_k B).1, plan_get B (by decide), Option.bind_some, plan_get B (by decide), Option.bind_some, wI_of (by unfold inI; omega)]
theorem isCell_1 {m : Mem} {P b : Nat} (B : Bank m P b) (S : SizeEq m P b) {a : Int} (h0 : 0 ≤ a) (h1 : a < m P 0 * m P 1) : X5_isCell P a m = some 1 := by
  have q := size_mul S
  unfold X5_isCell
  rw [if_pos (plan_k B).1, if_neg (by omega), plan_get B (by decide), Option.bind_some, plan_get B (by decide), Option.bind_some, wI_of (by unfold inI; omega), if_neg (by omega)]
  rfl
theorem isCell_0 {m : Mem} {P b : Nat} (B : Bank m P b) (S : SizeEq m P b) {a : Int} (h : a < 0 ∨ m P 0 * m P 1 ≤ a) : X5_isCell P a m = some 0 := by
  have q := size_mul S
  unfold X5_isCell
  rw [if_pos (plan_k B).1]
  by_cases r : a < 0
  · rw [if_pos r]
    rfl
  · rw [if_neg r, plan_get B (by decide), Option.bind_some, plan_get B (by decide), Option.bind_some, wI_of (by unfold inI; omega), if_pos (by omega)]
    rfl
theorem bank_le {m : Mem} {P b : Nat} (B : Bank m P b) : b ≤ 1 := by rcases B.1 with e | e <;> omega
/-- a row of two of the reference, at the bank -/
theorem row_b {m : Mem} {P b : Nat} (B : Bank m P b) {a : Nat} (c : (shK a == 1 && shN a == 2) = true) (m2 : Mem) : aldI a (b : Int) m2 = some (m2 a b) := by
  rw [arI 2 c (by omega) (by have := bank_le B; omega), Int.toNat_natCast]
theorem size0 : SizeEq (mo LM) 11 0 := by
  unfold SizeEq
  decide +kernel
theorem cells_m {m : Mem} {P b : Nat} (h : Refs m) (B : Bank m P b) (S : SizeEq m P b) : X11_cells 264 m = some (m P 0 * m P 1) := by
  have q := size_mul S
  unfold X11_cells
  rw [isK (k := 21) (by decide +kernel), rc h (k := 14) 266 (by decide +kernel), Option.bind_some, bank_of B, Option.bind_some, row_b B (by decide +kernel), Option.bind_some, rc h (k := 15) 267 (by decide +kernel), Option.bind_some, Option.bind_some, row_b B (by decide +kernel), Option.bind_some, ← S.1, ← S.2.1, wI_of (by unfold inI; omega)]
theorem isCell_m1 {m : Mem} {P b : Nat} (h : Refs m) (B : Bank m P b) (S : SizeEq m P b) {a : Int} (h0 : 0 ≤ a) (h1 : a < m P 0 * m P 1) : X11_isCell 264 a m = some 1 := by
  unfold X11_isCell
  rw [isK (k := 21) (by decide +kernel), if_neg (by omega), cells_m h B S, Option.bind_some, if_neg (by omega)]
  rfl
theorem isCell_m0 {m : Mem} {P b : Nat} (h : Refs m) (B : Bank m P b) (S : SizeEq m P b) {a : Int} (q : a < 0 ∨ m P 0 * m P 1 ≤ a) : X11_isCell 264 a m = some 0 := by
  unfold X11_isCell
  rw [isK (k := 21) (by decide +kernel)]
  by_cases r : a < 0
  · rw [if_pos r]
    rfl
  · rw [if_neg r, cells_m h B S, Option.bind_some, if_pos (by omega)]
    rfl
theorem land_x {m : Mem} {P b : Nat} (B : Bank m P b) (S : SizeEq m P b) : X10_hasIsland 3 m = some (if m P 0 = 0 then 0 else 1) := by
  have q := size_mul S
  unfold X10_hasIsland
  rw [isK (k := 20) (by decide +kernel), plan_of B, Option.bind_some, cells_x B S, Option.bind_some]
  obtain ⟨_, _, s1, s2, s3, s4, s5⟩ := S
  rcases s5 with ⟨e, f⟩ | ⟨e, f⟩
  · rw [e, if_pos (by omega), if_pos rfl]
    rfl
  · have : 0 < m P 0 * m P 1 := Int.mul_pos (by omega) (by omega)
    rw [if_neg (by omega), if_neg (by omega)]
    rfl
theorem land_m {m : Mem} {P b : Nat} (h : Refs m) (B : Bank m P b) (S : SizeEq m P b) : X11_isIsland 264 m = some (if m P 0 = 0 then 0 else 1) := by
  unfold X11_isIsland
  rw [isK (k := 21) (by decide +kernel), rc h (k := 14) 266 (by decide +kernel), Option.bind_some, bank_of B, Option.bind_some, row_b B (by decide +kernel), Option.bind_some, ← S.1]
  obtain ⟨_, _, s1, s2, s3, s4, s5⟩ := S
  by_cases e : m P 0 = 0
  · rw [if_pos (by omega), if_pos e]
    rfl
  · rw [if_neg (by omega), if_neg e]
    rfl
