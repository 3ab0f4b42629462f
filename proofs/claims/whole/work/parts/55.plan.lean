/-! the plan's own small answers -/
theorem plan_k {m : Mem} {P b : Nat} (B : Bank m P b) : shK P = 15 ∧ shN P = 21 := by
  rcases B.1 with ⟨e, _⟩ | ⟨e, _⟩
  · subst e
    exact ⟨by decide +kernel, by decide +kernel⟩
  · subst e
    exact ⟨by decide +kernel, by decide +kernel⟩
theorem plan_get {m : Mem} {P b : Nat} (B : Bank m P b) {k : Nat} (hk : k < 21) (m2 : Mem) : getI 5 k P m2 = some (m2 P k) := if_pos ⟨(plan_k B).1, by rw [(plan_k B).2]; exact hk⟩
theorem cistern_1 {m : Mem} {P b : Nat} (B : Bank m P b) {a : Int} (h0 : 0 ≤ a) (h1 : a < m P 6) : X5_isCistern P a m = some 1 := by
  unfold X5_isCistern
  rw [if_pos (plan_k B).1, if_neg (by omega), plan_get B (by decide), Option.bind_some, if_neg (by omega)]
  rfl
theorem cistern_0 {m : Mem} {P b : Nat} (B : Bank m P b) {a : Int} (h : a < 0 ∨ m P 6 ≤ a) : X5_isCistern P a m = some 0 := by
  unfold X5_isCistern
  rw [if_pos (plan_k B).1]
  by_cases q : a < 0
  · rw [if_pos q]
    rfl
  · rw [if_neg q, plan_get B (by decide), Option.bind_some, if_pos (by omega)]
    rfl
theorem cloth_1 {m : Mem} {P b : Nat} (B : Bank m P b) {a : Int} (h0 : 0 ≤ a) (h1 : a < m P 12) : X5_isCloth P a m = some 1 := by
  unfold X5_isCloth
  rw [if_pos (plan_k B).1, if_neg (by omega), plan_get B (by decide), Option.bind_some, if_neg (by omega)]
  rfl
theorem cloth_0 {m : Mem} {P b : Nat} (B : Bank m P b) {a : Int} (h : a < 0 ∨ m P 12 ≤ a) : X5_isCloth P a m = some 0 := by
  unfold X5_isCloth
  rw [if_pos (plan_k B).1]
  by_cases q : a < 0
  · rw [if_pos q]
    rfl
  · rw [if_neg q, plan_get B (by decide), Option.bind_some, if_pos (by omega)]
    rfl
