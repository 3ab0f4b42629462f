/-! has -/
/-- the numbers of the island and of its nights, in both -/
def HasEq (m : Mem) (P b : Nat) : Prop := (∀ j, j < 42 → m (P + 11) j = 0 ∨ m (P + 11) j = 1) ∧ sumTo (m (P + 11)) 42 = m 272 b ∧ m P 6 = m 273 b ∧ m P 9 = m 275 b ∧ m P 17 = m 284 b ∧ m P 18 = m 285 b ∧ m P 19 = m 286 b ∧ m 69 3 = m 296 0 ∧ m 77 2 = m 264 55
theorem house_of {m : Mem} {P b : Nat} (h : Refs m) (B : Bank m P b) : getR 5 4 P m = some (P + 11) ∧ (shK (P + 11) == 1 && shN (P + 11) == 42) = true ∧ alen (P + 11) = some ((42 : Nat) : Int) := by
  rcases B.1 with ⟨e, _⟩ | ⟨e, _⟩
  · subst e
    exact ⟨rc h 22 (by decide +kernel), by decide +kernel, arN 42 (by decide +kernel)⟩
  · subst e
    exact ⟨rc h 51 (by decide +kernel), by decide +kernel, arN 42 (by decide +kernel)⟩
theorem houses_x {N : Nat} (hN : 43 ≤ N) {m : Mem} {P b : Nat} (h : Refs m) (B : Bank m P b) (K : HasEq m P b) : X5_houses N P m = some (m 272 b) := by
  obtain ⟨a1, a2, a3⟩ := house_of h B
  unfold X5_houses
  rw [if_pos (plan_k B).1, a1, Option.bind_some, a3, Option.bind_some, ← K.2.1]
  exact houses_loop (n := 42) a2 (by decide) K.1 N 0 (by decide) (by omega)
theorem has_ok {N : Nat} (hN : 50 ≤ N) {m : Mem} {P b : Nat} (h : Refs m) (B : Bank m P b) (S : SizeEq m P b) (W : WallEq m P) (K : HasEq m P b) (E : SeedEq m) (C : X11_cloths N 264 m = some (m P 12)) (a : Int) : ∃ v, X10_has N 3 a m = some v ∧ X11_has N 264 a m = some v := by
  have hh := houses_x (N := N) (by omega) h B K
  have hw := walls_x (N := N) (by omega) h W
  have hm := walls_m (N := N) h B S W N 0 (by have := size_mul S; omega) (by have := size_mul S; omega)
  have hc := walls_both S W
  obtain ⟨k1, k2, k3, k4, k5, k6, k7, k8, k9⟩ := K
  unfold X10_has X11_has
  rw [isK (k := 20) (by decide +kernel), isK (k := 21) (by decide +kernel)]
  refine if q0 : a = 0 then ⟨m P 0, ?_, ?_⟩ else ?_
  · rw [if_pos q0, plan_of B, Option.bind_some, plan_get B (by decide), Option.bind_some]
  · rw [if_pos q0, rc h (k := 14) 266 (by decide +kernel), Option.bind_some, bank_of B, Option.bind_some, row_b B (by decide +kernel), Option.bind_some, S.1]
  rw [if_neg q0, if_neg q0]
  refine if q1 : a = 1 then ⟨m P 1, ?_, ?_⟩ else ?_
  · rw [if_pos q1, plan_of B, Option.bind_some, plan_get B (by decide), Option.bind_some]
  · rw [if_pos q1, rc h (k := 15) 267 (by decide +kernel), Option.bind_some, bank_of B, Option.bind_some, row_b B (by decide +kernel), Option.bind_some, S.2.1]
  rw [if_neg q1, if_neg q1]
  refine if q2 : a = 2 then ⟨sumTo (m 70) 42, ?_, ?_⟩ else ?_
  · rw [if_pos q2, rc h 69 (by decide +kernel), Option.bind_some, hw, Option.bind_some]
  · rw [if_pos q2, hc]
    exact hm
  rw [if_neg q2, if_neg q2]
  refine if q3 : a = 3 then ⟨m 272 b, ?_, ?_⟩ else ?_
  · rw [if_pos q3, plan_of B, Option.bind_some, hh, Option.bind_some]
  · rw [if_pos q3, rc h (k := 20) 272 (by decide +kernel), Option.bind_some, bank_of B, Option.bind_some, row_b B (by decide +kernel), Option.bind_some]
  rw [if_neg q3, if_neg q3]
  refine if q4 : a = 4 then ⟨m P 6, ?_, ?_⟩ else ?_
  · rw [if_pos q4, plan_of B, Option.bind_some, plan_get B (by decide), Option.bind_some]
  · rw [if_pos q4, rc h (k := 21) 273 (by decide +kernel), Option.bind_some, bank_of B, Option.bind_some, row_b B (by decide +kernel), Option.bind_some, k3]
  rw [if_neg q4, if_neg q4]
  refine if q5 : a = 5 then ⟨m P 9, ?_, ?_⟩ else ?_
  · rw [if_pos q5, plan_of B, Option.bind_some, plan_get B (by decide), Option.bind_some]
  · rw [if_pos q5, rc h (k := 23) 275 (by decide +kernel), Option.bind_some, bank_of B, Option.bind_some, row_b B (by decide +kernel), Option.bind_some, k4]
  rw [if_neg q5, if_neg q5]
  refine if q6 : a = 6 then ⟨m P 12, ?_, ?_⟩ else ?_
  · rw [if_pos q6, plan_of B, Option.bind_some, plan_get B (by decide), Option.bind_some]
  · rw [if_pos q6, C, Option.bind_some]
  rw [if_neg q6, if_neg q6]
  refine if q7 : a = 7 then ⟨m P 17, ?_, ?_⟩ else ?_
  · rw [if_pos q7, plan_of B, Option.bind_some, plan_get B (by decide), Option.bind_some]
  · rw [if_pos q7, rc h (k := 32) 284 (by decide +kernel), Option.bind_some, bank_of B, Option.bind_some, row_b B (by decide +kernel), Option.bind_some, k5]
  rw [if_neg q7, if_neg q7]
  refine if q8 : a = 8 then ⟨m P 18, ?_, ?_⟩ else ?_
  · rw [if_pos q8, plan_of B, Option.bind_some, plan_get B (by decide), Option.bind_some]
  · rw [if_pos q8, rc h (k := 33) 285 (by decide +kernel), Option.bind_some, bank_of B, Option.bind_some, row_b B (by decide +kernel), Option.bind_some, k6]
  rw [if_neg q8, if_neg q8]
  refine if q9 : a = 9 then ⟨m P 19, ?_, ?_⟩ else ?_
  · rw [if_pos q9, plan_of B, Option.bind_some, plan_get B (by decide), Option.bind_some]
  · rw [if_pos q9, rc h (k := 34) 286 (by decide +kernel), Option.bind_some, bank_of B, Option.bind_some, row_b B (by decide +kernel), Option.bind_some, k7]
  rw [if_neg q9, if_neg q9]
  refine if q10 : a = 10 then ⟨m 69 3, ?_, ?_⟩ else ?_
  · rw [if_pos q10, rc h 69 (by decide +kernel), Option.bind_some, gtI (by decide +kernel), Option.bind_some]
  · rw [if_pos q10, rc h (k := 50) 296 (by decide +kernel), Option.bind_some, arI 22 (by decide +kernel) (by decide) (by decide), Option.bind_some, k8]
    rfl
  rw [if_neg q10, if_neg q10]
  refine if q11 : a = 11 then ⟨m 77 2, ?_, ?_⟩ else ?_
  · rw [if_pos q11, rc h 77 (by decide +kernel), Option.bind_some, gtI (by decide +kernel), Option.bind_some]
  · rw [if_pos q11, gtI (by decide +kernel), Option.bind_some, k9]
  rw [if_neg q11, if_neg q11]
  refine if q12 : a = 12 then ⟨m 3 8, ?_, ?_⟩ else ⟨-1, ?_, ?_⟩
  · rw [if_pos q12, gtI (by decide +kernel), Option.bind_some]
  · rw [if_pos q12, gtI (by decide +kernel), Option.bind_some, wI_of E.2, E.1]
  · rw [if_neg q12]
  · rw [if_neg q12]
