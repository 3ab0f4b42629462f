/-! the things of the island: which are cloths -/
def clothAt (m : Mem) (b j : Nat) : Int := if m 276 (10 * b + j) = 0 then 1 else 0
def ClothEq (m : Mem) (P b : Nat) : Prop := m P 9 = m 275 b ∧ 0 ≤ m P 9 ∧ m P 9 ≤ 10 ∧ m P 12 = sumTo (clothAt m b) (m P 9).toNat
theorem clothAt_in (m : Mem) (b j : Nat) : clothAt m b j = 0 ∨ clothAt m b j = 1 := by
  unfold clothAt
  by_cases q : m 276 (10 * b + j) = 0
  · rw [if_pos q]; exact Or.inr rfl
  · rw [if_neg q]; exact Or.inl rfl
theorem sort_m {m : Mem} {P b : Nat} (h : Refs m) (B : Bank m P b) {j : Nat} (hj : j < 10) : X11_sortOf 264 (j : Int) m = some (m 276 (10 * b + j)) := by
  have hb := bank_le B
  have e : wI (wI (10 * (b : Int)) + j) = ((10 * b + j : Nat) : Int) := by
    rw [wI_of (x := 10 * (b : Int)) (by unfold inI; omega), wI_of (by unfold inI; omega)]; omega
  have e2 : aldI 276 ((10 * b + j : Nat) : Int) m = some (m 276 ((10 * b + j : Nat) : Int).toNat) := arI 20 (by decide +kernel) (by omega) (by omega) m
  unfold X11_sortOf
  rw [isK (k := 21) (by decide +kernel), rc h (k := 24) 276 (by decide +kernel), Option.bind_some, bank_of B, Option.bind_some, e, e2, Option.bind_some, Int.toNat_natCast]
theorem cloths_loop {N : Nat} {m : Mem} {P b : Nat} (h : Refs m) (B : Bank m P b) (K : ClothEq m P b) : ∀ (F j : Nat), (j : Int) ≤ m P 9 → m P 9 + 1 ≤ (F : Int) + j → X11_cloths_L4 N m F 264 (sumTo (clothAt m b) j) j = some (m P 12) := by
  obtain ⟨k1, k2, k3, k4⟩ := K
  intro F
  induction F with
  | zero => intro j h1 h2; exfalso; omega
  | succ F ih =>
    intro j h1 h2
    show X11_cloths_L4_b N m (X11_cloths_L4 N m F) 264 (sumTo (clothAt m b) j) j = some _
    unfold X11_cloths_L4_b
    rw [rc h (k := 23) 275 (by decide +kernel), Option.bind_some, bank_of B, Option.bind_some, row_b B (by decide +kernel), Option.bind_some, ← k1]
    by_cases e : m P 9 = j
    · rw [if_pos (by omega), k4, e, Int.toNat_natCast]
    · have q := sumTo_in (f := clothAt m b) (n := j + 1) (fun i _ => clothAt_in m b i)
      have e2 : wI ((j : Int) + 1) = ((j + 1 : Nat) : Int) := by
        rw [wI_of (by unfold inI; omega)]; omega
      have e1 : ∀ x, clothAt m b j = x → wI (sumTo (clothAt m b) j + x) = sumTo (clothAt m b) (j + 1) := by
        intro x hx
        subst hx
        show wI (sumTo (clothAt m b) (j + 1)) = _
        rw [wI_of (by unfold inI; omega)]
      rw [if_neg (by omega), sort_m h B (by omega), Option.bind_some]
      by_cases r : m 276 (10 * b + j) = 0
      · rw [if_neg (fun c => c r)]
        unfold X11_cloths_J31
        rw [e1 1 (by unfold clothAt; rw [if_pos r]), e2]
        exact ih (j + 1) (by omega) (by omega)
      · rw [if_pos r]
        unfold X11_cloths_J31
        rw [e1 0 (by unfold clothAt; rw [if_neg r]), e2]
        exact ih (j + 1) (by omega) (by omega)
theorem cloths_m {N : Nat} (hN : 20 ≤ N) {m : Mem} {P b : Nat} (h : Refs m) (B : Bank m P b) (K : ClothEq m P b) : X11_cloths N 264 m = some (m P 12) := by
  unfold X11_cloths
  rw [isK (k := 21) (by decide +kernel)]
  exact cloths_loop h B K N 0 (by have := K.2.1; omega) (by have := K.2.2.1; omega)
theorem sumTo_le {f : Nat → Int} (h : ∀ j, f j = 0 ∨ f j = 1) {i : Nat} : ∀ k, sumTo f i ≤ sumTo f (i + k) := by
  intro k
  induction k with
  | zero => exact Int.le_refl _
  | succ k ih =>
    have := h (i + k)
    show sumTo f i ≤ sumTo f (i + k) + f (i + k)
    omega
/-- c is the thing that is cloth n -/
theorem cloth_loop {N : Nat} {m : Mem} {P b : Nat} (h : Refs m) (B : Bank m P b) (K : ClothEq m P b) {c : Nat} (hc : (c : Int) < m P 9) (h0 : m 276 (10 * b + c) = 0) : ∀ (F j : Nat), j ≤ c → c + 1 ≤ F + j → X11_cloth_L4 N m F 264 (sumTo (clothAt m b) c - sumTo (clothAt m b) j) j = some (c : Int) := by
  obtain ⟨k1, k2, k3, k4⟩ := K
  intro F
  induction F with
  | zero => intro j h1 h2; exfalso; omega
  | succ F ih =>
    intro j h1 h2
    show X11_cloth_L4_b N m (X11_cloth_L4 N m F) 264 (sumTo (clothAt m b) c - sumTo (clothAt m b) j) j = some _
    unfold X11_cloth_L4_b
    rw [rc h (k := 23) 275 (by decide +kernel), Option.bind_some, bank_of B, Option.bind_some, row_b B (by decide +kernel), Option.bind_some, ← k1, if_neg (by omega), sort_m h B (by omega), Option.bind_some]
    have e2 : wI ((j : Int) + 1) = ((j + 1 : Nat) : Int) := by
      rw [wI_of (by unfold inI; omega)]; omega
    by_cases e : j = c
    · subst e
      rw [if_pos h0, if_neg (by omega)]
    · have s1 : sumTo (clothAt m b) (j + 1) = sumTo (clothAt m b) j + clothAt m b j := rfl
      have s2 := sumTo_le (clothAt_in m b) (i := j + 1) (c - (j + 1))
      have s3 : j + 1 + (c - (j + 1)) = c := by omega
      rw [s3] at s2
      have s4 := sumTo_in (f := clothAt m b) (n := c) (fun i _ => clothAt_in m b i)
      have s5 := sumTo_in (f := clothAt m b) (n := j) (fun i _ => clothAt_in m b i)
      by_cases r : m 276 (10 * b + j) = 0
      · have s6 : clothAt m b j = 1 := by unfold clothAt; rw [if_pos r]
        rw [if_pos r, if_pos (by omega)]
        unfold X11_cloth_J37
        rw [e2, show wI (sumTo (clothAt m b) c - sumTo (clothAt m b) j + -1) = sumTo (clothAt m b) c - sumTo (clothAt m b) (j + 1) from by rw [wI_of (by unfold inI; omega)]; omega]
        exact ih (j + 1) (by omega) (by omega)
      · have s6 : clothAt m b j = 0 := by unfold clothAt; rw [if_neg r]
        rw [if_neg r]
        unfold X11_cloth_J37
        rw [e2, show sumTo (clothAt m b) c - sumTo (clothAt m b) j = sumTo (clothAt m b) c - sumTo (clothAt m b) (j + 1) from by omega]
        exact ih (j + 1) (by omega) (by omega)
