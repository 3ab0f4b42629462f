/-! sums along a row -/
def sumTo (f : Nat → Int) : Nat → Int
  | 0 => 0
  | n + 1 => sumTo f n + f n
theorem sumTo_in {f : Nat → Int} {n : Nat} (h : ∀ j, j < n → f j = 0 ∨ f j = 1) : 0 ≤ sumTo f n ∧ sumTo f n ≤ n := by
  induction n with
  | zero => exact ⟨Int.le_refl _, Int.le_refl _⟩
  | succ n ih =>
    have q := ih (fun j hj => h j (by omega))
    have r := h n (by omega)
    show 0 ≤ sumTo f n + f n ∧ sumTo f n + f n ≤ ((n + 1 : Nat) : Int)
    omega
theorem sumTo_same {f g : Nat → Int} {n : Nat} (h : ∀ j, j < n → f j = g j) : sumTo f n = sumTo g n := by
  induction n with
  | zero => rfl
  | succ n ih =>
    show sumTo f n + f n = sumTo g n + g n
    rw [ih (fun j hj => h j (by omega)), h n (by omega)]
theorem sumTo_more {f : Nat → Int} {n : Nat} : ∀ k, (∀ j, n ≤ j → j < n + k → f j = 0) → sumTo f (n + k) = sumTo f n := by
  intro k
  induction k with
  | zero => intro _; rfl
  | succ k ih =>
    intro h
    show sumTo f (n + k) + f (n + k) = sumTo f n
    rw [ih (fun j h1 h2 => h j h1 (by omega)), h (n + k) (by omega) (by omega)]
    omega
theorem houses_loop {N : Nat} {m : Mem} {a n : Nat} (c : (shK a == 1 && shN a == n) = true) (hn : n ≤ 100) (hz : ∀ j, j < n → m a j = 0 ∨ m a j = 1) : ∀ (F j : Nat), j ≤ n → n + 1 ≤ F + j → X5_houses_L13 N m F (sumTo (m a) j) a n j = some (sumTo (m a) n) := by
  intro F
  induction F with
  | zero => intro j h1 h2; exfalso; omega
  | succ F ih =>
    intro j h1 h2
    show X5_houses_L13_b N m (X5_houses_L13 N m F) (sumTo (m a) j) a n j = some (sumTo (m a) n)
    unfold X5_houses_L13_b
    by_cases e : j = n
    · subst e
      rw [if_pos (Int.le_refl _)]
    · have q := sumTo_in (f := m a) (n := j + 1) (fun i hi => hz i (by omega))
      have e1 : wI (sumTo (m a) j + m a j) = sumTo (m a) (j + 1) := by
        show wI (sumTo (m a) (j + 1)) = _
        rw [wI_of (by unfold inI; omega)]
      have e2 : wI ((j : Int) + 1) = ((j + 1 : Nat) : Int) := by
        rw [wI_of (by unfold inI; omega)]; omega
      rw [if_neg (by omega), arI n c (by omega) (by omega), Option.bind_some, Int.toNat_natCast, e1, e2]
      exact ih (j + 1) (by omega) (by omega)
theorem walls_loop {N : Nat} {m : Mem} {a n : Nat} (c : (shK a == 1 && shN a == n) = true) (hn : n ≤ 100) (hz : ∀ j, j < n → m a j = 0 ∨ m a j = 1) : ∀ (F j : Nat), j ≤ n → n + 1 ≤ F + j → X1_walls_L13 N m F (sumTo (m a) j) a n j = some (sumTo (m a) n) := by
  intro F
  induction F with
  | zero => intro j h1 h2; exfalso; omega
  | succ F ih =>
    intro j h1 h2
    show X1_walls_L13_b N m (X1_walls_L13 N m F) (sumTo (m a) j) a n j = some (sumTo (m a) n)
    unfold X1_walls_L13_b
    by_cases e : j = n
    · subst e
      rw [if_pos (Int.le_refl _)]
    · have q := sumTo_in (f := m a) (n := j + 1) (fun i hi => hz i (by omega))
      have e1 : wI (sumTo (m a) j + m a j) = sumTo (m a) (j + 1) := by
        show wI (sumTo (m a) (j + 1)) = _
        rw [wI_of (by unfold inI; omega)]
      have e2 : wI ((j : Int) + 1) = ((j + 1 : Nat) : Int) := by
        rw [wI_of (by unfold inI; omega)]; omega
      rw [if_neg (by omega), arI n c (by omega) (by omega), Option.bind_some, Int.toNat_natCast, e1, e2]
      exact ih (j + 1) (by omega) (by omega)
/-- the walls that stand now, in both -/
def WallEq (m : Mem) (P : Nat) : Prop := (∀ j, j < 42 → m 70 j = 0 ∨ m 70 j = 1) ∧ (∀ j : Nat, (j : Int) < m P 0 * m P 1 → m 70 j = m 297 j) ∧ (∀ j : Nat, m P 0 * m P 1 ≤ j → j < 42 → m 70 j = 0)
theorem walls_x {N : Nat} (hN : 43 ≤ N) {m : Mem} (h : Refs m) {P : Nat} (K : WallEq m P) : X1_walls N 69 m = some (sumTo (m 70) 42) := by
  unfold X1_walls
  rw [isK (k := 11) (by decide +kernel), rc h 70 (by decide +kernel), Option.bind_some, arN 42 (by decide +kernel), Option.bind_some]
  exact walls_loop (n := 42) (by decide +kernel) (by decide) K.1 N 0 (by decide) (by omega)
theorem walls_m {N : Nat} {m : Mem} {P b : Nat} (h : Refs m) (B : Bank m P b) (S : SizeEq m P b) (K : WallEq m P) : ∀ (F j : Nat), (j : Int) ≤ m P 0 * m P 1 → m P 0 * m P 1 + 1 ≤ (F : Int) + j → X11_has_L90 N m F 264 (sumTo (m 70) j) j = some (sumTo (m 70) (m P 0 * m P 1).toNat) := by
  have qs := size_mul S
  intro F
  induction F with
  | zero => intro j h1 h2; exfalso; omega
  | succ F ih =>
    intro j h1 h2
    show X11_has_L90_b N m (X11_has_L90 N m F) 264 (sumTo (m 70) j) j = some _
    unfold X11_has_L90_b
    rw [cells_m h B S, Option.bind_some]
    by_cases e : m P 0 * m P 1 = j
    · rw [if_pos (by omega), e, Int.toNat_natCast]
    · have q := sumTo_in (f := m 70) (n := j + 1) (fun i hi => K.1 i (by omega))
      have e1 : wI (sumTo (m 70) j + m 297 j) = sumTo (m 70) (j + 1) := by
        rw [← K.2.1 j (by omega)]
        show wI (sumTo (m 70) (j + 1)) = _
        rw [wI_of (by unfold inI; omega)]
      have e2 : wI ((j : Int) + 1) = ((j + 1 : Nat) : Int) := by
        rw [wI_of (by unfold inI; omega)]; omega
      rw [if_neg (by omega), rc h 297 (by decide +kernel), Option.bind_some, arI 924 (by decide +kernel) (by omega) (by omega), Option.bind_some, Int.toNat_natCast, e1, e2]
      exact ih (j + 1) (by omega) (by omega)
theorem walls_both {m : Mem} {P b : Nat} (S : SizeEq m P b) (K : WallEq m P) : sumTo (m 70) 42 = sumTo (m 70) (m P 0 * m P 1).toNat := by
  have qs := size_mul S
  have e : (42 : Nat) = (m P 0 * m P 1).toNat + (42 - (m P 0 * m P 1).toNat) := by omega
  rw [e]
  exact sumTo_more _ (fun j h1 h2 => K.2.2 j (by omega) (by omega))
