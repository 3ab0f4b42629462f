/-! cold hour by hour is cold in pools -/
theorem sumTo_add (f g : Nat → Int) (n : Nat) : sumTo (fun j => f j + g j) n = sumTo f n + sumTo g n := by
  induction n with
  | zero => rfl
  | succ n ih =>
    show sumTo (fun j => f j + g j) n + (f n + g n) = sumTo f n + f n + (sumTo g n + g n)
    rw [ih]; omega
theorem sumTo_zero {f : Nat → Int} {n : Nat} (h : ∀ j, j < n → f j = 0) : sumTo f n = 0 := by
  induction n with
  | zero => rfl
  | succ n ih =>
    show sumTo f n + f n = 0
    rw [ih (fun j hj => h j (by omega)), h n (by omega)]; rfl
/-- two rows that differ at one place alone -/
theorem sumTo_one {f g : Nat → Int} {n i : Nat} (hi : i < n) (h : ∀ j, j < n → ¬j = i → g j = f j) : sumTo g n = sumTo f n - f i + g i := by
  induction n with
  | zero => exact absurd hi (by omega)
  | succ n ih =>
    show sumTo g n + g n = sumTo f n + f n - f i + g i
    by_cases e : i = n
    · subst e
      rw [sumTo_same (fun j hj => h j (by omega) (by omega))]; omega
    · rw [ih (by omega) (fun j hj => h j (by omega)), h n (by omega) (by omega)]; omega
theorem sumTo_ge {f : Nat → Int} {n : Nat} (h : ∀ j, j < n → 0 ≤ f j) : 0 ≤ sumTo f n := by
  induction n with
  | zero => exact Int.le_refl _
  | succ n ih =>
    have := h n (by omega)
    have := ih (fun j hj => h j (by omega))
    show 0 ≤ sumTo f n + f n
    omega
theorem sumTo_at {f : Nat → Int} {n i : Nat} (hi : i < n) (h : ∀ j, j < n → 0 ≤ f j) : f i ≤ sumTo f n := by
  induction n with
  | zero => exact absurd hi (by omega)
  | succ n ih =>
    have a := h n (by omega)
    show f i ≤ sumTo f n + f n
    by_cases e : i = n
    · subst e
      have := sumTo_ge (f := f) (n := i) (fun j hj => h j (by omega))
      omega
    · have := ih (by omega) (fun j hj => h j (by omega))
      omega
/-- heights are 0 .. 9 -/
def Ht (I : Isl) : Prop := ∀ c : Int, 0 ≤ c → c < nC I → 0 ≤ I 3 c ∧ I 3 c ≤ 9
theorem low_lt (I : Isl) (l : Lnd) (c : Int) (h : ¬low I l c = -1) : I 3 (low I l c) < I 3 c := by
  have := lowTo_in I l c 4
  unfold low at *
  omega
theorem pol_fix {I : Isl} (ht : Ht I) (l : Lnd) {c : Int} (c0 : 0 ≤ c) (c1 : c < nC I) : low I l (pol I l c 9) = -1 := by
  have g : ∀ k : Nat, k ≤ 9 → low I l (pol I l c k) = -1 ∨ I 3 (pol I l c k) ≤ 9 - k := by
    intro k
    induction k with
    | zero => intro _; exact Or.inr (by have := (ht c c0 c1).2; show I 3 c ≤ 9 - 0; omega)
    | succ k ih =>
      intro hk
      have e : pol I l c (k + 1) = if low I l (pol I l c k) = -1 then pol I l c k else low I l (pol I l c k) := rfl
      by_cases q : low I l (pol I l c k) = -1
      · rw [if_pos q] at e
        rw [e]; exact Or.inl q
      · rw [if_neg q] at e
        have a := low_lt I l (pol I l c k) q
        have b := ih (by omega)
        rw [e]
        exact Or.inr (by omega)
  rcases g 9 (by omega) with q | q
  · exact q
  · by_cases y : low I l (pol I l c 9) = -1
    · exact y
    · have a := low_lt I l (pol I l c 9) y
      have b := low_in I l (pol I l c 9)
      have := (ht (low I l (pol I l c 9)) (by omega) (by omega)).1
      omega
theorem pol_low {I : Isl} (ht : Ht I) (l : Lnd) {c : Int} (c0 : 0 ≤ c) (c1 : c < nC I) (h : ¬low I l c = -1) : pol I l (low I l c) 9 = pol I l c 9 := by
  have g : ∀ k : Nat, pol I l (low I l c) k = pol I l c (k + 1) := by
    intro k
    induction k with
    | zero =>
      show low I l c = if low I l (pol I l c 0) = -1 then pol I l c 0 else low I l (pol I l c 0)
      rw [show pol I l c 0 = c from rfl, if_neg h]
    | succ k ih =>
      show (if low I l (pol I l (low I l c) k) = -1 then pol I l (low I l c) k else low I l (pol I l (low I l c) k)) = if low I l (pol I l c (k + 1)) = -1 then pol I l c (k + 1) else low I l (pol I l c (k + 1))
      rw [ih]
  rw [g 9]
  exact pol_stop (pol_fix ht l c0 c1) 1
theorem pol_self {I : Isl} {l : Lnd} {c : Int} (h : low I l c = -1) : pol I l c 9 = c := by
  have := pol_stop (I := I) (l := l) (c := c) (k := 0) h 9
  exact this
/-- all that is in cells which flow to q -/
def inP (I : Isl) (l : Lnd) (a : Int → Int) (q : Int) : Int := sumTo (fun c => if pol I l c 9 = q then a c else 0) (nC I).toNat
theorem flw_zero {I : Isl} (ht : Ht I) (l : Lnd) {c : Int} (h : ¬low I l c = -1) : flw I l c = 0 := by
  have g : ∀ n : Nat, n ≤ (nC I).toNat → flwTo I l c n = 0 := by
    intro n
    induction n with
    | zero => intro _; rfl
    | succ n ih =>
      intro hn
      have e : flwTo I l c (n + 1) = flwTo I l c n + bi (hasW l n = 0 ∧ pol I l n 9 = c) := rfl
      have p := pol_fix ht l (c := (n : Int)) (by omega) (by omega)
      rw [e, ih (by omega), ← bi_f (fun x => h (by rw [← x.2]; exact p))]; rfl
  exact g _ (Nat.le_refl _)
theorem flwTo_sum (I : Isl) (l : Lnd) (q : Int) (n : Nat) : sumTo (fun c => if pol I l c 9 = q then bi (hasW l c = 0) else 0) n = flwTo I l q n := by
  induction n with
  | zero => rfl
  | succ n ih =>
    show sumTo _ n + (if pol I l n 9 = q then bi (hasW l n = 0) else 0) = flwTo I l q n + bi (hasW l n = 0 ∧ pol I l n 9 = q)
    rw [ih]
    by_cases x : pol I l n 9 = q
    · rw [if_pos x]
      by_cases y : hasW l n = 0
      · rw [← bi_t y, ← bi_t ⟨y, x⟩]
      · rw [← bi_f y, ← bi_f (fun u => y u.1)]
    · rw [if_neg x, ← bi_f (fun u => x u.2)]
/-- at the beginning of an hour's flowing, all that is in cells which flow to a pool -/
theorem inP_start {I : Isl} (ht : Ht I) (l : Lnd) (sk : Int → Int) {q : Int} (q0 : 0 ≤ q) (q1 : q < nC I) (hq : low I l q = -1) (h : Nat) : inP I l (fun c => cold I l sk c h + bi (sk ((h : Int) + 1) = 0 ∧ hasW l c = 0)) q = cold I l sk q (h + 1) := by
  have e1 : inP I l (fun c => cold I l sk c h + bi (sk ((h : Int) + 1) = 0 ∧ hasW l c = 0)) q = sumTo (fun c => if pol I l c 9 = q then cold I l sk c h else 0) (nC I).toNat + sumTo (fun c => if pol I l c 9 = q then bi (sk ((h : Int) + 1) = 0 ∧ hasW l c = 0) else 0) (nC I).toNat := by
    rw [← sumTo_add]
    refine sumTo_same fun j hj => ?_
    by_cases x : pol I l j 9 = q
    · rw [if_pos x, if_pos x, if_pos x]
    · rw [if_neg x, if_neg x, if_neg x]; rfl
  have e2 : sumTo (fun c => if pol I l c 9 = q then cold I l sk c h else 0) (nC I).toNat = cold I l sk q h := by
    rw [sumTo_one (f := fun _ => 0) (i := q.toNat) (by omega) (fun j hj hne => ?_), sumTo_zero (fun _ _ => rfl)]
    · have : ((q.toNat : Nat) : Int) = q := Int.toNat_of_nonneg q0
      rw [this, pol_self hq, if_pos rfl]; omega
    · by_cases x : pol I l j 9 = q
      · rw [if_pos x]
        have : ¬low I l j = -1 := fun y => by
          rw [pol_self y] at x
          omega
        unfold cold
        rw [flw_zero ht l this, Int.zero_mul]
      · rw [if_neg x]
  have e3 : cold I l sk q (h + 1) = cold I l sk q h + flw I l q * bi (sk ((h : Int) + 1) = 0) := by
    show flw I l q * (clr sk h + bi (sk ((h : Int) + 1) = 0)) = _
    rw [Int.mul_add]; rfl
  rw [e1, e2, e3]
  congr 1
  by_cases y : sk ((h : Int) + 1) = 0
  · rw [← bi_t y, Int.mul_one]
    unfold flw
    rw [← flwTo_sum]
    refine sumTo_same fun j _ => ?_
    rw [bi_c (p := sk ((h : Int) + 1) = 0 ∧ hasW l j = 0) (q := hasW l j = 0) ⟨fun u => u.2, fun u => ⟨y, u⟩⟩]
  · rw [← bi_f y, Int.mul_zero]
    refine sumTo_zero fun j _ => ?_
    rw [← bi_f (p := sk ((h : Int) + 1) = 0 ∧ hasW l j = 0) (fun u => y u.1)]
    by_cases x : pol I l j 9 = q
    · rw [if_pos x]
    · rw [if_neg x]
/-- one cell's cold flows down -/
def adv (I : Isl) (l : Lnd) (a : Int → Int) (c : Int) : Int → Int := fun x => if x = low I l c then a (low I l c) + a c else a x
def mov (I : Isl) (l : Lnd) (a : Int → Int) (c : Int) : Int → Int := fun x => if x = c then 0 else adv I l a c x
theorem inP_mov {I : Isl} (ht : Ht I) (l : Lnd) (a : Int → Int) {c : Int} (c0 : 0 ≤ c) (c1 : c < nC I) (h : ¬low I l c = -1) (q : Int) : inP I l (mov I l a c) q = inP I l a q := by
  have li := low_in I l c
  have lt := low_lt I l c h
  have pl := pol_low ht l c0 c1 h
  have nc : ¬low I l c = c := fun e => by rw [e] at lt; omega
  have hc : ((c.toNat : Nat) : Int) = c := Int.toNat_of_nonneg c0
  have hl : (((low I l c).toNat : Nat) : Int) = low I l c := Int.toNat_of_nonneg (by omega)
  have v1 : adv I l a c (low I l c) = a (low I l c) + a c := if_pos rfl
  have v2 : ∀ x, ¬x = low I l c → adv I l a c x = a x := fun x hx => if_neg hx
  have v3 : mov I l a c c = 0 := if_pos rfl
  have v4 : ∀ x, ¬x = c → mov I l a c x = adv I l a c x := fun x hx => if_neg hx
  -- in two steps: first what is added, then what goes
  have s1 : inP I l (adv I l a c) q = inP I l a q + (if pol I l c 9 = q then a c else 0) := by
    unfold inP
    rw [sumTo_one (f := fun x => if pol I l x 9 = q then a x else 0) (i := (low I l c).toNat) (by omega) (fun j hj hne => ?_)]
    · rw [hl, pl, v1]
      by_cases x : pol I l c 9 = q
      · rw [if_pos x, if_pos x, if_pos x]; omega
      · rw [if_neg x, if_neg x, if_neg x]; omega
    · rw [v2 j (by omega)]
  have s2 : inP I l (mov I l a c) q = inP I l (adv I l a c) q - (if pol I l c 9 = q then a c else 0) := by
    unfold inP
    rw [sumTo_one (f := fun x => if pol I l x 9 = q then adv I l a c x else 0) (i := c.toNat) (by omega) (fun j hj hne => ?_)]
    · rw [hc, v3, v2 c (fun e => nc e.symm)]
      by_cases x : pol I l c 9 = q
      · rw [if_pos x, if_pos x]; omega
      · rw [if_neg x, if_neg x]; omega
    · rw [v4 j (by omega)]
  rw [s2, s1]; omega
/-- when all that can flow has flown, a pool has all -/
theorem inP_end {I : Isl} (l : Lnd) {a : Int → Int} {q : Int} (q0 : 0 ≤ q) (q1 : q < nC I) (hq : low I l q = -1) (h : ∀ c : Int, 0 ≤ c → c < nC I → ¬low I l c = -1 → a c = 0) : inP I l a q = a q := by
  have hc : ((q.toNat : Nat) : Int) = q := Int.toNat_of_nonneg q0
  unfold inP
  rw [sumTo_one (f := fun _ => 0) (i := q.toNat) (by omega) (fun j hj hne => ?_), sumTo_zero (fun _ _ => rfl)]
  · rw [hc, pol_self hq, if_pos rfl]; omega
  · by_cases x : pol I l j 9 = q
    · rw [if_pos x]
      refine h j (by omega) (by omega) (fun y => ?_)
      rw [pol_self y] at x
      omega
    · rw [if_neg x]
