/-! walks: how many, and the first one -/
/-- the first place at which there is something -/
def fz (f : Nat → Int) : Nat → Nat
  | 0 => 0
  | c + 1 => if fz f c < c then fz f c else if f c = 0 then c + 1 else c
theorem fz_s (f : Nat → Int) (c : Nat) : fz f (c + 1) = if fz f c < c then fz f c else if f c = 0 then c + 1 else c := rfl
theorem fz_le (f : Nat → Int) (c : Nat) : fz f c ≤ c := by
  induction c with
  | zero => exact Nat.le_refl 0
  | succ c ih =>
    rw [fz_s]
    split
    · omega
    · split <;> omega
theorem fz_at {f : Nat → Int} {c : Nat} (h : fz f c < c) : ¬f (fz f c) = 0 := by
  induction c with
  | zero => omega
  | succ c ih =>
    rw [fz_s] at h ⊢
    by_cases q : fz f c < c
    · rw [if_pos q]; exact ih q
    · rw [if_neg q] at h ⊢
      by_cases y : f c = 0
      · rw [if_pos y] at h; omega
      · rw [if_neg y]; exact y
theorem fz_lo {f : Nat → Int} {c : Nat} : ∀ j, j < fz f c → f j = 0 := by
  induction c with
  | zero => intro j hj; exact absurd hj (Nat.not_lt_zero j)
  | succ c ih =>
    intro j hj
    rw [fz_s] at hj
    have l := fz_le f c
    by_cases q : fz f c < c
    · rw [if_pos q] at hj; exact ih j hj
    · rw [if_neg q] at hj
      by_cases y : f c = 0
      · rw [if_pos y] at hj
        by_cases e : j = c
        · rw [e]; exact y
        · exact ih j (by omega)
      · rw [if_neg y] at hj
        exact ih j (by omega)
theorem fz_more {f : Nat → Int} {c : Nat} (h : fz f c < c) : ∀ d, fz f (c + d) = fz f c := by
  intro d
  induction d with
  | zero => rfl
  | succ d ih =>
    show fz f ((c + d) + 1) = _
    rw [fz_s, if_pos (by omega)]
    exact ih
theorem fz_hit {f : Nat → Int} {c : Nat} (h : fz f c = c) (y : ¬f c = 0) : fz f (c + 1) = c := by
  rw [fz_s, if_neg (by omega), if_neg y]
theorem fz_miss {f : Nat → Int} {c : Nat} (h : fz f c = c) (y : f c = 0) : fz f (c + 1) = c + 1 := by
  rw [fz_s, if_neg (by omega), if_pos y]
theorem sum_pos {f : Nat → Int} (h : ∀ j, 0 ≤ f j) (n : Nat) : 0 ≤ sumTo f n := by
  induction n with
  | zero => exact Int.le_refl 0
  | succ n ih => have := h n; show 0 ≤ sumTo f n + f n; omega
theorem sum_fz {f : Nat → Int} (h : ∀ j, 0 ≤ f j) (n : Nat) : (fz f n = n ↔ sumTo f n = 0) ∧ (fz f n < n → 0 < sumTo f n) := by
  induction n with
  | zero => exact ⟨⟨fun _ => rfl, fun _ => rfl⟩, fun u => absurd u (Nat.not_lt_zero _)⟩
  | succ n ih =>
    have l := fz_le f n
    have p := h n
    have q := sum_pos h n
    show (fz f (n + 1) = n + 1 ↔ sumTo f n + f n = 0) ∧ (fz f (n + 1) < n + 1 → 0 < sumTo f n + f n)
    rw [fz_s]
    by_cases a : fz f n < n
    · have := ih.2 a
      rw [if_pos a]
      exact ⟨⟨fun u => by omega, fun u => by omega⟩, fun _ => by omega⟩
    · have e : sumTo f n = 0 := ih.1.mp (by omega)
      rw [if_neg a]
      by_cases y : f n = 0
      · rw [if_pos y]
        exact ⟨⟨fun _ => by omega, fun _ => rfl⟩, fun u => by omega⟩
      · rw [if_neg y]
        exact ⟨⟨fun u => by omega, fun u => by omega⟩, fun _ => by omega⟩
/-- in how many ways one goes on, so many cells left -/
def WY (ok : Nat → Nat → Bool) (n : Nat) : Nat → Nat → Nat → Int
  | 0, _, _ => 1
  | r + 1, s, a => sumTo (fun t => if s.testBit t = false ∧ ok a t = true then WY ok n r (s ||| 2 ^ t) t else 0) n
def wyT (ok : Nat → Nat → Bool) (n r s a : Nat) : Nat → Int := fun t => if s.testBit t = false ∧ ok a t = true then WY ok n r (s ||| 2 ^ t) t else 0
theorem WY_s (ok : Nat → Nat → Bool) (n r s a : Nat) : WY ok n (r + 1) s a = sumTo (wyT ok n r s a) n := rfl
/-- the first way -/
def FW (ok : Nat → Nat → Bool) (n : Nat) : Nat → Nat → Nat → List Nat
  | 0, _, _ => []
  | r + 1, s, a => fz (wyT ok n r s a) n :: FW ok n r (s ||| 2 ^ fz (wyT ok n r s a) n) (fz (wyT ok n r s a) n)
theorem WY_0 (ok : Nat → Nat → Bool) (n : Nat) : ∀ r s a, 0 ≤ WY ok n r s a := by
  intro r
  induction r with
  | zero => intro s a; show (0 : Int) ≤ 1; decide
  | succ r ih =>
    intro s a
    rw [WY_s]
    refine sum_pos (fun t => ?_) n
    unfold wyT
    split
    · exact ih _ _
    · exact Int.le_refl 0
theorem wyT_0 (ok : Nat → Nat → Bool) (n r s a t : Nat) : 0 ≤ wyT ok n r s a t := by
  unfold wyT
  split
  · exact WY_0 ok n _ _ _
  · exact Int.le_refl 0
def wkB (s c : Nat) : Bool := s.testBit c || (decide (pop (s ||| 2 ^ c) = pop s + 1) && decide (s < s ||| 2 ^ c))
theorem wkB_c : ((List.range 1024).all fun s => (List.range 10).all fun c => wkB s c) = true := by decide +kernel
theorem w_or {s c : Nat} (hs : s < 1024) (hc : c < 10) (h : s.testBit c = false) : pop (s ||| 2 ^ c) = pop s + 1 ∧ s < s ||| 2 ^ c := by
  have y := wkB_c
  rw [List.all_eq_true] at y
  have y1 := y s (List.mem_range.mpr hs)
  rw [List.all_eq_true] at y1
  have y2 := y1 c (List.mem_range.mpr hc)
  unfold wkB at y2
  rw [h, Bool.false_or, Bool.and_eq_true, decide_eq_true_eq, decide_eq_true_eq] at y2
  exact y2
def zer (s : Nat) : Nat → Nat
  | 0 => 0
  | n + 1 => zer s n + if s.testBit n then 0 else 1
def wkN (n s : Nat) : Bool := !decide (s < 2 ^ n) || (decide (zer s n = n - pop s) && decide (pop s ≤ n) && (!decide (pop s = n) || decide (s = 2 ^ n - 1)))
theorem wkN_c : ((List.range 11).all fun n => (List.range 1024).all fun s => wkN n s) = true := by decide +kernel
theorem p2_10 : ∀ n, n < 11 → 2 ^ n ≤ 1024 := by decide
theorem w_pop {n s : Nat} (hn : n < 11) (h : s < 2 ^ n) : zer s n = n - pop s ∧ pop s ≤ n ∧ (pop s = n → s = 2 ^ n - 1) := by
  have p := p2_10 n hn
  have y := wkN_c
  rw [List.all_eq_true] at y
  have y1 := y n (List.mem_range.mpr hn)
  rw [List.all_eq_true] at y1
  have y2 := y1 s (List.mem_range.mpr (by omega))
  unfold wkN at y2
  rw [decide_eq_true h] at y2
  simp only [Bool.not_true, Bool.false_or, Bool.and_eq_true, Bool.or_eq_true, Bool.not_eq_true', decide_eq_false_iff_not, decide_eq_true_eq] at y2
  refine ⟨y2.1.1, y2.1.2, fun e => ?_⟩
  rcases y2.2 with u | u
  · exact absurd e u
  · exact u
theorem w_lt {n s c : Nat} (h : s < 2 ^ n) (hc : c < n) : s ||| 2 ^ c < 2 ^ n := Nat.or_lt_two_pow h (Nat.pow_lt_pow_right (by decide) hc)
/-- a set that is not full lacks one -/
theorem w_full {n s c : Nat} (hn : n < 11) (h : s < 2 ^ n) (hc : c < n) (hb : s.testBit c = false) : pop s < n := by
  obtain ⟨_, a, b⟩ := w_pop hn h
  rcases Nat.lt_or_ge (pop s) n with q | q
  · exact q
  · have e := b (by omega)
    rw [e, Nat.testBit_two_pow_sub_one, decide_eq_false_iff_not] at hb
    exact absurd hc hb
def fcI : Nat → Int
  | 0 => 1
  | r + 1 => ((r : Int) + 1) * fcI r
theorem fcI_0 : ∀ r, 0 ≤ fcI r := by
  intro r
  induction r with
  | zero => decide
  | succ r ih => exact Int.mul_nonneg (by omega) ih
theorem sum_zer {f : Nat → Int} {s : Nat} {B : Int} (h0 : ∀ t, s.testBit t = true → f t = 0) (h1 : ∀ t, f t ≤ B) (hB : 0 ≤ B) : ∀ n, sumTo f n ≤ (zer s n : Int) * B := by
  intro n
  induction n with
  | zero => show (0 : Int) ≤ ((0 : Nat) : Int) * B; simp
  | succ n ih =>
    show sumTo f n + f n ≤ ((zer s n + (if s.testBit n then 0 else 1) : Nat) : Int) * B
    by_cases q : s.testBit n = true
    · rw [if_pos q, h0 n q, Nat.add_zero]; omega
    · have := h1 n
      rw [if_neg q, show ((zer s n + 1 : Nat) : Int) = (zer s n : Int) + 1 from by omega, Int.add_mul, Int.one_mul]
      omega
theorem WY_le (ok : Nat → Nat → Bool) {n : Nat} (hn : n < 11) : ∀ r s a, pop s + r = n → s < 2 ^ n → WY ok n r s a ≤ fcI r := by
  have p := p2_10 n hn
  intro r
  induction r with
  | zero => intro s a _ _; exact Int.le_refl 1
  | succ r ih =>
    intro s a hp hs
    have z := (w_pop hn hs).1
    rw [WY_s]
    -- beyond n nothing counts
    have key : ∀ k, k ≤ n → sumTo (wyT ok n r s a) k ≤ (zer s k : Int) * fcI r := by
      intro k
      induction k with
      | zero => intro _; show (0 : Int) ≤ ((0 : Nat) : Int) * fcI r; simp
      | succ k ihk =>
        intro hk
        have i := ihk (by omega)
        show sumTo (wyT ok n r s a) k + wyT ok n r s a k ≤ ((zer s k + (if s.testBit k then 0 else 1) : Nat) : Int) * fcI r
        by_cases q : s.testBit k = true
        · have e : wyT ok n r s a k = 0 := by unfold wyT; rw [if_neg (fun u => by rw [q] at u; exact absurd u.1 (by decide))]
          rw [if_pos q, e, Nat.add_zero]; omega
        · have qf : s.testBit k = false := by simpa using q
          have e : wyT ok n r s a k ≤ fcI r := by
            unfold wyT
            split
            · have w := w_or (s := s) (c := k) (by omega) (by omega) qf
              exact ih _ _ (by omega) (w_lt hs (by omega))
            · exact fcI_0 r
          rw [if_neg q, show ((zer s k + 1 : Nat) : Int) = (zer s k : Int) + 1 from by omega, Int.add_mul, Int.one_mul]
          omega
    have := key n (Nat.le_refl n)
    rw [z, show n - pop s = r + 1 from by omega] at this
    have e : fcI (r + 1) = ((r : Int) + 1) * fcI r := rfl
    rw [e]
    rw [show ((r + 1 : Nat) : Int) = (r : Int) + 1 from by omega] at this
    exact this
theorem fc_9 : ∀ r : Nat, r < 10 → fcI r ≤ 362880 := by decide
theorem WY_in (ok : Nat → Nat → Bool) {n : Nat} (hn : n < 11) {r s a : Nat} (hp : pop s + r = n) (hs : s < 2 ^ n) (hr : r < 10) : 0 ≤ WY ok n r s a ∧ WY ok n r s a ≤ 362880 := ⟨WY_0 ok n r s a, Int.le_trans (WY_le ok hn r s a hp hs) (fc_9 r hr)⟩
/-- where one of those that are left can't be reached there is no way -/
theorem WY_no (ok : Nat → Nat → Bool) {n q : Nat} (hn : n < 11) (hq : q < n) (no : ∀ a, ok a q = false) : ∀ r s a, pop s + r = n → s < 2 ^ n → s.testBit q = false → WY ok n r s a = 0 := by
  have p := p2_10 n hn
  intro r
  induction r with
  | zero =>
    intro s a hp hs hb
    have := w_full hn hs hq hb
    omega
  | succ r ih =>
    intro s a hp hs hb
    rw [WY_s]
    have key : ∀ t, t < n → wyT ok n r s a t = 0 := by
      intro t ht
      unfold wyT
      by_cases u : s.testBit t = false ∧ ok a t = true
      · rw [if_pos u]
        have w := w_or (s := s) (c := t) (by omega) (by omega) u.1
        refine ih _ _ (by omega) (w_lt hs ht) ?_
        have ne : ¬t = q := fun e => by rw [e, no a] at u; exact absurd u.2 (by decide)
        rw [Nat.testBit_or, hb, Nat.testBit_two_pow, Bool.false_or, decide_eq_false_iff_not]
        exact ne
      · rw [if_neg u]
    exact sumTo_zero key
theorem WY_c {ok ok2 : Nat → Nat → Bool} {n : Nat} (h : ∀ a t, a < n → t < n → ok a t = ok2 a t) : ∀ r s a, a < n → WY ok n r s a = WY ok2 n r s a := by
  intro r
  induction r with
  | zero => intro s a _; rfl
  | succ r ih =>
    intro s a ha
    rw [WY_s, WY_s]
    refine sumTo_same (fun t ht => ?_)
    unfold wyT
    rw [h a t ha ht, ih _ t ht]
theorem FW_c {ok ok2 : Nat → Nat → Bool} {n : Nat} (h : ∀ a t, a < n → t < n → ok a t = ok2 a t) : ∀ r s a, a < n → 0 < WY ok n r s a → FW ok n r s a = FW ok2 n r s a := by
  intro r
  induction r with
  | zero => intro s a _ _; rfl
  | succ r ih =>
    intro s a ha hw
    have e : ∀ t, t < n → wyT ok n r s a t = wyT ok2 n r s a t := fun t ht => by
      unfold wyT
      rw [h a t ha ht, WY_c h r _ t ht]
    have ef : ∀ c, c ≤ n → fz (wyT ok n r s a) c = fz (wyT ok2 n r s a) c := by
      intro c
      induction c with
      | zero => intro _; rfl
      | succ c ihc =>
        intro hc
        rw [fz_s, fz_s, ihc (by omega), e c (by omega)]
    have ef2 := ef n (Nat.le_refl n)
    have lt : fz (wyT ok n r s a) n < n := by
      have l := fz_le (wyT ok n r s a) n
      rcases Nat.lt_or_ge (fz (wyT ok n r s a) n) n with u | u
      · exact u
      · rw [WY_s, (sum_fz (wyT_0 ok n r s a) n).1.mp (by omega)] at hw
        omega
    have na := fz_at lt
    have wp : 0 < WY ok n r (s ||| 2 ^ fz (wyT ok n r s a) n) (fz (wyT ok n r s a) n) := by
      have w0 := WY_0 ok n r (s ||| 2 ^ fz (wyT ok n r s a) n) (fz (wyT ok n r s a) n)
      have na2 : ¬(if s.testBit (fz (wyT ok n r s a) n) = false ∧ ok a (fz (wyT ok n r s a) n) = true then WY ok n r (s ||| 2 ^ fz (wyT ok n r s a) n) (fz (wyT ok n r s a) n) else 0) = 0 := na
      by_cases u : s.testBit (fz (wyT ok n r s a) n) = false ∧ ok a (fz (wyT ok n r s a) n) = true
      · rw [if_pos u] at na2
        omega
      · rw [if_neg u] at na2
        exact absurd rfl na2
    show fz (wyT ok n r s a) n :: FW ok n r (s ||| 2 ^ fz (wyT ok n r s a) n) (fz (wyT ok n r s a) n) = fz (wyT ok2 n r s a) n :: FW ok2 n r (s ||| 2 ^ fz (wyT ok2 n r s a) n) (fz (wyT ok2 n r s a) n)
    rw [ih _ _ lt wp, ef2]
