/-! the text: where signs stand and what they are -/
abbrev isLt (x : Int) : Prop := 97 ≤ x ∧ x ≤ 122
abbrev isDg (x : Int) : Prop := 48 ≤ x ∧ x ≤ 57
abbrev isBl (x : Int) : Prop := x = 32 ∨ x = 10
def cLt (x : Int) : Bool := decide (isLt x)
def cDg (x : Int) : Bool := decide (isDg x)
def cBl (x : Int) : Bool := decide (isBl x)
theorem cLt_i {x : Int} : cLt x = true ↔ isLt x := decide_eq_true_iff
theorem cDg_i {x : Int} : cDg x = true ↔ isDg x := decide_eq_true_iff
theorem cBl_i {x : Int} : cBl x = true ↔ isBl x := decide_eq_true_iff
/-- from p on, as far as they are so -/
def runF (c : Int → Bool) (T : Nat → Int) (len : Nat) : Nat → Nat → Nat
  | 0, p => p
  | f + 1, p => if p < len ∧ c (T p) = true then runF c T len f (p + 1) else p
def run (c : Int → Bool) (T : Nat → Int) (len p : Nat) : Nat := runF c T len (len - p) p
theorem run_y {c : Int → Bool} {T : Nat → Int} {len p : Nat} (h : p < len) (q : c (T p) = true) : run c T len p = run c T len (p + 1) := by
  unfold run
  rw [show len - p = (len - (p + 1)) + 1 from by omega]
  show (if p < len ∧ c (T p) = true then _ else _) = _
  rw [if_pos ⟨h, q⟩]
theorem run_n {c : Int → Bool} {T : Nat → Int} {len p : Nat} (h : ¬(p < len ∧ c (T p) = true)) : run c T len p = p := by
  unfold run
  cases len - p with
  | zero => rfl
  | succ f =>
    show (if p < len ∧ c (T p) = true then _ else _) = _
    rw [if_neg h]
theorem run_in (c : Int → Bool) (T : Nat → Int) (len : Nat) : ∀ (d p : Nat), len - p = d → p ≤ len → p ≤ run c T len p ∧ run c T len p ≤ len ∧ (∀ j, p ≤ j → j < run c T len p → c (T j) = true) ∧ (run c T len p < len → ¬c (T (run c T len p)) = true) := by
  intro d
  induction d with
  | zero =>
    intro p hd hp
    rw [run_n (by omega)]
    exact ⟨Nat.le_refl _, hp, fun j a b => by omega, fun u => by omega⟩
  | succ d ih =>
    intro p hd hp
    by_cases q : c (T p) = true
    · rw [run_y (by omega) q]
      obtain ⟨a, b, e, f⟩ := ih (p + 1) (by omega) (by omega)
      refine ⟨by omega, b, fun j j0 j1 => ?_, f⟩
      by_cases y : j = p
      · rw [y]; exact q
      · exact e j (by omega) j1
    · rw [run_n (fun u => q u.2)]
      exact ⟨Nat.le_refl _, hp, fun j a b => by omega, fun _ => q⟩
def sk (T : Nat → Int) (len p : Nat) : Nat := run cBl T len p
/-- where the sign at a ends -/
def tE (T : Nat → Int) (len a : Nat) : Nat := if isLt (T a) then run cLt T len a else if isDg (T a) then run cDg T len a else a + 1
def nx (T : Nat → Int) (len a : Nat) : Nat := sk T len (tE T len a)
theorem tE_in {T : Nat → Int} {len a : Nat} (h : a < len) : a < tE T len a ∧ tE T len a ≤ len := by
  unfold tE
  by_cases q : isLt (T a)
  · rw [if_pos q, run_y h (cLt_i.mpr q)]
    have := run_in cLt T len _ (a + 1) rfl (by omega)
    omega
  · rw [if_neg q]
    by_cases q2 : isDg (T a)
    · rw [if_pos q2, run_y h (cDg_i.mpr q2)]
      have := run_in cDg T len _ (a + 1) rfl (by omega)
      omega
    · rw [if_neg q2]; omega
theorem nx_in {T : Nat → Int} {len a : Nat} (h : a < len) : a < nx T len a ∧ nx T len a ≤ len := by
  have e := tE_in (T := T) h
  have := run_in cBl T len _ (tE T len a) rfl e.2
  unfold nx sk
  omega
/-- no sign goes on there -/
def cln (T : Nat → Int) (a : Nat) : Prop := a = 0 ∨ ¬(isLt (T a) ∧ isLt (T (a - 1))) ∧ ¬(isDg (T a) ∧ isDg (T (a - 1)))
theorem sk_nb {T : Nat → Int} {len p : Nat} (h : p ≤ len) : sk T len p < len → ¬isBl (T (sk T len p)) := fun u v => (run_in cBl T len _ p rfl h).2.2.2 u (cBl_i.mpr v)
theorem cln_bl {T : Nat → Int} {len p : Nat} (h : p ≤ len) (q : p < sk T len p) : cln T (sk T len p) := by
  obtain ⟨_, _, e, _⟩ := run_in cBl T len _ p rfl h
  have u := cBl_i.mp (e (sk T len p - 1) (by omega) (by unfold sk; unfold sk at q; omega))
  refine Or.inr ⟨fun v => ?_, fun v => ?_⟩ <;> (obtain ⟨_, v⟩ := v; omega)
theorem cln_0 (T : Nat → Int) (len : Nat) : cln T (sk T len 0) := by
  by_cases q : 0 < sk T len 0
  · exact cln_bl (Nat.zero_le _) q
  · exact Or.inl (by omega)
theorem cln_nx {T : Nat → Int} {len a : Nat} (h : a < len) (g : nx T len a < len) : cln T (nx T len a) := by
  have e := tE_in (T := T) h
  by_cases q : tE T len a < nx T len a
  · exact cln_bl e.2 q
  · have y := run_in cBl T len _ (tE T len a) rfl e.2
    have eq : nx T len a = tE T len a := by unfold nx sk at q ⊢; omega
    rw [eq] at g ⊢
    refine Or.inr ?_
    unfold tE at g ⊢ e
    by_cases q1 : isLt (T a)
    · rw [if_pos q1] at g e ⊢
      obtain ⟨r1, r2, r3, r4⟩ := run_in cLt T len _ a rfl (by omega)
      have w := r4 g
      rw [cLt_i] at w
      have v := cLt_i.mp (r3 (run cLt T len a - 1) (by omega) (by omega))
      exact ⟨fun u => w u.1, fun u => by have := u.2; omega⟩
    · rw [if_neg q1] at g e ⊢
      by_cases q2 : isDg (T a)
      · rw [if_pos q2] at g e ⊢
        obtain ⟨r1, r2, r3, r4⟩ := run_in cDg T len _ a rfl (by omega)
        have w := r4 g
        rw [cDg_i] at w
        have v := cDg_i.mp (r3 (run cDg T len a - 1) (by omega) (by omega))
        exact ⟨fun u => by have := u.2; omega, fun u => w u.1⟩
      · rw [if_neg q2] at g e ⊢
        rw [show a + 1 - 1 = a from rfl]
        exact ⟨fun u => q1 u.2, fun u => q2 u.2⟩
/-- joined to what stands ahead of it -/
abbrev jnd (T : Nat → Int) (a : Nat) : Prop := 0 < a ∧ (isLt (T a) ∨ isDg (T a)) ∧ (isLt (T (a - 1)) ∨ isDg (T (a - 1)))
theorem jnd_c {T : Nat → Int} {a : Nat} (h : cln T a) : jnd T a ↔ 0 < a ∧ (isLt (T a) ∧ isDg (T (a - 1)) ∨ isDg (T a) ∧ isLt (T (a - 1))) := by
  constructor
  · intro ⟨a0, u, v⟩
    refine ⟨a0, ?_⟩
    rcases h with h | ⟨h1, h2⟩
    · omega
    · rcases u with u | u
      · rcases v with v | v
        · exact absurd ⟨u, v⟩ h1
        · exact Or.inl ⟨u, v⟩
      · rcases v with v | v
        · exact Or.inr ⟨u, v⟩
        · exact absurd ⟨u, v⟩ h2
  · intro ⟨a0, u⟩
    refine ⟨a0, ?_⟩
    rcases u with u | u
    · exact ⟨Or.inl u.1, Or.inr u.2⟩
    · exact ⟨Or.inr u.1, Or.inl u.2⟩
/-- letters from a on -/
def lts (T : Nat → Int) (a n : Nat) : List Nat := (List.range n).map fun i => (T (a + i) - 96).toNat
theorem lts_len (T : Nat → Int) (a n : Nat) : (lts T a n).length = n := by
  unfold lts
  rw [List.length_map, List.length_range]
theorem lts_s (T : Nat → Int) (a n : Nat) : lts T a (n + 1) = lts T a n ++ [(T (a + n) - 96).toNat] := by
  unfold lts
  rw [List.range_succ, List.map_append]
  rfl
/-- own words by their letters -/
def owT : List (List Nat) := [[9, 19, 12, 1, 14, 4], [8, 5, 9, 7, 8, 20], [1, 20], [23, 1, 12, 12], [8, 15, 21, 19, 5], [3, 9, 19, 20, 5, 18, 14], [3, 12, 15, 20, 8], [20, 1, 11, 5, 19], [19, 20, 15, 14, 5], [23, 5, 2], [19, 11, 25], [4, 5, 23], [4, 18, 9, 5, 19], [4, 18, 9, 14, 11, 19], [3, 12, 15, 21, 4, 25], [23, 18, 9, 14, 7], [15, 16, 5, 14], [8, 9, 7, 8], [3, 15, 12, 4], [8, 15, 21, 18], [3, 12, 15, 21, 4], [23, 9, 14, 4], [19, 13, 15, 11, 5], [14, 5, 1, 18], [23, 5, 20], [13, 9, 14], [13, 1, 24]]
def owN (L : List Nat) : Nat → Int
  | 0 => -1
  | n + 1 => if owN L n = -1 then (if owT.getD n [] = L then (n : Int) else -1) else owN L n
def ow (L : List Nat) : Int := owN L 27
theorem owN_in (L : List Nat) : ∀ n, owN L n = -1 ∧ (∀ i, i < n → ¬owT.getD i [] = L) ∨ ∃ i : Nat, i < n ∧ owN L n = i ∧ owT.getD i [] = L ∧ ∀ j, j < i → ¬owT.getD j [] = L := by
  intro n
  induction n with
  | zero => exact Or.inl ⟨rfl, fun i hi => absurd hi (Nat.not_lt_zero i)⟩
  | succ n ih =>
    show (if owN L n = -1 then _ else _) = _ ∧ _ ∨ ∃ i : Nat, _ ∧ (if owN L n = -1 then _ else _) = _ ∧ _
    rcases ih with ⟨e, h⟩ | ⟨i, hi, e, h1, h2⟩
    · rw [if_pos e]
      by_cases q : owT.getD n [] = L
      · rw [if_pos q]
        exact Or.inr ⟨n, by omega, rfl, q, h⟩
      · rw [if_neg q]
        refine Or.inl ⟨rfl, fun i hi => ?_⟩
        by_cases y : i = n
        · rw [y]; exact q
        · exact h i (by omega)
    · rw [if_neg (by omega)]
      exact Or.inr ⟨i, by omega, e, h1, h2⟩
def nmv (T : Nat → Int) (a : Nat) : Nat → Int
  | 0 => 0
  | n + 1 => 10 * nmv T a n + T (a + n) - 48
/-- a sign: of which kind (0 the end, 1 a number, 2 an own word, 3 a name, 5 a sign, 6 bad), its value, its letters -/
abbrev Tk : Type := Int × Int × List Nat
def tk (T : Nat → Int) (len a : Nat) : Tk := if len ≤ a then (0, 0, []) else if jnd T a then (6, (a : Int), []) else if isLt (T a) then (if ¬ow (lts T a (tE T len a - a)) = -1 then (2, ow (lts T a (tE T len a - a)), []) else if tE T len a - a ≤ 6 then (3, 0, lts T a (tE T len a - a)) else (6, ((a + 6 : Nat) : Int), [])) else if isDg (T a) then (if tE T len a - a ≤ 4 then (1, nmv T a (tE T len a - a), []) else (6, ((a + 4 : Nat) : Int), [])) else (5, T a, [])
/-- where a fault of this sign is told -/
def tkP (T : Nat → Int) (len a : Nat) : Int := if (tk T len a).1 = 6 then (tk T len a).2.1 else (a : Int)
def sko (x : Int) : Int := if x = 99 then 0 else if x = 111 then 1 else if x = 115 then 3 else if x = 119 then 2 else -1
/-- letters of skies stand there -/
def skyT (T : Nat → Int) (len a : Nat) : Prop := a < len ∧ ¬jnd T a ∧ isLt (T a) ∧ tE T len a - a ≤ 12 ∧ ∀ i : Nat, i < tE T len a - a → ¬sko (T (a + i)) = -1
/-- skies packed by two bits -/
def skP (T : Nat → Int) (a : Nat) : Nat → Nat
  | 0 => 0
  | n + 1 => skP T a n + (sko (T (a + n))).toNat * 4 ^ n
