/-! reading and writing at places whose kind is known -/
theorem gtI {ci k a : Nat} (h : (shK a == ci + 10 && decide (k < shN a)) = true) (m : Mem) : getI ci k a m = some (m a k) := by
  simp only [Bool.and_eq_true, beq_iff_eq, decide_eq_true_eq] at h
  exact if_pos h
theorem gtR {ci k a : Nat} (r : Nat) {m : Mem} (e : m a k = (r : Int)) (h : (shK a == ci + 10 && decide (k < shN a) && decide (r ≠ 0)) = true) : getR ci k a m = some r := by
  simp only [Bool.and_eq_true, beq_iff_eq, decide_eq_true_eq] at h
  unfold getR
  rw [if_pos ⟨h.1.1, h.1.2, by rw [e]; exact_mod_cast h.2⟩, e]; rfl
theorem ptI {ci k a : Nat} (h : (shK a == ci + 10 && decide (k < shN a)) = true) (v : Int) (m : Mem) : putI ci k a v m = some (up m a k v) := by
  simp only [Bool.and_eq_true, beq_iff_eq, decide_eq_true_eq] at h
  exact if_pos h
theorem ptZ0 {ci k a : Nat} (h : (shK a == ci + 10 && decide (k < shN a)) = true) (m : Mem) : putZ ci k a 0 m = some (up m a k 0) := by
  simp only [Bool.and_eq_true, beq_iff_eq, decide_eq_true_eq] at h
  exact if_pos ⟨h.1, h.2, Or.inl rfl⟩
theorem ptZ1 {ci k a : Nat} (h : (shK a == ci + 10 && decide (k < shN a)) = true) (m : Mem) : putZ ci k a 1 m = some (up m a k 1) := by
  simp only [Bool.and_eq_true, beq_iff_eq, decide_eq_true_eq] at h
  exact if_pos ⟨h.1, h.2, Or.inr rfl⟩
theorem ptR {ci k a : Nat} (v : Nat) (h : (shK a == ci + 10 && decide (k < shN a) && decide (v ≠ 0)) = true) (m : Mem) : putR ci k a v m = some (up m a k v) := by
  simp only [Bool.and_eq_true, beq_iff_eq, decide_eq_true_eq] at h
  exact if_pos ⟨h.1.1, h.1.2, h.2⟩
theorem arI {a : Nat} (n : Nat) {i : Int} (h : (shK a == 1 && shN a == n) = true) (h0 : 0 ≤ i) (h1 : i < n) (m : Mem) : aldI a i m = some (m a i.toNat) := by
  simp only [Bool.and_eq_true, beq_iff_eq] at h
  exact if_pos ⟨h.1, h0, by rw [h.2]; exact h1⟩
theorem arL {a : Nat} (n : Nat) {i : Int} (h : (shK a == 2 && shN a == n) = true) (h0 : 0 ≤ i) (h1 : i < n) (m : Mem) : aldL a i m = some (m a i.toNat) := by
  simp only [Bool.and_eq_true, beq_iff_eq] at h
  exact if_pos ⟨h.1, h0, by rw [h.2]; exact h1⟩
theorem asI {a : Nat} (n : Nat) {i : Int} (h : (shK a == 1 && shN a == n && decide (3 ≤ a)) = true) (h0 : 0 ≤ i) (h1 : i < n) (v : Int) (m : Mem) : astI a i v m = some (up m a i.toNat v) := by
  simp only [Bool.and_eq_true, beq_iff_eq, decide_eq_true_eq] at h
  exact if_pos ⟨h.1.1, h.2, h0, by rw [h.1.2]; exact h1⟩
theorem asL {a : Nat} (n : Nat) {i : Int} (h : (shK a == 2 && shN a == n && decide (3 ≤ a)) = true) (h0 : 0 ≤ i) (h1 : i < n) (v : Int) (m : Mem) : astL a i v m = some (up m a i.toNat v) := by
  simp only [Bool.and_eq_true, beq_iff_eq, decide_eq_true_eq] at h
  exact if_pos ⟨h.1.1, h.2, h0, by rw [h.1.2]; exact h1⟩
theorem arN {a : Nat} (n : Nat) (h : (decide (1 ≤ shK a) && decide (shK a ≤ 4) && shN a == n) = true) : alen a = some (n : Int) := by
  simp only [Bool.and_eq_true, beq_iff_eq, decide_eq_true_eq] at h
  unfold alen
  rw [if_pos ⟨h.1.1, h.1.2⟩, h.2]
theorem z0 : retZ 0 = some 0 := rfl
theorem z1 : retZ 1 = some 1 := rfl
theorem isK {a k : Nat} (h : (shK a == k) = true) {α : Type} (x y : α) : (if shK a = k then x else y) = x := if_pos (by simpa using h)
theorem up_same (m : Mem) (a k : Nat) (v : Int) : up m a k v a k = v := if_pos ⟨rfl, rfl⟩
theorem up_obj {a b : Nat} (h : (b == a) = false) (m : Mem) (k j : Nat) (v : Int) : up m a k v b j = m b j := if_neg (fun q => by simp [q.1] at h)
theorem up_slot {k j : Nat} (h : (j == k) = false) (m : Mem) (a b : Nat) (v : Int) : up m a k v b j = m b j := if_neg (fun q => by simp [q.2] at h)
theorem up_at (m : Mem) (a k j : Nat) (v : Int) : up m a k v a j = if j = k then v else m a j := by
  unfold up
  by_cases e : j = k
  · rw [if_pos ⟨rfl, e⟩, if_pos e]
  · rw [if_neg (fun q => e q.2), if_neg e]
/-- places that hold a reference -/
def isRef (a k : Nat) : Bool := if 10 ≤ shK a then fk (shK a - 10) k == 2 else shK a == 3 || shK a == 4
/-- of these all but the two plans of the class stay as the constructors left them -/
def isCon (a k : Nat) : Bool := isRef a k && !(a == 3 && (k == 3 || k == 4))
def Refs (m : Mem) : Prop := (∀ a k, isCon a k = true → m a k = mo LM a k) ∧ (m 3 3 = 11 ∧ m 3 4 = 40 ∨ m 3 3 = 40 ∧ m 3 4 = 11)
theorem refs0 : Refs (mo LM) := ⟨fun _ _ _ => rfl, by decide +kernel⟩
theorem refs_of {m m2 : Mem} (h : Refs m) (q : ∀ a k, isRef a k = true → m2 a k = m a k) : Refs m2 := by
  refine ⟨fun a k c => ?_, ?_⟩
  · rw [q a k (by unfold isCon at c; simp only [Bool.and_eq_true] at c; exact c.1)]
    exact h.1 a k c
  · rw [q 3 3 (by decide +kernel), q 3 4 (by decide +kernel)]
    exact h.2
theorem refs_up {m : Mem} (h : Refs m) {a k : Nat} (q : isRef a k = false) (v : Int) : Refs (up m a k v) := refs_of h fun b j hb => if_neg (fun e => by rw [e.1, e.2, q] at hb; cases hb)
theorem refs_arr {m : Mem} (h : Refs m) {a : Nat} (q : (shK a == 1 || shK a == 2) = true) (k : Nat) (v : Int) : Refs (up m a k v) := refs_up h (by
  unfold isRef
  simp only [Bool.or_eq_true, beq_iff_eq] at q
  rcases q with q | q <;> rw [q] <;> rfl) v
theorem rc {m : Mem} (h : Refs m) {ci k a : Nat} (r : Nat) (c : (isCon a k && shK a == ci + 10 && decide (k < shN a) && decide (r ≠ 0) && mo LM a k == (r : Int)) = true) : getR ci k a m = some r := by
  simp only [Bool.and_eq_true, beq_iff_eq, decide_eq_true_eq] at c
  obtain ⟨⟨⟨⟨c1, c2⟩, c3⟩, c4⟩, c5⟩ := c
  unfold getR
  rw [h.1 a k c1, c5, if_pos ⟨c2, c3, by exact_mod_cast c4⟩]; rfl
theorem rca {m : Mem} (h : Refs m) {k a : Nat} {i : Int} (hi : i = (k : Int)) (r : Nat) (c : (isCon a k && (shK a == 3 || shK a == 4) && decide (k < shN a) && decide (r ≠ 0) && mo LM a k == (r : Int)) = true) : aldR a i m = some r := by
  simp only [Bool.and_eq_true, Bool.or_eq_true, beq_iff_eq, decide_eq_true_eq] at c
  obtain ⟨⟨⟨⟨c1, c2⟩, c3⟩, c4⟩, c5⟩ := c
  subst hi
  unfold aldR
  have e : ((k : Int).toNat) = k := Int.toNat_natCast k
  rw [e, h.1 a k c1, c5, if_pos ⟨c2, Int.natCast_nonneg k, by exact_mod_cast c3, by exact_mod_cast c4⟩]; rfl
