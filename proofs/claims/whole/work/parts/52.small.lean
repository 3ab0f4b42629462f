/-! the counts of what was refused: refuse, status, seed, octet's bounds -/
def Refd (m : Mem) : Prop := ∀ j, j < 6 → m 263 j = m 295 j
theorem refd0 : Refd (mo LM) := by unfold Refd; decide +kernel
theorem refuse_x {m : Mem} (h : Refs m) {s : Int} (h0 : 0 ≤ s) (h1 : s < 6) : X10_refuse 3 s m = some (-1, up m 263 s.toNat (wI (m 263 s.toNat + 1))) := by
  unfold X10_refuse
  rw [isK (k := 20) (by decide +kernel), if_neg (by omega), rc h 263 (by decide +kernel)]
  simp only [Option.bind_some]
  rw [arN 6 (by decide +kernel)]
  simp only [Option.bind_some]
  rw [if_neg (by omega), arI 6 (by decide +kernel) h0 (by omega)]
  simp only [Option.bind_some]
  rw [asI 6 (by decide +kernel) h0 (by omega)]
  rfl
theorem refuse_m {m : Mem} (h : Refs m) {s : Int} (h0 : 0 ≤ s) (h1 : s < 6) : X11_refuses 264 s m = some (-1, up m 295 s.toNat (wI (m 295 s.toNat + 1))) := by
  unfold X11_refuses
  rw [isK (k := 21) (by decide +kernel), rc h 295 (by decide +kernel)]
  simp only [Option.bind_some]
  rw [arI 6 (by decide +kernel) h0 (by omega)]
  simp only [Option.bind_some]
  rw [asI 6 (by decide +kernel) h0 (by omega)]
  rfl
theorem is_1 {a b c : Int} (m : Mem) (h0 : b ≤ a) (h1 : a ≤ c) : X11_is a b c m = some 1 := by
  unfold X11_is
  rw [if_neg (by omega), if_neg (by omega)]
  rfl
theorem is_0 {a b c : Int} (m : Mem) (h : a < b ∨ c < a) : X11_is a b c m = some 0 := by
  unfold X11_is
  by_cases q : a < b
  · rw [if_pos q]
    rfl
  · rw [if_neg q, if_pos (by omega)]
    rfl
theorem status_ok {m : Mem} (h : Refs m) (hr : Refd m) (a : Int) : ∃ v, X10_status 3 a m = some v ∧ X11_status 264 a m = some v := by
  unfold X10_status X11_status
  rw [isK (k := 20) (by decide +kernel), isK (k := 21) (by decide +kernel), rc h (k := 18) 263 (by decide +kernel), rc h (k := 49) 295 (by decide +kernel)]
  simp only [Option.bind_some]
  rw [arN 6 (by decide +kernel)]
  simp only [Option.bind_some]
  by_cases q : a < 0
  · refine ⟨-1, by rw [if_pos q], ?_⟩
    rw [is_0 m (by omega)]
    rfl
  · rw [if_neg q]
    by_cases r : (6 : Int) ≤ a
    · refine ⟨-1, by rw [if_pos (by exact_mod_cast r)], ?_⟩
      rw [is_0 m (by omega)]
      rfl
    · refine ⟨m 263 a.toNat, ?_, ?_⟩
      · rw [if_neg (by exact_mod_cast r), arI 6 (by decide +kernel) (by omega) (by omega)]
        rfl
      · rw [is_1 m (by omega) (by omega), arI 6 (by decide +kernel) (by omega) (by omega), hr a.toNat (by omega)]
        rfl
/-- both count the same refusal -/
theorem refd_both {m : Mem} (hr : Refd m) (s : Nat) : Refd (up (up m 263 s (wI (m 263 s + 1))) 295 s (wI (m 295 s + 1))) := by
  intro j hj
  rw [up_obj (by decide), up_at, up_at]
  by_cases e : j = s
  · subst e
    rw [if_pos rfl, if_pos rfl, hr j hj]
  · rw [if_neg e, if_neg e, up_obj (by decide), hr j hj]
/-- the seed -/
def SeedEq (m : Mem) : Prop := m 3 8 = m 264 56 ∧ inI (m 264 56)
theorem seed0 : SeedEq (mo LM) := by unfold SeedEq inI; decide +kernel
/-- what a refusal of both leaves -/
def both (m : Mem) (s : Nat) : Mem := up (up m 263 s (wI (m 263 s + 1))) 295 s (wI (m 295 s + 1))
theorem refuse_m_x {m : Mem} (h : Refs m) {s : Int} (h0 : 0 ≤ s) (h1 : s < 6) : X11_refuses 264 s (up m 263 s.toNat (wI (m 263 s.toNat + 1))) = some (-1, both m s.toNat) := by
  rw [refuse_m (refs_arr h (by decide +kernel) _ _) h0 h1]
  unfold both
  rw [up_obj (a := 263) (b := 295) (by decide)]
theorem seed_ok {m : Mem} (h : Refs m) (a : Int) : ∃ v m1 m2, X10_seed 3 a m = some (v, m1) ∧ X11_seed 264 a m1 = some (v, m2) ∧ (m2 = both m 5 ∨ m2 = up (up m 3 8 a) 264 56 a) := by
  unfold X10_seed X11_seed
  rw [isK (k := 20) (by decide +kernel)]
  by_cases q : 0 ≤ a
  · rw [if_pos q]
    refine ⟨1, up m 3 8 a, up (up m 3 8 a) 264 56 a, ?_, ?_, Or.inr rfl⟩
    · rw [ptI (by decide +kernel)]
      rfl
    · rw [isK (k := 21) (by decide +kernel), if_pos q, ptI (by decide +kernel)]
      rfl
  · rw [if_neg q]
    refine ⟨0, up m 263 5 (wI (m 263 5 + 1)), both m 5, ?_, ?_, Or.inl rfl⟩
    · rw [refuse_x h (by decide) (by decide)]
      rfl
    · have e := refuse_m_x h (s := 5) (by decide) (by decide)
      rw [isK (k := 21) (by decide +kernel), if_neg q, show X11_refuses 264 5 (up m 263 5 (wI (m 263 5 + 1))) = some (-1, both m 5) from e]
      rfl
