/-! the counts of what was refused: refuse, status, seed, octet's bounds -/
def Refd (m : Mem) : Prop := ∀ j, j < 6 → m 263 j = m 295 j
theorem refd0 : Refd (mo LM) := by unfold Refd; decide +kernel
theorem refuse_x {m : Mem} (h : Refs m) {s : Int} (h0 : 0 ≤ s) (h1 : s < 6) : X10_refuse 3 s m = some (-1, up m 263 s.toNat (wI (m 263 s.toNat + 1))) := by
  unfold X10_refuse
  rw [isK (k := 20) (by decide +kernel), if_neg (by omega), rc h 263 (by decide +kernel)]
  simp only [Option.bind_some]
  rw [arN 6 (by decide +kernel)]
  simp only [Option.bind_some]
  rw [if_neg (by omega), arI 6 (by decide +kernel) h0 (by omega)]
  simp only [Option.bind_some]
  rw [asI 6 (by decide +kernel) h0 (by omega)]
  rfl
theorem refuse_m {m : Mem} (h : Refs m) {s : Int} (h0 : 0 ≤ s) (h1 : s < 6) : X11_refuses 264 s m = some (-1, up m 295 s.toNat (wI (m 295 s.toNat + 1))) := by
  unfold X11_refuses
  rw [isK (k := 21) (by decide +kernel), rc h 295 (by decide +kernel)]
  simp only [Option.bind_some]
  rw [arI 6 (by decide +kernel) h0 (by omega)]
  simp only [Option.bind_some]
  rw [asI 6 (by decide +kernel) h0 (by omega)]
  rfl
theorem is_m {a b c : Int} (m : Mem) : X11_is a b c m = some (if b ≤ a ∧ a ≤ c then 1 else 0) := by
  unfold X11_is
  by_cases q : b ≤ a <;> by_cases r : a ≤ c <;> simp [q, r, z0, z1] <;> omega
theorem status_ok {m : Mem} (h : Refs m) (hr : Refd m) (a : Int) : ∃ v, X10_status 3 a m = some v ∧ X11_status 264 a m = some v := by
  unfold X10_status X11_status
  rw [isK (k := 20) (by decide +kernel), isK (k := 21) (by decide +kernel), is_m, rc h (k := 18) 263 (by decide +kernel), rc h (k := 49) 295 (by decide +kernel)]
  simp only [Option.bind_some]
  rw [arN 6 (by decide +kernel)]
  simp only [Option.bind_some]
  by_cases q : a < 0
  · refine ⟨-1, by rw [if_pos q], by rw [if_neg (by omega), if_pos rfl]⟩
  · rw [if_neg q]
    by_cases r : (6 : Int) ≤ a
    · refine ⟨-1, by rw [if_pos (by exact_mod_cast r)], by rw [if_neg (by omega), if_pos rfl]⟩
    · refine ⟨m 263 a.toNat, ?_, ?_⟩
      · rw [if_neg (by exact_mod_cast r), arI 6 (by decide +kernel) (by omega) (by omega)]
        rfl
      · rw [if_pos (by omega), if_neg (by decide), arI 6 (by decide +kernel) (by omega) (by omega), hr a.toNat (by omega)]
        rfl
