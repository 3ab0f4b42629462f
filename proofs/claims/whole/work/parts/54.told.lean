/-! fault, octet, sky: what was kept is told alike -/
def FaultEq (m : Mem) : Prop := m 5 9 = m 264 10 ∧ m 5 10 = m 264 11
theorem fault0 : FaultEq (mo LM) := by unfold FaultEq; decide +kernel
theorem fault_ok {m : Mem} (h : Refs m) (f : FaultEq m) (a : Int) : ∃ v, X10_fault 3 a m = some v ∧ X11_fault 264 a m = some v := by
  obtain ⟨f1, f2⟩ := f
  unfold X10_fault X11_fault
  rw [isK (k := 20) (by decide +kernel), isK (k := 21) (by decide +kernel), rc h 5 (by decide +kernel)]
  simp only [Option.bind_some]
  rw [gtI (by decide +kernel), gtI (by decide +kernel), gtI (by decide +kernel), gtI (by decide +kernel)]
  simp only [Option.bind_some]
  by_cases q : a = 0
  · exact ⟨m 264 10, by rw [if_pos q, f1], by rw [if_neg (fun e => e q)]⟩
  · by_cases r : a = 1
    · exact ⟨m 264 11, by rw [if_neg q, if_pos r, f2], by rw [if_pos q, if_neg (fun e => e r)]⟩
    · exact ⟨-1, by rw [if_neg q, if_neg r], by rw [if_pos q, if_pos r]⟩
def OutEq (m : Mem) : Prop := m 3 17 = m 264 77 ∧ 0 ≤ m 3 17 ∧ m 3 17 ≤ 65 ∧ ∀ j : Nat, (j : Int) < m 3 17 → m 262 j = m 312 j
theorem out0 : OutEq (mo LM) := by
  have e : mo LM 3 17 = 0 := by decide +kernel
  have e2 : mo LM 264 77 = 0 := by decide +kernel
  exact ⟨by rw [e, e2], by rw [e]; decide, by rw [e]; decide, fun j hj => by rw [e] at hj; omega⟩
theorem octet_ok {m : Mem} (h : Refs m) (o : OutEq m) (a : Int) : ∃ v, X10_octet 3 a m = some v ∧ X11_octet 264 a m = some v := by
  obtain ⟨o1, o2, o3, o4⟩ := o
  unfold X10_octet X11_octet
  rw [isK (k := 20) (by decide +kernel), isK (k := 21) (by decide +kernel), gtI (by decide +kernel), gtI (by decide +kernel), rc h (k := 16) 262 (by decide +kernel), rc h (k := 76) 312 (by decide +kernel)]
  simp only [Option.bind_some]
  rw [wI_of (by unfold inI; omega)]
  by_cases q : a < 0
  · refine ⟨-1, by rw [if_pos q], ?_⟩
    rw [is_0 m (by omega)]
    rfl
  · rw [if_neg q]
    by_cases r : m 3 17 ≤ a
    · refine ⟨-1, by rw [if_pos r], ?_⟩
      rw [is_0 m (by omega)]
      rfl
    · refine ⟨m 262 a.toNat, ?_, ?_⟩
      · rw [if_neg r, arI 65 (by decide +kernel) (by omega) (by omega)]
        rfl
      · rw [is_1 m (by omega) (by omega), arI 70 (by decide +kernel) (by omega) (by omega), o4 a.toNat (by omega)]
        rfl
/-- the island that stands: the class's plan P, the reference's bank b -/
def Bank (m : Mem) (P b : Nat) : Prop := (P = 11 ∧ b = 0 ∨ P = 40 ∧ b = 1) ∧ m 3 3 = (P : Int) ∧ m 264 13 = (b : Int)
theorem bank0 : Bank (mo LM) 11 0 := ⟨Or.inl ⟨rfl, rfl⟩, by decide +kernel, by decide +kernel⟩
theorem plan_of {m : Mem} {P b : Nat} (B : Bank m P b) : getR 10 3 3 m = some P := by
  obtain ⟨B1, B2, B3⟩ := B
  exact gtR P B2 (by rcases B1 with ⟨e, _⟩ | ⟨e, _⟩ <;> subst e <;> decide +kernel)
theorem bank_of {m : Mem} {P b : Nat} (B : Bank m P b) : getI 11 13 264 m = some (b : Int) := by
  rw [gtI (by decide +kernel), B.2.2]
/-- the sky as told, hour by hour -/
def SkyEq (m : Mem) (P b : Nat) : Prop := ∀ k : Nat, 1 ≤ k → k ≤ 12 → m (P + 22) k = m 279 (12 * b + k - 1)
theorem hour_1 {a : Int} (m : Mem) (h0 : 1 ≤ a) (h1 : a ≤ 12) : X10_isHour a m = some 1 := by
  unfold X10_isHour
  rw [if_neg (by omega), if_neg (by omega)]
  rfl
theorem hour_0 {a : Int} (m : Mem) (h : a < 1 ∨ 12 < a) : X10_isHour a m = some 0 := by
  unfold X10_isHour
  by_cases q : a < 1
  · rw [if_pos q]
    rfl
  · rw [if_neg q, if_pos (by omega)]
    rfl
theorem sky_of {m : Mem} {P b : Nat} (h : Refs m) (B : Bank m P b) : getR 5 15 P m = some (P + 22) := by
  rcases B.1 with ⟨e, _⟩ | ⟨e, _⟩
  · subst e
    exact rc h 33 (by decide +kernel)
  · subst e
    exact rc h 62 (by decide +kernel)
theorem sky_len {m : Mem} {P b : Nat} (B : Bank m P b) : (shK (P + 22) == 1 && shN (P + 22) == 13) = true := by
  rcases B.1 with ⟨e, _⟩ | ⟨e, _⟩
  · subst e
    decide +kernel
  · subst e
    decide +kernel
theorem sky_x {m : Mem} {P b : Nat} (h : Refs m) (B : Bank m P b) {a : Int} (h0 : 1 ≤ a) (h1 : a ≤ 12) : X10_sky 3 a m = some (m (P + 22) a.toNat) := by
  unfold X10_sky
  rw [isK (k := 20) (by decide +kernel), hour_1 m h0 h1, plan_of B]
  simp only [Option.bind_some]
  rw [if_neg (by decide), sky_of h B]
  simp only [Option.bind_some]
  rw [arI 13 (sky_len B) (by omega) (by omega)]
  simp only [Option.bind_some]
theorem sky_m {m : Mem} {P b : Nat} (h : Refs m) (B : Bank m P b) {a : Int} (h0 : 1 ≤ a) (h1 : a ≤ 12) : X11_sky 264 a m = some (m 279 (12 * (b : Int) + a - 1).toNat) := by
  have hb : b ≤ 1 := by rcases B.1 with e | e <;> omega
  have e : wI (wI (wI (12 * (b : Int)) + a) - 1) = 12 * (b : Int) + a - 1 := by
    rw [wI_of (x := 12 * (b : Int)) (by unfold inI; omega), wI_of (x := 12 * (b : Int) + a) (by unfold inI; omega), wI_of (by unfold inI; omega)]
  have e2 : aldI 279 (12 * (b : Int) + a - 1) m = some (m 279 (12 * (b : Int) + a - 1).toNat) := arI 24 (by decide +kernel) (by omega) (by omega) m
  unfold X11_sky
  rw [isK (k := 21) (by decide +kernel), is_1 m h0 h1, Option.bind_some, if_neg (by decide), rc h (k := 27) 279 (by decide +kernel), Option.bind_some, bank_of B, Option.bind_some, e, e2, Option.bind_some]
theorem sky_ok {m : Mem} {P b : Nat} (h : Refs m) (B : Bank m P b) (K : SkyEq m P b) (a : Int) : ∃ v, X10_sky 3 a m = some v ∧ X11_sky 264 a m = some v := by
  by_cases q : 1 ≤ a ∧ a ≤ 12
  · refine ⟨m (P + 22) a.toNat, sky_x h B q.1 q.2, ?_⟩
    rw [sky_m h B q.1 q.2, K a.toNat (by omega) (by omega), show (12 * (b : Int) + a - 1).toNat = 12 * b + a.toNat - 1 from by omega]
  · refine ⟨-1, ?_, ?_⟩
    · unfold X10_sky
      rw [isK (k := 20) (by decide +kernel), hour_0 m (by omega), Option.bind_some, if_pos rfl]
    · unfold X11_sky
      rw [isK (k := 21) (by decide +kernel), is_0 m (by omega), Option.bind_some, if_pos rfl]
