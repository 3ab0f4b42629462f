/-! what dried is what came less what is there -/
def din (I : Isl) (l : Lnd) (sk : Int → Int) (h : Nat) : Nat → Int
  | 0 => 0
  | t + 1 => din I l sk h t + dri I l sk (l 1 t) (I 10 t) h
def drA (I : Isl) (l : Lnd) (sk : Int → Int) : Nat → Int
  | 0 => 0
  | h + 1 => drA I l sk h + din I l sk h (nT I)
def wtA (I : Isl) (l : Lnd) (sk : Int → Int) (h : Nat) : Nat → Int
  | 0 => 0
  | t + 1 => wtA I l sk h t + dwt I l sk (l 1 t) (I 10 t) h
theorem wtA_0 (I : Isl) (l : Lnd) (sk : Int → Int) (t : Nat) : wtA I l sk 0 t = 0 := by
  induction t with
  | zero => rfl
  | succ t ih =>
    show wtA I l sk 0 t + 0 = 0
    omega
theorem wtA_12 (I : Isl) (l : Lnd) (sk : Int → Int) (t : Nat) : wtA I l sk 12 t = dwA I l sk t := by
  induction t with
  | zero => rfl
  | succ t ih =>
    show wtA I l sk 12 t + dwt I l sk (l 1 t) (I 10 t) 12 = dwA I l sk t + dwt I l sk (l 1 t) (I 10 t) 12
    rw [ih]
theorem din_e (I : Isl) (l : Lnd) (sk : Int → Int) (h t : Nat) : din I l sk h t = cin I l sk h t + wtA I l sk h t - wtA I l sk (h + 1) t := by
  induction t with
  | zero => rfl
  | succ t ih =>
    have e1 : din I l sk h (t + 1) = din I l sk h t + dri I l sk (l 1 t) (I 10 t) h := rfl
    have e2 : cin I l sk h (t + 1) = cin I l sk h t + cam I l sk (l 1 t) (I 10 t) h := rfl
    have e3 : wtA I l sk h (t + 1) = wtA I l sk h t + dwt I l sk (l 1 t) (I 10 t) h := rfl
    have e4 : wtA I l sk (h + 1) (t + 1) = wtA I l sk (h + 1) t + dwt I l sk (l 1 t) (I 10 t) (h + 1) := rfl
    have e5 := dwt_s I l sk (l 1 t) (I 10 t) h
    omega
theorem drA_e (I : Isl) (l : Lnd) (sk : Int → Int) (h : Nat) : drA I l sk h = cmA I l sk h - wtA I l sk h (nT I) := by
  induction h with
  | zero =>
    have := wtA_0 I l sk (nT I)
    show (0 : Int) = 0 - wtA I l sk 0 (nT I)
    omega
  | succ h ih =>
    have e1 : drA I l sk (h + 1) = drA I l sk h + din I l sk h (nT I) := rfl
    have e2 : cmA I l sk (h + 1) = cmA I l sk h + cinA I l sk h := rfl
    have e3 := din_e I l sk h (nT I)
    have e4 : cinA I l sk h = cin I l sk h (nT I) := rfl
    omega
theorem drA_12 (I : Isl) (l : Lnd) (sk : Int → Int) : drA I l sk 12 = cmA I l sk 12 - dwA I l sk (nT I) := by
  rw [drA_e, wtA_12]
theorem din_in (I : Isl) (l : Lnd) (sk : Int → Int) (h t : Nat) (hh : h ≤ 12) : 0 ≤ din I l sk h t ∧ din I l sk h t ≤ 2000 * t := by
  induction t with
  | zero => exact ⟨Int.le_refl _, Int.le_refl _⟩
  | succ t ih =>
    have b := dwt_in I l sk (l 1 t) (I 10 t) h
    have e : din I l sk h (t + 1) = din I l sk h t + dri I l sk (l 1 t) (I 10 t) h := rfl
    omega
theorem drA_in {I : Isl} (n : Cn I) (l : Lnd) (sk : Int → Int) (h : Nat) (hh : h ≤ 12) : 0 ≤ drA I l sk h ∧ drA I l sk h ≤ 20000 * h := by
  obtain ⟨n1, n2, n3, n4, n5, n6⟩ := id n
  induction h with
  | zero => exact ⟨Int.le_refl _, Int.le_refl _⟩
  | succ h ih =>
    have b := din_in I l sk h (nT I) (by omega)
    have e : drA I l sk (h + 1) = drA I l sk h + din I l sk h (nT I) := rfl
    have := ih (by omega)
    omega
