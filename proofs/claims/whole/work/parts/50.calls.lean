/-! the law as its 33 calls: what is owed of each -/
theorem sld_ok {xs : Nat → Int} {LL : Nat} {i : Int} (h : 0 ≤ i ∧ i < LL) : sld xs LL i = some (xs i.toNat) := if_pos h
theorem wI_near {LL : Nat} (hL : LL ≤ 3072) {l3 : Int} (h0 : 0 ≤ l3) (h1 : l3 + 6 ≤ LL) {k : Int} (k0 : 0 ≤ k) (k1 : k ≤ 5) : wI (l3 + k) = l3 + k := wI_of (by unfold inI; omega)
theorem sld_near {xs : Nat → Int} {LL : Nat} (hL : LL ≤ 3072) {l3 : Int} (h0 : 0 ≤ l3) (h1 : l3 + 6 ≤ LL) {k : Int} (k0 : 0 ≤ k) (k1 : k ≤ 5) : sld xs LL (wI (l3 + k)) = some (xs (l3 + k).toNat) := by
  rw [wI_near hL h0 h1 k0 k1]
  exact sld_ok ⟨by omega, by omega⟩
def StepOf (Inv : Mem → Prop) (xs : Nat → Int) (LL : Nat) (law : (Int → Mem → Option Mem) → Int → Mem → Option Mem) : Prop := ∀ (kk : Int → Mem → Option Mem) (l3 : Int) (m : Mem), Inv m → 0 ≤ l3 → l3 + 6 ≤ LL → ∃ m2, Inv m2 ∧ law kk l3 m = kk l3 m2
def Call_0 (N : Nat) (Inv : Mem → Prop) : Prop := ∀ m, Inv m → ∀ (a1 a2 a3 a4 a5 : Int), inI a1 → inI a2 → inI a3 → inI a4 → inI a5 → ∃ v m1 m2, X10_feed N 3 a1 a2 a3 a4 a5 m = some (v, m1) ∧ X11_feed N 264 a1 a2 a3 a4 a5 m1 = some (v, m2) ∧ Inv m2
theorem step_0 {N : Nat} {Inv : Mem → Prop} {xs : Nat → Int} {LL : Nat} (hL : LL ≤ 3072) (hx : ∀ j, inI (xs j)) (c : Call_0 N Inv) : StepOf Inv xs LL (law_0 N xs LL) := by
  intro kk l3 m hI h0 h1
  obtain ⟨v, m1, m2, e1, e2, hI2⟩ := c m hI (xs (l3 + 1).toNat) (xs (l3 + 2).toNat) (xs (l3 + 3).toNat) (xs (l3 + 4).toNat) (xs (l3 + 5).toNat) (hx _) (hx _) (hx _) (hx _) (hx _)
  refine ⟨m2, hI2, ?_⟩
  unfold law_0
  simp only [sld_near (xs := xs) hL h0 h1 (k := 1) (by decide) (by decide), sld_near (xs := xs) hL h0 h1 (k := 2) (by decide) (by decide), sld_near (xs := xs) hL h0 h1 (k := 3) (by decide) (by decide), sld_near (xs := xs) hL h0 h1 (k := 4) (by decide) (by decide), sld_near (xs := xs) hL h0 h1 (k := 5) (by decide) (by decide), Option.bind_some, e1, e2, if_true]
def Call_1 (N : Nat) (Inv : Mem → Prop) : Prop := ∀ m, Inv m → ∀ (a1 : Int), inI a1 → ∃ v m1 m2, X10_end 3 a1 m = some (v, m1) ∧ X11_end 264 a1 m1 = some (v, m2) ∧ Inv m2
theorem step_1 {N : Nat} {Inv : Mem → Prop} {xs : Nat → Int} {LL : Nat} (hL : LL ≤ 3072) (hx : ∀ j, inI (xs j)) (c : Call_1 N Inv) : StepOf Inv xs LL (law_1 N xs LL) := by
  intro kk l3 m hI h0 h1
  obtain ⟨v, m1, m2, e1, e2, hI2⟩ := c m hI (xs (l3 + 1).toNat) (hx _)
  refine ⟨m2, hI2, ?_⟩
  unfold law_1
  simp only [sld_near (xs := xs) hL h0 h1 (k := 1) (by decide) (by decide), Option.bind_some, e1, e2, if_true]
def Call_2 (N : Nat) (Inv : Mem → Prop) : Prop := ∀ m, Inv m → ∃ v m1 m2, X10_island N 3 m = some (v, m1) ∧ X11_island N 264 m1 = some (v, m2) ∧ Inv m2
theorem step_2 {N : Nat} {Inv : Mem → Prop} {xs : Nat → Int} {LL : Nat} (hL : LL ≤ 3072) (hx : ∀ j, inI (xs j)) (c : Call_2 N Inv) : StepOf Inv xs LL (law_2 N xs LL) := by
  intro kk l3 m hI h0 h1
  obtain ⟨v, m1, m2, e1, e2, hI2⟩ := c m hI  
  refine ⟨m2, hI2, ?_⟩
  unfold law_2
  simp only [Option.bind_some, e1, e2, if_true]
def Call_3 (N : Nat) (Inv : Mem → Prop) : Prop := ∀ m, Inv m → ∀ (a1 : Int), inI a1 → ∃ v, X10_fault 3 a1 m = some v ∧ X11_fault 264 a1 m = some v
theorem step_3 {N : Nat} {Inv : Mem → Prop} {xs : Nat → Int} {LL : Nat} (hL : LL ≤ 3072) (hx : ∀ j, inI (xs j)) (c : Call_3 N Inv) : StepOf Inv xs LL (law_3 N xs LL) := by
  intro kk l3 m hI h0 h1
  obtain ⟨v, e1, e2⟩ := c m hI (xs (l3 + 1).toNat) (hx _)
  refine ⟨m, hI, ?_⟩
  unfold law_3
  simp only [sld_near (xs := xs) hL h0 h1 (k := 1) (by decide) (by decide), Option.bind_some, e1, e2, if_true]
def Call_4 (N : Nat) (Inv : Mem → Prop) : Prop := ∀ m, Inv m → ∀ (a1 : Int), inI a1 → ∃ v, X10_has N 3 a1 m = some v ∧ X11_has N 264 a1 m = some v
theorem step_4 {N : Nat} {Inv : Mem → Prop} {xs : Nat → Int} {LL : Nat} (hL : LL ≤ 3072) (hx : ∀ j, inI (xs j)) (c : Call_4 N Inv) : StepOf Inv xs LL (law_4 N xs LL) := by
  intro kk l3 m hI h0 h1
  obtain ⟨v, e1, e2⟩ := c m hI (xs (l3 + 1).toNat) (hx _)
  refine ⟨m, hI, ?_⟩
  unfold law_4
  simp only [sld_near (xs := xs) hL h0 h1 (k := 1) (by decide) (by decide), Option.bind_some, e1, e2, if_true]
def Call_5 (N : Nat) (Inv : Mem → Prop) : Prop := ∀ m, Inv m → ∀ (a1 a2 a3 : Int), inI a1 → inI a2 → inI a3 → ∃ v, X10_letter 3 a1 a2 a3 m = some v ∧ X11_letter N 264 a1 a2 a3 m = some v
theorem step_5 {N : Nat} {Inv : Mem → Prop} {xs : Nat → Int} {LL : Nat} (hL : LL ≤ 3072) (hx : ∀ j, inI (xs j)) (c : Call_5 N Inv) : StepOf Inv xs LL (law_5 N xs LL) := by
  intro kk l3 m hI h0 h1
  obtain ⟨v, e1, e2⟩ := c m hI (xs (l3 + 1).toNat) (xs (l3 + 2).toNat) (xs (l3 + 3).toNat) (hx _) (hx _) (hx _)
  refine ⟨m, hI, ?_⟩
  unfold law_5
  simp only [sld_near (xs := xs) hL h0 h1 (k := 1) (by decide) (by decide), sld_near (xs := xs) hL h0 h1 (k := 2) (by decide) (by decide), sld_near (xs := xs) hL h0 h1 (k := 3) (by decide) (by decide), Option.bind_some, e1, e2, if_true]
def Call_6 (N : Nat) (Inv : Mem → Prop) : Prop := ∀ m, Inv m → ∀ (a1 a2 : Int), inI a1 → inI a2 → ∃ v, X10_cell N 3 a1 a2 m = some v ∧ X11_cell N 264 a1 a2 m = some v
theorem step_6 {N : Nat} {Inv : Mem → Prop} {xs : Nat → Int} {LL : Nat} (hL : LL ≤ 3072) (hx : ∀ j, inI (xs j)) (c : Call_6 N Inv) : StepOf Inv xs LL (law_6 N xs LL) := by
  intro kk l3 m hI h0 h1
  obtain ⟨v, e1, e2⟩ := c m hI (xs (l3 + 1).toNat) (xs (l3 + 2).toNat) (hx _) (hx _)
  refine ⟨m, hI, ?_⟩
  unfold law_6
  simp only [sld_near (xs := xs) hL h0 h1 (k := 1) (by decide) (by decide), sld_near (xs := xs) hL h0 h1 (k := 2) (by decide) (by decide), Option.bind_some, e1, e2, if_true]
def Call_7 (N : Nat) (Inv : Mem → Prop) : Prop := ∀ m, Inv m → ∀ (a1 a2 : Int), inI a1 → inI a2 → ∃ v m1 m2, X10_thing N 3 a1 a2 m = some (v, m1) ∧ X11_thing N 264 a1 a2 m1 = some (v, m2) ∧ Inv m2
theorem step_7 {N : Nat} {Inv : Mem → Prop} {xs : Nat → Int} {LL : Nat} (hL : LL ≤ 3072) (hx : ∀ j, inI (xs j)) (c : Call_7 N Inv) : StepOf Inv xs LL (law_7 N xs LL) := by
  intro kk l3 m hI h0 h1
  obtain ⟨v, m1, m2, e1, e2, hI2⟩ := c m hI (xs (l3 + 1).toNat) (xs (l3 + 2).toNat) (hx _) (hx _)
  refine ⟨m2, hI2, ?_⟩
  unfold law_7
  simp only [sld_near (xs := xs) hL h0 h1 (k := 1) (by decide) (by decide), sld_near (xs := xs) hL h0 h1 (k := 2) (by decide) (by decide), Option.bind_some, e1, e2, if_true]
def Call_8 (N : Nat) (Inv : Mem → Prop) : Prop := ∀ m, Inv m → ∀ (a1 a2 : Int), inI a1 → inI a2 → ∃ v m1 m2, X10_cistern N 3 a1 a2 m = some (v, m1) ∧ X11_cistern N 264 a1 a2 m1 = some (v, m2) ∧ Inv m2
theorem step_8 {N : Nat} {Inv : Mem → Prop} {xs : Nat → Int} {LL : Nat} (hL : LL ≤ 3072) (hx : ∀ j, inI (xs j)) (c : Call_8 N Inv) : StepOf Inv xs LL (law_8 N xs LL) := by
  intro kk l3 m hI h0 h1
  obtain ⟨v, m1, m2, e1, e2, hI2⟩ := c m hI (xs (l3 + 1).toNat) (xs (l3 + 2).toNat) (hx _) (hx _)
  refine ⟨m2, hI2, ?_⟩
  unfold law_8
  simp only [sld_near (xs := xs) hL h0 h1 (k := 1) (by decide) (by decide), sld_near (xs := xs) hL h0 h1 (k := 2) (by decide) (by decide), Option.bind_some, e1, e2, if_true]
def Call_9 (N : Nat) (Inv : Mem → Prop) : Prop := ∀ m, Inv m → ∀ (a1 : Int), inI a1 → ∃ v, X10_sky 3 a1 m = some v ∧ X11_sky 264 a1 m = some v
theorem step_9 {N : Nat} {Inv : Mem → Prop} {xs : Nat → Int} {LL : Nat} (hL : LL ≤ 3072) (hx : ∀ j, inI (xs j)) (c : Call_9 N Inv) : StepOf Inv xs LL (law_9 N xs LL) := by
  intro kk l3 m hI h0 h1
  obtain ⟨v, e1, e2⟩ := c m hI (xs (l3 + 1).toNat) (hx _)
  refine ⟨m, hI, ?_⟩
  unfold law_9
  simp only [sld_near (xs := xs) hL h0 h1 (k := 1) (by decide) (by decide), Option.bind_some, e1, e2, if_true]
def Call_10 (N : Nat) (Inv : Mem → Prop) : Prop := ∀ m, Inv m → ∀ (a1 a2 : Int), inI a1 → inI a2 → ∃ v m1 m2, X10_cold N 3 a1 a2 m = some (v, m1) ∧ X11_cold N 264 a1 a2 m1 = some (v, m2) ∧ Inv m2
theorem step_10 {N : Nat} {Inv : Mem → Prop} {xs : Nat → Int} {LL : Nat} (hL : LL ≤ 3072) (hx : ∀ j, inI (xs j)) (c : Call_10 N Inv) : StepOf Inv xs LL (law_10 N xs LL) := by
  intro kk l3 m hI h0 h1
  obtain ⟨v, m1, m2, e1, e2, hI2⟩ := c m hI (xs (l3 + 1).toNat) (xs (l3 + 2).toNat) (hx _) (hx _)
  refine ⟨m2, hI2, ?_⟩
  unfold law_10
  simp only [sld_near (xs := xs) hL h0 h1 (k := 1) (by decide) (by decide), sld_near (xs := xs) hL h0 h1 (k := 2) (by decide) (by decide), Option.bind_some, e1, e2, if_true]
def Call_11 (N : Nat) (Inv : Mem → Prop) : Prop := ∀ m, Inv m → ∀ (a1 a2 a3 : Int), inI a1 → inI a2 → inI a3 → ∃ v m1 m2, X10_dew N 3 a1 a2 a3 m = some (v, m1) ∧ X11_dew N 264 a1 a2 a3 m1 = some (v, m2) ∧ Inv m2
theorem step_11 {N : Nat} {Inv : Mem → Prop} {xs : Nat → Int} {LL : Nat} (hL : LL ≤ 3072) (hx : ∀ j, inI (xs j)) (c : Call_11 N Inv) : StepOf Inv xs LL (law_11 N xs LL) := by
  intro kk l3 m hI h0 h1
  obtain ⟨v, m1, m2, e1, e2, hI2⟩ := c m hI (xs (l3 + 1).toNat) (xs (l3 + 2).toNat) (xs (l3 + 3).toNat) (hx _) (hx _) (hx _)
  refine ⟨m2, hI2, ?_⟩
  unfold law_11
  simp only [sld_near (xs := xs) hL h0 h1 (k := 1) (by decide) (by decide), sld_near (xs := xs) hL h0 h1 (k := 2) (by decide) (by decide), sld_near (xs := xs) hL h0 h1 (k := 3) (by decide) (by decide), Option.bind_some, e1, e2, if_true]
def Call_12 (N : Nat) (Inv : Mem → Prop) : Prop := ∀ m, Inv m → ∀ (a1 : Int), inI a1 → ∃ v m1 m2, X10_whole N 3 a1 m = some (v, m1) ∧ X11_whole N 264 a1 m1 = some (v, m2) ∧ Inv m2
theorem step_12 {N : Nat} {Inv : Mem → Prop} {xs : Nat → Int} {LL : Nat} (hL : LL ≤ 3072) (hx : ∀ j, inI (xs j)) (c : Call_12 N Inv) : StepOf Inv xs LL (law_12 N xs LL) := by
  intro kk l3 m hI h0 h1
  obtain ⟨v, m1, m2, e1, e2, hI2⟩ := c m hI (xs (l3 + 1).toNat) (hx _)
  refine ⟨m2, hI2, ?_⟩
  unfold law_12
  simp only [sld_near (xs := xs) hL h0 h1 (k := 1) (by decide) (by decide), Option.bind_some, e1, e2, if_true]
def Call_13 (N : Nat) (Inv : Mem → Prop) : Prop := ∀ m, Inv m → ∀ (a1 a2 : Int), inI a1 → inI a2 → ∃ v m1 m2, X10_hang N 3 a1 a2 m = some (v, m1) ∧ X11_hang N 264 a1 a2 m1 = some (v, m2) ∧ Inv m2
theorem step_13 {N : Nat} {Inv : Mem → Prop} {xs : Nat → Int} {LL : Nat} (hL : LL ≤ 3072) (hx : ∀ j, inI (xs j)) (c : Call_13 N Inv) : StepOf Inv xs LL (law_13 N xs LL) := by
  intro kk l3 m hI h0 h1
  obtain ⟨v, m1, m2, e1, e2, hI2⟩ := c m hI (xs (l3 + 1).toNat) (xs (l3 + 2).toNat) (hx _) (hx _)
  refine ⟨m2, hI2, ?_⟩
  unfold law_13
  simp only [sld_near (xs := xs) hL h0 h1 (k := 1) (by decide) (by decide), sld_near (xs := xs) hL h0 h1 (k := 2) (by decide) (by decide), Option.bind_some, e1, e2, if_true]
def Call_14 (N : Nat) (Inv : Mem → Prop) : Prop := ∀ m, Inv m → ∀ (a1 b : Int), inI a1 → (b = 0 ∨ b = 1) → ∃ v m1 m2, X10_wall N 3 a1 b m = some (v, m1) ∧ X11_wall N 264 a1 b m1 = some (v, m2) ∧ Inv m2
theorem step_14 {N : Nat} {Inv : Mem → Prop} {xs : Nat → Int} {LL : Nat} (hL : LL ≤ 3072) (hx : ∀ j, inI (xs j)) (c : Call_14 N Inv) : StepOf Inv xs LL (law_14 N xs LL) := by
  intro kk l3 m hI h0 h1
  refine if hz : xs (l3 + 2).toNat = 0 then ?_ else ?_
  · obtain ⟨v, m1, m2, e1, e2, hI2⟩ := c m hI (xs (l3 + 1).toNat) 0 (hx _) (by decide)
    refine ⟨m2, hI2, ?_⟩
    unfold law_14
    simp only [sld_near (xs := xs) hL h0 h1 (k := 1) (by decide) (by decide), sld_near (xs := xs) hL h0 h1 (k := 2) (by decide) (by decide), Option.bind_some, hz, e1, e2, if_true, if_false]
  · obtain ⟨v, m1, m2, e1, e2, hI2⟩ := c m hI (xs (l3 + 1).toNat) 1 (hx _) (by decide)
    refine ⟨m2, hI2, ?_⟩
    unfold law_14
    simp only [sld_near (xs := xs) hL h0 h1 (k := 1) (by decide) (by decide), sld_near (xs := xs) hL h0 h1 (k := 2) (by decide) (by decide), Option.bind_some, hz, e1, e2, if_true, if_false]
def Call_15 (N : Nat) (Inv : Mem → Prop) : Prop := ∀ m, Inv m → ∃ v m1 m2, X10_night N 3 m = some (v, m1) ∧ X11_night N 264 m1 = some (v, m2) ∧ Inv m2
theorem step_15 {N : Nat} {Inv : Mem → Prop} {xs : Nat → Int} {LL : Nat} (hL : LL ≤ 3072) (hx : ∀ j, inI (xs j)) (c : Call_15 N Inv) : StepOf Inv xs LL (law_15 N xs LL) := by
  intro kk l3 m hI h0 h1
  obtain ⟨v, m1, m2, e1, e2, hI2⟩ := c m hI  
  refine ⟨m2, hI2, ?_⟩
  unfold law_15
  simp only [Option.bind_some, e1, e2, if_true]
def Call_16 (N : Nat) (Inv : Mem → Prop) : Prop := ∀ m, Inv m → ∀ (a1 : Int), inI a1 → ∃ v m1 m2, X10_nights N 3 a1 m = some (v, m1) ∧ X11_nights N 264 a1 m1 = some (v, m2) ∧ Inv m2
theorem step_16 {N : Nat} {Inv : Mem → Prop} {xs : Nat → Int} {LL : Nat} (hL : LL ≤ 3072) (hx : ∀ j, inI (xs j)) (c : Call_16 N Inv) : StepOf Inv xs LL (law_16 N xs LL) := by
  intro kk l3 m hI h0 h1
  obtain ⟨v, m1, m2, e1, e2, hI2⟩ := c m hI (xs (l3 + 1).toNat) (hx _)
  refine ⟨m2, hI2, ?_⟩
  unfold law_16
  simp only [sld_near (xs := xs) hL h0 h1 (k := 1) (by decide) (by decide), Option.bind_some, e1, e2, if_true]
def Call_17 (N : Nat) (Inv : Mem → Prop) : Prop := ∀ m, Inv m → ∃ v m1 m2, X10_undo 3 m = some (v, m1) ∧ X11_undo N 264 m1 = some (v, m2) ∧ Inv m2
theorem step_17 {N : Nat} {Inv : Mem → Prop} {xs : Nat → Int} {LL : Nat} (hL : LL ≤ 3072) (hx : ∀ j, inI (xs j)) (c : Call_17 N Inv) : StepOf Inv xs LL (law_17 N xs LL) := by
  intro kk l3 m hI h0 h1
  obtain ⟨v, m1, m2, e1, e2, hI2⟩ := c m hI  
  refine ⟨m2, hI2, ?_⟩
  unfold law_17
  simp only [Option.bind_some, e1, e2, if_true]
def Call_18 (N : Nat) (Inv : Mem → Prop) : Prop := ∀ m, Inv m → ∀ (a1 : Int), inI a1 → ∃ v m1 m2, X10_seed 3 a1 m = some (v, m1) ∧ X11_seed 264 a1 m1 = some (v, m2) ∧ Inv m2
theorem step_18 {N : Nat} {Inv : Mem → Prop} {xs : Nat → Int} {LL : Nat} (hL : LL ≤ 3072) (hx : ∀ j, inI (xs j)) (c : Call_18 N Inv) : StepOf Inv xs LL (law_18 N xs LL) := by
  intro kk l3 m hI h0 h1
  obtain ⟨v, m1, m2, e1, e2, hI2⟩ := c m hI (xs (l3 + 1).toNat) (hx _)
  refine ⟨m2, hI2, ?_⟩
  unfold law_18
  simp only [sld_near (xs := xs) hL h0 h1 (k := 1) (by decide) (by decide), Option.bind_some, e1, e2, if_true]
def Call_19 (N : Nat) (Inv : Mem → Prop) : Prop := ∀ m, Inv m → ∀ (a1 : Int), inI a1 → ∃ v m1 m2, X10_order N 3 a1 m = some (v, m1) ∧ X11_order N 264 a1 m1 = some (v, m2) ∧ Inv m2
theorem step_19 {N : Nat} {Inv : Mem → Prop} {xs : Nat → Int} {LL : Nat} (hL : LL ≤ 3072) (hx : ∀ j, inI (xs j)) (c : Call_19 N Inv) : StepOf Inv xs LL (law_19 N xs LL) := by
  intro kk l3 m hI h0 h1
  obtain ⟨v, m1, m2, e1, e2, hI2⟩ := c m hI (xs (l3 + 1).toNat) (hx _)
  refine ⟨m2, hI2, ?_⟩
  unfold law_19
  simp only [sld_near (xs := xs) hL h0 h1 (k := 1) (by decide) (by decide), Option.bind_some, e1, e2, if_true]
def Call_20 (N : Nat) (Inv : Mem → Prop) : Prop := ∀ m, Inv m → ∃ v m1 m2, X10_wrung N 3 m = some (v, m1) ∧ X11_wrung N 264 m1 = some (v, m2) ∧ Inv m2
theorem step_20 {N : Nat} {Inv : Mem → Prop} {xs : Nat → Int} {LL : Nat} (hL : LL ≤ 3072) (hx : ∀ j, inI (xs j)) (c : Call_20 N Inv) : StepOf Inv xs LL (law_20 N xs LL) := by
  intro kk l3 m hI h0 h1
  obtain ⟨v, m1, m2, e1, e2, hI2⟩ := c m hI  
  refine ⟨m2, hI2, ?_⟩
  unfold law_20
  simp only [Option.bind_some, e1, e2, if_true]
def Call_21 (N : Nat) (Inv : Mem → Prop) : Prop := ∀ m, Inv m → ∀ (a1 a2 : Int), inI a1 → inI a2 → ∃ v m1 m2, X10_alike N 3 a1 a2 m = some (v, m1) ∧ X11_alike N 264 a1 a2 m1 = some (v, m2) ∧ Inv m2
theorem step_21 {N : Nat} {Inv : Mem → Prop} {xs : Nat → Int} {LL : Nat} (hL : LL ≤ 3072) (hx : ∀ j, inI (xs j)) (c : Call_21 N Inv) : StepOf Inv xs LL (law_21 N xs LL) := by
  intro kk l3 m hI h0 h1
  obtain ⟨v, m1, m2, e1, e2, hI2⟩ := c m hI (xs (l3 + 1).toNat) (xs (l3 + 2).toNat) (hx _) (hx _)
  refine ⟨m2, hI2, ?_⟩
  unfold law_21
  simp only [sld_near (xs := xs) hL h0 h1 (k := 1) (by decide) (by decide), sld_near (xs := xs) hL h0 h1 (k := 2) (by decide) (by decide), Option.bind_some, e1, e2, if_true]
def Call_22 (N : Nat) (Inv : Mem → Prop) : Prop := ∀ m, Inv m → ∀ (a1 a2 : Int), inI a1 → inI a2 → ∃ v m1 m2, X10_linen N 3 a1 a2 m = some (v, m1) ∧ X11_linen N 264 a1 a2 m1 = some (v, m2) ∧ Inv m2
theorem step_22 {N : Nat} {Inv : Mem → Prop} {xs : Nat → Int} {LL : Nat} (hL : LL ≤ 3072) (hx : ∀ j, inI (xs j)) (c : Call_22 N Inv) : StepOf Inv xs LL (law_22 N xs LL) := by
  intro kk l3 m hI h0 h1
  obtain ⟨v, m1, m2, e1, e2, hI2⟩ := c m hI (xs (l3 + 1).toNat) (xs (l3 + 2).toNat) (hx _) (hx _)
  refine ⟨m2, hI2, ?_⟩
  unfold law_22
  simp only [sld_near (xs := xs) hL h0 h1 (k := 1) (by decide) (by decide), sld_near (xs := xs) hL h0 h1 (k := 2) (by decide) (by decide), Option.bind_some, e1, e2, if_true]
def Call_23 (N : Nat) (Inv : Mem → Prop) : Prop := ∀ m, Inv m → ∀ (a1 a2 : Int), inI a1 → inI a2 → ∃ v m1 m2, X10_down N 3 a1 a2 m = some (v, m1) ∧ X11_down N 264 a1 a2 m1 = some (v, m2) ∧ Inv m2
theorem step_23 {N : Nat} {Inv : Mem → Prop} {xs : Nat → Int} {LL : Nat} (hL : LL ≤ 3072) (hx : ∀ j, inI (xs j)) (c : Call_23 N Inv) : StepOf Inv xs LL (law_23 N xs LL) := by
  intro kk l3 m hI h0 h1
  obtain ⟨v, m1, m2, e1, e2, hI2⟩ := c m hI (xs (l3 + 1).toNat) (xs (l3 + 2).toNat) (hx _) (hx _)
  refine ⟨m2, hI2, ?_⟩
  unfold law_23
  simp only [sld_near (xs := xs) hL h0 h1 (k := 1) (by decide) (by decide), sld_near (xs := xs) hL h0 h1 (k := 2) (by decide) (by decide), Option.bind_some, e1, e2, if_true]
def Call_24 (N : Nat) (Inv : Mem → Prop) : Prop := ∀ m, Inv m → ∀ (a1 : Int), inI a1 → ∃ v m1 m2, X10_best N 3 a1 m = some (v, m1) ∧ X11_best N 264 a1 m1 = some (v, m2) ∧ Inv m2
theorem step_24 {N : Nat} {Inv : Mem → Prop} {xs : Nat → Int} {LL : Nat} (hL : LL ≤ 3072) (hx : ∀ j, inI (xs j)) (c : Call_24 N Inv) : StepOf Inv xs LL (law_24 N xs LL) := by
  intro kk l3 m hI h0 h1
  obtain ⟨v, m1, m2, e1, e2, hI2⟩ := c m hI (xs (l3 + 1).toNat) (hx _)
  refine ⟨m2, hI2, ?_⟩
  unfold law_24
  simp only [sld_near (xs := xs) hL h0 h1 (k := 1) (by decide) (by decide), Option.bind_some, e1, e2, if_true]
def Call_25 (N : Nat) (Inv : Mem → Prop) : Prop := ∀ m, Inv m → ∀ (a1 a2 : Int), inI a1 → inI a2 → ∃ v m1 m2, X10_votes N 3 a1 a2 m = some (v, m1) ∧ X11_votes N 264 a1 a2 m1 = some (v, m2) ∧ Inv m2
theorem step_25 {N : Nat} {Inv : Mem → Prop} {xs : Nat → Int} {LL : Nat} (hL : LL ≤ 3072) (hx : ∀ j, inI (xs j)) (c : Call_25 N Inv) : StepOf Inv xs LL (law_25 N xs LL) := by
  intro kk l3 m hI h0 h1
  obtain ⟨v, m1, m2, e1, e2, hI2⟩ := c m hI (xs (l3 + 1).toNat) (xs (l3 + 2).toNat) (hx _) (hx _)
  refine ⟨m2, hI2, ?_⟩
  unfold law_25
  simp only [sld_near (xs := xs) hL h0 h1 (k := 1) (by decide) (by decide), sld_near (xs := xs) hL h0 h1 (k := 2) (by decide) (by decide), Option.bind_some, e1, e2, if_true]
def Call_26 (N : Nat) (Inv : Mem → Prop) : Prop := ∀ m, Inv m → ∃ v m1 m2, X10_walked N 3 m = some (v, m1) ∧ X11_walked N 264 m1 = some (v, m2) ∧ Inv m2
theorem step_26 {N : Nat} {Inv : Mem → Prop} {xs : Nat → Int} {LL : Nat} (hL : LL ≤ 3072) (hx : ∀ j, inI (xs j)) (c : Call_26 N Inv) : StepOf Inv xs LL (law_26 N xs LL) := by
  intro kk l3 m hI h0 h1
  obtain ⟨v, m1, m2, e1, e2, hI2⟩ := c m hI  
  refine ⟨m2, hI2, ?_⟩
  unfold law_26
  simp only [Option.bind_some, e1, e2, if_true]
def Call_27 (N : Nat) (Inv : Mem → Prop) : Prop := ∀ m, Inv m → ∀ (a1 : Int), inI a1 → ∃ v, X10_walk 3 a1 m = some v ∧ X11_walk 264 a1 m = some v
theorem step_27 {N : Nat} {Inv : Mem → Prop} {xs : Nat → Int} {LL : Nat} (hL : LL ≤ 3072) (hx : ∀ j, inI (xs j)) (c : Call_27 N Inv) : StepOf Inv xs LL (law_27 N xs LL) := by
  intro kk l3 m hI h0 h1
  obtain ⟨v, e1, e2⟩ := c m hI (xs (l3 + 1).toNat) (hx _)
  refine ⟨m, hI, ?_⟩
  unfold law_27
  simp only [sld_near (xs := xs) hL h0 h1 (k := 1) (by decide) (by decide), Option.bind_some, e1, e2, if_true]
def Call_28 (N : Nat) (Inv : Mem → Prop) : Prop := ∀ m, Inv m → ∀ (a1 : Int), inI a1 → ∃ v m1 m2, X10_stores N 3 a1 m = some (v, m1) ∧ X11_stores N 264 a1 m1 = some (v, m2) ∧ Inv m2
theorem step_28 {N : Nat} {Inv : Mem → Prop} {xs : Nat → Int} {LL : Nat} (hL : LL ≤ 3072) (hx : ∀ j, inI (xs j)) (c : Call_28 N Inv) : StepOf Inv xs LL (law_28 N xs LL) := by
  intro kk l3 m hI h0 h1
  obtain ⟨v, m1, m2, e1, e2, hI2⟩ := c m hI (xs (l3 + 1).toNat) (hx _)
  refine ⟨m2, hI2, ?_⟩
  unfold law_28
  simp only [sld_near (xs := xs) hL h0 h1 (k := 1) (by decide) (by decide), Option.bind_some, e1, e2, if_true]
def Call_29 (N : Nat) (Inv : Mem → Prop) : Prop := ∀ m, Inv m → ∃ v m1 m2, X10_image N 3 m = some (v, m1) ∧ X11_image N 264 m1 = some (v, m2) ∧ Inv m2
theorem step_29 {N : Nat} {Inv : Mem → Prop} {xs : Nat → Int} {LL : Nat} (hL : LL ≤ 3072) (hx : ∀ j, inI (xs j)) (c : Call_29 N Inv) : StepOf Inv xs LL (law_29 N xs LL) := by
  intro kk l3 m hI h0 h1
  obtain ⟨v, m1, m2, e1, e2, hI2⟩ := c m hI  
  refine ⟨m2, hI2, ?_⟩
  unfold law_29
  simp only [Option.bind_some, e1, e2, if_true]
def Call_30 (N : Nat) (Inv : Mem → Prop) : Prop := ∀ m, Inv m → ∀ (a1 : Int), inI a1 → ∃ v, X10_octet 3 a1 m = some v ∧ X11_octet 264 a1 m = some v
theorem step_30 {N : Nat} {Inv : Mem → Prop} {xs : Nat → Int} {LL : Nat} (hL : LL ≤ 3072) (hx : ∀ j, inI (xs j)) (c : Call_30 N Inv) : StepOf Inv xs LL (law_30 N xs LL) := by
  intro kk l3 m hI h0 h1
  obtain ⟨v, e1, e2⟩ := c m hI (xs (l3 + 1).toNat) (hx _)
  refine ⟨m, hI, ?_⟩
  unfold law_30
  simp only [sld_near (xs := xs) hL h0 h1 (k := 1) (by decide) (by decide), Option.bind_some, e1, e2, if_true]
def Call_31 (N : Nat) (Inv : Mem → Prop) : Prop := ∀ m, Inv m → ∃ v m1 m2, X10_on N 3 m = some (v, m1) ∧ X11_on N 264 m1 = some (v, m2) ∧ Inv m2
theorem step_31 {N : Nat} {Inv : Mem → Prop} {xs : Nat → Int} {LL : Nat} (hL : LL ≤ 3072) (hx : ∀ j, inI (xs j)) (c : Call_31 N Inv) : StepOf Inv xs LL (law_31 N xs LL) := by
  intro kk l3 m hI h0 h1
  obtain ⟨v, m1, m2, e1, e2, hI2⟩ := c m hI  
  refine ⟨m2, hI2, ?_⟩
  unfold law_31
  simp only [Option.bind_some, e1, e2, if_true]
def Call_32 (N : Nat) (Inv : Mem → Prop) : Prop := ∀ m, Inv m → ∀ (a1 : Int), inI a1 → ∃ v, X10_status 3 a1 m = some v ∧ X11_status 264 a1 m = some v
theorem step_32 {N : Nat} {Inv : Mem → Prop} {xs : Nat → Int} {LL : Nat} (hL : LL ≤ 3072) (hx : ∀ j, inI (xs j)) (c : Call_32 N Inv) : StepOf Inv xs LL (law_32 N xs LL) := by
  intro kk l3 m hI h0 h1
  obtain ⟨v, e1, e2⟩ := c m hI (xs (l3 + 1).toNat) (hx _)
  refine ⟨m, hI, ?_⟩
  unfold law_32
  simp only [sld_near (xs := xs) hL h0 h1 (k := 1) (by decide) (by decide), Option.bind_some, e1, e2, if_true]
def Calls (N : Nat) (Inv : Mem → Prop) : Prop := Call_0 N Inv ∧ Call_1 N Inv ∧ Call_2 N Inv ∧ Call_3 N Inv ∧ Call_4 N Inv ∧ Call_5 N Inv ∧ Call_6 N Inv ∧ Call_7 N Inv ∧ Call_8 N Inv ∧ Call_9 N Inv ∧ Call_10 N Inv ∧ Call_11 N Inv ∧ Call_12 N Inv ∧ Call_13 N Inv ∧ Call_14 N Inv ∧ Call_15 N Inv ∧ Call_16 N Inv ∧ Call_17 N Inv ∧ Call_18 N Inv ∧ Call_19 N Inv ∧ Call_20 N Inv ∧ Call_21 N Inv ∧ Call_22 N Inv ∧ Call_23 N Inv ∧ Call_24 N Inv ∧ Call_25 N Inv ∧ Call_26 N Inv ∧ Call_27 N Inv ∧ Call_28 N Inv ∧ Call_29 N Inv ∧ Call_30 N Inv ∧ Call_31 N Inv ∧ Call_32 N Inv
theorem law_step {N : Nat} {Inv : Mem → Prop} {xs : Nat → Int} {LL : Nat} (hL : LL ≤ 3072) (hx : ∀ j, inI (xs j)) (C : Calls N Inv) (kk : Int → Mem → Option Mem) (l3 : Int) (m : Mem) (hI : Inv m) (h0 : 0 ≤ l3) (h1 : l3 + 6 ≤ LL) : ∃ m2, Inv m2 ∧ law_b N xs LL kk l3 m = kk l3 m2 := by
  obtain ⟨c0, c1, c2, c3, c4, c5, c6, c7, c8, c9, c10, c11, c12, c13, c14, c15, c16, c17, c18, c19, c20, c21, c22, c23, c24, c25, c26, c27, c28, c29, c30, c31, c32⟩ := C
  unfold law_b
  rw [if_neg (by rw [wI_of (by unfold inI; omega)]; omega), sld_ok ⟨h0, by omega⟩, Option.bind_some]
  refine if q0 : iand (xs l3.toNat) 63 = 0 then ?_ else ?_
  · simp only [if_pos q0]
    exact step_0 hL hx c0 kk l3 m hI h0 h1
  refine if q1 : iand (xs l3.toNat) 63 = 1 then ?_ else ?_
  · rw [if_neg q0, if_pos q1]
    exact step_1 hL hx c1 kk l3 m hI h0 h1
  refine if q2 : iand (xs l3.toNat) 63 = 2 then ?_ else ?_
  · rw [if_neg q0, if_neg q1, if_pos q2]
    exact step_2 hL hx c2 kk l3 m hI h0 h1
  refine if q3 : iand (xs l3.toNat) 63 = 3 then ?_ else ?_
  · rw [if_neg q0, if_neg q1, if_neg q2, if_pos q3]
    exact step_3 hL hx c3 kk l3 m hI h0 h1
  refine if q4 : iand (xs l3.toNat) 63 = 4 then ?_ else ?_
  · rw [if_neg q0, if_neg q1, if_neg q2, if_neg q3, if_pos q4]
    exact step_4 hL hx c4 kk l3 m hI h0 h1
  refine if q5 : iand (xs l3.toNat) 63 = 5 then ?_ else ?_
  · rw [if_neg q0, if_neg q1, if_neg q2, if_neg q3, if_neg q4, if_pos q5]
    exact step_5 hL hx c5 kk l3 m hI h0 h1
  refine if q6 : iand (xs l3.toNat) 63 = 6 then ?_ else ?_
  · rw [if_neg q0, if_neg q1, if_neg q2, if_neg q3, if_neg q4, if_neg q5, if_pos q6]
    exact step_6 hL hx c6 kk l3 m hI h0 h1
  refine if q7 : iand (xs l3.toNat) 63 = 7 then ?_ else ?_
  · rw [if_neg q0, if_neg q1, if_neg q2, if_neg q3, if_neg q4, if_neg q5, if_neg q6, if_pos q7]
    exact step_7 hL hx c7 kk l3 m hI h0 h1
  refine if q8 : iand (xs l3.toNat) 63 = 8 then ?_ else ?_
  · rw [if_neg q0, if_neg q1, if_neg q2, if_neg q3, if_neg q4, if_neg q5, if_neg q6, if_neg q7, if_pos q8]
    exact step_8 hL hx c8 kk l3 m hI h0 h1
  refine if q9 : iand (xs l3.toNat) 63 = 9 then ?_ else ?_
  · rw [if_neg q0, if_neg q1, if_neg q2, if_neg q3, if_neg q4, if_neg q5, if_neg q6, if_neg q7, if_neg q8, if_pos q9]
    exact step_9 hL hx c9 kk l3 m hI h0 h1
  refine if q10 : iand (xs l3.toNat) 63 = 10 then ?_ else ?_
  · rw [if_neg q0, if_neg q1, if_neg q2, if_neg q3, if_neg q4, if_neg q5, if_neg q6, if_neg q7, if_neg q8, if_neg q9, if_pos q10]
    exact step_10 hL hx c10 kk l3 m hI h0 h1
  refine if q11 : iand (xs l3.toNat) 63 = 11 then ?_ else ?_
  · rw [if_neg q0, if_neg q1, if_neg q2, if_neg q3, if_neg q4, if_neg q5, if_neg q6, if_neg q7, if_neg q8, if_neg q9, if_neg q10, if_pos q11]
    exact step_11 hL hx c11 kk l3 m hI h0 h1
  refine if q12 : iand (xs l3.toNat) 63 = 12 then ?_ else ?_
  · rw [if_neg q0, if_neg q1, if_neg q2, if_neg q3, if_neg q4, if_neg q5, if_neg q6, if_neg q7, if_neg q8, if_neg q9, if_neg q10, if_neg q11, if_pos q12]
    exact step_12 hL hx c12 kk l3 m hI h0 h1
  refine if q13 : iand (xs l3.toNat) 63 = 13 then ?_ else ?_
  · rw [if_neg q0, if_neg q1, if_neg q2, if_neg q3, if_neg q4, if_neg q5, if_neg q6, if_neg q7, if_neg q8, if_neg q9, if_neg q10, if_neg q11, if_neg q12, if_pos q13]
    exact step_13 hL hx c13 kk l3 m hI h0 h1
  refine if q14 : iand (xs l3.toNat) 63 = 14 then ?_ else ?_
  · rw [if_neg q0, if_neg q1, if_neg q2, if_neg q3, if_neg q4, if_neg q5, if_neg q6, if_neg q7, if_neg q8, if_neg q9, if_neg q10, if_neg q11, if_neg q12, if_neg q13, if_pos q14]
    exact step_14 hL hx c14 kk l3 m hI h0 h1
  refine if q15 : iand (xs l3.toNat) 63 = 15 then ?_ else ?_
  · rw [if_neg q0, if_neg q1, if_neg q2, if_neg q3, if_neg q4, if_neg q5, if_neg q6, if_neg q7, if_neg q8, if_neg q9, if_neg q10, if_neg q11, if_neg q12, if_neg q13, if_neg q14, if_pos q15]
    exact step_15 hL hx c15 kk l3 m hI h0 h1
  refine if q16 : iand (xs l3.toNat) 63 = 16 then ?_ else ?_
  · rw [if_neg q0, if_neg q1, if_neg q2, if_neg q3, if_neg q4, if_neg q5, if_neg q6, if_neg q7, if_neg q8, if_neg q9, if_neg q10, if_neg q11, if_neg q12, if_neg q13, if_neg q14, if_neg q15, if_pos q16]
    exact step_16 hL hx c16 kk l3 m hI h0 h1
  refine if q17 : iand (xs l3.toNat) 63 = 17 then ?_ else ?_
  · rw [if_neg q0, if_neg q1, if_neg q2, if_neg q3, if_neg q4, if_neg q5, if_neg q6, if_neg q7, if_neg q8, if_neg q9, if_neg q10, if_neg q11, if_neg q12, if_neg q13, if_neg q14, if_neg q15, if_neg q16, if_pos q17]
    exact step_17 hL hx c17 kk l3 m hI h0 h1
  refine if q18 : iand (xs l3.toNat) 63 = 18 then ?_ else ?_
  · rw [if_neg q0, if_neg q1, if_neg q2, if_neg q3, if_neg q4, if_neg q5, if_neg q6, if_neg q7, if_neg q8, if_neg q9, if_neg q10, if_neg q11, if_neg q12, if_neg q13, if_neg q14, if_neg q15, if_neg q16, if_neg q17, if_pos q18]
    exact step_18 hL hx c18 kk l3 m hI h0 h1
  refine if q19 : iand (xs l3.toNat) 63 = 19 then ?_ else ?_
  · rw [if_neg q0, if_neg q1, if_neg q2, if_neg q3, if_neg q4, if_neg q5, if_neg q6, if_neg q7, if_neg q8, if_neg q9, if_neg q10, if_neg q11, if_neg q12, if_neg q13, if_neg q14, if_neg q15, if_neg q16, if_neg q17, if_neg q18, if_pos q19]
    exact step_19 hL hx c19 kk l3 m hI h0 h1
  refine if q20 : iand (xs l3.toNat) 63 = 20 then ?_ else ?_
  · rw [if_neg q0, if_neg q1, if_neg q2, if_neg q3, if_neg q4, if_neg q5, if_neg q6, if_neg q7, if_neg q8, if_neg q9, if_neg q10, if_neg q11, if_neg q12, if_neg q13, if_neg q14, if_neg q15, if_neg q16, if_neg q17, if_neg q18, if_neg q19, if_pos q20]
    exact step_20 hL hx c20 kk l3 m hI h0 h1
  refine if q21 : iand (xs l3.toNat) 63 = 21 then ?_ else ?_
  · rw [if_neg q0, if_neg q1, if_neg q2, if_neg q3, if_neg q4, if_neg q5, if_neg q6, if_neg q7, if_neg q8, if_neg q9, if_neg q10, if_neg q11, if_neg q12, if_neg q13, if_neg q14, if_neg q15, if_neg q16, if_neg q17, if_neg q18, if_neg q19, if_neg q20, if_pos q21]
    exact step_21 hL hx c21 kk l3 m hI h0 h1
  refine if q22 : iand (xs l3.toNat) 63 = 22 then ?_ else ?_
  · rw [if_neg q0, if_neg q1, if_neg q2, if_neg q3, if_neg q4, if_neg q5, if_neg q6, if_neg q7, if_neg q8, if_neg q9, if_neg q10, if_neg q11, if_neg q12, if_neg q13, if_neg q14, if_neg q15, if_neg q16, if_neg q17, if_neg q18, if_neg q19, if_neg q20, if_neg q21, if_pos q22]
    exact step_22 hL hx c22 kk l3 m hI h0 h1
  refine if q23 : iand (xs l3.toNat) 63 = 23 then ?_ else ?_
  · rw [if_neg q0, if_neg q1, if_neg q2, if_neg q3, if_neg q4, if_neg q5, if_neg q6, if_neg q7, if_neg q8, if_neg q9, if_neg q10, if_neg q11, if_neg q12, if_neg q13, if_neg q14, if_neg q15, if_neg q16, if_neg q17, if_neg q18, if_neg q19, if_neg q20, if_neg q21, if_neg q22, if_pos q23]
    exact step_23 hL hx c23 kk l3 m hI h0 h1
  refine if q24 : iand (xs l3.toNat) 63 = 24 then ?_ else ?_
  · rw [if_neg q0, if_neg q1, if_neg q2, if_neg q3, if_neg q4, if_neg q5, if_neg q6, if_neg q7, if_neg q8, if_neg q9, if_neg q10, if_neg q11, if_neg q12, if_neg q13, if_neg q14, if_neg q15, if_neg q16, if_neg q17, if_neg q18, if_neg q19, if_neg q20, if_neg q21, if_neg q22, if_neg q23, if_pos q24]
    exact step_24 hL hx c24 kk l3 m hI h0 h1
  refine if q25 : iand (xs l3.toNat) 63 = 25 then ?_ else ?_
  · rw [if_neg q0, if_neg q1, if_neg q2, if_neg q3, if_neg q4, if_neg q5, if_neg q6, if_neg q7, if_neg q8, if_neg q9, if_neg q10, if_neg q11, if_neg q12, if_neg q13, if_neg q14, if_neg q15, if_neg q16, if_neg q17, if_neg q18, if_neg q19, if_neg q20, if_neg q21, if_neg q22, if_neg q23, if_neg q24, if_pos q25]
    exact step_25 hL hx c25 kk l3 m hI h0 h1
  refine if q26 : iand (xs l3.toNat) 63 = 26 then ?_ else ?_
  · rw [if_neg q0, if_neg q1, if_neg q2, if_neg q3, if_neg q4, if_neg q5, if_neg q6, if_neg q7, if_neg q8, if_neg q9, if_neg q10, if_neg q11, if_neg q12, if_neg q13, if_neg q14, if_neg q15, if_neg q16, if_neg q17, if_neg q18, if_neg q19, if_neg q20, if_neg q21, if_neg q22, if_neg q23, if_neg q24, if_neg q25, if_pos q26]
    exact step_26 hL hx c26 kk l3 m hI h0 h1
  refine if q27 : iand (xs l3.toNat) 63 = 27 then ?_ else ?_
  · rw [if_neg q0, if_neg q1, if_neg q2, if_neg q3, if_neg q4, if_neg q5, if_neg q6, if_neg q7, if_neg q8, if_neg q9, if_neg q10, if_neg q11, if_neg q12, if_neg q13, if_neg q14, if_neg q15, if_neg q16, if_neg q17, if_neg q18, if_neg q19, if_neg q20, if_neg q21, if_neg q22, if_neg q23, if_neg q24, if_neg q25, if_neg q26, if_pos q27]
    exact step_27 hL hx c27 kk l3 m hI h0 h1
  refine if q28 : iand (xs l3.toNat) 63 = 28 then ?_ else ?_
  · rw [if_neg q0, if_neg q1, if_neg q2, if_neg q3, if_neg q4, if_neg q5, if_neg q6, if_neg q7, if_neg q8, if_neg q9, if_neg q10, if_neg q11, if_neg q12, if_neg q13, if_neg q14, if_neg q15, if_neg q16, if_neg q17, if_neg q18, if_neg q19, if_neg q20, if_neg q21, if_neg q22, if_neg q23, if_neg q24, if_neg q25, if_neg q26, if_neg q27, if_pos q28]
    exact step_28 hL hx c28 kk l3 m hI h0 h1
  refine if q29 : iand (xs l3.toNat) 63 = 29 then ?_ else ?_
  · rw [if_neg q0, if_neg q1, if_neg q2, if_neg q3, if_neg q4, if_neg q5, if_neg q6, if_neg q7, if_neg q8, if_neg q9, if_neg q10, if_neg q11, if_neg q12, if_neg q13, if_neg q14, if_neg q15, if_neg q16, if_neg q17, if_neg q18, if_neg q19, if_neg q20, if_neg q21, if_neg q22, if_neg q23, if_neg q24, if_neg q25, if_neg q26, if_neg q27, if_neg q28, if_pos q29]
    exact step_29 hL hx c29 kk l3 m hI h0 h1
  refine if q30 : iand (xs l3.toNat) 63 = 30 then ?_ else ?_
  · rw [if_neg q0, if_neg q1, if_neg q2, if_neg q3, if_neg q4, if_neg q5, if_neg q6, if_neg q7, if_neg q8, if_neg q9, if_neg q10, if_neg q11, if_neg q12, if_neg q13, if_neg q14, if_neg q15, if_neg q16, if_neg q17, if_neg q18, if_neg q19, if_neg q20, if_neg q21, if_neg q22, if_neg q23, if_neg q24, if_neg q25, if_neg q26, if_neg q27, if_neg q28, if_neg q29, if_pos q30]
    exact step_30 hL hx c30 kk l3 m hI h0 h1
  refine if q31 : iand (xs l3.toNat) 63 = 31 then ?_ else ?_
  · rw [if_neg q0, if_neg q1, if_neg q2, if_neg q3, if_neg q4, if_neg q5, if_neg q6, if_neg q7, if_neg q8, if_neg q9, if_neg q10, if_neg q11, if_neg q12, if_neg q13, if_neg q14, if_neg q15, if_neg q16, if_neg q17, if_neg q18, if_neg q19, if_neg q20, if_neg q21, if_neg q22, if_neg q23, if_neg q24, if_neg q25, if_neg q26, if_neg q27, if_neg q28, if_neg q29, if_neg q30, if_pos q31]
    exact step_31 hL hx c31 kk l3 m hI h0 h1
  refine if q32 : iand (xs l3.toNat) 63 = 32 then ?_ else ?_
  · rw [if_neg q0, if_neg q1, if_neg q2, if_neg q3, if_neg q4, if_neg q5, if_neg q6, if_neg q7, if_neg q8, if_neg q9, if_neg q10, if_neg q11, if_neg q12, if_neg q13, if_neg q14, if_neg q15, if_neg q16, if_neg q17, if_neg q18, if_neg q19, if_neg q20, if_neg q21, if_neg q22, if_neg q23, if_neg q24, if_neg q25, if_neg q26, if_neg q27, if_neg q28, if_neg q29, if_neg q30, if_neg q31, if_pos q32]
    exact step_32 hL hx c32 kk l3 m hI h0 h1
  refine ⟨m, hI, ?_⟩
  rw [if_neg q0, if_neg q1, if_neg q2, if_neg q3, if_neg q4, if_neg q5, if_neg q6, if_neg q7, if_neg q8, if_neg q9, if_neg q10, if_neg q11, if_neg q12, if_neg q13, if_neg q14, if_neg q15, if_neg q16, if_neg q17, if_neg q18, if_neg q19, if_neg q20, if_neg q21, if_neg q22, if_neg q23, if_neg q24, if_neg q25, if_neg q26, if_neg q27, if_neg q28, if_neg q29, if_neg q30, if_neg q31, if_neg q32]
theorem law_all {N : Nat} {Inv : Mem → Prop} {xs : Nat → Int} {LL : Nat} (hL : LL ≤ 3072) (hx : ∀ j, inI (xs j)) (C : Calls N Inv) : ∀ (f : Nat) (l3 : Int) (m : Mem), Inv m → 0 ≤ l3 → l3 ≤ LL + 5 → (LL : Int) + 6 ≤ l3 + 6 * f → ∃ out, law_L N xs LL f l3 m = some out := by
  intro f
  induction f with
  | zero => intro l3 m hI h0 h1 h2; exfalso; omega
  | succ f ih =>
    intro l3 m hI h0 h1 h2
    rcases Int.lt_or_le ((LL : Int) - 6) l3 with q | q
    · refine ⟨m, ?_⟩
      show law_b N xs LL _ l3 m = some m
      unfold law_b
      rw [if_pos (by rw [wI_of (by unfold inI; omega)]; exact q)]
    · obtain ⟨m2, hI2, e⟩ := law_step hL hx C (fun l3 m => law_L N xs LL f (wI (l3 + 6)) m) l3 m hI h0 (by omega)
      obtain ⟨out, e2⟩ := ih (wI (l3 + 6)) m2 hI2 (by rw [wI_of (by unfold inI; omega)]; omega) (by rw [wI_of (by unfold inI; omega)]; omega) (by rw [wI_of (by unfold inI; omega)]; omega)
      exact ⟨out, by show law_b N xs LL _ l3 m = some out; rw [e]; exact e2⟩
/-- what is left: fuel enough, a relation of the two that holds at the beginning and that each call keeps, answering alike -/
def Owed : Prop := ∃ (N : Nat) (Inv : Mem → Prop), 600 ≤ N ∧ Inv (mo LM) ∧ Calls N Inv
theorem law_owed (h : Owed) : LawTrue := by
  obtain ⟨N, Inv, hN, hI, C⟩ := h
  intro xs LL hL hx
  obtain ⟨out, e⟩ := law_all hL hx C N 0 (mo LM) hI (by omega) (by omega) (by omega)
  exact ⟨N, out, e⟩
