/-! the tape: feed, end -/
/-- from m to m2 the tape A of O (its length at O, 1) grew by the numbers of L and nothing else changed -/
def Wrote (A O : Nat) (m m2 : Mem) (L : List Int) : Prop := m2 O 1 = m O 1 + L.length ∧ (∀ j : Nat, m2 A j = if (m O 1).toNat ≤ j ∧ j < (m O 1).toNat + L.length then L.getD (j - (m O 1).toNat) 0 else m A j) ∧ (∀ b j, b ≠ A → ¬(b = O ∧ j = 1) → m2 b j = m b j)
theorem wrote_0 {A O : Nat} {m : Mem} : Wrote A O m m [] := ⟨by simp, fun j => by rw [if_neg (by simp)], fun _ _ _ _ => rfl⟩
theorem wrote_1 {A O : Nat} (hAO : A ≠ O) {m m2 m3 : Mem} {L : List Int} (h : Wrote A O m m2 L) (h0 : 0 ≤ m O 1) {x : Int} (e : m3 = up (up m2 A (m2 O 1).toNat x) O 1 (m2 O 1 + 1)) : Wrote A O m m3 (L ++ [x]) := by
  subst e
  obtain ⟨a1, a2, a3⟩ := h
  have hc : (m2 O 1).toNat = (m O 1).toNat + L.length := by omega
  refine ⟨?_, fun j => ?_, fun b j hb hj => ?_⟩
  · rw [up_same, a1]; simp; omega
  · rw [up_obj (a := O) (b := A) (by simpa using hAO), up_at, hc]
    by_cases q : j = (m O 1).toNat + L.length
    · subst q
      rw [if_pos rfl, if_pos (by simp)]
      simp
    · rw [if_neg q, a2]
      by_cases r : (m O 1).toNat ≤ j ∧ j < (m O 1).toNat + L.length
      · rw [if_pos r, if_pos (by simp; omega)]
        rw [List.getD_eq_getElem?_getD, List.getD_eq_getElem?_getD, List.getElem?_append_left (by omega)]
      · rw [if_neg r, if_neg (by simp; omega)]
  · have : up (up m2 A (m2 O 1).toNat x) O 1 (m2 O 1 + 1) b j = m2 b j := by
      unfold up
      rw [if_neg hj, if_neg (fun q => hb q.1)]
    rw [this, a3 b j hb hj]
/-- the four numbers of a word -/
def four (x : Int) : List Int := [iand (ishr x 24) 255, iand (ishr x 16) 255, iand (ishr x 8) 255, iand (ishr x 0) 255]
theorem refs_wrote {A O : Nat} {m m2 : Mem} {L : List Int} (w : Wrote A O m m2 L) (h : Refs m) (hA : (shK A == 1) = true) (hO : isRef O 1 = false) : Refs m2 := by
  refine refs_of h fun b j hb => w.2.2 b j (fun e => ?_) (fun e => ?_)
  · subst e
    unfold isRef at hb
    rw [show shK b = 1 from by simpa using hA] at hb
    cases hb
  · rw [e.1, e.2, hO] at hb
    cases hb
theorem putx_b {N : Nat} {r : Nat → Int → Int → Mem → Option Mem} {x s : Int} {m m2 : Mem} {L : List Int} (h : Refs m) (h0 : 0 ≤ m 3 1) (hl : m 3 1 + L.length < 1600) (w : Wrote 4 3 m m2 L) (hs : 0 ≤ s) (hs2 : s ≤ 24) : ∃ m3, Wrote 4 3 m m3 (L ++ [iand (ishr x s) 255]) ∧ X10_putNumber_L3_b N r 3 x s m2 = r 3 x (s - 8) m3 := by
  have h2 := refs_wrote w h (by decide +kernel) (by decide +kernel)
  have e := w.1
  refine ⟨up (up m2 4 (m2 3 1).toNat (iand (ishr x s) 255)) 3 1 (m2 3 1 + 1), wrote_1 (by decide) w h0 rfl, ?_⟩
  unfold X10_putNumber_L3_b
  rw [if_neg (by omega), gtI (by decide +kernel)]
  simp only [Option.bind_some]
  rw [if_neg (by omega), rc h2 4 (by decide +kernel)]
  simp only [Option.bind_some]
  rw [asI 1600 (by decide +kernel) (by omega) (by omega)]
  simp only [Option.bind_some]
  rw [gtI (by decide +kernel)]
  simp only [Option.bind_some]
  rw [ptI (by decide +kernel)]
  simp only [Option.bind_some]
  rw [up_obj (a := 4) (b := 3) (by decide), wI_of (by unfold inI; omega), wI_of (by unfold inI; omega), show s + -8 = s - 8 from rfl]
theorem putx_end {N : Nat} {r : Nat → Int → Int → Mem → Option Mem} {x s : Int} {m : Mem} (hs : s < 0) : X10_putNumber_L3_b N r 3 x s m = some m := by
  unfold X10_putNumber_L3_b
  rw [if_pos hs]
theorem putx {N : Nat} {x : Int} {m m0 : Mem} {L : List Int} (hN : 5 ≤ N) (h : Refs m0) (h0 : 0 ≤ m0 3 1) (hl : m0 3 1 + L.length + 4 ≤ 1600) (w : Wrote 4 3 m0 m L) : ∃ m2, Wrote 4 3 m0 m2 (L ++ four x) ∧ X10_putNumber N 3 x m = some m2 := by
  obtain ⟨f, rfl⟩ : ∃ f, N = f + 5 := ⟨N - 5, by omega⟩
  obtain ⟨m1, w1, e1⟩ := putx_b (N := f + 5) (r := X10_putNumber_L3 (f + 5) (f + 4)) (x := x) (s := 24) h h0 (by omega) w (by decide) (by decide)
  obtain ⟨m2, w2, e2⟩ := putx_b (N := f + 5) (r := X10_putNumber_L3 (f + 5) (f + 3)) (x := x) (s := 16) h h0 (by simp; omega) w1 (by decide) (by decide)
  obtain ⟨m3, w3, e3⟩ := putx_b (N := f + 5) (r := X10_putNumber_L3 (f + 5) (f + 2)) (x := x) (s := 8) h h0 (by simp; omega) w2 (by decide) (by decide)
  obtain ⟨m4, w4, e4⟩ := putx_b (N := f + 5) (r := X10_putNumber_L3 (f + 5) (f + 1)) (x := x) (s := 0) h h0 (by simp; omega) w3 (by decide) (by decide)
  refine ⟨m4, by simpa [four] using w4, ?_⟩
  unfold X10_putNumber
  rw [isK (k := 20) (by decide +kernel)]
  show X10_putNumber_L3_b (f + 5) (X10_putNumber_L3 (f + 5) (f + 4)) 3 x 24 m = some m4
  rw [e1]
  show X10_putNumber_L3_b (f + 5) (X10_putNumber_L3 (f + 5) (f + 3)) 3 x 16 m1 = some m4
  rw [e2]
  show X10_putNumber_L3_b (f + 5) (X10_putNumber_L3 (f + 5) (f + 2)) 3 x 8 m2 = some m4
  rw [e3]
  show X10_putNumber_L3_b (f + 5) (X10_putNumber_L3 (f + 5) (f + 1)) 3 x 0 m3 = some m4
  rw [e4]
  exact putx_end (by decide)
