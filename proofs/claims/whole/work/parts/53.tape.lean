/-! the tape: feed, end -/
/-- from m to m2 the tape A of O (its length at O, 1) grew by the numbers of L and nothing else changed -/
def Wrote (A O : Nat) (m m2 : Mem) (L : List Int) : Prop := m2 O 1 = m O 1 + L.length ∧ (∀ j : Nat, m2 A j = if (m O 1).toNat ≤ j ∧ j < (m O 1).toNat + L.length then L.getD (j - (m O 1).toNat) 0 else m A j) ∧ (∀ b j, b ≠ A → ¬(b = O ∧ j = 1) → m2 b j = m b j)
theorem wrote_0 {A O : Nat} {m : Mem} : Wrote A O m m [] := ⟨by simp, fun j => by rw [if_neg (by simp)], fun _ _ _ _ => rfl⟩
theorem wrote_1 {A O : Nat} (hAO : A ≠ O) {m m2 m3 : Mem} {L : List Int} (h : Wrote A O m m2 L) (h0 : 0 ≤ m O 1) {x : Int} (e : m3 = up (up m2 A (m2 O 1).toNat x) O 1 (m2 O 1 + 1)) : Wrote A O m m3 (L ++ [x]) := by
  subst e
  obtain ⟨a1, a2, a3⟩ := h
  have hc : (m2 O 1).toNat = (m O 1).toNat + L.length := by omega
  refine ⟨?_, fun j => ?_, fun b j hb hj => ?_⟩
  · rw [up_same, a1]; simp; omega
  · rw [up_obj (a := O) (b := A) (by simpa using hAO), up_at, hc]
    by_cases q : j = (m O 1).toNat + L.length
    · subst q
      rw [if_pos rfl, if_pos (by simp)]
      simp
    · rw [if_neg q, a2]
      by_cases r : (m O 1).toNat ≤ j ∧ j < (m O 1).toNat + L.length
      · rw [if_pos r, if_pos (by simp; omega)]
        rw [List.getD_eq_getElem?_getD, List.getD_eq_getElem?_getD, List.getElem?_append_left (by omega)]
      · rw [if_neg r, if_neg (by simp; omega)]
  · have : up (up m2 A (m2 O 1).toNat x) O 1 (m2 O 1 + 1) b j = m2 b j := by
      unfold up
      rw [if_neg hj, if_neg (fun q => hb q.1)]
    rw [this, a3 b j hb hj]
/-- the four numbers of a word -/
def four (x : Int) : List Int := [iand (ishr x 24) 255, iand (ishr x 16) 255, iand (ishr x 8) 255, iand (ishr x 0) 255]
theorem refs_wrote {A O : Nat} {m m2 : Mem} {L : List Int} (w : Wrote A O m m2 L) (h : Refs m) (hA : (shK A == 1) = true) (hO : isRef O 1 = false) : Refs m2 := by
  refine refs_of h fun b j hb => w.2.2 b j (fun e => ?_) (fun e => ?_)
  · subst e
    unfold isRef at hb
    rw [show shK b = 1 from by simpa using hA] at hb
    cases hb
  · rw [e.1, e.2, hO] at hb
    cases hb
theorem putx_b {N : Nat} {r : Nat → Int → Int → Mem → Option Mem} {x s : Int} {m m2 : Mem} {L : List Int} (h : Refs m) (h0 : 0 ≤ m 3 1) (hl : m 3 1 + L.length < 1600) (w : Wrote 4 3 m m2 L) (hs : 0 ≤ s) (hs2 : s ≤ 24) : ∃ m3, Wrote 4 3 m m3 (L ++ [iand (ishr x s) 255]) ∧ X10_putNumber_L3_b N r 3 x s m2 = r 3 x (s - 8) m3 := by
  have h2 := refs_wrote w h (by decide +kernel) (by decide +kernel)
  have e := w.1
  refine ⟨up (up m2 4 (m2 3 1).toNat (iand (ishr x s) 255)) 3 1 (m2 3 1 + 1), wrote_1 (by decide) w h0 rfl, ?_⟩
  unfold X10_putNumber_L3_b
  rw [if_neg (by omega), gtI (by decide +kernel)]
  simp only [Option.bind_some]
  rw [if_neg (by omega), rc h2 4 (by decide +kernel)]
  simp only [Option.bind_some]
  rw [asI 1600 (by decide +kernel) (by omega) (by omega)]
  simp only [Option.bind_some]
  rw [gtI (by decide +kernel)]
  simp only [Option.bind_some]
  rw [ptI (by decide +kernel)]
  simp only [Option.bind_some]
  rw [up_obj (a := 4) (b := 3) (by decide), wI_of (by unfold inI; omega), wI_of (by unfold inI; omega), show s + -8 = s - 8 from rfl]
theorem putx_end {N : Nat} {r : Nat → Int → Int → Mem → Option Mem} {x s : Int} {m : Mem} (hs : s < 0) : X10_putNumber_L3_b N r 3 x s m = some m := by
  unfold X10_putNumber_L3_b
  rw [if_pos hs]
theorem putx {N : Nat} {x : Int} {m m0 : Mem} {L : List Int} (hN : 5 ≤ N) (h : Refs m0) (h0 : 0 ≤ m0 3 1) (hl : m0 3 1 + L.length + 4 ≤ 1600) (w : Wrote 4 3 m0 m L) : ∃ m2, Wrote 4 3 m0 m2 (L ++ four x) ∧ X10_putNumber N 3 x m = some m2 := by
  obtain ⟨f, rfl⟩ : ∃ f, N = f + 5 := ⟨N - 5, by omega⟩
  obtain ⟨m1, w1, e1⟩ := putx_b (N := f + 5) (r := X10_putNumber_L3 (f + 5) (f + 4)) (x := x) (s := 24) h h0 (by omega) w (by decide) (by decide)
  obtain ⟨m2, w2, e2⟩ := putx_b (N := f + 5) (r := X10_putNumber_L3 (f + 5) (f + 3)) (x := x) (s := 16) h h0 (by simp; omega) w1 (by decide) (by decide)
  obtain ⟨m3, w3, e3⟩ := putx_b (N := f + 5) (r := X10_putNumber_L3 (f + 5) (f + 2)) (x := x) (s := 8) h h0 (by simp; omega) w2 (by decide) (by decide)
  obtain ⟨m4, w4, e4⟩ := putx_b (N := f + 5) (r := X10_putNumber_L3 (f + 5) (f + 1)) (x := x) (s := 0) h h0 (by simp; omega) w3 (by decide) (by decide)
  refine ⟨m4, by simpa [four] using w4, ?_⟩
  unfold X10_putNumber
  rw [isK (k := 20) (by decide +kernel)]
  show X10_putNumber_L3_b (f + 5) (X10_putNumber_L3 (f + 5) (f + 4)) 3 x 24 m = some m4
  rw [e1]
  show X10_putNumber_L3_b (f + 5) (X10_putNumber_L3 (f + 5) (f + 3)) 3 x 16 m1 = some m4
  rw [e2]
  show X10_putNumber_L3_b (f + 5) (X10_putNumber_L3 (f + 5) (f + 2)) 3 x 8 m2 = some m4
  rw [e3]
  show X10_putNumber_L3_b (f + 5) (X10_putNumber_L3 (f + 5) (f + 1)) 3 x 0 m3 = some m4
  rw [e4]
  exact putx_end (by decide)
theorem putm_b {N : Nat} {r : Nat → Int → Int → Mem → Option Mem} {x s : Int} {m m2 : Mem} {L : List Int} (h : Refs m) (h0 : 0 ≤ m 264 1) (hl : m 264 1 + L.length < 1800) (w : Wrote 265 264 m m2 L) (hs : 0 ≤ s) (hs2 : s ≤ 24) : ∃ m3, Wrote 265 264 m m3 (L ++ [iand (ishr x s) 255]) ∧ X11_put_L3_b N r 264 x s m2 = r 264 x (s - 8) m3 := by
  have h2 := refs_wrote w h (by decide +kernel) (by decide +kernel)
  have e := w.1
  refine ⟨up (up m2 265 (m2 264 1).toNat (iand (ishr x s) 255)) 264 1 (m2 264 1 + 1), wrote_1 (by decide) w h0 rfl, ?_⟩
  unfold X11_put_L3_b
  rw [if_neg (by omega), rc h2 265 (by decide +kernel)]
  simp only [Option.bind_some]
  rw [gtI (by decide +kernel)]
  simp only [Option.bind_some]
  rw [asI 1800 (by decide +kernel) (by omega) (by omega)]
  simp only [Option.bind_some]
  rw [gtI (by decide +kernel)]
  simp only [Option.bind_some]
  rw [ptI (by decide +kernel)]
  simp only [Option.bind_some]
  rw [up_obj (a := 265) (b := 264) (by decide), wI_of (by unfold inI; omega), wI_of (by unfold inI; omega), show s + -8 = s - 8 from rfl]
theorem putm_end {N : Nat} {r : Nat → Int → Int → Mem → Option Mem} {x s : Int} {m : Mem} (hs : s < 0) : X11_put_L3_b N r 264 x s m = some m := by
  unfold X11_put_L3_b
  rw [if_pos hs]
theorem putm {N : Nat} {x : Int} {m m0 : Mem} {L : List Int} (hN : 5 ≤ N) (h : Refs m0) (h0 : 0 ≤ m0 264 1) (hl : m0 264 1 + L.length + 4 ≤ 1800) (w : Wrote 265 264 m0 m L) : ∃ m2, Wrote 265 264 m0 m2 (L ++ four x) ∧ X11_put N 264 x m = some m2 := by
  obtain ⟨f, rfl⟩ : ∃ f, N = f + 5 := ⟨N - 5, by omega⟩
  obtain ⟨m1, w1, e1⟩ := putm_b (N := f + 5) (r := X11_put_L3 (f + 5) (f + 4)) (x := x) (s := 24) h h0 (by omega) w (by decide) (by decide)
  obtain ⟨m2, w2, e2⟩ := putm_b (N := f + 5) (r := X11_put_L3 (f + 5) (f + 3)) (x := x) (s := 16) h h0 (by simp; omega) w1 (by decide) (by decide)
  obtain ⟨m3, w3, e3⟩ := putm_b (N := f + 5) (r := X11_put_L3 (f + 5) (f + 2)) (x := x) (s := 8) h h0 (by simp; omega) w2 (by decide) (by decide)
  obtain ⟨m4, w4, e4⟩ := putm_b (N := f + 5) (r := X11_put_L3 (f + 5) (f + 1)) (x := x) (s := 0) h h0 (by simp; omega) w3 (by decide) (by decide)
  refine ⟨m4, by simpa [four] using w4, ?_⟩
  unfold X11_put
  rw [isK (k := 21) (by decide +kernel)]
  show X11_put_L3_b (f + 5) (X11_put_L3 (f + 5) (f + 4)) 264 x 24 m = some m4
  rw [e1]
  show X11_put_L3_b (f + 5) (X11_put_L3 (f + 5) (f + 3)) 264 x 16 m1 = some m4
  rw [e2]
  show X11_put_L3_b (f + 5) (X11_put_L3 (f + 5) (f + 2)) 264 x 8 m2 = some m4
  rw [e3]
  show X11_put_L3_b (f + 5) (X11_put_L3 (f + 5) (f + 1)) 264 x 0 m3 = some m4
  rw [e4]
  exact putm_end (by decide)
/-- the twenty numbers of a feeding -/
def twenty (a b c d e : Int) : List Int := [] ++ four a ++ four b ++ four c ++ four d ++ four e
theorem feedx {N : Nat} {m : Mem} (hN : 5 ≤ N) (h : Refs m) (h0 : 0 ≤ m 3 1) (hl : m 3 1 + 20 ≤ 1600) (a b c d e : Int) : ∃ m2, Wrote 4 3 m m2 (twenty a b c d e) ∧ X10_feed N 3 a b c d e m = some (m 3 1 + 20, m2) := by
  obtain ⟨m1, w1, e1⟩ := putx (x := a) hN h h0 (by simp; omega) (wrote_0 (A := 4) (O := 3) (m := m))
  obtain ⟨m2, w2, e2⟩ := putx (x := b) hN h h0 (by simp [four]; omega) w1
  obtain ⟨m3, w3, e3⟩ := putx (x := c) hN h h0 (by simp [four]; omega) w2
  obtain ⟨m4, w4, e4⟩ := putx (x := d) hN h h0 (by simp [four]; omega) w3
  obtain ⟨m5, w5, e5⟩ := putx (x := e) hN h h0 (by simp [four]; omega) w4
  refine ⟨m5, w5, ?_⟩
  unfold X10_feed
  rw [isK (k := 20) (by decide +kernel), gtI (by decide +kernel)]
  simp only [Option.bind_some]
  rw [wI_of (by unfold inI; omega), if_pos hl]
  simp only [e1, e2, e3, e4, e5, Option.bind_some]
  rw [gtI (by decide +kernel), w5.1]
  simp [four]
theorem feedm {N : Nat} {m : Mem} (hN : 5 ≤ N) (h : Refs m) (h0 : 0 ≤ m 264 1) (hl : m 264 1 + 20 ≤ 1600) (a b c d e : Int) : ∃ m2, Wrote 265 264 m m2 (twenty a b c d e) ∧ X11_feed N 264 a b c d e m = some (m 264 1 + 20, m2) := by
  obtain ⟨m1, w1, e1⟩ := putm (x := a) hN h h0 (by simp; omega) (wrote_0 (A := 265) (O := 264) (m := m))
  obtain ⟨m2, w2, e2⟩ := putm (x := b) hN h h0 (by simp [four]; omega) w1
  obtain ⟨m3, w3, e3⟩ := putm (x := c) hN h h0 (by simp [four]; omega) w2
  obtain ⟨m4, w4, e4⟩ := putm (x := d) hN h h0 (by simp [four]; omega) w3
  obtain ⟨m5, w5, e5⟩ := putm (x := e) hN h h0 (by simp [four]; omega) w4
  refine ⟨m5, w5, ?_⟩
  unfold X11_feed
  rw [isK (k := 21) (by decide +kernel), gtI (by decide +kernel)]
  simp only [Option.bind_some]
  rw [wI_of (by unfold inI; omega), if_pos hl]
  simp only [e1, e2, e3, e4, e5, Option.bind_some]
  rw [gtI (by decide +kernel), w5.1]
  simp [four]
/-- the low bits of a number -/
theorem iand_low (x : Int) (k : Nat) (hk : k ≤ 30) : iand x ((2 ^ k - 1 : Nat) : Int) = x % (2 ^ k : Nat) := by
  have hp : 2 ^ k ≤ 2 ^ 30 := Nat.pow_le_pow_right (by decide) hk
  have h1 : 1 ≤ 2 ^ k := Nat.one_le_two_pow
  have e : (iand x ((2 ^ k - 1 : Nat) : Int)) = (BitVec.ofInt 32 x &&& BitVec.ofInt 32 ((2 ^ k - 1 : Nat) : Int)).toInt := rfl
  have n2 : (BitVec.ofInt 32 ((2 ^ k - 1 : Nat) : Int)).toNat = 2 ^ k - 1 := by
    rw [BitVec.toNat_ofInt]; omega
  have n : (BitVec.ofInt 32 x &&& BitVec.ofInt 32 ((2 ^ k - 1 : Nat) : Int)).toNat = (x % 4294967296).toNat % 2 ^ k := by
    rw [BitVec.toNat_and, n2, BitVec.toNat_ofInt, Nat.and_two_pow_sub_one_eq_mod]; rfl
  have hlt : (x % 4294967296).toNat % 2 ^ k < 2 ^ k := Nat.mod_lt _ (by omega)
  rw [e, BitVec.toInt_eq_toNat_of_lt (by omega), n]
  have d : (2 ^ k : Nat) ∣ 4294967296 := by
    have : (2 ^ k : Nat) ∣ 2 ^ 32 := Nat.pow_dvd_pow 2 (by omega)
    exact this
  have d2 : ((2 ^ k : Nat) : Int) ∣ ((4294967296 : Nat) : Int) := Int.natCast_dvd_natCast.mpr d
  rw [Int.natCast_emod, Int.toNat_of_nonneg (by omega), Int.emod_emod_of_dvd x (show ((2 ^ k : Nat) : Int) ∣ 4294967296 from d2)]
theorem iand255 (x : Int) : 0 ≤ iand x 255 ∧ iand x 255 ≤ 255 := by
  have e : iand x 255 = x % 256 := iand_low x 8 (by decide)
  omega
theorem twenty_in (a b c d e : Int) : ∀ x ∈ twenty a b c d e, 0 ≤ x ∧ x ≤ 255 := by
  intro x hx
  simp only [twenty, four, List.mem_append, List.mem_cons, List.not_mem_nil, or_false, false_or] at hx
  rcases hx with (((h | h) | h) | h) | h <;> (rcases h with h | h | h | h <;> (subst h; exact iand255 _))
theorem twenty_len (a b c d e : Int) : (twenty a b c d e).length = 20 := rfl
/-- the two tapes -/
def TapeEq (m : Mem) : Prop := m 3 1 = m 264 1 ∧ 0 ≤ m 3 1 ∧ m 3 1 ≤ 1600 ∧ ∀ j : Nat, (j : Int) < m 3 1 → m 4 j = m 265 j ∧ 0 ≤ m 4 j ∧ m 4 j ≤ 255
theorem tape0 : TapeEq (mo LM) := by
  have e : mo LM 3 1 = 0 := by decide +kernel
  have e2 : mo LM 264 1 = 0 := by decide +kernel
  exact ⟨by rw [e, e2], by rw [e]; decide, by rw [e]; decide, fun j hj => by rw [e] at hj; omega⟩
theorem tape_wrote {m m1 m2 : Mem} {L : List Int} (t : TapeEq m) (hL : m 3 1 + L.length ≤ 1600) (hb : ∀ x ∈ L, 0 ≤ x ∧ x ≤ 255) (w1 : Wrote 4 3 m m1 L) (w2 : Wrote 265 264 m1 m2 L) : TapeEq m2 := by
  obtain ⟨t1, t2, t3, t4⟩ := t
  have a1 : m1 264 1 = m 264 1 := w1.2.2 264 1 (by decide) (by decide)
  have a2 : m2 264 1 = m 264 1 + L.length := by rw [w2.1, a1]
  have a3 : m2 3 1 = m 3 1 + L.length := by rw [w2.2.2 3 1 (by decide) (by decide), w1.1]
  refine ⟨by omega, by omega, by omega, fun j hj => ?_⟩
  have b1 : m2 4 j = m1 4 j := w2.2.2 4 j (by decide) (by omega)
  have b2 : m1 265 j = m 265 j := w1.2.2 265 j (by decide) (by omega)
  rw [b1, w1.2.1 j, w2.2.1 j, b2, a1, ← t1]
  by_cases q : (m 3 1).toNat ≤ j ∧ j < (m 3 1).toNat + L.length
  · rw [if_pos q, if_pos q]
    refine ⟨rfl, hb _ ?_⟩
    rw [List.getD_eq_getElem?_getD, List.getElem?_eq_getElem (by omega)]
    exact List.getElem_mem _
  · rw [if_neg q, if_neg q]
    exact t4 j (by omega)
/-- feed: both write the same twenty, or both refuse -/
theorem feed_ok {N : Nat} (hN : 5 ≤ N) {m : Mem} (h : Refs m) (t : TapeEq m) (a b c d e : Int) : ∃ v m1 m2, X10_feed N 3 a b c d e m = some (v, m1) ∧ X11_feed N 264 a b c d e m1 = some (v, m2) ∧ (m2 = both m 0 ∨ (m 3 1 + 20 ≤ 1600 ∧ Wrote 4 3 m m1 (twenty a b c d e) ∧ Wrote 265 264 m1 m2 (twenty a b c d e))) := by
  obtain ⟨t1, t2, t3, t4⟩ := id t
  by_cases q : m 3 1 + 20 ≤ 1600
  · obtain ⟨m1, w1, e1⟩ := feedx hN h t2 q a b c d e
    have a1 : m1 264 1 = m 264 1 := w1.2.2 264 1 (by decide) (by decide)
    obtain ⟨m2, w2, e2⟩ := feedm hN (refs_wrote w1 h (by decide +kernel) (by decide +kernel)) (by omega) (by omega) a b c d e
    exact ⟨m 3 1 + 20, m1, m2, e1, by rw [e2, a1, ← t1], Or.inr ⟨q, w1, w2⟩⟩
  · refine ⟨-1, up m 263 0 (wI (m 263 0 + 1)), both m 0, ?_, ?_, Or.inl rfl⟩
    · unfold X10_feed
      rw [isK (k := 20) (by decide +kernel), gtI (by decide +kernel)]
      simp only [Option.bind_some]
      rw [wI_of (by unfold inI; omega), if_neg q, refuse_x h (by decide) (by decide)]
      rfl
    · have e := refuse_m_x h (s := 0) (by decide) (by decide)
      unfold X11_feed
      rw [isK (k := 21) (by decide +kernel), gtI (by decide +kernel)]
      simp only [Option.bind_some]
      rw [up_obj (a := 263) (b := 264) (by decide), wI_of (by unfold inI; omega), if_neg (by omega), show X11_refuses 264 0 (up m 263 0 (wI (m 263 0 + 1))) = some (-1, both m 0) from e]
      rfl
theorem end_ok {m : Mem} (h : Refs m) (t : TapeEq m) (a : Int) : ∃ v m1 m2, X10_end 3 a m = some (v, m1) ∧ X11_end 264 a m1 = some (v, m2) ∧ (m2 = both m 0 ∨ (0 ≤ a ∧ a ≤ m 3 1 ∧ m2 = up (up m 3 1 a) 264 1 a)) := by
  obtain ⟨t1, t2, t3, t4⟩ := id t
  have no : X10_end_J12 3 m = some (0, up m 263 0 (wI (m 263 0 + 1))) := by
    unfold X10_end_J12
    rw [refuse_x h (by decide) (by decide)]
    rfl
  have no2 : X11_end_J12 264 (up m 263 0 (wI (m 263 0 + 1))) = some (0, both m 0) := by
    have e := refuse_m_x h (s := 0) (by decide) (by decide)
    unfold X11_end_J12
    rw [show X11_refuses 264 0 (up m 263 0 (wI (m 263 0 + 1))) = some (-1, both m 0) from e]
    rfl
  unfold X10_end X11_end
  rw [isK (k := 20) (by decide +kernel)]
  by_cases q : a < 0
  · refine ⟨0, up m 263 0 (wI (m 263 0 + 1)), both m 0, ?_, ?_, Or.inl rfl⟩
    · rw [if_pos q]
      exact no
    · rw [isK (k := 21) (by decide +kernel), if_pos q]
      exact no2
  · rw [if_neg q, gtI (by decide +kernel)]
    simp only [Option.bind_some]
    by_cases r : a ≤ m 3 1
    · refine ⟨1, up m 3 1 a, up (up m 3 1 a) 264 1 a, ?_, ?_, Or.inr ⟨by omega, r, rfl⟩⟩
      · rw [if_pos r, ptI (by decide +kernel)]
        rfl
      · rw [isK (k := 21) (by decide +kernel), if_neg q, gtI (by decide +kernel)]
        simp only [Option.bind_some]
        rw [up_obj (a := 3) (b := 264) (by decide), if_pos (by omega), ptI (by decide +kernel)]
        rfl
    · refine ⟨0, up m 263 0 (wI (m 263 0 + 1)), both m 0, ?_, ?_, Or.inl rfl⟩
      · rw [if_neg r]
        exact no
      · rw [isK (k := 21) (by decide +kernel), if_neg q, gtI (by decide +kernel)]
        simp only [Option.bind_some]
        rw [up_obj (a := 263) (b := 264) (by decide), if_neg (by omega)]
        exact no2
