/-! the start, and all calls put together -/
def I0s : Isl := fun k _ => if k = 19 then 5 else 0
def l0s : Lnd := fun _ _ => 0
theorem s0_sc : ∀ k, k < 21 → (isPS k = true → mo LM 11 k = I0s k 0) := by decide +kernel
theorem s0_row : ∀ k, k < 21 → ∀ j, j < rln k → mo LM (11 + ofs k) j = I0s k j := by decide +kernel
theorem s0_spot : ∀ j, j < 10 → mo LM 25 j = 0 := by decide +kernel
theorem s0_ld : ∀ k, k < 3 → ∀ j, j < lln k → mo LM (69 + 1 + k) j = 0 := by decide +kernel
theorem s0_sc2 : mo LM 3 3 = 11 ∧ mo LM 3 4 = 40 ∧ mo LM 34 1 = 0 ∧ mo LM 37 1 = 0 ∧ mo LM 264 13 = 0 ∧ mo LM 266 0 = 0 ∧ mo LM 267 0 = 0 ∧ mo LM 273 0 = 0 ∧ mo LM 275 0 = 0 ∧ mo LM 284 0 = 0 ∧ mo LM 285 0 = 0 ∧ mo LM 286 0 = 5 ∧ mo LM 280 0 = -1 ∧ mo LM 282 0 = -1 ∧ mo LM 272 0 = 0 ∧ mo LM 69 3 = 0 ∧ mo LM 296 0 = 0 ∧ mo LM 77 2 = 0 ∧ mo LM 77 1 = 0 ∧ mo LM 264 55 = 0 ∧ mo LM 264 54 = 0 := by decide +kernel
theorem s0_sm : mo LM 36 0 = 0 ∧ mo LM 36 1 = 0 ∧ mo LM 37 0 = 0 ∧ mo LM 37 1 = 0 := by decide +kernel
theorem s0_sc3 : mo LM 161 0 = 0 ∧ mo LM 3 12 = 1 ∧ mo LM 204 0 = 0 ∧ mo LM 245 0 = 0 ∧ mo LM 250 0 = 0 ∧ mo LM 258 1 = 0 ∧ mo LM 258 4 = 0 ∧ mo LM 264 72 = 0 ∧ mo LM 3 8 = 1 ∧ mo LM 264 56 = 1 := by decide +kernel
theorem s0_m1 : ∀ j, j < 42 → mo LM 268 j = 0 ∧ mo LM 270 j = 0 ∧ mo LM 297 j = 0 := by decide +kernel
theorem s0_m2 : ∀ j, j < 12 → mo LM 279 j = 0 := by decide +kernel
theorem s0_m3 : ∀ j, j < 5 → mo LM 299 j = 0 := by decide +kernel
theorem kst0 : Kst (mo LM) := ⟨by decide +kernel, fun _ _ => rfl⟩
theorem inv0 : Inv (mo LM) := by
  obtain ⟨a1, a2, a3, a4, a5, a6, a7, a8, a9, a10, a11, a12, a13, a14, a15, a16, a17, a18, a19, a20, a21⟩ := s0_sc2
  obtain ⟨b1, b2, b3, b4, b5, b6, b7, b8, b9, b10⟩ := s0_sc3
  obtain ⟨g1, g2, g3, g4⟩ := s0_sm
  have sdz : ∀ (w : Nat) (c : Int → Int), w < 2 → SD (mo LM) (11 + 23) w c 0 := fun w c hw => by
    have e25 : ∀ w, w < 2 → mo LM (11 + 23 + 2) w = 0 := fun w hw => by
      rcases (by omega : w = 0 ∨ w = 1) with e | e <;> subst e
      · exact g1
      · exact g2
    have e26 : ∀ w, w < 2 → mo LM (11 + 23 + 3) w = 0 := fun w hw => by
      rcases (by omega : w = 0 ∨ w = 1) with e | e <;> subst e
      · exact g3
      · exact g4
    have e1 : mo LM (11 + 23) 1 = 0 := a3
    exact ⟨Or.inl rfl, hw, by unfold Lq; rw [e1, e26 0 (by decide), e26 1 (by decide), e25 0 (by decide), e25 1 (by decide)]; rfl, 0, ⟨by rw [e1]; decide, by rw [e1]; decide⟩, e25 w hw, e26 w hw, fun i i0 i1 => absurd i1 (by omega)⟩
  have nC0 : nC I0s = 0 := by decide
  have nT0 : nT I0s = 0 := by decide
  have nK0 : nK I0s = 0 := by decide
  have nD0 : nD I0s = 0 := by decide
  have nR0 : nR I0s = 0 := by decide
  have Ik : ∀ k i, ¬k = 19 → I0s k i = 0 := fun k i h => if_neg h
  have wf : ∀ k, ¬k = 19 → WF (I0s k) 0 := fun k hk => ⟨by decide, fun i hi => absurd hi (Nat.not_lt_zero i), fun i hi => by
    have e : i = 0 := by omega
    subst e
    exact (by show (0 : Int) ≤ 0 ∧ (0 : Int) ≤ 63; decide), fun i hi => absurd hi (Nat.not_lt_zero i), fun h => absurd h (by decide)⟩
  refine ⟨11, 0, I0s, l0s, 1, refs0, ⟨⟨Or.inl rfl, a1⟩, Or.inl ⟨rfl, rfl⟩, by rw [a2]; rfl, ⟨⟨Or.inl rfl, fun k hk => ?_, fun k i i0 i1 => ?_, fun s c _ _ c0 c1 => by rw [nC0] at c1; omega, fun i i0 i1 => ?_⟩, by rw [nD0]; exact sdz 0 _ (by decide), by rw [nR0]; exact sdz 1 _ (by decide)⟩, ⟨⟨Or.inl rfl, a5⟩, ⟨a6, a7, a8, a9, a10, a11, a12⟩, fun i i0 i1 => ?_, fun i i0 i1 => ?_, fun i i0 i1 => by rw [nK0] at i1; omega, fun i i0 i1 => by rw [nT0] at i1; omega, fun i i0 i1 => by rw [nT0] at i1; omega, fun i i0 i1 => ?_, Or.inl ⟨a13, nD0⟩, Or.inl ⟨a14, nR0⟩⟩, ⟨?_, fun k hk => by rw [nK0] at hk; omega, fun t ht => by rw [nT0] at ht; omega⟩⟩, ⟨by unfold Sz; decide, by unfold Cn; decide, fun k k0 k1 => ?_, ⟨fun c c0 c1 => ?_, fun t t0 t1 => ?_, ?_, ?_, ?_⟩, ⟨by decide, fun t ht => by rw [nT0] at ht; omega⟩, fun t ht => by rw [nT0] at ht; omega, by unfold Cm; decide⟩, ⟨⟨by decide, fun k i hk i0 i1 => ?_, a16⟩, ⟨by decide, fun i i0 i1 => ?_, fun i i0 i1 => by rw [nT0] at i1; omega, fun i i0 i1 => ?_, a17, by rw [nT0]; decide⟩, ⟨fun t t0 t1 => ?_, fun c _ _ => Or.inl rfl, fun c _ _ => rfl, ⟨fun k _ _ => by show (0 : Int) ≤ 0 ∧ (0 : Int) ≤ 9999; decide, by decide, by decide, by decide, by decide⟩, fun t t0 t1 => ?_, fun t u t0 t1 => ?_⟩⟩, ⟨0, 0, 0, fun _ => l0s, ⟨a18, a19, by decide, by decide, fun i hi => absurd hi (Nat.not_lt_zero i)⟩, ⟨a20, a21, by decide, by decide, fun i hi => absurd hi (Nat.not_lt_zero i)⟩, fun i hi => absurd hi (Nat.not_lt_zero i)⟩, ⟨b1, Or.inr b2, fun h => by rw [b2] at h; exact absurd h (by decide)⟩, ⟨b3, b4⟩, Or.inl b5, ⟨by rw [b6]; decide, by rw [b6]; decide, Or.inl ⟨by rw [b7]; decide, b8⟩⟩, ⟨b9, b10, by decide, by decide⟩, refd0, tape0, fault0, out0, kst0⟩
  · by_cases q : k < 21
    · exact s0_sc k q hk
    · exfalso
      unfold isPS at hk
      simp only [Bool.or_eq_true, beq_iff_eq] at hk
      omega
  · by_cases q : k < 21
    · have := s0_row k q i.toNat (by omega)
      rw [Int.toNat_of_nonneg i0] at this
      exact this
    · exfalso
      have e : rln k = 0 := by
        unfold rln
        repeat (rw [if_neg (by omega)])
      rw [e] at i1
      omega
  · exact s0_spot i.toNat (by omega)
  · rw [show 42 * 0 + i.toNat = i.toNat from by omega]
    exact (s0_m1 i.toNat (by omega)).1
  · rw [show 42 * 0 + i.toNat = i.toNat from by omega]
    exact (s0_m1 i.toNat (by omega)).2.1
  · rw [show 12 * 0 + i.toNat = i.toNat from by omega]
    exact s0_m2 i.toNat (by omega)
  · rw [a15]; decide
  · exact absurd k1 (by show ¬k < (0 : Int); omega)
  · rw [nC0] at c1; omega
  · exact absurd t1 (by show ¬t < (0 : Int); omega)
  · rw [nD0]; exact wf 22 (by decide)
  · rw [nR0]; exact wf 24 (by decide)
  · exact fun c => Or.inl (Ik 4 c (by decide))
  · have := s0_ld k hk i.toNat (by omega)
    exact this
  · rw [show 42 * 0 + i.toNat = i.toNat from by omega]
    exact (s0_m1 i.toNat (by omega)).2.2
  · rw [show 5 * 0 + i.toNat = i.toNat from by omega]
    exact s0_m3 i.toNat (by omega)
  · exact absurd t1 (by show ¬t < (0 : Int); omega)
  · exact absurd t1 (by show ¬t < (0 : Int); omega)
  · exact absurd t1 (by show ¬t < (0 : Int); omega)
/-- all but the island -/
theorem owed_of (hi : ∀ N, 4000 ≤ N → Call_2 N Inv) : Owed := by
  have hN : 2000 ≤ 4000 := by decide
  refine ⟨4000, Inv, by decide, inv0, fun m h a b c d e _ _ _ _ _ => feed_call hN h a b c d e, fun m h a _ => end_call h a, hi 4000 (by decide), fun m h a _ => fault_call h a, fun m h a _ => has_call hN h a, fun m h a b c _ _ _ => letter_ok hN h a b c, fun m h a b _ _ => ?_, fun m h a b _ _ => ?_, fun m h a b _ _ => ?_, fun m h a _ => sky_call h a, fun m h a b _ _ => cold_ok hN h a b, fun m h a b c _ _ _ => dew_ok hN h a b c, fun m h a _ => whole_ok hN h a, fun m h a b _ _ => hang_ok hN h a b, fun m h a b _ hb => wall_ok hN h a b hb, fun m h => night_ok hN h, fun m h a _ => nights_ok hN h a, fun m h => undo_ok hN h, fun m h a ha => seed_call h a ha, fun m h a _ => order_ok hN h a, fun m h => wrung_ok hN h, fun m h a b _ _ => alike_ok hN h a b, fun m h a b _ _ => linen_ok hN h a b, fun m h a b _ _ => down_ok hN h a b, fun m h a _ => best_ok hN h a, fun m h a b _ _ => votes_ok hN h a b, fun m h => walked_ok hN h, fun m h a _ => walk_call h a, fun m h a _ => stores_ok hN h a, fun m h => image_ok hN h, fun m h a _ => octet_call h a, fun m h => on_ok hN h, fun m h a _ => status_call h a⟩
  · obtain ⟨P, b', I, l, s, h⟩ := h
    exact cell_ok hN h a b
  · obtain ⟨P, b', I, l, s, h⟩ := h
    exact thing_ok hN h a b
  · obtain ⟨P, b', I, l, s, h⟩ := h
    exact cistern_ok hN h a b
