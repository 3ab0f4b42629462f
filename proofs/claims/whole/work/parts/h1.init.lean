/-! the reference begins -/
variable {T : Nat → Int} {len K D B : Nat} {m0 n0 : Mem}
def isGE (N : Nat) : Nat → Int → Mem → Option (Int × Mem) := fun z72 z73 m74 =>
                (getI 11 8 z72 m74).bind fun t75 =>
                (putI 11 10 z72 t75 m74).bind fun m76 =>
                (getI 11 9 z72 m76).bind fun t77 =>
                (putI 11 11 z72 t77 m76).bind fun m78 =>
                (getI 11 8 z72 m78).bind fun t79 =>
                if t79 ≤ 0 then (
                  (getI 11 40 z72 m78).bind fun t80 =>
                  (putI 11 13 z72 t80 m78).bind fun m81 =>
                  (X11_begin N z72 m81).bind fun p82 =>
                  some (z73, p82)
                ) else (
                  (X11_refuses z72 1 m78).bind fun p83 =>
                  some (p83.1, p83.2)
                )
def isG3 (N : Nat) (z53 : Nat) (m64 : Mem) : Option (Int × Mem) := (X11_finishes N z53 1 m64).bind fun p65 => X11_island_L271 N (isGE N) N z53 1 p65
def isG2 (N : Nat) (z53 : Nat) (m60 : Mem) : Option (Int × Mem) := (getR 11 15 z53 m60).bind fun t61 => (getI 11 40 z53 m60).bind fun t62 => (X11_number N z53 2 6 m60).bind fun p63 => (astI t61 t62 p63.1 p63.2).bind fun m64 => isG3 N z53 m64
def isG1 (N : Nat) (z53 : Nat) (p56 : Mem) : Option (Int × Mem) := (getR 11 14 z53 p56).bind fun t57 => (getI 11 40 z53 p56).bind fun t58 => (X11_number N z53 2 7 p56).bind fun p59 => (astI t57 t58 p59.1 p59.2).bind fun m60 => isG2 N z53 m60
def isG0 (N : Nat) (z53 : Nat) (m54 : Mem) : Option (Int × Mem) := (X11_ahead N z53 m54).bind fun p55 => (X11_must_ N z53 115944460480100 p55).bind fun p56 => isG1 N z53 p56
/-- the bank laid anew -/
def Ini (n n1 : Mem) (B len : Nat) : Prop := Refs n1 ∧ (n1 264 2 = (len : Int) ∧ n1 264 1 = 0 ∧ n1 264 5 = 0 ∧ n1 264 8 = 0 ∧ n1 264 9 = -1 ∧ n1 264 40 = (B : Int) ∧ n1 264 39 = 0) ∧ (n1 271 B = 0 ∧ n1 272 B = 0 ∧ n1 273 B = 0 ∧ n1 275 B = 0 ∧ n1 280 B = -1 ∧ n1 282 B = -1 ∧ n1 284 B = 0 ∧ n1 285 B = 0 ∧ n1 286 B = 5) ∧ (∀ c, c < 42 → n1 268 (42 * B + c) = 0 ∧ n1 269 (42 * B + c) = 0 ∧ n1 270 (42 * B + c) = 0) ∧ (∀ h, h < 12 → n1 279 (12 * B + h) = 0) ∧ ∀ a j, ¬(a = 264 ∧ (j = 1 ∨ j = 2 ∨ j = 5 ∨ j = 8 ∨ j = 9 ∨ j = 39 ∨ j = 40)) → ¬inBk B a j → n1 a j = n a j
theorem ibk1 {a : Nat} (h : a = 266 ∨ a = 267 ∨ a = 271 ∨ a = 272 ∨ a = 273 ∨ a = 275 ∨ (280 ≤ a ∧ a ≤ 286)) (B : Nat) : inBk B a B := Or.inl ⟨h, rfl⟩
theorem m_init {N : Nat} (hN : 2000 ≤ N) {n : Mem} (r : Refs n) {b : Nat} (hb : b = 0 ∨ b = 1) (e13 : n 264 13 = (b : Int)) (hB : B = 1 - b) {len : Nat} (e1 : n 264 1 = (len : Int)) {Q : Int × Mem → Prop} (h : ∀ n1, Ini n n1 B len → Wp (isG0 N 264 n1) Q) : Wp (X11_island N 264 n) Q := by
  have hB2 : B = 0 ∨ B = 1 := by omega
  unfold X11_island
  refine wp_k k264 ?_
  refine wp_b (g264 (by decide)) ?_
  refine wp_b (p264 (by decide) _ _) ?_
  refine wp_b (p264 (by decide) _ _) ?_
  refine wp_b (p264 (by decide) _ _) ?_
  refine wp_b (p264 (by decide) _ _) ?_
  refine wp_b (p264 (by decide) _ _) ?_
  refine wp_b (g264 (by decide)) ?_
  rw [up_slot (by decide), up_slot (by decide), up_slot (by decide), up_slot (by decide), up_slot (by decide), e13, e1, wI_of2 (x := 1 - (b : Int)) (by omega) (by omega), show 1 - (b : Int) = (B : Int) from by omega]
  refine wp_b (p264 (by decide) _ _) ?_
  obtain ⟨x0, hx0⟩ : ∃ x, x = up (up (up (up (up (up n 264 2 (len : Int)) 264 1 0) 264 5 0) 264 8 0) 264 9 (-1)) 264 40 (B : Int) := ⟨_, rfl⟩
  rw [← hx0]
  have s0 : Refs x0 := by rw [hx0]; exact refs_up (refs_up (refs_up (refs_up (refs_up (refs_up r (by decide +kernel) _) (by decide +kernel) _) (by decide +kernel) _) (by decide +kernel) _) (by decide +kernel) _) (by decide +kernel) _
  have z0 : ∀ x : Mem, (∀ j, ¬j = 39 → x 264 j = x0 264 j) → x 264 40 = (B : Int) := fun x hx => by rw [hx 40 (by decide), hx0, up_same]
  have y0 : x0 264 2 = (len : Int) ∧ x0 264 1 = 0 ∧ x0 264 5 = 0 ∧ x0 264 8 = 0 ∧ x0 264 9 = -1 := by
    rw [hx0]
    refine ⟨?_, ?_, ?_, ?_, ?_⟩
    · rw [up_slot (by decide), up_slot (by decide), up_slot (by decide), up_slot (by decide), up_slot (by decide), up_same]
    · rw [up_slot (by decide), up_slot (by decide), up_slot (by decide), up_slot (by decide), up_same]
    · rw [up_slot (by decide), up_slot (by decide), up_slot (by decide), up_same]
    · rw [up_slot (by decide), up_slot (by decide), up_same]
    · rw [up_slot (by decide), up_same]
  -- one number of the bank
  have st : ∀ (x : Mem) (a : Nat) (v : Int), (shK a == 1 && shN a == 2 && decide (3 ≤ a)) = true → astI a (B : Int) v x = some (up x a B v) := fun x a v c => wst1 c hB2 v x
  have gk : ∀ {x : Mem}, (∀ j, x 264 j = x0 264 j) → getI 11 40 264 x = some (B : Int) := fun {x} hx => by rw [g264 (by decide), z0 x (fun j _ => hx j)]
  obtain ⟨x1, hx1⟩ : ∃ x, x = up (up (up (up x0 271 B 0) 272 B 0) 273 B 0) 275 B 0 := ⟨_, rfl⟩
  obtain ⟨x2, hx2⟩ : ∃ x, x = up (up x1 280 B (-1)) 282 B (-1) := ⟨_, rfl⟩
  obtain ⟨x3, hx3⟩ : ∃ x, x = up (up (up x2 284 B 0) 285 B 0) 286 B 5 := ⟨_, rfl⟩
  have s1 : Refs x1 := by rw [hx1]; exact refs_arr (refs_arr (refs_arr (refs_arr s0 (by decide +kernel) _ _) (by decide +kernel) _ _) (by decide +kernel) _ _) (by decide +kernel) _ _
  have s2 : Refs x2 := by rw [hx2]; exact refs_arr (refs_arr s1 (by decide +kernel) _ _) (by decide +kernel) _ _
  have s3 : Refs x3 := by rw [hx3]; exact refs_arr (refs_arr (refs_arr s2 (by decide +kernel) _ _) (by decide +kernel) _ _) (by decide +kernel) _ _
  refine wp_b (gR19 s0) ?_
  refine wp_b (gk (fun _ => rfl)) ?_
  refine wp_b (st _ 271 0 (by decide +kernel)) ?_
  refine wp_b (gR20 (refs_arr s0 (by decide +kernel) _ _)) ?_
  refine wp_b (gk (fun j => by rw [up_ne (by decide)])) ?_
  refine wp_b (st _ 272 0 (by decide +kernel)) ?_
  refine wp_b (gR21 (refs_arr (refs_arr s0 (by decide +kernel) _ _) (by decide +kernel) _ _)) ?_
  refine wp_b (gk (fun j => by rw [up_ne (by decide), up_ne (by decide)])) ?_
  refine wp_b (st _ 273 0 (by decide +kernel)) ?_
  refine wp_b (gR23 (refs_arr (refs_arr (refs_arr s0 (by decide +kernel) _ _) (by decide +kernel) _ _) (by decide +kernel) _ _)) ?_
  refine wp_b (gk (fun j => by rw [up_ne (by decide), up_ne (by decide), up_ne (by decide)])) ?_
  refine wp_b (st _ 275 0 (by decide +kernel)) ?_
  rw [← hx1]
  have g1 : ∀ j, x1 264 j = x0 264 j := fun j => by rw [hx1, up_ne (by decide), up_ne (by decide), up_ne (by decide), up_ne (by decide)]
  refine wp_b (gR28 s1) ?_
  refine wp_b (gk g1) ?_
  refine wp_b (st _ 280 (-1) (by decide +kernel)) ?_
  refine wp_b (gR30 (refs_arr s1 (by decide +kernel) _ _)) ?_
  refine wp_b (gk (fun j => by rw [up_ne (by decide), g1])) ?_
  refine wp_b (st _ 282 (-1) (by decide +kernel)) ?_
  rw [← hx2]
  have g2 : ∀ j, x2 264 j = x0 264 j := fun j => by rw [hx2, up_ne (by decide), up_ne (by decide), g1]
  refine wp_b (gR32 s2) ?_
  refine wp_b (gk g2) ?_
  refine wp_b (st _ 284 0 (by decide +kernel)) ?_
  refine wp_b (gR33 (refs_arr s2 (by decide +kernel) _ _)) ?_
  refine wp_b (gk (fun j => by rw [up_ne (by decide), g2])) ?_
  refine wp_b (st _ 285 0 (by decide +kernel)) ?_
  refine wp_b (gR34 (refs_arr (refs_arr s2 (by decide +kernel) _ _) (by decide +kernel) _ _)) ?_
  refine wp_b (gk (fun j => by rw [up_ne (by decide), up_ne (by decide), g2])) ?_
  refine wp_b (st _ 286 5 (by decide +kernel)) ?_
  rw [← hx3]
  have g3 : ∀ j, x3 264 j = x0 264 j := fun j => by rw [hx3, up_ne (by decide), up_ne (by decide), up_ne (by decide), g2]
  refine wp_b (p264 (by decide) _ _) ?_
  obtain ⟨x4, hx4⟩ : ∃ x, x = up x3 264 39 0 := ⟨_, rfl⟩
  rw [← hx4]
  have s4 : Refs x4 := by rw [hx4]; exact refs_up s3 (by decide +kernel) _
  have g4 : ∀ j, ¬j = 39 → x4 264 j = x0 264 j := fun j hj => by rw [hx4, up_at, if_neg hj, g3]
  have q4 : ∀ a, ¬a = 264 → x4 a = x3 a := fun a ha => by rw [hx4, up_ne ha]
  refine lw_1 (fun c mm => Refs mm ∧ (∀ a, ¬(268 ≤ a ∧ a ≤ 270) → mm a = x4 a) ∧ (∀ a j, (268 ≤ a ∧ a ≤ 270) → ¬(42 * B ≤ j ∧ j < 42 * B + 42) → mm a j = x4 a j) ∧ ∀ i, i < c → mm 268 (42 * B + i) = 0 ∧ mm 269 (42 * B + i) = 0 ∧ mm 270 (42 * B + i) = 0) (fun F c mm => X11_island_L135 N (fun z47 m48 => X11_island_L194 N (isG0 N) N z47 0 m48) F 264 c mm) 42 _ (fun F c mm hc hI ih => ?_) (fun F mm hI => ?_) N x4 (by omega) ⟨s4, fun _ _ => rfl, fun _ _ _ _ => rfl, fun i hi => absurd hi (Nat.not_lt_zero i)⟩
  · obtain ⟨rm, om, ox, oi⟩ := hI
    show Wp (X11_island_L135_b N _ (X11_island_L135 N _ F) 264 (c : Int) mm) Q
    unfold X11_island_L135_b
    rw [if_neg (by omega)]
    have k40 : ∀ mm2 : Mem, mm2 264 = mm 264 → getI 11 40 264 mm2 = some (B : Int) := fun mm2 e => by rw [g264 (by decide), e, om 264 (by decide), z0 x4 g4]
    refine wp_b (gR16 rm) ?_
    refine wp_b (k40 mm rfl) ?_
    refine wp_b (wst (K := 42) (B := B) (len := 42) (n := 84) (by decide +kernel) (by omega) (by decide) (by omega) (by omega) 0 mm) ?_
    have t1 : Refs (up mm 268 (42 * B + ((c : Nat) : Int).toNat) 0) := refs_arr rm (by decide +kernel) _ _
    refine wp_b (gR17 t1) ?_
    refine wp_b (k40 _ (up_ne (by decide))) ?_
    refine wp_b (wst (K := 42) (B := B) (len := 42) (n := 84) (by decide +kernel) (by omega) (by decide) (by omega) (by omega) 0 _) ?_
    have t2 : Refs (up (up mm 268 (42 * B + ((c : Nat) : Int).toNat) 0) 269 (42 * B + ((c : Nat) : Int).toNat) 0) := refs_arr t1 (by decide +kernel) _ _
    refine wp_b (gR18 t2) ?_
    refine wp_b (k40 _ (by rw [up_ne (by decide), up_ne (by decide)])) ?_
    refine wp_b (wst (K := 42) (B := B) (len := 42) (n := 84) (by decide +kernel) (by omega) (by decide) (by omega) (by omega) 0 _) ?_
    rw [Int.toNat_natCast]
    refine ih _ _ (by first | omega | (simp (disch := omega) only [wI_of2] <;> omega)) ⟨by rw [Int.toNat_natCast] at t2; exact refs_arr t2 (by decide +kernel) _ _, fun a ha => ?_, fun a j ha hj => ?_, fun i hi => ?_⟩
    · rw [up_ne (by omega), up_ne (by omega), up_ne (by omega)]; exact om a ha
    · have e : ∀ (x : Mem) (a2 : Nat), up x a2 (42 * B + c) 0 a j = x a j := fun x a2 => by
        by_cases z : a = a2
        · subst z; rw [up_at, if_neg (by omega)]
        · rw [up_ne z]
      rw [e, e, e]; exact ox a j ha hj
    · by_cases y : i = c
      · rw [y]
        exact ⟨by rw [up_ne (by decide), up_ne (by decide), up_same], by rw [up_ne (by decide), up_same], up_same _ _ _ _⟩
      · obtain ⟨v1, v2, v3⟩ := oi i (by omega)
        exact ⟨by rw [up_ne (by decide), up_ne (by decide), up_at, if_neg (by omega)]; exact v1, by rw [up_ne (by decide), up_at, if_neg (by omega), up_ne (by decide)]; exact v2, by rw [up_at, if_neg (by omega), up_ne (by decide), up_ne (by decide)]; exact v3⟩
  · obtain ⟨rm, om, ox, oi⟩ := hI
    show Wp (X11_island_L135_b N _ (X11_island_L135 N _ F) 264 ((42 : Nat) : Int) mm) Q
    unfold X11_island_L135_b
    rw [if_pos (by decide)]
    show Wp (X11_island_L194 N (isG0 N) N 264 0 mm) Q
    refine lw_1 (fun c m3 => Refs m3 ∧ (∀ a, ¬a = 279 → m3 a = mm a) ∧ (∀ j, ¬(12 * B ≤ j ∧ j < 12 * B + 12) → m3 279 j = mm 279 j) ∧ ∀ i, i < c → m3 279 (12 * B + i) = 0) (fun F c m3 => X11_island_L194 N (isG0 N) F 264 c m3) 12 _ (fun F c m3 hc hI ih => ?_) (fun F m3 hI => ?_) N mm (by omega) ⟨rm, fun _ _ => rfl, fun _ _ => rfl, fun i hi => absurd hi (Nat.not_lt_zero i)⟩
    · obtain ⟨rm3, om3, ox3, oi3⟩ := hI
      show Wp (X11_island_L194_b N _ (X11_island_L194 N _ F) 264 (c : Int) m3) Q
      unfold X11_island_L194_b
      rw [if_neg (by omega)]
      refine wp_b (gR27 rm3) ?_
      refine wp_b (show getI 11 40 264 m3 = some (B : Int) from by rw [g264 (by decide), om3 264 (by decide), om 264 (by decide), z0 x4 g4]) ?_
      refine wp_b (wst (K := 12) (B := B) (len := 12) (n := 24) (by decide +kernel) (by omega) (by decide) (by omega) (by omega) 0 m3) ?_
      rw [Int.toNat_natCast]
      refine ih _ _ (by first | omega | (simp (disch := omega) only [wI_of2] <;> omega)) ⟨refs_arr rm3 (by decide +kernel) _ _, fun a ha => by rw [up_ne ha]; exact om3 a ha, fun j hj => by rw [up_at, if_neg (by omega)]; exact ox3 j hj, fun i hi => ?_⟩
      by_cases y : i = c
      · rw [y, up_same]
      · rw [up_at, if_neg (by omega)]; exact oi3 i (by omega)
    · obtain ⟨rm3, om3, ox3, oi3⟩ := hI
      show Wp (X11_island_L194_b N _ (X11_island_L194 N _ F) 264 ((12 : Nat) : Int) m3) Q
      unfold X11_island_L194_b
      rw [if_pos (by decide)]
      have w : ∀ a, ¬a = 279 → ¬(268 ≤ a ∧ a ≤ 270) → m3 a = x4 a := fun a h1 h2 => by rw [om3 a h1, om a h2]
      have w4 : ∀ j, ¬j = 39 → m3 264 j = x0 264 j := fun j hj => by rw [w 264 (by decide) (by decide), g4 j hj]
      refine h m3 ⟨rm3, ⟨by rw [w4 2 (by decide)]; exact y0.1, by rw [w4 1 (by decide)]; exact y0.2.1, by rw [w4 5 (by decide)]; exact y0.2.2.1, by rw [w4 8 (by decide)]; exact y0.2.2.2.1, by rw [w4 9 (by decide)]; exact y0.2.2.2.2, z0 m3 w4, by rw [w 264 (by decide) (by decide), hx4, up_same]⟩, ⟨?_, ?_, ?_, ?_, ?_, ?_, ?_, ?_, ?_⟩, fun c hc => ?_, oi3, fun a j h1 h2 => ?_⟩
      · rw [w 271 (by decide) (by decide), q4 271 (by decide), hx3, up_ne (by decide), up_ne (by decide), up_ne (by decide), hx2, up_ne (by decide), up_ne (by decide), hx1, up_ne (by decide), up_ne (by decide), up_ne (by decide), up_same]
      · rw [w 272 (by decide) (by decide), q4 272 (by decide), hx3, up_ne (by decide), up_ne (by decide), up_ne (by decide), hx2, up_ne (by decide), up_ne (by decide), hx1, up_ne (by decide), up_ne (by decide), up_same]
      · rw [w 273 (by decide) (by decide), q4 273 (by decide), hx3, up_ne (by decide), up_ne (by decide), up_ne (by decide), hx2, up_ne (by decide), up_ne (by decide), hx1, up_ne (by decide), up_same]
      · rw [w 275 (by decide) (by decide), q4 275 (by decide), hx3, up_ne (by decide), up_ne (by decide), up_ne (by decide), hx2, up_ne (by decide), up_ne (by decide), hx1, up_same]
      · rw [w 280 (by decide) (by decide), q4 280 (by decide), hx3, up_ne (by decide), up_ne (by decide), up_ne (by decide), hx2, up_ne (by decide), up_same]
      · rw [w 282 (by decide) (by decide), q4 282 (by decide), hx3, up_ne (by decide), up_ne (by decide), up_ne (by decide), hx2, up_same]
      · rw [w 284 (by decide) (by decide), q4 284 (by decide), hx3, up_ne (by decide), up_ne (by decide), up_same]
      · rw [w 285 (by decide) (by decide), q4 285 (by decide), hx3, up_ne (by decide), up_same]
      · rw [w 286 (by decide) (by decide), q4 286 (by decide), hx3, up_same]
      · rw [om3 268 (by decide), om3 269 (by decide), om3 270 (by decide)]; exact oi c hc
      · have one : ∀ (x : Mem) (a2 : Nat) (v : Int), inBk B a2 B → up x a2 B v a j = x a j := fun x a2 v hk => by
          by_cases z : a = a2
          · subst z; rw [up_at, if_neg (fun u => h2 (by rw [u]; exact hk))]
          · rw [up_ne z]
        have e4 : m3 a j = x4 a j := by
          by_cases z : a = 279
          · rw [z, ox3 j (fun u => h2 (by rw [z]; unfold inBk; omega)), om 279 (by decide)]
          · rw [om3 a z]
            by_cases z2 : 268 ≤ a ∧ a ≤ 270
            · exact ox a j z2 (fun u => h2 (by unfold inBk; omega))
            · rw [om a z2]
        have e3 : x4 a j = x3 a j := by
          by_cases z : a = 264
          · rw [hx4, z, up_at, if_neg (fun u => h1 ⟨z, by omega⟩)]
          · rw [q4 a z]
        have e0 : x0 a j = n a j := by
          by_cases z : a = 264
          · subst z
            have hj : ¬(j = 1 ∨ j = 2 ∨ j = 5 ∨ j = 8 ∨ j = 9 ∨ j = 39 ∨ j = 40) := fun u => h1 ⟨rfl, u⟩
            rw [hx0, up_at, if_neg (by omega), up_at, if_neg (by omega), up_at, if_neg (by omega), up_at, if_neg (by omega), up_at, if_neg (by omega), up_at, if_neg (by omega)]
          · rw [hx0, up_ne z, up_ne z, up_ne z, up_ne z, up_ne z, up_ne z]
        rw [e4, e3, hx3, one _ _ _ (ibk1 (by decide) B), one _ _ _ (ibk1 (by decide) B), one _ _ _ (ibk1 (by decide) B), hx2, one _ _ _ (ibk1 (by decide) B), one _ _ _ (ibk1 (by decide) B), hx1, one _ _ _ (ibk1 (by decide) B), one _ _ _ (ibk1 (by decide) B), one _ _ _ (ibk1 (by decide) B), one _ _ _ (ibk1 (by decide) B), e0]
