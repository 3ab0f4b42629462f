/-! an island taken -/
variable {T : Nat → Int} {len K D B : Nat} {m0 n0 : Mem}
theorem m_begin {N : Nat} (hN : 2000 ≤ N) {n : Mem} (r : Refs n) (hB : B = 0 ∨ B = 1) (e13 : n 264 13 = (B : Int)) : ∃ n2, X11_begin N 264 n = some n2 ∧ Refs n2 ∧ n2 296 0 = 0 ∧ n2 264 55 = 0 ∧ n2 264 72 = 0 ∧ (∀ c : Nat, c < 42 → n2 297 c = n 269 (42 * B + c)) ∧ (∀ t : Nat, t < 10 → n2 298 t = n 278 (10 * B + t)) ∧ (∀ k : Nat, k < 5 → n2 299 k = 0) ∧ (∀ j, ¬(j = 55 ∨ j = 72) → n2 264 j = n 264 j) ∧ ∀ a, ¬(a = 264 ∨ (296 ≤ a ∧ a ≤ 299)) → n2 a = n a := by
  have X : Wp (X11_begin N 264 n) (fun n2 => Refs n2 ∧ n2 296 0 = 0 ∧ n2 264 55 = 0 ∧ n2 264 72 = 0 ∧ (∀ c : Nat, c < 42 → n2 297 c = n 269 (42 * B + c)) ∧ (∀ t : Nat, t < 10 → n2 298 t = n 278 (10 * B + t)) ∧ (∀ k : Nat, k < 5 → n2 299 k = 0) ∧ (∀ j, ¬(j = 55 ∨ j = 72) → n2 264 j = n 264 j) ∧ ∀ a, ¬(a = 264 ∨ (296 ≤ a ∧ a ≤ 299)) → n2 a = n a) := by
    unfold X11_begin
    refine wp_k k264 ?_
    refine wp_b (gR50 r) ?_
    refine wp_b (asI 22 (by decide +kernel) (by decide) (by decide) _ _) ?_
    refine wp_b (p264 (by decide) _ _) ?_
    refine wp_b (p264 (by decide) _ _) ?_
    obtain ⟨x, hx⟩ : ∃ x, x = up (up (up n 296 0 0) 264 55 0) 264 72 0 := ⟨_, rfl⟩
    have rx : Refs x := by rw [hx]; exact refs_up (refs_up (refs_arr r (by decide +kernel) _ _) (by decide +kernel) _) (by decide +kernel) _
    have x96 : x 296 0 = 0 := by rw [hx, up_ne (by decide), up_ne (by decide), up_same]
    have x55 : x 264 55 = 0 := by rw [hx, up_slot (by decide), up_same]
    have x72 : x 264 72 = 0 := by rw [hx, up_same]
    have xj : ∀ j, ¬(j = 55 ∨ j = 72) → x 264 j = n 264 j := fun j hj => by rw [hx, up_at, if_neg (by omega), up_at, if_neg (by omega), up_ne (by decide)]
    have xo : ∀ a, ¬(a = 264 ∨ a = 296) → x a = n a := fun a ha => by rw [hx, up_ne (by omega), up_ne (by omega), up_ne (by omega)]
    show Wp (X11_begin_L19 N (fun z11 m12 => X11_begin_L53 N (fun z19 m20 => X11_begin_L87 N N z19 0 m20) N z11 0 m12) N 264 0 (up (up (up n 296 0 0) 264 55 0) 264 72 0)) _
    rw [← hx]
    refine lw_1 (fun c mm => Refs mm ∧ (∀ a, ¬a = 297 → mm a = x a) ∧ ∀ i, i < c → mm 297 i = n 269 (42 * B + i)) (fun F c mm => X11_begin_L19 N (fun z11 m12 => X11_begin_L53 N (fun z19 m20 => X11_begin_L87 N N z19 0 m20) N z11 0 m12) F 264 c mm) 42 _ (fun F c mm hc hI ih => ?_) (fun F mm hI => ?_) N x (by omega) ⟨rx, fun _ _ => rfl, fun i hi => absurd hi (Nat.not_lt_zero i)⟩
    · obtain ⟨rm, om, oi⟩ := hI
      show Wp (X11_begin_L19_b N _ (X11_begin_L19 N _ F) 264 (c : Int) mm) _
      unfold X11_begin_L19_b
      rw [if_neg (by omega)]
      refine wp_b (gR51 rm) ?_
      refine wp_b (gR17 rm) ?_
      refine wp_b (g264 (by decide)) ?_
      rw [om 264 (by decide), xj 13 (by decide), e13, wI_of2 (x := 42 * (B : Int)) (by omega) (by omega), wI_of2 (x := 42 * (B : Int) + (c : Int)) (by omega) (by omega)]
      refine wp_b (arI 84 (by decide +kernel) (by omega) (by omega) mm) ?_
      rw [show (42 * (B : Int) + (c : Int)).toNat = 42 * B + c from by omega, om 269 (by decide), xo 269 (by decide)]
      refine wp_b (asI 924 (by decide +kernel) (by omega) (by omega) _ _) ?_
      rw [Int.toNat_natCast]
      refine ih _ _ (by first | omega | (simp (disch := omega) only [wI_of2] <;> omega)) ⟨refs_arr rm (by decide +kernel) _ _, fun a ha => by rw [up_ne ha]; exact om a ha, fun i hi => ?_⟩
      by_cases y : i = c
      · rw [y, up_same]
      · rw [up_at, if_neg (by omega)]; exact oi i (by omega)
    · obtain ⟨rm, om, oi⟩ := hI
      show Wp (X11_begin_L19_b N _ (X11_begin_L19 N _ F) 264 ((42 : Nat) : Int) mm) _
      unfold X11_begin_L19_b
      rw [if_pos (by decide)]
      show Wp (X11_begin_L53 N (fun z19 m20 => X11_begin_L87 N N z19 0 m20) N 264 0 mm) _
      refine lw_1 (fun c m3 => Refs m3 ∧ (∀ a, ¬a = 298 → m3 a = mm a) ∧ ∀ i, i < c → m3 298 i = n 278 (10 * B + i)) (fun F c m3 => X11_begin_L53 N (fun z19 m20 => X11_begin_L87 N N z19 0 m20) F 264 c m3) 10 _ (fun F c m3 hc hI ih => ?_) (fun F m3 hI => ?_) N mm (by omega) ⟨rm, fun _ _ => rfl, fun i hi => absurd hi (Nat.not_lt_zero i)⟩
      · obtain ⟨rm3, om3, oi3⟩ := hI
        show Wp (X11_begin_L53_b N _ (X11_begin_L53 N _ F) 264 (c : Int) m3) _
        unfold X11_begin_L53_b
        rw [if_neg (by omega)]
        refine wp_b (gR52 rm3) ?_
        refine wp_b (gR26 rm3) ?_
        refine wp_b (g264 (by decide)) ?_
        rw [om3 264 (by decide), om 264 (by decide), xj 13 (by decide), e13, wI_of2 (x := 10 * (B : Int)) (by omega) (by omega), wI_of2 (x := 10 * (B : Int) + (c : Int)) (by omega) (by omega)]
        refine wp_b (arI 20 (by decide +kernel) (by omega) (by omega) m3) ?_
        rw [show (10 * (B : Int) + (c : Int)).toNat = 10 * B + c from by omega, om3 278 (by decide), om 278 (by decide), xo 278 (by decide)]
        refine wp_b (asI 220 (by decide +kernel) (by omega) (by omega) _ _) ?_
        rw [Int.toNat_natCast]
        refine ih _ _ (by first | omega | (simp (disch := omega) only [wI_of2] <;> omega)) ⟨refs_arr rm3 (by decide +kernel) _ _, fun a ha => by rw [up_ne ha]; exact om3 a ha, fun i hi => ?_⟩
        by_cases y : i = c
        · rw [y, up_same]
        · rw [up_at, if_neg (by omega)]; exact oi3 i (by omega)
      · obtain ⟨rm3, om3, oi3⟩ := hI
        show Wp (X11_begin_L53_b N _ (X11_begin_L53 N _ F) 264 ((10 : Nat) : Int) m3) _
        unfold X11_begin_L53_b
        rw [if_pos (by decide)]
        show Wp (X11_begin_L87 N N 264 0 m3) _
        refine lw_1 (fun c m4 => Refs m4 ∧ (∀ a, ¬a = 299 → m4 a = m3 a) ∧ ∀ i, i < c → m4 299 i = 0) (fun F c m4 => X11_begin_L87 N F 264 c m4) 5 _ (fun F c m4 hc hI ih => ?_) (fun F m4 hI => ?_) N m3 (by omega) ⟨rm3, fun _ _ => rfl, fun i hi => absurd hi (Nat.not_lt_zero i)⟩
        · obtain ⟨rm4, om4, oi4⟩ := hI
          show Wp (X11_begin_L87_b N (X11_begin_L87 N F) 264 (c : Int) m4) _
          unfold X11_begin_L87_b
          rw [if_neg (by omega)]
          refine wp_b (gR53 rm4) ?_
          refine wp_b (asI 110 (by decide +kernel) (by omega) (by omega) _ _) ?_
          rw [Int.toNat_natCast]
          refine ih _ _ (by first | omega | (simp (disch := omega) only [wI_of2] <;> omega)) ⟨refs_arr rm4 (by decide +kernel) _ _, fun a ha => by rw [up_ne ha]; exact om4 a ha, fun i hi => ?_⟩
          by_cases y : i = c
          · rw [y, up_same]
          · rw [up_at, if_neg (by omega)]; exact oi4 i (by omega)
        · obtain ⟨rm4, om4, oi4⟩ := hI
          show Wp (X11_begin_L87_b N (X11_begin_L87 N F) 264 ((5 : Nat) : Int) m4) _
          unfold X11_begin_L87_b
          rw [if_pos (by decide)]
          have w : ∀ a, ¬(297 ≤ a ∧ a ≤ 299) → m4 a = x a := fun a ha => by rw [om4 a (by omega), om3 a (by omega), om a (by omega)]
          refine wp_some ⟨rm4, by rw [w 296 (by decide)]; exact x96, by rw [w 264 (by decide)]; exact x55, by rw [w 264 (by decide)]; exact x72, fun c hc => by rw [om4 297 (by decide), om3 297 (by decide)]; exact oi c hc, fun t ht => by rw [om4 298 (by decide)]; exact oi3 t ht, oi4, fun j hj => by rw [w 264 (by decide)]; exact xj j hj, fun a ha => by rw [w a (by omega), xo a (by omega)]⟩
  obtain ⟨n2, e, h⟩ := X
  exact ⟨n2, e, h⟩
/-- the class's turning -/
def tlX (m6 : Mem) : Option (Int × Mem) :=
      (getR 10 3 3 m6).bind fun t7 =>
      (getR 10 4 3 m6).bind fun t8 =>
      (putR 10 3 3 t8 m6).bind fun m9 =>
      (putR 10 4 3 t7 m9).bind fun m10 =>
      (getR 10 5 3 m10).bind fun t11 =>
      (getR 10 3 3 m10).bind fun t12 =>
      (getR 5 5 t12 m10).bind fun t13 =>
      (X1_copyFrom t11 t13 m10).bind fun p14 =>
      (getR 10 7 3 p14).bind fun t15 =>
      (X4_forget t15 p14).bind fun p16 =>
      (getR 10 15 3 p16).bind fun t17 =>
      (X2_forget t17 p16).bind fun p18 =>
      (X10_changed 3 p18).bind fun p19 =>
      (getR 10 2 3 p19).bind fun t20 =>
      (getI 6 11 t20 p19).bind fun t21 =>
      some (t21, p19)
theorem x_taken {m6 : Mem} {P : Nat} {l' : Lnd} (r : Refs m6) (hD : D = 11 ∨ D = 40) (hP : P = 51 - D) (e33 : m6 3 3 = (P : Int)) (e34 : m6 3 4 = (D : Int)) (ld : LD m6 (D + 12) l') : ∃ mF, tlX m6 = some (m6 5 11, mF) ∧ Refs mF ∧ mF 3 3 = (D : Int) ∧ mF 3 4 = (P : Int) ∧ mF 3 12 = 1 ∧ (∀ k, ¬(k = 3 ∨ k = 4 ∨ k = 12) → mF 3 k = m6 3 k) ∧ (∀ l2, LD m6 (D + 12) l2 → LD mF 69 l2) ∧ (mF 77 2 = 0 ∧ mF 77 1 = m6 77 1) ∧ (mF 258 1 = 0 ∧ mF 258 4 = 0) ∧ mF 250 0 = 0 ∧ ∀ a, ¬(a = 3 ∨ (69 ≤ a ∧ a ≤ 72) ∨ a = 77 ∨ a = 258 ∨ a = 250) → mF a = m6 a := by
  have hP2 : P = 11 ∨ P = 40 := by omega
  have cP : (shK 3 == 10 + 10 && decide (3 < shN 3) && decide (P ≠ 0)) = true ∧ (shK 3 == 10 + 10 && decide (4 < shN 3) && decide (P ≠ 0)) = true := by rcases hP2 with e | e <;> subst e <;> decide +kernel
  have cD : (shK 3 == 10 + 10 && decide (3 < shN 3) && decide (D ≠ 0)) = true ∧ (shK 3 == 10 + 10 && decide (4 < shN 3) && decide (D ≠ 0)) = true := by rcases hD with e | e <;> subst e <;> decide +kernel
  obtain ⟨x, hx⟩ : ∃ x, x = up (up m6 3 3 (D : Int)) 3 4 (P : Int) := ⟨_, rfl⟩
  have ox : ∀ a, ¬a = 3 → x a = m6 a := fun a ha => by rw [hx, up_ne ha, up_ne ha]
  have oxj : ∀ k, ¬(k = 3 ∨ k = 4) → x 3 k = m6 3 k := fun k hk => by rw [hx, up_at, if_neg (by omega), up_at, if_neg (by omega)]
  have x3 : x 3 3 = (D : Int) := by rw [hx, up_slot (by decide), up_same]
  have x4 : x 3 4 = (P : Int) := by rw [hx, up_same]
  have rx : Refs x := by
    refine ⟨fun a k hk => ?_, ?_⟩
    · have ne : ¬(a = 3 ∧ (k = 3 ∨ k = 4)) := fun u => by
        obtain ⟨ua, uk⟩ := u
        subst ua
        rcases uk with uk | uk <;> subst uk <;> exact absurd hk (by decide +kernel)
      by_cases q : a = 3
      · subst q
        rw [oxj k (fun u => ne ⟨rfl, u⟩)]; exact r.1 3 k hk
      · rw [ox a q]; exact r.1 a k hk
    · rw [x3, x4]
      omega
  have ldx : ∀ l2, LD m6 (D + 12) l2 → LD x (D + 12) l2 := fun l2 h => ld_off h (fun a _ _ => ox a (by omega))
  obtain ⟨y, ey, ly, ry, oy⟩ := x_copy (L := 69) rx (by decide) (ldx l' ld) (show ¬69 = D + 12 from by omega)
  have lyA : ∀ l2, LD m6 (D + 12) l2 → LD y 69 l2 := fun l2 h => by
    obtain ⟨y2, ey2, ly2, _⟩ := x_copy (L := 69) rx (by decide) (ldx l2 h) (show ¬69 = D + 12 from by omega)
    rw [ey] at ey2
    have : y = y2 := Option.some.inj ey2
    rw [this]; exact ly2
  obtain ⟨z, hz⟩ : ∃ z, z = up (up (up y 77 2 0) 258 1 0) 258 4 0 := ⟨_, rfl⟩
  have rz1 : Refs (up y 77 2 0) := refs_up ry (by decide +kernel) _
  have rz : Refs z := by rw [hz]; exact refs_up (refs_up rz1 (by decide +kernel) _) (by decide +kernel) _
  obtain ⟨w, hw⟩ : ∃ w, w = up (up z 3 12 1) 250 0 0 := ⟨_, rfl⟩
  have rw1 : Refs (up z 3 12 1) := refs_up rz (by decide +kernel) _
  have rw' : Refs w := by rw [hw]; exact refs_up rw1 (by decide +kernel) _
  have w5 : w 5 11 = m6 5 11 := by rw [hw, up_ne (by decide), up_ne (by decide), hz, up_ne (by decide), up_ne (by decide), up_ne (by decide), oy 5 (by omega), ox 5 (by decide)]
  have y3 : ∀ k, y 3 k = x 3 k := fun k => by rw [oy 3 (by omega)]
  refine ⟨w, ?_, rw', ?_, ?_, ?_, fun k hk => ?_, fun l2 h => ?_, ⟨?_, ?_⟩, ⟨?_, ?_⟩, ?_, fun a ha => ?_⟩
  · refine wp_eq ?_
    unfold tlX
    refine wp_b (gtR P e33 cP.1) ?_
    refine wp_b (gtR D e34 cD.2) ?_
    refine wp_b (ptR D cD.1 _) ?_
    refine wp_b (ptR P cP.2 _) ?_
    rw [← hx]
    refine wp_b (rc rx 69 (by decide +kernel)) ?_
    refine wp_b (gtR D x3 cD.1) ?_
    refine wp_b (show getR 5 5 D x = some (D + 12) from pl_R rx hD (k := 5) (by decide)) ?_
    refine wp_b ey ?_
    refine wp_b (rc ry 77 (by decide +kernel)) ?_
    unfold X4_forget
    rw [if_pos (by decide +kernel), ptI (by decide +kernel), Option.bind_some, Option.bind_some]
    refine wp_b (rc rz1 258 (by decide +kernel)) ?_
    unfold X2_forget
    rw [if_pos (by decide +kernel), ptI (by decide +kernel), Option.bind_some, ptI (by decide +kernel), Option.bind_some, Option.bind_some, ← hz]
    unfold X10_changed
    rw [if_pos (by decide +kernel), ptZ1 (by decide +kernel), Option.bind_some, rc rw1 250 (by decide +kernel), Option.bind_some]
    unfold X0_forget
    rw [if_pos (by decide +kernel), ptI (by decide +kernel), Option.bind_some, Option.bind_some, Option.bind_some, ← hw]
    refine wp_b (rc rw' 5 (by decide +kernel)) ?_
    refine wp_b (gtI (by decide +kernel) _) ?_
    rw [w5]
    exact wp_some rfl
  · rw [hw, up_ne (by decide), up_slot (by decide), hz, up_ne (by decide), up_ne (by decide), up_ne (by decide), y3]; exact x3
  · rw [hw, up_ne (by decide), up_slot (by decide), hz, up_ne (by decide), up_ne (by decide), up_ne (by decide), y3]; exact x4
  · rw [hw, up_ne (by decide), up_same]
  · rw [hw, up_ne (by decide), up_at, if_neg (by omega), hz, up_ne (by decide), up_ne (by decide), up_ne (by decide), y3]; exact oxj k (by omega)
  · exact ld_off (lyA l2 h) (fun a h1 h2 => by rw [hw, up_ne (by omega), up_ne (by omega), hz, up_ne (by omega), up_ne (by omega), up_ne (by omega)])
  · rw [hw, up_ne (by decide), up_ne (by decide), hz, up_ne (by decide), up_ne (by decide), up_same]
  · rw [hw, up_ne (by decide), up_ne (by decide), hz, up_ne (by decide), up_ne (by decide), up_slot (by decide), oy 77 (by omega), ox 77 (by decide)]
  · rw [hw, up_ne (by decide), up_ne (by decide), hz, up_slot (by decide), up_same]
  · rw [hw, up_ne (by decide), up_ne (by decide), hz, up_same]
  · rw [hw, up_same]
  · rw [hw, up_ne (by omega), up_ne (by omega), hz, up_ne (by omega), up_ne (by omega), up_ne (by omega), oy a (by omega), ox a (by omega)]
/-- some memory at which the reference could begin -/
theorem ini_ex {m : Mem} (r : Refs m) (hB : B = 0 ∨ B = 1) (len : Nat) : ∃ n1, Ini m n1 B len ∧ n1 265 = m 265 := by
  obtain ⟨f, hf⟩ : ∃ f : Mem, f = fun a j => if a = 264 ∧ j = 2 then (len : Int) else if a = 264 ∧ (j = 1 ∨ j = 5 ∨ j = 8 ∨ j = 39) then 0 else if a = 264 ∧ j = 9 then -1 else if a = 264 ∧ j = 40 then (B : Int) else if (a = 280 ∨ a = 282) ∧ j = B then -1 else if a = 286 ∧ j = B then 5 else if 266 ≤ a ∧ a ≤ 286 then 0 else m a j := ⟨_, rfl⟩
  obtain ⟨n1, hn1⟩ : ∃ n1 : Mem, n1 = fun a j => @ite Int (a = 264 ∨ inBk B a j) (Classical.propDecidable _) (f a j) (m a j) := ⟨_, rfl⟩
  have in1 : ∀ a, (a = 266 ∨ a = 267 ∨ a = 271 ∨ a = 272 ∨ a = 273 ∨ a = 275 ∨ (280 ≤ a ∧ a ≤ 286)) → n1 a B = f a B := fun a ha => by rw [hn1]; exact if_pos (Or.inr (ibk1 ha B))
  have z264 : ∀ j, n1 264 j = f 264 j := fun j => by rw [hn1]; exact if_pos (Or.inl rfl)
  have nb : ∀ a j, ¬a = 264 → ¬inBk B a j → n1 a j = m a j := fun a j h1 h2 => by rw [hn1]; exact if_neg (fun u => by rcases u with u | u; exact h1 u; exact h2 u)
  have f264 : ∀ j, ¬(j = 1 ∨ j = 2 ∨ j = 5 ∨ j = 8 ∨ j = 9 ∨ j = 39 ∨ j = 40) → f 264 j = m 264 j := fun j hj => by
    rw [hf]
    show (if 264 = 264 ∧ j = 2 then (len : Int) else if 264 = 264 ∧ (j = 1 ∨ j = 5 ∨ j = 8 ∨ j = 39) then 0 else if 264 = 264 ∧ j = 9 then -1 else if 264 = 264 ∧ j = 40 then (B : Int) else if (264 = 280 ∨ 264 = 282) ∧ j = B then -1 else if 264 = 286 ∧ j = B then 5 else if 266 ≤ 264 ∧ 264 ≤ 286 then 0 else m 264 j) = m 264 j
    rw [if_neg (by omega), if_neg (by omega), if_neg (by omega), if_neg (by omega), if_neg (by omega), if_neg (by omega), if_neg (by omega)]
  have r264 : ∀ j, (j = 1 ∨ j = 2 ∨ j = 5 ∨ j = 8 ∨ j = 9 ∨ j = 39 ∨ j = 40) → isRef 264 j = false := by
    intro j hj
    rcases hj with h | h | h | h | h | h | h <;> subst h <;> decide +kernel
  have rB : ∀ a, a < 313 → (266 ≤ a ∧ a ≤ 290) → (shK a == 1 || shK a == 2) = true := by decide +kernel
  refine ⟨n1, ⟨refs_of r (fun a k hk => ?_), ⟨?_, ?_, ?_, ?_, ?_, ?_, ?_⟩, ⟨?_, ?_, ?_, ?_, ?_, ?_, ?_, ?_, ?_⟩, fun c hc => ⟨?_, ?_, ?_⟩, fun h hh => ?_, fun a j h1 h2 => ?_⟩, ?_⟩
  · by_cases q : a = 264
    · subst q
      rw [z264]
      exact f264 k (fun u => by rw [r264 k u] at hk; exact absurd hk (by decide))
    · refine nb a k q (fun u => ?_)
      have : 266 ≤ a ∧ a ≤ 290 := by unfold inBk at u; omega
      rw [arr_ref (rB a (by omega) this)] at hk
      exact absurd hk (by decide)
  · rw [z264, hf]; rfl
  · rw [z264, hf]; rfl
  · rw [z264, hf]; rfl
  · rw [z264, hf]; rfl
  · rw [z264, hf]; rfl
  · rw [z264, hf]; rfl
  · rw [z264, hf]; rfl
  · rw [in1 271 (by decide), hf]; rfl
  · rw [in1 272 (by decide), hf]; rfl
  · rw [in1 273 (by decide), hf]; rfl
  · rw [in1 275 (by decide), hf]; rfl
  · rw [in1 280 (by decide), hf]
    show (if (280 = 280 ∨ 280 = 282) ∧ B = B then (-1 : Int) else _) = -1
    rw [if_pos ⟨Or.inl rfl, rfl⟩]
  · rw [in1 282 (by decide), hf]
    show (if (282 = 280 ∨ 282 = 282) ∧ B = B then (-1 : Int) else _) = -1
    rw [if_pos ⟨Or.inr rfl, rfl⟩]
  · rw [in1 284 (by decide), hf]; rfl
  · rw [in1 285 (by decide), hf]; rfl
  · rw [in1 286 (by decide), hf]
    show (if 286 = 286 ∧ B = B then (5 : Int) else _) = 5
    rw [if_pos ⟨rfl, rfl⟩]
  · rw [show n1 268 (42 * B + c) = f 268 (42 * B + c) from by rw [hn1]; exact if_pos (Or.inr (by unfold inBk; omega)), hf]; rfl
  · rw [show n1 269 (42 * B + c) = f 269 (42 * B + c) from by rw [hn1]; exact if_pos (Or.inr (by unfold inBk; omega)), hf]; rfl
  · rw [show n1 270 (42 * B + c) = f 270 (42 * B + c) from by rw [hn1]; exact if_pos (Or.inr (by unfold inBk; omega)), hf]; rfl
  · rw [show n1 279 (12 * B + h) = f 279 (12 * B + h) from by rw [hn1]; exact if_pos (Or.inr (by unfold inBk; omega)), hf]; rfl
  · by_cases q : a = 264
    · subst q
      rw [z264]
      exact f264 j (fun u => h1 ⟨rfl, u⟩)
    · exact nb a j q h2
  · funext j
    exact nb 265 j (by decide) (by unfold inBk; omega)
