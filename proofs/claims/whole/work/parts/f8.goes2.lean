/-! a sum under way: the signs behind a part -/
variable {T : Nat → Int} {len K D B S So p p2 ko f0 : Nat} {co : Int → Int} {s : Int} {m0 n0 : Mem} {I : Isl} {l : Lnd}
theorem isS_y {n : Mem} {a : Nat} {c : Int} (rs : RS n T len a) (h : isS T len a c) : X11_isSign 264 c n = some 1 := by rw [m_isSign rs c, ← bi_t h.2]
theorem isS_n {n : Mem} {a : Nat} {c : Int} (rs : RS n T len a) (rl : rlx T len a = -1) (h : ¬isS T len a c) : X11_isSign 264 c n = some 0 := by rw [m_isSign rs c, ← bi_f (fun u => h ⟨rl, u⟩)]
theorem isS_u {a : Nat} {c c2 : Int} (h : isS T len a c) (ne : ¬c = c2) : ¬isS T len a c2 := fun u => ne (by rw [← h.2.2, u.2.2])
abbrev isOpS (c : Int) : Prop := c = 43 ∨ c = 45 ∨ c = 42 ∨ c = 47 ∨ c = 37
/-- goesOn at an operator, up to joins -/
theorem g_op {N : Nat} {n : Mem} {a o q : Nat} {c : Int} (r : Refs n) (rs : RS n T len a) (st : SSt n o q) (ho : o < 19) (h : isS T len a c) (hc : isOpS c) : X11_goesOn N 264 n = X11_goesOn_J97 N 264 264 (if c = 43 ∨ c = 45 then 5 else 6) n := by
  have rl := h.1
  unfold X11_goesOn
  rw [if_pos k264, m_lex1 rs rl, Option.bind_some, g264 (by decide), Option.bind_some, rs.2.1, if_pos (by decide), g264 (by decide), Option.bind_some, gR41 r, Option.bind_some, st.1, wI_of2 (x := ((o + 1 : Nat) : Int) - 1) (by omega) (by omega), arI 20 (by decide +kernel) (by omega) (by omega) n, Option.bind_some]
  have J72 : c = 43 ∨ c = 45 → X11_goesOn_J72 N 264 n = X11_goesOn_J97 N 264 264 5 n := fun w => by
    unfold X11_goesOn_J72 X11_goesOn_J91
    rcases w with w | w
    · subst w; rw [isS_y rs h, Option.bind_some, if_pos (by decide)]
    · subst w; rw [isS_n rs rl (isS_u h (by decide)), Option.bind_some, if_neg (fun u => u rfl), isS_y rs h, Option.bind_some, if_neg (by decide)]
  have J6 : ¬c = 43 → ¬c = 45 → X11_goesOn_J72 N 264 n = X11_goesOn_J97 N 264 264 6 n := fun w w2 => by
    unfold X11_goesOn_J72
    rw [isS_n rs rl (isS_u h w), Option.bind_some, if_neg (fun u => u rfl), isS_n rs rl (isS_u h w2), Option.bind_some, if_pos rfl]
  by_cases q1 : c = 43
  · rw [if_pos (Or.inl q1), show X11_isSign 264 43 n = some 1 from by rw [← q1]; exact isS_y rs h, Option.bind_some, if_pos (by decide)]
    exact J72 (Or.inl q1)
  rw [isS_n rs rl (isS_u h q1), Option.bind_some, if_neg (fun u => u rfl)]
  by_cases q2 : c = 45
  · rw [if_pos (Or.inr q2), show X11_isSign 264 45 n = some 1 from by rw [← q2]; exact isS_y rs h, Option.bind_some, if_pos (by decide)]
    exact J72 (Or.inr q2)
  rw [if_neg (show ¬(c = 43 ∨ c = 45) from by omega), isS_n rs rl (isS_u h q2), Option.bind_some, if_neg (fun u => u rfl)]
  by_cases q3 : c = 42
  · rw [show X11_isSign 264 42 n = some 1 from by rw [← q3]; exact isS_y rs h, Option.bind_some, if_pos (by decide)]
    exact J6 q1 q2
  rw [isS_n rs rl (isS_u h q3), Option.bind_some, if_neg (fun u => u rfl)]
  by_cases q4 : c = 47
  · rw [show X11_isSign 264 47 n = some 1 from by rw [← q4]; exact isS_y rs h, Option.bind_some, if_pos (by decide)]
    exact J6 q1 q2
  have q5 : c = 37 := by omega
  rw [isS_n rs rl (isS_u h q4), Option.bind_some, if_neg (fun u => u rfl), show X11_isSign 264 37 n = some 1 from by rw [← q5]; exact isS_y rs h, Option.bind_some, if_neg (by decide)]
  exact J6 q1 q2
theorem cdS_sg {c : Int} (hc : isOpS c) : cdS (-c) = (if c = 43 then 10 else if c = 45 then 11 else if c = 42 then 12 else if c = 47 then 13 else 14) ∧ isOp (-c) ∧ -c < -10 := by
  rcases hc with h | h | h | h | h <;> subst h <;> refine ⟨by decide, by unfold isOp; decide, by decide⟩
theorem b_opstep {N : Nat} (hN : 2000 ≤ N) {m n m2 : Mem} {a k R e o q1 q2 b : Nat} {c : Int} (ho : o < 19) (hq : q2 ≤ 480) (hb : b ≤ q1) (h : MS T len K D B S So p p2 co ko f0 s m0 n0 I l m n a k R e) (sg : isS T len a c) (hc : isOpS c) (st : SSt n o q2) (e93 : n 293 o = (b : Int)) (pn : PenG m n S f0 q1 q2 R) (hR : R + (q2 - q1) = k) (rk : ∀ i, q1 ≤ i → i < q2 → (c = 43 ∨ c = 45) ∨ ¬(n 294 i = 10 ∨ n 294 i = 11)) (hs : q1 = b ∨ (b < q1 ∧ ¬(c = 43 ∨ c = 45) ∧ (n 294 (q1 - 1) = 10 ∨ n 294 (q1 - 1) = 11))) (f : ReF J14 m m2) (rp : RP m2 T len K (nx T len a)) : ∃ n2, X11_goesOn N 264 n = some (1, n2) ∧ n2 264 8 = 0 ∧ MS T len K D B S So p p2 co ko f0 s m0 n0 I l m2 n2 (nx T len a) k k e ∧ SSt n2 o (q1 + 1) ∧ n2 294 q1 = cdS (-c) ∧ n2 264 48 = 0 ∧ KpF n n2 o q1 := by
  have rs := h.2.1.2
  have lt : a < len := rs_end rs (by have := sg.2.1; omega)
  have bd := (ms_B h).2.2.2.1
  have hl := (ms_B h).2.2.2.2.2.2
  have lst : (if c = 43 ∨ c = 45 then (5 : Int) else 6) ≤ 6 := by
    by_cases z : c = 43 ∨ c = 45
    · rw [if_pos z]; decide
    · rw [if_neg z]; decide
  obtain ⟨n1, e1, h1, s1, g1, kp1⟩ := b_joins hN (least := if c = 43 ∨ c = 45 then 5 else 6) ho (by omega) hb (by omega) h st e93 pn (by omega) (fun i i0 i1 => by
    rcases rk i i0 i1 with z | z
    · exact Or.inl (by rw [if_pos z]; decide)
    · exact Or.inr z) lst (by
    rcases hs with z | ⟨z1, z2, z3⟩
    · exact Or.inl z
    · exact Or.inr ⟨z1, by rw [if_neg z2]; decide, z3⟩)
  rw [hR] at h1
  obtain ⟨n2, e2, g2, h2, s2, x2, y2, kp2⟩ := b_holds hN h1 lt s1 (by have := pn.1; omega) f rp (if c = 43 then 10 else if c = 45 then 11 else if c = 42 then 12 else if c = 47 then 13 else 14)
  refine ⟨n2, ?_, g2, h2, s2, by rw [x2, (cdS_sg hc).1], y2, kp_trans ⟨fun j hj => kp1.1 j (by omega), kp1.2⟩ kp2 (Nat.le_refl _) (Nat.le_refl _)⟩
  rw [g_op h.1.2.1 rs st ho sg hc]
  unfold X11_goesOn_J97
  rw [e1, Option.bind_some]
  have rs1 := h1.2.1.2
  have rl := sg.1
  by_cases q1 : c = 43
  · rw [show X11_isSign 264 43 n1 = some 1 from by rw [← q1]; exact isS_y rs1 sg, Option.bind_some, if_neg (by decide)]
    rw [if_pos q1] at e2; exact e2
  rw [isS_n rs1 rl (isS_u sg q1), Option.bind_some, if_pos rfl]
  rw [if_neg q1] at e2
  by_cases q2 : c = 45
  · rw [show X11_isSign 264 45 n1 = some 1 from by rw [← q2]; exact isS_y rs1 sg, Option.bind_some, if_neg (by decide)]
    rw [if_pos q2] at e2; exact e2
  rw [isS_n rs1 rl (isS_u sg q2), Option.bind_some, if_pos rfl]
  rw [if_neg q2] at e2
  by_cases q3 : c = 42
  · rw [show X11_isSign 264 42 n1 = some 1 from by rw [← q3]; exact isS_y rs1 sg, Option.bind_some, if_neg (by decide)]
    rw [if_pos q3] at e2; exact e2
  rw [isS_n rs1 rl (isS_u sg q3), Option.bind_some, if_pos rfl]
  rw [if_neg q3] at e2
  by_cases q4 : c = 47
  · rw [show X11_isSign 264 47 n1 = some 1 from by rw [← q4]; exact isS_y rs1 sg, Option.bind_some, if_neg (by decide)]
    rw [if_pos q4] at e2; exact e2
  rw [isS_n rs1 rl (isS_u sg q4), Option.bind_some, if_pos rfl]
  rw [if_neg q4] at e2; exact e2
/-- goesOn at what is no operator -/
theorem g_no {N : Nat} {n : Mem} {a o q : Nat} (r : Refs n) (rs : RS n T len a) (st : SSt n o q) (ho : o < 19) (rl : rlx T len a = -1) (h : ∀ c, isOpS c → ¬isS T len a c) : X11_goesOn N 264 n = if 2 ≤ n 291 o then (if ¬n 291 o = 3 then (X11_isSign 264 41 n).bind fun p28 => if ¬p28 = 0 then X11_goesOn_J265 N 264 (o : Int) (n 291 o) n else (getI 11 4 264 n).bind fun t43 => (X11_blame 264 1 t43 n).bind fun p44 => X11_goesOn_J265 N 264 (o : Int) (n 291 o) p44 else (X11_isSign 264 44 n).bind fun p46 => if ¬p46 = 0 then X11_goesOn_J215 N 264 (o : Int) n else (getI 11 4 264 n).bind fun t56 => (X11_blame 264 1 t56 n).bind fun p57 => X11_goesOn_J215 N 264 (o : Int) p57) else (getI 11 8 264 n).bind fun t60 => if ¬t60 = 0 then (retZ 0).bind fun r61 => some (r61, n) else (X11_joins N 264 1 n).bind fun p62 => (retZ 0).bind fun r63 => some (r63, p62) := by
  unfold X11_goesOn
  rw [if_pos k264, m_lex1 rs rl, Option.bind_some, g264 (k := 8) (by decide), Option.bind_some, rs.2.1, if_pos (by decide), g264 (k := 44) (by decide), Option.bind_some, gR41 r, Option.bind_some, st.1, wI_of2 (x := ((o + 1 : Nat) : Int) - 1) (by omega) (by omega), arI 20 (by decide +kernel) (by omega) (by omega) n, Option.bind_some, show (((o + 1 : Nat) : Int) - 1).toNat = o from by omega, show ((o + 1 : Nat) : Int) - 1 = (o : Int) from by omega, isS_n rs rl (h 43 (by decide)), Option.bind_some, if_neg (fun u => u rfl), isS_n rs rl (h 45 (by decide)), Option.bind_some, if_neg (fun u => u rfl), isS_n rs rl (h 42 (by decide)), Option.bind_some, if_neg (fun u => u rfl), isS_n rs rl (h 47 (by decide)), Option.bind_some, if_neg (fun u => u rfl), isS_n rs rl (h 37 (by decide)), Option.bind_some, if_pos rfl]
/-- what does not go on is told -/
theorem g_bad {N : Nat} {n : Mem} {a o q : Nat} (r : Refs n) (rs : RS n T len a) (st : SSt n o q) (ho : o < 19) (h : ∀ c, isOpS c → ¬isS T len a c) (k2 : 2 ≤ n 291 o) (k3 : n 291 o = 3 → ¬isS T len a 44) (k4 : ¬n 291 o = 3 → ¬isS T len a 41) : X11_goesOn N 264 n = some (0, Bl n 1 (tkQ T len a)) := by
  by_cases rl : rlx T len a = -1
  · rw [g_no r rs st ho rl h, if_pos k2]
    have fs := bl_fs n (k := 1) (by decide) (a : Int)
    by_cases z : n 291 o = 3
    · rw [if_neg (fun u => u z), isS_n rs rl (k3 z), Option.bind_some, if_neg (fun u => u rfl), g264 (by decide), Option.bind_some, rs.1.1, m_blame0 rs.2.1, Option.bind_some]
      unfold X11_goesOn_J215
      rw [g264 (by decide), Option.bind_some, if_neg (by unfold FS at fs; omega), tkQ_1 rl]
      rfl
    · rw [if_pos z, isS_n rs rl (k4 z), Option.bind_some, if_neg (fun u => u rfl), g264 (by decide), Option.bind_some, rs.1.1, m_blame0 rs.2.1, Option.bind_some]
      unfold X11_goesOn_J265
      rw [g264 (by decide), Option.bind_some, if_neg (by unfold FS at fs; omega), tkQ_1 rl]
      rfl
  · have fs := bl_fs n (k := 1) (by decide) (tkQ T len a)
    unfold X11_goesOn
    rw [if_pos k264, m_lex0 rs rl, Option.bind_some, g264 (by decide), Option.bind_some, if_neg (by unfold FS at fs; omega)]
    rfl
/-- a comma: the second sum of a pair begins -/
theorem b_comma {N : Nat} (hN : 2000 ≤ N) {m n m2 : Mem} {a k R e o q q2 : Nat} (ho : o < 19) (hq : q2 ≤ 480) (h : MS T len K D B S So p p2 co ko f0 s m0 n0 I l m n a k R e) (sg : isS T len a 44) (st : SSt n o q2) (e93 : n 293 o = (q : Int)) (e91 : n 291 o = 3) (pn : PenG m n S f0 q q2 R) (hR : R + (q2 - q) = k) (f : ReF J14 m m2) (rp : RP m2 T len K (nx T len a)) : ∃ n2, X11_goesOn N 264 n = some (1, n2) ∧ n2 264 8 = 0 ∧ MS T len K D B S So p p2 co ko f0 s m0 n0 I l m2 n2 (nx T len a) k k e ∧ SSt n2 o q ∧ n2 291 o = 4 ∧ n2 293 o = (q : Int) ∧ n2 292 o = n 292 o ∧ n2 264 48 = 0 ∧ (∀ j, j < o → n2 291 j = n 291 j ∧ n2 292 j = n 292 j ∧ n2 293 j = n 293 j) ∧ ∀ j, j < q → n2 294 j = n 294 j := by
  have rs := h.2.1.2
  have lt : a < len := rs_end rs (by have := sg.2.1; omega)
  have bd := (ms_B h).2.2.2.1
  have hl := (ms_B h).2.2.2.2.2.2
  obtain ⟨n1, e1, h1, s1, g1, kp1⟩ := b_joins hN (least := 1) ho (by omega) (Nat.le_refl q) (by omega) h st e93 pn (by omega) (fun i _ _ => Or.inl (by decide)) (by decide) (Or.inl rfl)
  rw [hR] at h1
  have r1 := h1.1.2.1
  obtain ⟨n2, hn2⟩ : ∃ n2, n2 = up n1 291 o 4 := ⟨_, rfl⟩
  have r2 : Refs n2 := by rw [hn2]; exact refs_arr r1 (by decide +kernel) _ _
  have o2 : ∀ b, ¬b = 291 → n2 b = n1 b := fun b hb => by rw [hn2, up_ne hb]
  have h2 : MS T len K D B S So p p2 co ko f0 s m0 n0 I l m n2 a k k e := ms_st h1 r2 (fun b hb hb2 => o2 b (by omega)) (fun j hj => by rw [o2 264 (by decide)])
  obtain ⟨n3, e3, f3, rs3, r3⟩ := m_goN hN r2 h2.2.1.2 lt
  have h3 : MS T len K D B S So p p2 co ko f0 s m0 n0 I l m2 n3 (nx T len a) k k e := ms_mv (fun j h => by omega) h2 f f3 rp rs3 (by have := nx_in (T := T) lt; omega) r3
  obtain ⟨n4, hn4⟩ : ∃ n4, n4 = up n3 264 48 0 := ⟨_, rfl⟩
  have r4 : Refs n4 := by rw [hn4]; exact refs_up r3 (by decide +kernel) _
  have o4 : ∀ b, ¬b = 264 → n4 b = n3 b := fun b hb => by rw [hn4, up_ne hb]
  have o4j : ∀ j, ¬j = 48 → n4 264 j = n3 264 j := fun j hj => by rw [hn4, up_at, if_neg hj]
  have ns : ∀ c, isOpS c → ¬isS T len a c := fun c hc => isS_u sg (by rcases hc with z | z | z | z | z <;> subst z <;> decide)
  refine ⟨n4, ?_, by rw [o4j 8 (by decide)]; exact rs3.2.1, ms_st h3 r4 (fun b hb _ => o4 b hb) (fun j hj => o4j j (by omega)), ⟨by rw [o4j 44 (by decide), f3.2 44 (by decide), o2 264 (by decide)]; exact s1.1, by rw [o4j 45 (by decide), f3.2 45 (by decide), o2 264 (by decide)]; exact s1.2.1, by rw [o4j 47 (by decide), f3.2 47 (by decide), o2 264 (by decide)]; exact s1.2.2⟩, by rw [o4 291 (by decide), f3.1 291 (by decide), hn2, up_same], by rw [o4 293 (by decide), f3.1 293 (by decide), o2 293 (by decide), (kp1.1 o (by omega)).2.2]; exact e93, by rw [o4 292 (by decide), f3.1 292 (by decide), o2 292 (by decide), (kp1.1 o (by omega)).2.1], by rw [hn4, up_same], fun j hj => ?_, fun j hj => by rw [o4 294 (by decide), f3.1 294 (by decide), o2 294 (by decide), kp1.2 j hj]⟩
  · rw [g_no h.1.2.1 rs st ho sg.1 ns, e91, if_pos (by decide), if_neg (fun u => u rfl), isS_y rs sg, Option.bind_some, if_pos (by decide)]
    refine wp_eq ?_
    unfold X11_goesOn_J215
    refine wp_b (g264 (by decide)) ?_
    rw [rs.2.1, if_pos (by decide)]
    refine wp_b e1 ?_
    refine wp_b (gR41 r1) ?_
    refine wp_b (asI 20 (by decide +kernel) (by omega) (by omega) _ _) ?_
    rw [Int.toNat_natCast, ← hn2]
    refine wp_b e3 ?_
    refine wp_b (ptZ0 (g264_c 48 (by decide)) _) ?_
    rw [← hn4]
    refine wp_b (v := 1) rfl ?_
    exact wp_some rfl
  · obtain ⟨x1, x2, x3⟩ := kp1.1 j (by omega)
    exact ⟨by rw [o4 291 (by decide), f3.1 291 (by decide), hn2, up_at, if_neg (by omega), x1], by rw [o4 292 (by decide), f3.1 292 (by decide), o2 292 (by decide), x2], by rw [o4 293 (by decide), f3.1 293 (by decide), o2 293 (by decide), x3]⟩
/-- a bracket is closed -/
theorem b_close {N : Nat} (hN : 2000 ≤ N) {m n m2 : Mem} {a k R e o q q2 : Nat} (ho : o < 18) (hq : q2 ≤ 480) (h : MS T len K D B S So p p2 co ko f0 s m0 n0 I l m n a k R e) (sg : isS T len a 41) (st : SSt n (o + 1) q2) (e93 : n 293 (o + 1) = (q : Int)) (e48 : n 264 48 = 1) (pn : PenG m n S f0 q q2 R) (hk : (n 291 (o + 1) = 2 ∧ R + (q2 - q) = k) ∨ (n 291 (o + 1) = 4 ∧ R + (q2 - q) + 1 = k ∧ n 292 (o + 1) = cdS (m (S + 1) (f0 + (k - 1))) ∧ m (S + 1) (f0 + (k - 1)) < 0)) (f : ReF J14 m m2) (rp : RP m2 T len K (nx T len a)) : ∃ n2, X11_goesOn N 264 n = some (1, n2) ∧ n2 264 8 = 0 ∧ MS T len K D B S So p p2 co ko f0 s m0 n0 I l m2 n2 (nx T len a) k k e ∧ SSt n2 o q ∧ n2 264 48 = 1 ∧ KpF n n2 o q := by
  have rs := h.2.1.2
  have lt : a < len := rs_end rs (by have := sg.2.1; omega)
  have bd := (ms_B h).2.2.2.1
  have hl := (ms_B h).2.2.2.2.2.2
  obtain ⟨n1, e1, h1, s1, g1, kp1⟩ := b_joins hN (least := 1) (show o + 1 < 19 from by omega) (by omega) (Nat.le_refl q) (by omega) h st e93 pn (by omega) (fun i _ _ => Or.inl (by decide)) (by decide) (Or.inl rfl)
  have r1 := h1.1.2.1
  obtain ⟨s44, s45, s47⟩ := s1
  obtain ⟨n2, hn2⟩ : ∃ n2, n2 = up (up n1 264 44 ((o + 1 : Nat) : Int)) 264 45 (o : Int) := ⟨_, rfl⟩
  have r2 : Refs n2 := by rw [hn2]; exact refs_up (refs_up r1 (by decide +kernel) _) (by decide +kernel) _
  have o2 : ∀ b, ¬b = 264 → n2 b = n1 b := fun b hb => by rw [hn2, up_ne hb, up_ne hb]
  have o2j : ∀ j, ¬(j = 44 ∨ j = 45) → n2 264 j = n1 264 j := fun j hj => by rw [hn2, up_at, if_neg (by omega), up_at, if_neg (by omega)]
  have st2 : SSt n2 o q := ⟨by rw [hn2, up_at, if_neg (by decide), up_same], by rw [hn2, up_same], by rw [o2j 47 (by decide)]; exact s47⟩
  have h2 : MS T len K D B S So p p2 co ko f0 s m0 n0 I l m n2 a k (R + (q2 - q)) e := ms_st h1 r2 (fun b hb _ => o2 b hb) (fun j hj => o2j j (by omega))
  have ns : ∀ c, isOpS c → ¬isS T len a c := fun c hc => isS_u sg (by rcases hc with z | z | z | z | z <;> subst z <;> decide)
  have kp2 : KpF n n2 o q := ⟨fun j hj => by
    obtain ⟨x1, x2, x3⟩ := kp1.1 j (by omega)
    exact ⟨by rw [o2 291 (by decide), x1], by rw [o2 292 (by decide), x2], by rw [o2 293 (by decide), x3]⟩, fun j hj => by rw [o2 294 (by decide), kp1.2 j hj]⟩
  have e48' : n2 264 48 = 1 := by rw [o2j 48 (by decide), g1]; exact e48
  -- from here on both kinds alike
  have fin : ∀ n3 : Mem, MS T len K D B S So p p2 co ko f0 s m0 n0 I l m n3 a k k e → SSt n3 o q → n3 264 48 = 1 → KpF n n3 o q → ∃ n4, X11_goesOn_J315 N 264 n3 = some (1, n4) ∧ n4 264 8 = 0 ∧ MS T len K D B S So p p2 co ko f0 s m0 n0 I l m2 n4 (nx T len a) k k e ∧ SSt n4 o q ∧ n4 264 48 = 1 ∧ KpF n n4 o q := fun n3 h3 st3 y3 kp3 => by
    obtain ⟨n4, e4, f4, rs4, r4⟩ := m_goN hN h3.1.2.1 h3.2.1.2 lt
    refine ⟨n4, ?_, rs4.2.1, ms_mv (fun j h => by omega) h3 f f4 rp rs4 (by have := nx_in (T := T) lt; omega) r4, ss_o st3 (fun j hj => f4.2 j (by omega)), by rw [f4.2 48 (by decide)]; exact y3, kp_trans kp3 (kp_o (fun b b1 b2 => f4.1 b (by omega)) o q) (Nat.le_refl _) (Nat.le_refl _)⟩
    unfold X11_goesOn_J315
    rw [e4, Option.bind_some]
    rfl
  have body : ∀ x : Int × Mem, (if ¬n 291 (o + 1) = 4 then X11_goesOn_J315 N 264 n2 else (getR 11 42 264 n2).bind fun t37 => (aldI t37 ((o + 1 : Nat) : Int) n2).bind fun t38 => (X11_add 264 t38 0 n2).bind fun p39 => X11_goesOn_J315 N 264 p39) = some x → n 291 (o + 1) = 2 ∨ n 291 (o + 1) = 4 → X11_goesOn N 264 n = some x := fun x hx kd => by
    rw [g_no h.1.2.1 rs st (by omega) sg.1 ns, if_pos (by omega), if_pos (by omega), isS_y rs sg, Option.bind_some, if_pos (by decide)]
    unfold X11_goesOn_J265
    rw [g264 (by decide), Option.bind_some, rs.2.1, if_pos (by decide), e1, Option.bind_some, g264 (by decide), Option.bind_some, s44, wI_of2 (x := ((o + 1 + 1 : Nat) : Int) - 1) (by omega) (by omega), show ((o + 1 + 1 : Nat) : Int) - 1 = ((o + 1 : Nat) : Int) from by omega, p264 (by decide), Option.bind_some, g264 (by decide), Option.bind_some, up_slot (by decide), s45, wI_of2 (x := ((o + 1 : Nat) : Int) - 1) (by omega) (by omega), show ((o + 1 : Nat) : Int) - 1 = (o : Int) from by omega, p264 (by decide), Option.bind_some, ← hn2]
    exact hx
  rcases hk with ⟨k2, hR⟩ | ⟨k4, hR, x92, neg⟩
  · rw [hR] at h2
    obtain ⟨n4, e4, rest⟩ := fin n2 h2 st2 e48' kp2
    exact ⟨n4, body _ (by rw [k2, if_pos (by decide)]; exact e4) (Or.inl k2), rest⟩
  · obtain ⟨hB, i40, i39, _⟩ := ms_B h2
    have kR : k - 1 = R + (q2 - q) := by omega
    rw [kR] at x92 neg
    have h3 : MS T len K D B S So p p2 co ko f0 s m0 n0 I l m (addM n2 B (f0 + (R + (q2 - q))) (n 292 (o + 1)) 0) a k (R + (q2 - q) + 1) e := ms_addR h2 (by omega) x92 (fun u => by omega) (by omega)
    rw [hR] at h3
    obtain ⟨oA, oA2, _⟩ := addM_o n2 B (f0 + (R + (q2 - q))) (n 292 (o + 1)) 0
    obtain ⟨n4, e4, rest⟩ := fin _ h3 (ss_o st2 (fun j hj => oA2 j (by omega))) (by rw [oA2 48 (by decide)]; exact e48') (kp_trans kp2 (kp_o (fun b b1 b2 => oA b (by omega) (by omega) (by omega)) o q) (Nat.le_refl _) (Nat.le_refl _))
    refine ⟨n4, body _ ?_ (Or.inr k4), rest⟩
    rw [if_neg (fun u => u k4), gR42 r2, Option.bind_some, arI 20 (by decide +kernel) (by omega) (by omega) n2, Option.bind_some, Int.toNat_natCast, o2 292 (by decide), (kp1.1 (o + 1) (by omega)).2.1, m_addC r2 hB i40 i39 (by omega), Option.bind_some]
    exact e4
/-- the sum ends with what stands there -/
theorem b_end {N : Nat} (hN : 2000 ≤ N) {m n : Mem} {a k R e q2 : Nat} (hq : q2 ≤ 480) (hk : k ≤ 1599) (h : MS T len K D B S So p p2 co ko f0 s m0 n0 I l m n a k R e) (rl : rlx T len a = -1) (ns : ∀ c, isOpS c → ¬isS T len a c) (st : SSt n 0 q2) (e93 : n 293 0 = 0) (e91 : n 291 0 = 0) (pn : PenG m n S f0 0 q2 R) (hR : R + q2 = k) : ∃ n2, X11_goesOn N 264 n = some (0, n2) ∧ MS T len K D B S So p p2 co ko f0 s m0 n0 I l m n2 a k k e := by
  have rs := h.2.1.2
  obtain ⟨n1, e1, h1, s1, g1, kp1⟩ := b_joins hN (least := 1) (o := 0) (by decide) (by omega) (Nat.le_refl 0) hk h st e93 pn (by omega) (fun i _ _ => Or.inl (by decide)) (by decide) (Or.inl rfl)
  rw [show R + (q2 - 0) = k from by omega] at h1
  refine ⟨n1, ?_, h1⟩
  rw [g_no h.1.2.1 rs st (by decide) rl ns, e91, if_neg (by decide), g264 (by decide), Option.bind_some, rs.2.1, if_neg (fun u => u rfl), e1, Option.bind_some]
  rfl
/-- a sign that is wrong in itself, behind a sum -/
theorem g_lex {N : Nat} {n : Mem} {a : Nat} (rs : RS n T len a) (rl : ¬rlx T len a = -1) : X11_goesOn N 264 n = some (0, Bl n 1 (tkQ T len a)) := by
  have fs := bl_fs n (k := 1) (by decide) (tkQ T len a)
  unfold X11_goesOn
  rw [if_pos k264, m_lex0 rs rl, Option.bind_some, g264 (by decide), Option.bind_some, if_neg (by unfold FS at fs; omega)]
  rfl
