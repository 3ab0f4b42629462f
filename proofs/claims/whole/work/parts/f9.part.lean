/-! a sum under way: brackets and pairs; the class's own steps -/
variable {T : Nat → Int} {len K D B S So p p2 ko f0 : Nat} {co : Int → Int} {s : Int} {m0 n0 : Mem} {I : Isl} {l : Lnd}
theorem up_id {m : Mem} {a k : Nat} {v : Int} (h : m a k = v) : up m a k v = m := by
  funext b j
  unfold up
  by_cases q : b = a ∧ j = k
  · rw [if_pos q, q.1, q.2, h]
  · rw [if_neg q]
theorem p_next {m : Mem} (r : Refs m) {a : Nat} (h : RP m T len K a) (k0 : ¬(kdP T len a).1 = 0) (k6 : ¬(kdP T len a).1 = 6) (k10 : ¬kdP T len a = (2, 10)) : ∃ m2, X6_goTo 5 (wI (m 5 1 + 1)) m = some (1, m2) ∧ RP m2 T len K (nx T len a) ∧ ReF J14 m m2 := by
  obtain ⟨i, d, pe, k, kz⟩ := h
  have e := rp_kd (m := m) (K := K) pe k
  obtain ⟨m2, e2, d2, f⟩ := x_goNext r d (by rw [e]; exact k0) (by rw [e]; exact k6)
  exact ⟨m2, e2, rp_next (m := m) pe k k10 d2 (by rw [f.2 9 (by omega), f.2 10 (by omega)]; exact kz), f⟩
theorem p_kind {m : Mem} {a : Nat} (h : RP m T len K a) : m 5 2 = (kdP T len a).1 ∧ m 5 4 = (kdP T len a).2 ∧ m 5 3 = (a : Int) := by
  obtain ⟨i, d, pe, k, kz⟩ := h
  have e := rp_kd (m := m) (K := K) pe k
  exact ⟨by rw [d.2.2.2.1, e], by rw [d.2.2.2.2.2, e], by rw [d.2.2.2.2.1, pe]⟩
theorem p_isSign {m : Mem} {a : Nat} (h : RP m T len K a) (c1 c2 c3 : Int) : X6_isSign 5 c1 c2 c3 m = some (bi ((kdP T len a).1 = 5 ∧ ((kdP T len a).2 = c1 ∨ (kdP T len a).2 = c2 ∨ (kdP T len a).2 = c3))) := by
  obtain ⟨h2, h4, _⟩ := p_kind h
  have g2 : getI 6 2 5 m = some (m 5 2) := gtI (by decide +kernel) _
  have g4 : getI 6 4 5 m = some (m 5 4) := gtI (by decide +kernel) _
  refine wp_eq ?_
  unfold X6_isSign X6_isSign_J32
  refine wp_k k5r ?_
  refine wp_b g2 ?_
  rw [h2]
  by_cases q : (kdP T len a).1 = 5
  · rw [if_neg (fun u => u q)]
    refine wp_b g4 ?_
    rw [h4]
    by_cases q1 : (kdP T len a).2 = c1
    · rw [if_pos q1]; exact wp_z1 (bi_t ⟨q, Or.inl q1⟩)
    · rw [if_neg q1]
      refine wp_b g4 ?_
      rw [h4]
      by_cases q2 : (kdP T len a).2 = c2
      · rw [if_pos q2]; exact wp_z1 (bi_t ⟨q, Or.inr (Or.inl q2)⟩)
      · rw [if_neg q2]
        refine wp_b g4 ?_
        rw [h4]
        by_cases q3 : (kdP T len a).2 = c3
        · rw [if_neg (fun u => u q3)]; exact wp_z1 (bi_t ⟨q, Or.inr (Or.inr q3)⟩)
        · rw [if_pos q3]; exact wp_z0 (bi_f fun u => by omega)
  · rw [if_pos q]; exact wp_z0 (bi_f fun u => q u.1)
theorem p_unexp {m : Mem} {a : Nat} (h : RP m T len K a) : ∃ m2, X6_unexpected 5 m = some (0, m2) ∧ Told m m2 1 (tkQ T len a) := by
  have al := rp_le h
  obtain ⟨i, d, pe, k, kz⟩ := h
  obtain ⟨m2, e2, t⟩ := x_unexpected d
  rw [rp_pl al pe k] at t
  exact ⟨m2, e2, t⟩
/-- the reference at a bracket where a part must stand -/
theorem b_par {N : Nat} (hN : 2000 ≤ N) {m n : Mem} {a k e o q : Nat} (h : MS T len K D B S So p p2 co ko f0 s m0 n0 I l m n a k k e) (sg : isS T len a 40) (st : SSt n o q) (e48 : n 264 48 = 0) : (o = 7 → X11_operand N 264 n = some (0, Bl n 5 (a : Int))) ∧ (o < 7 → ∀ m2, ReF J14 m m2 → RP m2 T len K (nx T len a) → ∃ n2, X11_operand N 264 n = some (0, n2) ∧ n2 264 8 = 0 ∧ MS T len K D B S So p p2 co ko f0 s m0 n0 I l m2 n2 (nx T len a) k k e ∧ SSt n2 (o + 1) q ∧ n2 291 (o + 1) = 2 ∧ n2 293 (o + 1) = (q : Int) ∧ KpF n n2 o q ∧ n2 264 48 = 0) := by
  have rs := h.2.1.2
  have lt : a < len := rs_end rs (by have := sg.2.1; omega)
  have body : ∀ x : Mem, X11_opens N 264 2 n = some x → X11_operand N 264 n = some (0, x) := fun x hx => by
    unfold X11_operand
    rw [if_pos k264, m_lex1 rs sg.1, Option.bind_some, g264 (by decide), Option.bind_some, rs.2.1, if_pos (by decide), isS_y rs sg, Option.bind_some, if_neg (by decide), hx, Option.bind_some]
    rfl
  refine ⟨fun h7 => ?_, fun h7 m2 f rp => ?_⟩
  · subst h7
    exact body _ (m_opens7 rs st 2)
  · obtain ⟨n2, e2, h2, s2, x2, y2, kp2, z2⟩ := b_opens hN h lt st h7 f rp 2
    exact ⟨n2, body _ e2, h2.2.1.2.2.1, h2, s2, x2, y2, kp2, by rw [z2]; exact e48⟩
theorem b_mm {N : Nat} (hN : 2000 ≤ N) {m n m2 : Mem} {a k e o q : Nat} {wh : Int} (h : MS T len K D B S So p p2 co ko f0 s m0 n0 I l m n a k k e) (hw : (kdP T len a = (2, 25) ∧ wh = 15) ∨ (kdP T len a = (2, 26) ∧ wh = 16)) (st : SSt n o q) (e48 : n 264 48 = 0) (f : ReF J14 m m2) (rp : RP m2 T len K (nx T len a)) : ∃ n1, AhF n n1 ∧ MS T len K D B S So p p2 co ko f0 s m0 n0 I l m2 n1 (nx T len a) k k e ∧ (¬isS T len (nx T len a) 40 → X11_operand N 264 n = some (0, Bl n1 1 (tkQ T len (nx T len a)))) ∧ (isS T len (nx T len a) 40 → o = 7 → X11_operand N 264 n = some (0, Bl n1 5 ((nx T len a : Nat) : Int))) ∧ (isS T len (nx T len a) 40 → o < 7 → ∀ m3, ReF J14 m2 m3 → RP m3 T len K (nx T len (nx T len a)) → ∃ n4, X11_operand N 264 n = some (0, n4) ∧ n4 264 8 = 0 ∧ MS T len K D B S So p p2 co ko f0 s m0 n0 I l m3 n4 (nx T len (nx T len a)) k k e ∧ SSt n4 (o + 1) q ∧ n4 291 (o + 1) = 3 ∧ n4 293 (o + 1) = (q : Int) ∧ n4 292 (o + 1) = wh ∧ KpF n n4 o q ∧ n4 264 48 = 0) := by
  have rs := h.2.1.2
  have al := (ms_B h).2.2.2.2.2.1
  have w25 : ((pk8 (owT.getD 25 []) : Nat) : Int) = 7170414 := by decide +kernel
  have w26 : ((pk8 (owT.getD 26 []) : Nat) : Int) = 7168376 := by decide +kernel
  have isw : (isW T len a 7170414 ∧ wh = 15) ∨ (isW T len a 7168376 ∧ wh = 16) := by
    rcases hw with ⟨u, v⟩ | ⟨u, v⟩
    · have := (own_same (T := T) al (i := 25) (by decide)).mp u
      rw [w25] at this
      exact Or.inl ⟨this, v⟩
    · have := (own_same (T := T) al (i := 26) (by decide)).mp u
      rw [w26] at this
      exact Or.inr ⟨this, v⟩
  have rl : rlx T len a = -1 := by rcases isw with u | u <;> exact u.1.1
  have s1 : rsg T len a = 1 := by rcases isw with u | u <;> exact u.1.2.1
  have lt : a < len := rs_end rs (by omega)
  obtain ⟨n1, e1, f1, rs1, r1⟩ := m_goN hN h.1.2.1 rs lt
  have h1 : MS T len K D B S So p p2 co ko f0 s m0 n0 I l m2 n1 (nx T len a) k k e := ms_mv (fun j h => by omega) h f f1 rp rs1 (by have := nx_in (T := T) lt; omega) r1
  have st1 : SSt n1 o q := ss_o st (fun j hj => f1.2 j (by omega))
  have body : X11_operand N 264 n = (X11_lex 264 n1).bind fun p7 => (X11_isSign 264 40 p7).bind fun p8 => if ¬p8 = 0 then X11_operand_J93 N 264 wh p7 else (getI 11 4 264 p7).bind fun t17 => (X11_blame 264 1 t17 p7).bind fun p18 => X11_operand_J93 N 264 wh p18 := by
    have J66 : ∀ x, X11_operand_J66 N 264 x n = (X11_lex 264 n1).bind fun p7 => (X11_isSign 264 40 p7).bind fun p8 => if ¬p8 = 0 then X11_operand_J93 N 264 x p7 else (getI 11 4 264 p7).bind fun t17 => (X11_blame 264 1 t17 p7).bind fun p18 => X11_operand_J93 N 264 x p18 := fun x => by
      unfold X11_operand_J66
      rw [e1, Option.bind_some]
    unfold X11_operand
    rw [if_pos k264, m_lex1 rs rl, Option.bind_some, g264 (by decide), Option.bind_some, rs.2.1, if_pos (by decide), isS_n rs rl (fun u => by have := u.2.1; omega), Option.bind_some, if_pos rfl]
    rcases isw with ⟨u, v⟩ | ⟨u, v⟩
    · rw [isW_y rs s1 u.2.2, Option.bind_some, if_pos (by decide)]
      unfold X11_operand_J49
      rw [isW_y rs s1 u.2.2, Option.bind_some, if_neg (by decide), v]
      exact J66 15
    · have no : ¬(rsg T len a = 1 ∧ rwd T len a = 7170414) := fun z => by have := u.2.2; have := z.2; omega
      rw [isW_n rs no, Option.bind_some, if_neg (fun u => u rfl), isW_y rs s1 u.2.2, Option.bind_some, if_neg (by decide)]
      unfold X11_operand_J49
      rw [isW_n rs no, Option.bind_some, if_pos rfl, v]
      exact J66 16
  have J93F : ∀ x : Mem, FS x → X11_operand_J93 N 264 wh x = some (0, x) := fun x fx => by
    unfold X11_operand_J93
    rw [m_opensF fx, Option.bind_some, g264 (by decide), Option.bind_some, if_pos (by unfold FS at fx; omega)]
    rfl
  refine ⟨n1, f1, h1, fun ns => ?_, fun sg h7 => ?_, fun sg h7 m3 f3 rp3 => ?_⟩
  · rw [body]
    by_cases rl1 : rlx T len (nx T len a) = -1
    · have fs := bl_fs n1 (k := 1) (by decide) ((nx T len a : Nat) : Int)
      rw [m_lex1 rs1 rl1, Option.bind_some, isS_n rs1 rl1 ns, Option.bind_some, if_neg (fun u => u rfl), g264 (by decide), Option.bind_some, rs1.1.1, m_blame0 rs1.2.1, Option.bind_some, J93F _ fs, tkQ_1 rl1]
    · have fs := bl_fs n1 (k := 1) (by decide) (tkQ T len (nx T len a))
      have is : ∃ v, X11_isSign 264 40 (Bl n1 1 (tkQ T len (nx T len a))) = some v := by
        unfold X11_isSign
        rw [if_pos k264, g264 (by decide), Option.bind_some]
        by_cases z : Bl n1 1 (tkQ T len (nx T len a)) 264 3 = 3
        · rw [if_neg (fun u => u z), g264 (by decide), Option.bind_some]
          by_cases z2 : Bl n1 1 (tkQ T len (nx T len a)) 264 6 = 40
          · rw [if_neg (fun u => u z2)]; exact ⟨_, rfl⟩
          · rw [if_pos z2]; exact ⟨_, rfl⟩
        · rw [if_pos z]; exact ⟨_, rfl⟩
      obtain ⟨v, ev⟩ := is
      rw [m_lex0 rs1 rl1, Option.bind_some, ev, Option.bind_some]
      by_cases z : v = 0
      · rw [if_neg (fun u => u z), g264 (by decide), Option.bind_some, m_blame1 fs, Option.bind_some, J93F _ fs]
      · rw [if_pos z, J93F _ fs]
  · subst h7
    have fs := bl_fs n1 (k := 5) (by decide) ((nx T len a : Nat) : Int)
    rw [body, m_lex1 rs1 sg.1, Option.bind_some, isS_y rs1 sg, Option.bind_some, if_pos (by decide)]
    unfold X11_operand_J93
    rw [m_opens7 rs1 st1 3, Option.bind_some, g264 (by decide), Option.bind_some, if_pos (by unfold FS at fs; omega)]
    rfl
  · have lt1 : nx T len a < len := rs_end rs1 (by have := sg.2.1; omega)
    obtain ⟨n3, e3, h3, s3, x3, y3, kp3, z3⟩ := b_opens hN h1 lt1 st1 h7 f3 rp3 3
    obtain ⟨n4, hn4⟩ : ∃ n4, n4 = up n3 292 (o + 1) wh := ⟨_, rfl⟩
    have r3 := h3.1.2.1
    have r4 : Refs n4 := by rw [hn4]; exact refs_arr r3 (by decide +kernel) _ _
    have o4 : ∀ b, ¬b = 292 → n4 b = n3 b := fun b hb => by rw [hn4, up_ne hb]
    refine ⟨n4, ?_, by rw [o4 264 (by decide)]; exact h3.2.1.2.2.1, ms_st h3 r4 (fun b _ hb => o4 b (by omega)) (fun j _ => by rw [o4 264 (by decide)]), ss_o s3 (fun j _ => by rw [o4 264 (by decide)]), by rw [o4 291 (by decide)]; exact x3, by rw [o4 293 (by decide)]; exact y3, by rw [hn4, up_same], ?_, by rw [o4 264 (by decide), z3, f1.2 48 (by decide)]; exact e48⟩
    · rw [body, m_lex1 rs1 sg.1, Option.bind_some, isS_y rs1 sg, Option.bind_some, if_pos (by decide)]
      unfold X11_operand_J93
      rw [e3, Option.bind_some, g264 (by decide), Option.bind_some, h3.2.1.2.2.1, if_neg (fun u => u rfl), gR42 r3, Option.bind_some, g264 (by decide), Option.bind_some, s3.1, wI_of2 (x := ((o + 1 + 1 : Nat) : Int) - 1) (by omega) (by omega), asI 20 (by decide +kernel) (by omega) (by omega) _ _, Option.bind_some, show (((o + 1 + 1 : Nat) : Int) - 1).toNat = o + 1 from by omega, ← hn4]
      rfl
    · refine kp_trans (kp_o (fun b b1 b2 => f1.1 b (by omega)) o q) (o2 := o) (q2 := q) ⟨fun j hj => ?_, fun j hj => ?_⟩ (Nat.le_refl _) (Nat.le_refl _)
      · obtain ⟨x, y, z⟩ := kp3.1 j hj
        exact ⟨by rw [o4 291 (by decide), x], by rw [hn4, up_at, if_neg (by omega), y], by rw [o4 293 (by decide), z]⟩
      · rw [o4 294 (by decide)]; exact kp3.2 j hj
