/-! a sum under way: what the reference does where a part must stand -/
variable {T : Nat → Int} {len K D B S So p p2 ko f0 : Nat} {co : Int → Int} {s : Int} {m0 n0 : Mem} {I : Isl} {l : Lnd}
def SSt (n : Mem) (o q : Nat) : Prop := n 264 44 = ((o + 1 : Nat) : Int) ∧ n 264 45 = (o : Int) ∧ n 264 47 = (q : Int)
def KpF (n n2 : Mem) (o q : Nat) : Prop := (∀ j, j ≤ o → n2 291 j = n 291 j ∧ n2 292 j = n 292 j ∧ n2 293 j = n 293 j) ∧ ∀ j, j < q → n2 294 j = n 294 j
theorem kp_refl (n : Mem) (o q : Nat) : KpF n n o q := ⟨fun _ _ => ⟨rfl, rfl, rfl⟩, fun _ _ => rfl⟩
theorem kp_trans {n n2 n3 : Mem} {o q o2 q2 : Nat} (h : KpF n n2 o q) (g : KpF n2 n3 o2 q2) (ho : o ≤ o2) (hq : q ≤ q2) : KpF n n3 o q := ⟨fun j hj => by
  obtain ⟨a, b, c⟩ := h.1 j hj
  obtain ⟨a2, b2, c2⟩ := g.1 j (by omega)
  exact ⟨by rw [a2, a], by rw [b2, b], by rw [c2, c]⟩, fun j hj => by rw [g.2 j (by omega), h.2 j hj]⟩
theorem kp_o {n n2 : Mem} (o : ∀ b, 291 ≤ b → b ≤ 294 → n2 b = n b) (x q : Nat) : KpF n n2 x q := ⟨fun j _ => ⟨by rw [o 291 (by decide) (by decide)], by rw [o 292 (by decide) (by decide)], by rw [o 293 (by decide) (by decide)]⟩, fun j _ => by rw [o 294 (by decide) (by decide)]⟩
theorem ss_o {n n2 : Mem} {o q : Nat} (h : SSt n o q) (e : ∀ j, j = 44 ∨ j = 45 ∨ j = 47 → n2 264 j = n 264 j) : SSt n2 o q := ⟨by rw [e 44 (by decide)]; exact h.1, by rw [e 45 (by decide)]; exact h.2.1, by rw [e 47 (by decide)]; exact h.2.2⟩
theorem m_pushes {n : Mem} (r : Refs n) {d q : Nat} (e44 : n 264 44 = (d : Int)) (e47 : n 264 47 = (q : Int)) (hd : d < 20) (kind : Int) : ∃ n2, X11_pushes 264 kind n = some n2 ∧ Refs n2 ∧ n2 291 d = kind ∧ n2 293 d = (q : Int) ∧ n2 264 44 = ((d + 1 : Nat) : Int) ∧ (∀ j, ¬j = 44 → n2 264 j = n 264 j) ∧ (∀ j, ¬j = d → n2 291 j = n 291 j ∧ n2 293 j = n 293 j) ∧ ∀ b, ¬b = 264 → ¬b = 291 → ¬b = 293 → n2 b = n b := by
  refine ⟨up (up (up n 291 d kind) 293 d (q : Int)) 264 44 ((d + 1 : Nat) : Int), ?_, refs_up (refs_arr (refs_arr r (by decide +kernel) _ _) (by decide +kernel) _ _) (by decide +kernel) _, by rw [up_ne (by decide), up_ne (by decide), up_same], by rw [up_ne (by decide), up_same], up_same _ _ _ _, fun j hj => by rw [up_at, if_neg hj, up_ne (by decide), up_ne (by decide)], fun j hj => ⟨by rw [up_ne (by decide), up_ne (by decide), up_at, if_neg hj], by rw [up_ne (by decide), up_at, if_neg hj, up_ne (by decide)]⟩, fun b h1 h2 h3 => by rw [up_ne h1, up_ne h3, up_ne h2]⟩
  refine wp_eq ?_
  unfold X11_pushes
  refine wp_k k264 ?_
  refine wp_b (gR41 r) ?_
  refine wp_b (g264 (by decide)) ?_
  rw [e44]
  refine wp_b (asI 20 (by decide +kernel) (by omega) (by omega) _ _) ?_
  rw [Int.toNat_natCast]
  have r2 : Refs (up n 291 d kind) := refs_arr r (by decide +kernel) _ _
  refine wp_b (gR43 r2) ?_
  refine wp_b (g264 (by decide)) ?_
  refine wp_b (g264 (by decide)) ?_
  rw [up_ne (show ¬264 = 291 from by decide), e44, e47]
  refine wp_b (asI 20 (by decide +kernel) (by omega) (by omega) _ _) ?_
  rw [Int.toNat_natCast]
  refine wp_b (g264 (by decide)) ?_
  rw [up_ne (show ¬264 = 293 from by decide), up_ne (show ¬264 = 291 from by decide), e44, wI_of2 (x := (d : Int) + 1) (by omega) (by omega)]
  refine wp_b (p264 (by decide) _ _) ?_
  refine wp_some ?_
  rw [show ((d + 1 : Nat) : Int) = (d : Int) + 1 from by omega]
/-- a bracket is opened -/
theorem b_opens {N : Nat} (hN : 2000 ≤ N) {m n m2 : Mem} {a k R e o q : Nat} (h : MS T len K D B S So p p2 co ko f0 s m0 n0 I l m n a k R e) (lt : a < len) (st : SSt n o q) (ho : o < 7) (f : ReF J14 m m2) (rp : RP m2 T len K (nx T len a)) (kind : Int) : ∃ n2, X11_opens N 264 kind n = some n2 ∧ MS T len K D B S So p p2 co ko f0 s m0 n0 I l m2 n2 (nx T len a) k R e ∧ SSt n2 (o + 1) q ∧ n2 291 (o + 1) = kind ∧ n2 293 (o + 1) = (q : Int) ∧ KpF n n2 o q ∧ n2 264 48 = n 264 48 := by
  obtain ⟨s1, s2, s3⟩ := st
  have rn := h.1.2.1
  have rs := h.2.1.2
  obtain ⟨n1, hn1⟩ : ∃ n1, n1 = up n 264 45 ((o + 1 : Nat) : Int) := ⟨_, rfl⟩
  have r1 : Refs n1 := by rw [hn1]; exact refs_up rn (by decide +kernel) _
  have o1 : ∀ b, ¬b = 264 → n1 b = n b := fun b hb => by rw [hn1, up_ne hb]
  have o1j : ∀ j, ¬j = 45 → n1 264 j = n 264 j := fun j hj => by rw [hn1, up_at, if_neg hj]
  have h1 : MS T len K D B S So p p2 co ko f0 s m0 n0 I l m n1 a k R e := ms_st h r1 (fun b hb _ => o1 b hb) (fun j hj => o1j j (by omega))
  obtain ⟨n2, e2, f2, rs2, r2⟩ := m_goN hN r1 h1.2.1.2 lt
  have h2 : MS T len K D B S So p p2 co ko f0 s m0 n0 I l m2 n2 (nx T len a) k R e := ms_mv (fun j h => by omega) h1 f f2 rp rs2 (by have := nx_in (T := T) lt; omega) r2
  obtain ⟨n3, e3, r3, g1, g2, g3, g4, g5, g6⟩ := m_pushes r2 (d := o + 1) (q := q) (by rw [f2.2 44 (by decide), o1j 44 (by decide)]; exact s1) (by rw [f2.2 47 (by decide), o1j 47 (by decide)]; exact s3) (by omega) kind
  refine ⟨n3, ?_, ms_st h2 r3 (fun b h1 h2 => g6 b h1 (by omega) (by omega)) (fun j hj => g4 j (by omega)), ⟨g3, ?_, ?_⟩, g1, g2, ⟨fun j hj => ?_, fun j hj => ?_⟩, ?_⟩
  · refine wp_eq ?_
    unfold X11_opens
    refine wp_k k264 ?_
    refine wp_b (g264 (by decide)) ?_
    rw [s2, if_pos (by omega)]
    unfold X11_opens_J18
    refine wp_b (g264 (by decide)) ?_
    rw [rs.2.1, if_pos (by decide)]
    refine wp_b (g264 (by decide)) ?_
    rw [s2, wI_of2 (x := (o : Int) + 1) (by omega) (by omega)]
    refine wp_b (p264 (by decide) _ _) ?_
    rw [show up n 264 45 ((o : Int) + 1) = n1 from by rw [hn1]; congr 1]
    refine wp_b e2 ?_
    refine wp_b e3 ?_
    exact wp_some rfl
  · rw [g4 45 (by decide), f2.2 45 (by decide), hn1, up_same]
  · rw [g4 47 (by decide), f2.2 47 (by decide), o1j 47 (by decide)]; exact s3
  · obtain ⟨x1, x2⟩ := g5 j (by omega)
    exact ⟨by rw [x1, f2.1 291 (by decide), o1 291 (by decide)], by rw [g6 292 (by decide) (by decide) (by decide), f2.1 292 (by decide), o1 292 (by decide)], by rw [x2, f2.1 293 (by decide), o1 293 (by decide)]⟩
  · rw [g6 294 (by decide) (by decide) (by decide), f2.1 294 (by decide), o1 294 (by decide)]
  · rw [g4 48 (by decide), f2.2 48 (by decide), o1j 48 (by decide)]
theorem m_opens7 {N : Nat} {n : Mem} {a q : Nat} (rs : RS n T len a) (st : SSt n 7 q) (kind : Int) : X11_opens N 264 kind n = some (Bl n 5 (a : Int)) := by
  refine wp_eq ?_
  unfold X11_opens
  refine wp_k k264 ?_
  refine wp_b (g264 (by decide)) ?_
  rw [st.2.1, if_neg (fun u => u rfl)]
  refine wp_b (g264 (by decide)) ?_
  rw [rs.1.1]
  refine wp_b (m_blame0 rs.2.1 _ _) ?_
  have fs := bl_fs n (k := 5) (by decide) (a : Int)
  unfold X11_opens_J18
  refine wp_b (g264 (by decide)) ?_
  rw [if_neg (by unfold FS at fs; omega)]
  exact wp_some rfl
theorem m_opensF {N : Nat} {n : Mem} (f : FS n) (kind : Int) : X11_opens N 264 kind n = some n := by
  have J : Wp (X11_opens_J18 N 264 kind n) (fun r => r = n) := by
    unfold X11_opens_J18
    refine wp_b (g264 (by decide)) ?_
    rw [if_neg (by have : 0 < n 264 8 := f; omega)]
    exact wp_some rfl
  refine wp_eq ?_
  unfold X11_opens
  refine wp_k k264 ?_
  refine wp_b (g264 (by decide)) ?_
  by_cases q : n 264 45 = 7
  · rw [if_neg (fun u => u q)]
    refine wp_b (g264 (by decide)) ?_
    refine wp_b (m_blame1 f _ _) ?_
    exact J
  · rw [if_pos q]
    exact J
/-- the sort of a word; -1 -/
def srt (w : Int) : Int := if w = 499850634611 then 1 else if w = 1869636974 then 2 else if w = 1751738216 then 3 else if w = 1668246628 then 4 else if w = 1752135026 then 5 else if w = 427021006180 then 6 else if w = 2003398244 then 7 else if w = 495757257573 then 8 else if w = 1852137842 then 9 else if w = 7824756 then 30 else -1
theorem isW_y {n : Mem} {a : Nat} (rs : RS n T len a) (s1 : rsg T len a = 1) {c : Int} (e : rwd T len a = c) : X11_isWord 264 c n = some 1 := by rw [m_isWord rs c, ← bi_t ⟨s1, e⟩]
theorem isW_n {n : Mem} {a : Nat} (rs : RS n T len a) {c : Int} (e : ¬(rsg T len a = 1 ∧ rwd T len a = c)) : X11_isWord 264 c n = some 0 := by rw [m_isWord rs c, ← bi_f e]
theorem m_opJ {N : Nat} {n : Mem} {a : Nat} (rs : RS n T len a) (rl : rlx T len a = -1) (ns : ¬isS T len a 40) (n1 : ¬isW T len a 7170414) (n2 : ¬isW T len a 7168376) : X11_operand N 264 n = X11_operand_J277 N 264 (if rsg T len a = 2 then 0 else if rsg T len a = 1 then srt (rwd T len a) else -1) n := by
  unfold X11_operand
  rw [if_pos k264, m_lex1 rs rl, Option.bind_some, g264 (by decide), Option.bind_some, rs.2.1, if_pos (by decide), m_isSign rs, ← bi_f (fun u => ns ⟨rl, u⟩), Option.bind_some, if_pos rfl, isW_n rs (fun u => n1 ⟨rl, u⟩), Option.bind_some, if_neg (fun u => u rfl), isW_n rs (fun u => n2 ⟨rl, u⟩), Option.bind_some, if_pos rfl, g264 (by decide), Option.bind_some, rs.1.2.1]
  by_cases q : rsg T len a = 2
  · rw [if_neg (fun u => u q), if_pos q]
  rw [if_pos q, if_neg q]
  by_cases s1 : rsg T len a = 1
  · rw [if_pos s1]
    unfold srt
    by_cases q1 : rwd T len a = 499850634611
    · rw [isW_y rs s1 q1, Option.bind_some, if_neg (by decide), if_pos q1]
    rw [isW_n rs (fun u => q1 u.2), Option.bind_some, if_pos rfl, if_neg q1]
    by_cases q1 : rwd T len a = 1869636974
    · rw [isW_y rs s1 q1, Option.bind_some, if_neg (by decide), if_pos q1]
    rw [isW_n rs (fun u => q1 u.2), Option.bind_some, if_pos rfl, if_neg q1]
    by_cases q1 : rwd T len a = 1751738216
    · rw [isW_y rs s1 q1, Option.bind_some, if_neg (by decide), if_pos q1]
    rw [isW_n rs (fun u => q1 u.2), Option.bind_some, if_pos rfl, if_neg q1]
    by_cases q1 : rwd T len a = 1668246628
    · rw [isW_y rs s1 q1, Option.bind_some, if_neg (by decide), if_pos q1]
    rw [isW_n rs (fun u => q1 u.2), Option.bind_some, if_pos rfl, if_neg q1]
    by_cases q1 : rwd T len a = 1752135026
    · rw [isW_y rs s1 q1, Option.bind_some, if_neg (by decide), if_pos q1]
    rw [isW_n rs (fun u => q1 u.2), Option.bind_some, if_pos rfl, if_neg q1]
    by_cases q1 : rwd T len a = 427021006180
    · rw [isW_y rs s1 q1, Option.bind_some, if_neg (by decide), if_pos q1]
    rw [isW_n rs (fun u => q1 u.2), Option.bind_some, if_pos rfl, if_neg q1]
    by_cases q1 : rwd T len a = 2003398244
    · rw [isW_y rs s1 q1, Option.bind_some, if_neg (by decide), if_pos q1]
    rw [isW_n rs (fun u => q1 u.2), Option.bind_some, if_pos rfl, if_neg q1]
    by_cases q1 : rwd T len a = 495757257573
    · rw [isW_y rs s1 q1, Option.bind_some, if_neg (by decide), if_pos q1]
    rw [isW_n rs (fun u => q1 u.2), Option.bind_some, if_pos rfl, if_neg q1]
    by_cases q1 : rwd T len a = 1852137842
    · rw [isW_y rs s1 q1, Option.bind_some, if_neg (by decide), if_pos q1]
    rw [isW_n rs (fun u => q1 u.2), Option.bind_some, if_pos rfl, if_neg q1]
    by_cases q1 : rwd T len a = 7824756
    · rw [isW_y rs s1 q1, Option.bind_some, if_neg (by decide), if_pos q1]
    rw [isW_n rs (fun u => q1 u.2), Option.bind_some, if_pos rfl, if_neg q1]
  · have no : ∀ c : Int, X11_isWord 264 c n = some 0 := fun c => isW_n rs (fun u => s1 u.1)
    rw [if_neg s1, no, Option.bind_some, if_pos rfl, no, Option.bind_some, if_pos rfl, no, Option.bind_some, if_pos rfl, no, Option.bind_some, if_pos rfl, no, Option.bind_some, if_pos rfl, no, Option.bind_some, if_pos rfl, no, Option.bind_some, if_pos rfl, no, Option.bind_some, if_pos rfl, no, Option.bind_some, if_pos rfl, no, Option.bind_some, if_pos rfl]
/-- what can't be a part -/
theorem m_opBad {N : Nat} {n : Mem} {a : Nat} (rs : RS n T len a) (al : a ≤ len) (k1 : ¬(kdP T len a).1 = 1) (k5 : ¬kdP T len a = (5, 40)) (k2 : ∀ i : Nat, (i = 7 ∨ 16 ≤ i ∧ i ≤ 26) → ¬kdP T len a = (2, (i : Int))) : X11_operand N 264 n = some (1, Bl n 1 (tkQ T len a)) := by
  by_cases rl : rlx T len a = -1
  · have nw : ∀ i : Nat, (i = 7 ∨ 16 ≤ i ∧ i ≤ 26) → ¬isW T len a ((pk8 (owT.getD i []) : Nat) : Int) := fun i hi u => k2 i hi ((own_same al (by omega)).mpr u)
    have c7 : ((pk8 (owT.getD 7 []) : Nat) : Int) = 499850634611 ∧ ((pk8 (owT.getD 16 []) : Nat) : Int) = 1869636974 ∧ ((pk8 (owT.getD 17 []) : Nat) : Int) = 1751738216 ∧ ((pk8 (owT.getD 18 []) : Nat) : Int) = 1668246628 ∧ ((pk8 (owT.getD 19 []) : Nat) : Int) = 1752135026 ∧ ((pk8 (owT.getD 20 []) : Nat) : Int) = 427021006180 ∧ ((pk8 (owT.getD 21 []) : Nat) : Int) = 2003398244 ∧ ((pk8 (owT.getD 22 []) : Nat) : Int) = 495757257573 ∧ ((pk8 (owT.getD 23 []) : Nat) : Int) = 1852137842 ∧ ((pk8 (owT.getD 24 []) : Nat) : Int) = 7824756 ∧ ((pk8 (owT.getD 25 []) : Nat) : Int) = 7170414 ∧ ((pk8 (owT.getD 26 []) : Nat) : Int) = 7168376 := by decide +kernel
    obtain ⟨c7, c16, c17, c18, c19, c20, c21, c22, c23, c24, c25, c26⟩ := c7
    rw [m_opJ rs rl (fun u => k5 ((sgn_same al 40).mpr u)) (by have := nw 25 (by decide); rw [c25] at this; exact this) (by have := nw 26 (by decide); rw [c26] at this; exact this)]
    have ev : (if rsg T len a = 2 then 0 else if rsg T len a = 1 then srt (rwd T len a) else -1) = -1 := by
      rw [if_neg (fun u => k1 ((num_same al).1.mpr ⟨rl, u⟩))]
      by_cases s1 : rsg T len a = 1
      · rw [if_pos s1]
        unfold srt
        rw [if_neg (fun u => nw 7 (by decide) (by rw [c7]; exact ⟨rl, s1, u⟩)), if_neg (fun u => nw 16 (by decide) (by rw [c16]; exact ⟨rl, s1, u⟩)), if_neg (fun u => nw 17 (by decide) (by rw [c17]; exact ⟨rl, s1, u⟩)), if_neg (fun u => nw 18 (by decide) (by rw [c18]; exact ⟨rl, s1, u⟩)), if_neg (fun u => nw 19 (by decide) (by rw [c19]; exact ⟨rl, s1, u⟩)), if_neg (fun u => nw 20 (by decide) (by rw [c20]; exact ⟨rl, s1, u⟩)), if_neg (fun u => nw 21 (by decide) (by rw [c21]; exact ⟨rl, s1, u⟩)), if_neg (fun u => nw 22 (by decide) (by rw [c22]; exact ⟨rl, s1, u⟩)), if_neg (fun u => nw 23 (by decide) (by rw [c23]; exact ⟨rl, s1, u⟩)), if_neg (fun u => nw 24 (by decide) (by rw [c24]; exact ⟨rl, s1, u⟩))]
      · rw [if_neg s1]
    rw [ev]
    refine wp_eq ?_
    unfold X11_operand_J277
    rw [if_neg (fun u => u rfl)]
    refine wp_b (g264 (by decide)) ?_
    rw [rs.1.1]
    refine wp_b (m_blame0 rs.2.1 _ _) ?_
    have fs := bl_fs n (k := 1) (by decide) (a : Int)
    unfold X11_operand_J292
    refine wp_b (g264 (by decide)) ?_
    rw [if_neg (by unfold FS at fs; omega)]
    refine wp_b (v := 1) rfl ?_
    rw [tkQ_1 rl]
    exact wp_some rfl
  · refine wp_eq ?_
    have fs := bl_fs n (k := 1) (by decide) (tkQ T len a)
    unfold X11_operand
    refine wp_k k264 ?_
    refine wp_b (m_lex0 rs rl) ?_
    refine wp_b (g264 (by decide)) ?_
    rw [if_neg (by unfold FS at fs; omega)]
    refine wp_b (v := 1) rfl ?_
    exact wp_some rfl
/-- a number or a fact: the reference adds it and goes on -/
theorem m_opAtom {N : Nat} (hN : 2000 ≤ N) {n : Mem} {a : Nat} (r : Refs n) (rs : RS n T len a) (lt : a < len) (hB : B = 0 ∨ B = 1) (i40 : n 264 40 = (B : Int)) {x : Nat} (e39 : n 264 39 = (x : Int)) (hx : x < 1600) (rl : rlx T len a = -1) {sort : Int} (hs : (rsg T len a = 2 ∧ sort = 0) ∨ (rsg T len a = 1 ∧ ¬rwd T len a = 7170414 ∧ ¬rwd T len a = 7168376 ∧ srt (rwd T len a) = sort ∧ ¬sort = -1)) : ∃ n2, X11_operand N 264 n = some (1, n2) ∧ AhF (addM n B x sort (rvl T len a)) n2 ∧ RS n2 T len (nx T len a) ∧ Refs n2 := by
  have v6 := (rs.1.2.2.2.2 lt).1
  obtain ⟨n1, hn1⟩ : ∃ n1, n1 = addM n B x sort (rvl T len a) := ⟨_, rfl⟩
  obtain ⟨o, o2, _⟩ := addM_o n B x sort (rvl T len a)
  have r1 : Refs n1 := by rw [hn1]; exact addM_r r _ _ _ _
  have rs1 : RS n1 T len a := by rw [hn1]; exact rs_off rs (fun j _ => o2 j (by omega)) (o 265 (by decide) (by decide) (by decide))
  obtain ⟨n2, e2, f2, rs2, r2⟩ := m_goN hN r1 rs1 lt
  refine ⟨n2, ?_, by rw [← hn1]; exact f2, rs2, r2⟩
  have ns : ¬isS T len a 40 := fun u => by have := u.2.1; omega
  have ev : (if rsg T len a = 2 then 0 else if rsg T len a = 1 then srt (rwd T len a) else -1) = sort := by
    rcases hs with ⟨h1, h2⟩ | ⟨h1, _, _, h2, _⟩
    · rw [if_pos h1, h2]
    · rw [if_neg (by omega), if_pos h1, h2]
  have n1' : ¬sort = -1 := by
    rcases hs with ⟨_, h2⟩ | ⟨_, _, _, _, h2⟩
    · omega
    · exact h2
  rw [m_opJ rs rl ns (fun u => by rcases hs with ⟨h1, _⟩ | ⟨_, h2, _⟩; have := u.2.1; omega; exact h2 u.2.2) (fun u => by rcases hs with ⟨h1, _⟩ | ⟨_, _, h2, _⟩; have := u.2.1; omega; exact h2 u.2.2), ev]
  refine wp_eq ?_
  unfold X11_operand_J277
  rw [if_pos n1']
  unfold X11_operand_J292
  refine wp_b (g264 (by decide)) ?_
  rw [rs.2.1, if_pos (by decide)]
  refine wp_b (g264 (by decide)) ?_
  rw [v6]
  refine wp_b (m_addC r hB i40 e39 hx _ _) ?_
  rw [← hn1]
  refine wp_b e2 ?_
  refine wp_b (v := 1) rfl ?_
  exact wp_some rfl
