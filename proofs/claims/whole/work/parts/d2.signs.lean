/-! the reference reads: its first steps -/
def RS (m : Mem) (T : Nat → Int) (len a : Nat) : Prop := RT m T len a ∧ m 264 8 = 0 ∧ m 264 2 = (len : Int) ∧ (∀ i, i < len → m 265 i = T i) ∧ a ≤ len ∧ len ≤ 1600 ∧ m 264 9 = -1
/-- a fault is told already -/
def FS (m : Mem) : Prop := 0 < m 264 8
def Bl (m : Mem) (k p : Int) : Mem := up (up m 264 8 k) 264 9 p
theorem bl_refs {m : Mem} (r : Refs m) (k p : Int) : Refs (Bl m k p) := refs_up (refs_up r (by decide +kernel) k) (by decide +kernel) p
theorem bl_fs (m : Mem) {k : Int} (hk : 0 < k) (p : Int) : FS (Bl m k p) := by
  show 0 < up (up m 264 8 k) 264 9 p 264 8
  rw [up_slot (by decide), up_same]; exact hk
/-- where a fault of the sign at a is told -/
def tkQ (T : Nat → Int) (len a : Nat) : Int := if rlx T len a = -1 then (a : Int) else rlx T len a
theorem m_goN {N : Nat} (hN : 2000 ≤ N) {m : Mem} {T : Nat → Int} {len a : Nat} (r : Refs m) (h : RS m T len a) (q : a < len) : ∃ m2, X11_ahead N 264 m = some m2 ∧ AhF m m2 ∧ RS m2 T len (nx T len a) ∧ Refs m2 := by
  obtain ⟨⟨t4, t3, t12, t5, t6⟩, h8, h2, hT, al, hl⟩ := h
  rw [if_neg (by omega)] at t5
  have te := tE_in (T := T) q
  obtain ⟨m2, e, f, rt⟩ := m_ahead hN r h2 hT hl.1 t5 te.2
  exact ⟨m2, e, f, ⟨rt, by rw [f.2 8 (by decide)]; exact h8, by rw [f.2 2 (by decide)]; exact h2, fun i hi => by rw [f.1 265 (by decide)]; exact hT i hi, (nx_in q).2, hl.1, by rw [f.2 9 (by decide)]; exact hl.2⟩, ahf_refs f r⟩
theorem m_blame0 {m : Mem} (h : m 264 8 = 0) (k p : Int) : X11_blame 264 k p m = some (Bl m k p) := by
  refine wp_eq ?_
  unfold X11_blame
  refine wp_k k264 ?_
  refine wp_b (g264 (by decide)) ?_
  rw [h, if_pos (by decide)]
  refine wp_b (p264 (by decide) _ _) ?_
  refine wp_b (p264 (by decide) _ _) ?_
  exact wp_some rfl
theorem m_blame1 {m : Mem} (h : FS m) (k p : Int) : X11_blame 264 k p m = some m := by
  refine wp_eq ?_
  unfold X11_blame
  refine wp_k k264 ?_
  refine wp_b (g264 (by decide)) ?_
  rw [if_neg (by have : 0 < m 264 8 := h; omega)]
  exact wp_some rfl
theorem m_lexF {m : Mem} (h : FS m) : X11_lex 264 m = some m := by
  refine wp_eq ?_
  unfold X11_lex
  refine wp_k k264 ?_
  refine wp_b (g264 (by decide)) ?_
  by_cases q : m 264 12 = -1
  · rw [if_pos q]; exact wp_some rfl
  · rw [if_neg q]
    refine wp_b (g264 (by decide)) ?_
    refine wp_b (m_blame1 h _ _) ?_
    exact wp_some rfl
theorem m_lex1 {m : Mem} {T : Nat → Int} {len a : Nat} (h : RS m T len a) (q : rlx T len a = -1) : X11_lex 264 m = some m := by
  refine wp_eq ?_
  unfold X11_lex
  refine wp_k k264 ?_
  refine wp_b (g264 (by decide)) ?_
  rw [h.1.2.2.1, if_pos q]
  exact wp_some rfl
theorem m_lex0 {m : Mem} {T : Nat → Int} {len a : Nat} (h : RS m T len a) (q : ¬rlx T len a = -1) : X11_lex 264 m = some (Bl m 1 (tkQ T len a)) := by
  refine wp_eq ?_
  unfold X11_lex
  refine wp_k k264 ?_
  refine wp_b (g264 (by decide)) ?_
  rw [h.1.2.2.1, if_neg q]
  refine wp_b (g264 (by decide)) ?_
  rw [h.1.2.2.1]
  refine wp_b (m_blame0 h.2.1 _ _) ?_
  refine wp_some ?_
  unfold tkQ
  rw [if_neg q]
theorem tkQ_1 {T : Nat → Int} {len a : Nat} (q : rlx T len a = -1) : tkQ T len a = (a : Int) := if_pos q
theorem rs_end {m : Mem} {T : Nat → Int} {len a : Nat} (h : RS m T len a) (q : ¬rsg T len a = 0) : a < len := by
  rcases Nat.lt_or_ge a len with y | y
  · exact y
  · exact absurd (show rsg T len a = 0 from if_pos y) q
theorem m_isSign {m : Mem} {T : Nat → Int} {len a : Nat} (h : RS m T len a) (c : Int) : X11_isSign 264 c m = some (bi (rsg T len a = 3 ∧ rvl T len a = c)) := by
  obtain ⟨⟨t4, t3, t12, t5, t6⟩, h8, h2, hT, al, hl⟩ := id h
  refine wp_eq ?_
  unfold X11_isSign
  refine wp_k k264 ?_
  refine wp_b (g264 (by decide)) ?_
  rw [t3]
  by_cases q : rsg T len a = 3
  · rw [if_neg (fun u => u q)]
    refine wp_b (g264 (by decide)) ?_
    rw [(t6 (rs_end h (by omega))).1]
    by_cases q2 : rvl T len a = c
    · rw [if_neg (fun u => u q2)]; exact wp_z1 (bi_t ⟨q, q2⟩)
    · rw [if_pos q2]; exact wp_z0 (bi_f fun u => q2 u.2)
  · rw [if_pos q]; exact wp_z0 (bi_f fun u => q u.1)
theorem m_isWord {m : Mem} {T : Nat → Int} {len a : Nat} (h : RS m T len a) (c : Int) : X11_isWord 264 c m = some (bi (rsg T len a = 1 ∧ rwd T len a = c)) := by
  obtain ⟨⟨t4, t3, t12, t5, t6⟩, h8, h2, hT, al, hl⟩ := id h
  refine wp_eq ?_
  unfold X11_isWord
  refine wp_k k264 ?_
  refine wp_b (g264 (by decide)) ?_
  rw [t3]
  by_cases q : rsg T len a = 1
  · rw [if_neg (fun u => u q)]
    refine wp_b (g264 (by decide)) ?_
    rw [(t6 (rs_end h (by omega))).2]
    by_cases q2 : rwd T len a = c
    · rw [if_neg (fun u => u (lcm_eq.mpr q2))]; exact wp_z1 (bi_t ⟨q, q2⟩)
    · rw [if_pos (fun u => q2 (lcm_eq.mp u))]; exact wp_z0 (bi_f fun u => q2 u.2)
  · rw [if_pos q]; exact wp_z0 (bi_f fun u => q u.1)
/-- what is at a sign that is right in itself -/
abbrev isS (T : Nat → Int) (len a : Nat) (c : Int) : Prop := rlx T len a = -1 ∧ rsg T len a = 3 ∧ rvl T len a = c
abbrev isW (T : Nat → Int) (len a : Nat) (c : Int) : Prop := rlx T len a = -1 ∧ rsg T len a = 1 ∧ rwd T len a = c
abbrev isNm (T : Nat → Int) (len a : Nat) : Prop := rlx T len a = -1 ∧ rsg T len a = 2
theorem m_mustW {N : Nat} (hN : 2000 ≤ N) {m : Mem} {T : Nat → Int} {len a : Nat} (r : Refs m) (h : RS m T len a) (c : Int) {Q : Mem → Prop} (y : isW T len a c → ∀ m2, AhF m m2 → RS m2 T len (nx T len a) → Refs m2 → Q m2) (no : ¬isW T len a c → Q (Bl m 1 (tkQ T len a))) : Wp (X11_must_ N 264 c m) Q := by
  unfold X11_must_
  refine wp_k k264 ?_
  by_cases q : rlx T len a = -1
  · refine wp_b (m_lex1 h q) ?_
    refine wp_b (g264 (by decide)) ?_
    rw [h.2.1, if_pos (by decide)]
    refine wp_b (m_isWord h c) ?_
    by_cases q2 : rsg T len a = 1 ∧ rwd T len a = c
    · rw [← bi_t q2, if_pos (by decide)]
      unfold X11_must__J29
      refine wp_b (g264 (by decide)) ?_
      rw [h.2.1, if_neg (fun u => u rfl)]
      obtain ⟨m2, e, f, rs, r2⟩ := m_goN hN r h (rs_end h (by omega))
      refine wp_b e ?_
      exact wp_some (y ⟨q, q2⟩ m2 f rs r2)
    · rw [← bi_f q2, if_neg (fun u => u rfl)]
      refine wp_b (g264 (by decide)) ?_
      rw [h.1.1]
      refine wp_b (m_blame0 h.2.1 _ _) ?_
      unfold X11_must__J29
      refine wp_b (g264 (by decide)) ?_
      rw [if_pos (by have := bl_fs m (k := 1) (by decide) (a : Int); unfold FS at this; omega)]
      have w := no (fun u => q2 u.2)
      rw [tkQ_1 q] at w
      exact wp_some w
  · refine wp_b (m_lex0 h q) ?_
    refine wp_b (g264 (by decide)) ?_
    rw [if_neg (by have := bl_fs m (k := 1) (by decide) (tkQ T len a); unfold FS at this; omega)]
    exact wp_some (no (fun u => q u.1))
theorem m_mustS {N : Nat} (hN : 2000 ≤ N) {m : Mem} {T : Nat → Int} {len a : Nat} (r : Refs m) (h : RS m T len a) (c : Int) {Q : Mem → Prop} (y : isS T len a c → ∀ m2, AhF m m2 → RS m2 T len (nx T len a) → Refs m2 → Q m2) (no : ¬isS T len a c → Q (Bl m 1 (tkQ T len a))) : Wp (X11_must N 264 c m) Q := by
  unfold X11_must
  refine wp_k k264 ?_
  have J21 : ∀ m1 : Mem, FS m1 → Q m1 → Wp (X11_must_J21 N 264 m1) Q := fun m1 f g => by
    unfold X11_must_J21
    refine wp_b (g264 (by decide)) ?_
    rw [if_pos (by have : 0 < m1 264 8 := f; omega)]
    exact wp_some g
  by_cases q : rlx T len a = -1
  · refine wp_b (m_lex1 h q) ?_
    refine wp_b (m_isSign h c) ?_
    by_cases q2 : rsg T len a = 3 ∧ rvl T len a = c
    · rw [← bi_t q2, if_pos (by decide)]
      unfold X11_must_J21
      refine wp_b (g264 (by decide)) ?_
      rw [h.2.1, if_neg (fun u => u rfl)]
      obtain ⟨m2, e, f, rs, r2⟩ := m_goN hN r h (rs_end h (by omega))
      refine wp_b e ?_
      exact wp_some (y ⟨q, q2⟩ m2 f rs r2)
    · rw [← bi_f q2, if_neg (fun u => u rfl)]
      refine wp_b (g264 (by decide)) ?_
      rw [h.1.1]
      refine wp_b (m_blame0 h.2.1 _ _) ?_
      have w := no (fun u => q2 u.2)
      rw [tkQ_1 q] at w
      exact J21 _ (bl_fs m (by decide) _) w
  · refine wp_b (m_lex0 h q) ?_
    have w := no (fun u => q u.1)
    have fs := bl_fs m (k := 1) (by decide) (tkQ T len a)
    -- what stands there does not count any more
    have is : ∃ v, X11_isSign 264 c (Bl m 1 (tkQ T len a)) = some v := by
      unfold X11_isSign
      rw [if_pos k264, g264 (by decide), Option.bind_some]
      by_cases z : Bl m 1 (tkQ T len a) 264 3 = 3
      · rw [if_neg (fun u => u z), g264 (by decide), Option.bind_some]
        by_cases z2 : Bl m 1 (tkQ T len a) 264 6 = c
        · rw [if_neg (fun u => u z2)]; exact ⟨_, rfl⟩
        · rw [if_pos z2]; exact ⟨_, rfl⟩
      · rw [if_pos z]; exact ⟨_, rfl⟩
    obtain ⟨v, ev⟩ := is
    refine wp_b ev ?_
    by_cases z : v = 0
    · rw [if_neg (fun u => u z)]
      refine wp_b (g264 (by decide)) ?_
      refine wp_b (m_blame1 fs _ _) ?_
      exact J21 _ fs w
    · rw [if_pos z]
      exact J21 _ fs w
theorem m_mustWF {N : Nat} {m : Mem} (h : FS m) (c : Int) : X11_must_ N 264 c m = some m := by
  refine wp_eq ?_
  unfold X11_must_
  refine wp_k k264 ?_
  refine wp_b (m_lexF h) ?_
  refine wp_b (g264 (by decide)) ?_
  rw [if_neg (by have : 0 < m 264 8 := h; omega)]
  exact wp_some rfl
theorem m_lookedF {m : Mem} (h : FS m) (lo hi : Int) : X11_looked 264 lo hi m = some (0, m) := by
  refine wp_eq ?_
  unfold X11_looked
  refine wp_k k264 ?_
  refine wp_b (m_lexF h) ?_
  refine wp_b (g264 (by decide)) ?_
  rw [if_neg (by have : 0 < m 264 8 := h; omega)]
  exact wp_some rfl
theorem m_numberF {N : Nat} {m : Mem} (h : FS m) (lo hi : Int) : X11_number N 264 lo hi m = some (0, m) := by
  refine wp_eq ?_
  unfold X11_number
  refine wp_k k264 ?_
  refine wp_b (m_lookedF h lo hi) ?_
  refine wp_b (g264 (by decide)) ?_
  rw [if_pos (by have : 0 < m 264 8 := h; show ¬m 264 8 = 0; omega)]
  exact wp_some rfl
theorem m_looked {m : Mem} {T : Nat → Int} {len a : Nat} (h : RS m T len a) (lo hi : Int) {Q : Int × Mem → Prop} (y : isNm T len a → lo ≤ rvl T len a → rvl T len a ≤ hi → Q (rvl T len a, m)) (out : isNm T len a → ¬(lo ≤ rvl T len a ∧ rvl T len a ≤ hi) → Q (0, Bl m 4 (a : Int))) (no : ¬isNm T len a → Q (0, Bl m 1 (tkQ T len a))) : Wp (X11_looked 264 lo hi m) Q := by
  obtain ⟨⟨t4, t3, t12, t5, t6⟩, h8, h2, hT, al, hl⟩ := id h
  have J58 : ∀ m1 : Mem, FS m1 → Q (0, m1) → Wp (X11_looked_J58 264 m1) Q := fun m1 f g => by
    unfold X11_looked_J58
    refine wp_b (g264 (by decide)) ?_
    rw [if_neg (by have : 0 < m1 264 8 := f; omega)]
    exact wp_some g
  unfold X11_looked
  refine wp_k k264 ?_
  by_cases q : rlx T len a = -1
  · refine wp_b (m_lex1 h q) ?_
    refine wp_b (g264 (by decide)) ?_
    rw [h8, if_pos (by decide)]
    refine wp_b (g264 (by decide)) ?_
    rw [t3]
    by_cases q2 : rsg T len a = 2
    · rw [if_pos q2]
      have v6 := (t6 (rs_end h (by omega))).1
      unfold X11_looked_J30
      refine wp_b (g264 (by decide)) ?_
      rw [h8, if_neg (fun u => u rfl)]
      refine wp_b (g264 (by decide)) ?_
      rw [v6]
      refine wp_b (m_is _ _ _ _) ?_
      by_cases q3 : lo ≤ rvl T len a ∧ rvl T len a ≤ hi
      · rw [← bi_t q3, if_pos (by decide)]
        unfold X11_looked_J58
        refine wp_b (g264 (by decide)) ?_
        rw [h8, if_pos (by decide)]
        refine wp_b (g264 (by decide)) ?_
        rw [v6]
        exact wp_some (y ⟨q, q2⟩ q3.1 q3.2)
      · rw [← bi_f q3, if_neg (fun u => u rfl)]
        refine wp_b (g264 (by decide)) ?_
        rw [t4]
        refine wp_b (m_blame0 h8 _ _) ?_
        exact J58 _ (bl_fs m (by decide) _) (out ⟨q, q2⟩ q3)
    · rw [if_neg q2]
      refine wp_b (g264 (by decide)) ?_
      rw [t4]
      refine wp_b (m_blame0 h8 _ _) ?_
      have w := no (fun u => q2 u.2)
      rw [tkQ_1 q] at w
      have fs := bl_fs m (k := 1) (by decide) (a : Int)
      unfold X11_looked_J30
      refine wp_b (g264 (by decide)) ?_
      rw [if_pos (by unfold FS at fs; omega)]
      exact J58 _ fs w
  · refine wp_b (m_lex0 h q) ?_
    have fs := bl_fs m (k := 1) (by decide) (tkQ T len a)
    refine wp_b (g264 (by decide)) ?_
    rw [if_neg (by unfold FS at fs; omega)]
    exact wp_some (no (fun u => q u.1))
theorem m_number {N : Nat} (hN : 2000 ≤ N) {m : Mem} {T : Nat → Int} {len a : Nat} (r : Refs m) (h : RS m T len a) (lo hi : Int) {Q : Int × Mem → Prop} (y : isNm T len a → lo ≤ rvl T len a → rvl T len a ≤ hi → ∀ m2, AhF m m2 → RS m2 T len (nx T len a) → Refs m2 → Q (rvl T len a, m2)) (out : isNm T len a → ¬(lo ≤ rvl T len a ∧ rvl T len a ≤ hi) → Q (0, Bl m 4 (a : Int))) (no : ¬isNm T len a → Q (0, Bl m 1 (tkQ T len a))) : Wp (X11_number N 264 lo hi m) Q := by
  unfold X11_number
  refine wp_k k264 ?_
  have bad : ∀ m1 : Mem, FS m1 → Q (0, m1) → Wp ((getI 11 8 264 m1).bind fun t2 => if ¬t2 = 0 then some ((0 : Int), m1) else (X11_ahead N 264 m1).bind fun p3 => some ((0 : Int), p3)) Q := fun m1 f g => by
    refine wp_b (g264 (by decide)) ?_
    rw [if_pos (by have : 0 < m1 264 8 := f; omega)]
    exact wp_some g
  refine wp_bw (m_looked h lo hi (Q := fun p => (isNm T len a ∧ lo ≤ rvl T len a ∧ rvl T len a ≤ hi ∧ p = (rvl T len a, m)) ∨ (FS p.2 ∧ p.1 = 0 ∧ Q (0, p.2))) (fun a1 a2 a3 => Or.inl ⟨a1, a2, a3, rfl⟩) (fun a1 a2 => Or.inr ⟨bl_fs m (by decide) _, rfl, out a1 a2⟩) (fun a1 => Or.inr ⟨bl_fs m (by decide) _, rfl, no a1⟩)) (fun p hp => ?_)
  rcases hp with ⟨a1, a2, a3, hp⟩ | ⟨f, p0, g⟩
  · subst hp
    refine wp_b (g264 (by decide)) ?_
    show Wp (if ¬m 264 8 = 0 then _ else _) Q
    rw [h.2.1, if_neg (fun u => u rfl)]
    obtain ⟨m2, e, f, rs, r2⟩ := m_goN hN r h (rs_end h (by have := a1.2; omega))
    refine wp_b e ?_
    exact wp_some (y a1 a2 a3 m2 f rs r2)
  · rw [p0]
    exact bad p.2 f g
