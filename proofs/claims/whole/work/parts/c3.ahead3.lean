/-! the reference goes a sign further -/
theorem rlx_jn {T : Nat → Int} {len a : Nat} (h : a < len) (j : jnd T a) : rlx T len a = (a : Int) := by
  unfold rlx tk
  rw [if_neg (show ¬len ≤ a from by omega), if_pos j]
  exact if_pos rfl
theorem rlx_lt {T : Nat → Int} {len a : Nat} (h : a < len) (j : ¬jnd T a) (q : isLt (T a)) : rlx T len a = if ¬ow (lts T a (tE T len a - a)) = -1 then -1 else if tE T len a - a ≤ 6 then -1 else ((a + 6 : Nat) : Int) := by
  unfold rlx tk
  rw [if_neg (show ¬len ≤ a from by omega), if_neg j, if_pos q]
  by_cases w : ow (lts T a (tE T len a - a)) = -1
  · have w2 : ¬¬ow (lts T a (tE T len a - a)) = -1 := fun u => u w
    rw [if_neg w2, if_neg w2]
    by_cases w3 : tE T len a - a ≤ 6
    · rw [if_pos w3, if_pos w3]; exact if_neg (show ¬(3 : Int) = 6 from by decide)
    · rw [if_neg w3, if_neg w3]; exact if_pos rfl
  · rw [if_pos w, if_pos w]; exact if_neg (show ¬(2 : Int) = 6 from by decide)
theorem rlx_dg {T : Nat → Int} {len a : Nat} (h : a < len) (j : ¬jnd T a) (q : ¬isLt (T a)) (q2 : isDg (T a)) : rlx T len a = if 4 < tE T len a - a then ((a + 4 : Nat) : Int) else -1 := by
  unfold rlx tk
  rw [if_neg (show ¬len ≤ a from by omega), if_neg j, if_neg q, if_pos q2]
  by_cases w : tE T len a - a ≤ 4
  · rw [if_pos w, if_neg (show ¬4 < tE T len a - a from by omega)]; exact if_neg (show ¬(1 : Int) = 6 from by decide)
  · rw [if_neg w, if_pos (show 4 < tE T len a - a from by omega)]; exact if_pos rfl
theorem rlx_sg {T : Nat → Int} {len a : Nat} (h : a < len) (q : ¬isLt (T a)) (q2 : ¬isDg (T a)) : rlx T len a = -1 := by
  unfold rlx tk
  rw [if_neg (show ¬len ≤ a from by omega), if_neg (show ¬jnd T a from fun u => by have := u.2.1; omega), if_neg q, if_neg q2]
  exact if_neg (show ¬(5 : Int) = 6 from by decide)
theorem rlx_end {T : Nat → Int} {len a : Nat} (h : len ≤ a) : rlx T len a = -1 := by
  unfold rlx tk
  rw [if_pos h]
  exact if_neg (show ¬(0 : Int) = 6 from by decide)
theorem m_skip {N : Nat} {m : Mem} {T : Nat → Int} {len : Nat} (r : Refs m) (h2 : m 264 2 = (len : Int)) (hT : ∀ i, i < len → m 265 i = T i) (hl : len ≤ 1600) (K : Nat → Int → Mem → Option Mem) {Q : Mem → Prop} : ∀ d F p : Nat, len - p = d → d < F → p ≤ len → Wp (K 264 ((run cBl T len p : Nat) : Int) m) Q → Wp (X11_ahead_L5 N K F 264 (p : Int) m) Q := by
  intro d
  induction d with
  | zero =>
    intro F p hd hF hp g
    obtain ⟨F, rfl⟩ : ∃ f, F = f + 1 := ⟨F - 1, by omega⟩
    rw [run_n (show ¬(p < len ∧ cBl (T p) = true) from by omega)] at g
    show Wp (X11_ahead_L5_b N K (X11_ahead_L5 N K F) 264 (p : Int) m) Q
    unfold X11_ahead_L5_b
    refine wp_b (g264 (by decide)) ?_
    rw [h2, if_pos (by omega)]
    exact g
  | succ d ih =>
    intro F p hd hF hp g
    obtain ⟨F, rfl⟩ : ∃ f, F = f + 1 := ⟨F - 1, by omega⟩
    have ld := arI (a := 265) 1800 (i := (p : Int)) (by decide +kernel) (by omega) (by omega) m
    rw [Int.toNat_natCast, hT p (by omega)] at ld
    show Wp (X11_ahead_L5_b N K (X11_ahead_L5 N K F) 264 (p : Int) m) Q
    unfold X11_ahead_L5_b
    refine wp_b (g264 (by decide)) ?_
    rw [h2, if_neg (by omega)]
    refine wp_b (gR0 r) ?_
    refine wp_b ld ?_
    have go : isBl (T p) → Wp (X11_ahead_J35 N (X11_ahead_L5 N K F) 264 (p : Int) m) Q := fun y => by
      unfold X11_ahead_J35
      rw [show wI ((p : Int) + 1) = ((p + 1 : Nat) : Int) from by rw [wI_of2 (by omega) (by omega)]; omega]
      refine ih F (p + 1) (by omega) (by omega) (by omega) ?_
      rw [← run_y (show p < len from by omega) (cBl_i.mpr y)]
      exact g
    by_cases q : T p = 32
    · rw [if_pos q]; exact go (Or.inl q)
    · rw [if_neg q]
      refine wp_b (gR0 r) ?_
      refine wp_b ld ?_
      by_cases q2 : T p = 10
      · rw [if_neg (fun u => u q2)]; exact go (Or.inr q2)
      · rw [if_pos q2]
        rw [run_n (show ¬(p < len ∧ cBl (T p) = true) from fun u => by have := cBl_i.mp u.2; omega)] at g
        exact g
theorem m_ahead {N : Nat} (hN : 2000 ≤ N) {m : Mem} {T : Nat → Int} {len e : Nat} (r : Refs m) (h2 : m 264 2 = (len : Int)) (hT : ∀ i, i < len → m 265 i = T i) (hl : len ≤ 1600) (h5 : m 264 5 = (e : Int)) (he : e ≤ len) : ∃ m2, X11_ahead N 264 m = some m2 ∧ AhF m m2 ∧ RT m2 T len (sk T len e) := by
  obtain ⟨a, ha⟩ : ∃ a, a = sk T len e := ⟨_, rfl⟩
  have ai := run_in cBl T len _ e rfl he
  have al : a ≤ len := by rw [ha]; exact ai.2.1
  rw [← ha]
  have X : Wp (X11_ahead N 264 m) (fun m2 => AhF m m2 ∧ RT m2 T len a) := by
    obtain ⟨Q, hQ⟩ : ∃ Q : Mem → Prop, Q = fun m2 => AhF m m2 ∧ RT m2 T len a := ⟨_, rfl⟩
    rw [← hQ]
    unfold X11_ahead
    refine wp_k k264 ?_
    refine wp_b (g264 (by decide)) ?_
    rw [h5]
    refine m_skip r h2 hT hl _ (len - e) N e rfl (by omega) he ?_
    rw [show run cBl T len e = a from ha.symm]
    refine wp_b (p264 (by decide) _ _) ?_
    refine wp_b (p264 (by decide) _ _) ?_
    refine wp_b (p264 (by decide) _ _) ?_
    refine wp_b (p264 (by decide) _ _) ?_
    refine wp_b (g264 (by decide)) ?_
    obtain ⟨m0, hm0⟩ : ∃ m0, m0 = up (up (up (up m 264 4 (a : Int)) 264 5 (a : Int)) 264 3 0) 264 12 (-1) := ⟨_, rfl⟩
    rw [← hm0]
    have f0 : AhF m m0 := by rw [hm0]; exact ahf_up (ahf_up (ahf_up (ahf_up (ahf_refl m) (by omega) _) (by omega) _) (by omega) _) (by omega) _
    have z4 : m0 264 4 = (a : Int) := by rw [hm0, up_slot (by decide), up_slot (by decide), up_slot (by decide), up_same]
    have z5 : m0 264 5 = (a : Int) := by rw [hm0, up_slot (by decide), up_slot (by decide), up_same]
    have z3 : m0 264 3 = 0 := by rw [hm0, up_slot (by decide), up_same]
    have z12 : m0 264 12 = -1 := by rw [hm0, up_same]
    have r0 := ahf_refs f0 r
    rw [f0.2 2 (by decide), h2]
    by_cases q : a < len
    · rw [if_pos (by omega)]
      have ld : ∀ mm : Mem, AhF m mm → aldI 265 (a : Int) mm = some (T a) := fun mm f => by
        rw [arI (a := 265) 1800 (i := (a : Int)) (by decide +kernel) (by omega) (by omega) mm, Int.toNat_natCast, f.1 265 (by decide), hT a q]
      have tl := tE_in (T := T) q
      refine wp_b (gR0 r0) ?_
      refine wp_b (ld m0 f0) ?_
      refine wp_b (m_isLetter _ m0) ?_
      refine wp_b (gR0 r0) ?_
      refine wp_b (ld m0 f0) ?_
      refine wp_b (m_isDigit _ m0) ?_
      -- the sign, where what is wrong is known
      have J135 : ∀ (m1 : Mem) (lx : Int), AhF m m1 → m1 264 4 = (a : Int) → m1 264 12 = lx → (jnd T a ∧ lx = (a : Int) ∨ ¬jnd T a ∧ lx = -1) → Wp (X11_ahead_J135 N 264 (a : Int) (bi (isLt (T a))) (bi (isDg (T a))) m1) Q := fun m1 lx f1 y4 y12 hx => by
        unfold X11_ahead_J135
        refine wp_b (p264 (by decide) _ _) ?_
        refine wp_b (p264 (by decide) _ _) ?_
        refine wp_b (p264 (by decide) _ _) ?_
        refine wp_b (p264 (by decide) _ _) ?_
        obtain ⟨m3, hm3⟩ : ∃ m3, m3 = up (up (up (up m1 264 6 0) 264 7 0) 264 3 3) 264 5 (wI ((a : Int) + 1)) := ⟨_, rfl⟩
        rw [← hm3]
        have f3 : AhF m m3 := by rw [hm3]; exact ahf_up (ahf_up (ahf_up (ahf_up f1 (by omega) _) (by omega) _) (by omega) _) (by omega) _
        have w4 : m3 264 4 = (a : Int) := by rw [hm3, up_slot (by decide), up_slot (by decide), up_slot (by decide), up_slot (by decide)]; exact y4
        have w12 : m3 264 12 = lx := by rw [hm3, up_slot (by decide), up_slot (by decide), up_slot (by decide), up_slot (by decide)]; exact y12
        have w6 : m3 264 6 = 0 := by rw [hm3, up_slot (by decide), up_slot (by decide), up_slot (by decide), up_same]
        have w7 : m3 264 7 = 0 := by rw [hm3, up_slot (by decide), up_slot (by decide), up_same]
        have w3 : m3 264 3 = 3 := by rw [hm3, up_slot (by decide), up_same]
        have w5 : m3 264 5 = ((a + 1 : Nat) : Int) := by rw [hm3, up_same, wI_of2 (by omega) (by omega)]; omega
        by_cases ql : isLt (T a)
        · rw [← bi_t ql, show bi (isDg (T a)) = 0 from (bi_f (by omega)).symm, if_pos (by decide)]
          unfold X11_ahead_J176
          rw [if_neg (by decide)]
          unfold X11_ahead_J186
          refine wp_b (p264 (by decide) _ _) ?_
          rw [if_neg (by decide)]
          unfold X11_ahead_J199
          have te : tE T len a = run cLt T len a := by unfold tE; rw [if_pos ql]
          have hI : AhI m (up m3 264 3 1) T a true lx 0 := ⟨ahf_up f3 (by omega) _, by rw [up_slot (by decide)]; exact w4, by rw [up_same]; rfl, by
            rw [up_slot (by decide), w12]
            by_cases y : lx = -1
            · rw [if_neg (show ¬¬lx = -1 from fun u => u y), y]; rfl
            · rw [if_pos y], by rw [up_slot (by decide), w6]; rfl, by rw [up_slot (by decide), w7]; rfl⟩
          have := m_runL (N := N) (Q := Q) r h2 hT hl true lx (by rcases hx with h | h; exact Or.inr h.2; exact Or.inl h.2) cLt rfl (ahK N) (len - a) N 0 (up m3 264 3 1) (by omega) (by omega) (by omega) (fun i hi => absurd hi (Nat.not_lt_zero i)) hI (fun m4 h4 => ?_)
          · exact this
          · rw [Nat.add_zero, ← te] at h4 ⊢
            obtain ⟨g, i4, i3, i12, i6, i7⟩ := h4
            rw [if_pos rfl] at i3 i6 i7
            have i12' : m4 264 12 = if ¬lx = -1 then lx else if 6 < tE T len a - a then ((a + 6 : Nat) : Int) else -1 := i12
            show Wp ((putI 11 5 264 ((tE T len a : Nat) : Int) m4).bind fun m62 => if (1 : Int) = 0 then some m62 else if 8 < ((tE T len a - a : Nat) : Int) then some m62 else (getI 11 12 264 m62).bind fun t63 => (getI 11 4 264 m62).bind fun t64 => if ¬t63 = wI (t64 + 6) then some m62 else (getI 11 7 264 m62).bind fun t65 => (X11_isOwn 264 t65 m62).bind fun p66 => if p66 = 0 then some m62 else (putI 11 12 264 (-1) m62).bind fun m67 => some m67) Q
            refine wp_b (p264 (by decide) _ _) ?_
            rw [if_neg (by decide)]
            have hlt : ∀ i, i < tE T len a - a → isLt (T (a + i)) := fun i hi => by
              have := (run_in cLt T len _ a rfl (by omega)).2.2.1 (a + i) (by omega) (by omega)
              exact cLt_i.mp this
            have lo : okLt (lts T a (tE T len a - a)) := lts_ok hlt
            have fin : ∀ m5, AhF m m5 → m5 264 4 = (a : Int) → m5 264 3 = 1 → m5 264 5 = ((tE T len a : Nat) : Int) → m5 264 6 = 0 → m5 264 7 = ((w8 T a (min (tE T len a - a) 8) : Nat) : Int) → m5 264 12 = rlx T len a → Wp (some m5) Q := fun m5 a1 a2 a3 a4 a5 a6 a7 => by
              rw [hQ]
              refine wp_some ⟨a1, a2, ?_, a7, ?_, fun _ => ⟨?_, ?_⟩⟩
              · rw [a3]; unfold rsg; rw [if_neg (by omega), if_pos ql]
              · rw [a4, if_neg (by omega)]
              · rw [a5]; unfold rvl; rw [if_pos ql]
              · rw [a6]; unfold rwd; rw [if_pos ql]
            have k12 : up m4 264 5 ((tE T len a : Nat) : Int) 264 12 = if ¬lx = -1 then lx else if 6 < tE T len a - a then ((a + 6 : Nat) : Int) else -1 := by rw [up_slot (by decide)]; exact i12'
            have done : (up m4 264 5 ((tE T len a : Nat) : Int) 264 12 = rlx T len a) → Wp (some (up m4 264 5 ((tE T len a : Nat) : Int))) Q := fun h => fin _ (ahf_up g (by omega) _) (by rw [up_slot (by decide)]; exact i4) (by rw [up_slot (by decide)]; exact i3) (up_same _ _ _ _) (by rw [up_slot (by decide)]; exact i6) (by rw [up_slot (by decide)]; exact i7) h
            by_cases q8 : 8 < tE T len a - a
            · rw [if_pos (by omega)]
              refine done ?_
              rw [k12]
              rcases hx with ⟨hj, hx⟩ | ⟨hj, hx⟩
              · rw [if_pos (by omega), hx, rlx_jn q hj]
              · rw [if_neg (show ¬¬lx = -1 from fun u => u hx), if_pos (by omega), rlx_lt q hj ql, if_neg (show ¬¬ow (lts T a (tE T len a - a)) = -1 from fun u => by have := (ow_len u).1; rw [lts_len] at this; omega), if_neg (by omega)]
            · rw [if_neg (by omega)]
              refine wp_b (g264 (by decide)) ?_
              refine wp_b (g264 (by decide)) ?_
              rw [k12, up_slot (by decide), i4, wI_of2 (x := (a : Int) + 6) (by omega) (by omega)]
              rcases hx with ⟨hj, hx⟩ | ⟨hj, hx⟩
              · rw [if_pos (show ¬lx = -1 from by omega), if_pos (by omega)]
                refine done ?_
                rw [k12, if_pos (show ¬lx = -1 from by omega), hx, rlx_jn q hj]
              · rw [if_neg (show ¬¬lx = -1 from fun u => u hx)]
                by_cases q6 : 6 < tE T len a - a
                · rw [if_pos q6, if_neg (by omega)]
                  refine wp_b (g264 (by decide)) ?_
                  rw [up_slot (by decide), i7, show min (tE T len a - a) 8 = tE T len a - a from by omega, w8_pk _ hlt]
                  refine wp_b (m_isOwn _ _) ?_
                  by_cases qo : ow (lts T a (tE T len a - a)) = -1
                  · rw [← bi_f (fun u => (ow8_ow lo).mp u qo), if_pos rfl]
                    refine done ?_
                    rw [k12, if_neg (show ¬¬lx = -1 from fun u => u hx), if_pos q6, rlx_lt q hj ql, if_neg (show ¬¬ow (lts T a (tE T len a - a)) = -1 from fun u => u qo), if_neg (by omega)]
                  · rw [← bi_t ((ow8_ow lo).mpr qo), if_neg (by decide)]
                    refine wp_b (p264 (by decide) _ _) ?_
                    refine fin _ (ahf_up (ahf_up g (by omega) _) (by omega) _) ?_ ?_ ?_ ?_ ?_ ?_
                    · rw [up_slot (by decide), up_slot (by decide)]; exact i4
                    · rw [up_slot (by decide), up_slot (by decide)]; exact i3
                    · rw [up_slot (by decide), up_same]
                    · rw [up_slot (by decide), up_slot (by decide)]; exact i6
                    · rw [up_slot (by decide), up_slot (by decide)]; exact i7
                    · rw [up_same, rlx_lt q hj ql, if_pos qo]
                · rw [if_neg q6, if_pos (by omega)]
                  refine done ?_
                  rw [k12, if_neg (show ¬¬lx = -1 from fun u => u hx), if_neg q6, rlx_lt q hj ql]
                  by_cases qo : ow (lts T a (tE T len a - a)) = -1
                  · rw [if_neg (show ¬¬ow (lts T a (tE T len a - a)) = -1 from fun u => u qo), if_pos (by omega)]
                  · rw [if_pos qo]
        · rw [← bi_f ql, if_neg (fun u => u rfl)]
          by_cases qd : isDg (T a)
          · rw [← bi_t qd, if_pos (by decide)]
            unfold X11_ahead_J176
            rw [if_pos rfl]
            unfold X11_ahead_J186
            refine wp_b (p264 (by decide) _ _) ?_
            rw [if_pos rfl]
            unfold X11_ahead_J199
            have te : tE T len a = run cDg T len a := by unfold tE; rw [if_neg ql, if_pos qd]
            have hI : AhI m (up m3 264 3 2) T a false lx 0 := ⟨ahf_up f3 (by omega) _, by rw [up_slot (by decide)]; exact w4, by rw [up_same]; rfl, by
              rw [up_slot (by decide), w12]
              by_cases y : lx = -1
              · rw [if_neg (show ¬¬lx = -1 from fun u => u y), y]; rfl
              · rw [if_pos y], by rw [up_slot (by decide), w6]; rfl, by rw [up_slot (by decide), w7]; rfl⟩
            have := m_runL (N := N) (Q := Q) r h2 hT hl false lx (by rcases hx with h | h; exact Or.inr h.2; exact Or.inl h.2) cDg rfl (ahK N) (len - a) N 0 (up m3 264 3 2) (by omega) (by omega) (by omega) (fun i hi => absurd hi (Nat.not_lt_zero i)) hI (fun m4 h4 => ?_)
            · exact this
            · rw [Nat.add_zero, ← te] at h4 ⊢
              obtain ⟨g, i4, i3, i12, i6, i7⟩ := h4
              rw [if_neg (by decide)] at i3 i6 i7
              have i12' : m4 264 12 = if ¬lx = -1 then lx else if 4 < tE T len a - a then ((a + 4 : Nat) : Int) else -1 := i12
              show Wp ((putI 11 5 264 ((tE T len a : Nat) : Int) m4).bind fun m62 => if (0 : Int) = 0 then some m62 else _) Q
              refine wp_b (p264 (by decide) _ _) ?_
              rw [if_pos rfl, hQ]
              refine wp_some ⟨ahf_up g (by omega) _, by rw [up_slot (by decide)]; exact i4, ?_, ?_, ?_, fun _ => ⟨?_, ?_⟩⟩
              · rw [up_slot (by decide), i3]; unfold rsg; rw [if_neg (by omega), if_neg ql, if_pos qd]
              · rw [up_slot (by decide), i12']
                rcases hx with ⟨hj, hx⟩ | ⟨hj, hx⟩
                · rw [if_pos (show ¬lx = -1 from by omega), hx, rlx_jn q hj]
                · rw [if_neg (show ¬¬lx = -1 from fun u => u hx), rlx_dg q hj ql qd]
              · rw [up_same, if_neg (by omega)]
              · rw [up_slot (by decide), i6]; unfold rvl; rw [if_neg ql, if_pos qd]
              · rw [up_slot (by decide), i7]; unfold rwd; rw [if_neg ql]
          · rw [← bi_f qd, if_neg (fun u => u rfl)]
            refine wp_b (gR0 (ahf_refs f3 r)) ?_
            refine wp_b (ld m3 f3) ?_
            refine wp_b (p264 (by decide) _ _) ?_
            have nj : ¬jnd T a := fun u => by have := u.2.1; omega
            have hx2 : lx = -1 := by
              rcases hx with h | h
              · exact absurd h.1 nj
              · exact h.2
            have te : tE T len a = a + 1 := by unfold tE; rw [if_neg ql, if_neg qd]
            rw [hQ]
            refine wp_some ⟨ahf_up f3 (by omega) _, by rw [up_slot (by decide)]; exact w4, ?_, ?_, ?_, fun _ => ⟨?_, ?_⟩⟩
            · rw [up_slot (by decide), w3]; unfold rsg; rw [if_neg (by omega), if_neg ql, if_neg qd]
            · rw [up_slot (by decide), w12, hx2, rlx_sg q ql qd]
            · rw [up_slot (by decide), w5, if_neg (by omega), te]
            · rw [up_same]; unfold rvl; rw [if_neg ql, if_neg qd]
            · rw [up_slot (by decide), w7]; unfold rwd; rw [if_neg ql]
      -- whether it is joined
      have J98 : (isLt (T a) ∨ isDg (T a)) → Wp (X11_ahead_J98 N 264 (a : Int) (bi (isLt (T a))) (bi (isDg (T a))) m0) Q := fun hl2 => by
        unfold X11_ahead_J98
        by_cases q0 : a = 0
        · rw [if_pos (by omega)]
          exact J135 m0 (-1) f0 z4 z12 (Or.inr ⟨fun u => by have := u.1; omega, rfl⟩)
        · rw [if_neg (by omega)]
          have lp : aldI 265 ((a : Int) - 1) m0 = some (T (a - 1)) := by
            rw [arI (a := 265) 1800 (i := (a : Int) - 1) (by decide +kernel) (by omega) (by omega) m0, show ((a : Int) - 1).toNat = a - 1 from by omega, f0.1 265 (by decide), hT (a - 1) (by omega)]
          have J130 : jnd T a → Wp (X11_ahead_J130 N 264 (a : Int) (bi (isLt (T a))) (bi (isDg (T a))) m0) Q := fun j => by
            unfold X11_ahead_J130
            refine wp_b (p264 (by decide) _ _) ?_
            exact J135 _ (a : Int) (ahf_up f0 (by omega) _) (by rw [up_slot (by decide)]; exact z4) (up_same _ _ _ _) (Or.inl ⟨j, rfl⟩)
          rw [wI_of2 (x := (a : Int) - 1) (by omega) (by omega)]
          refine wp_b (gR0 r0) ?_
          refine wp_b lp ?_
          refine wp_b (m_isLetter _ m0) ?_
          by_cases q1 : isLt (T (a - 1))
          · rw [if_pos (by rw [← bi_t q1]; decide)]
            exact J130 ⟨by omega, hl2, Or.inl q1⟩
          · rw [if_neg (fun u => u (bi_f q1).symm)]
            refine wp_b (gR0 r0) ?_
            refine wp_b lp ?_
            refine wp_b (m_isDigit _ m0) ?_
            by_cases q3 : isDg (T (a - 1))
            · rw [if_neg (by rw [← bi_t q3]; decide)]
              exact J130 ⟨by omega, hl2, Or.inr q3⟩
            · rw [if_pos (bi_f q3).symm]
              exact J135 m0 (-1) f0 z4 z12 (Or.inr ⟨fun u => by rcases u.2.2 with v | v; exact q1 v; exact q3 v, rfl⟩)
      by_cases ql : isLt (T a)
      · rw [if_pos (show ¬bi (isLt (T a)) = 0 from by rw [← bi_t ql]; decide)]
        exact J98 (Or.inl ql)
      · rw [if_neg (show ¬¬bi (isLt (T a)) = 0 from fun u => u (bi_f ql).symm)]
        by_cases qd : isDg (T a)
        · rw [if_neg (show ¬bi (isDg (T a)) = 0 from by rw [← bi_t qd]; decide)]
          exact J98 (Or.inr qd)
        · rw [if_pos (bi_f qd).symm]
          exact J135 m0 (-1) f0 z4 z12 (Or.inr ⟨fun u => by have := u.2.1; omega, rfl⟩)
    · rw [if_neg (by omega), hQ]
      refine wp_some ⟨f0, z4, ?_, ?_, ?_, fun u => absurd u q⟩
      · rw [z3]; unfold rsg; rw [if_pos (by omega)]
      · rw [z12, rlx_end (by omega)]
      · rw [z5, if_pos (by omega)]
  obtain ⟨m2, e2, h⟩ := X
  exact ⟨m2, e2, h⟩
