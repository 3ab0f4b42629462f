/-! the reference's sign -/
def rsg (T : Nat → Int) (len a : Nat) : Int := if len ≤ a then 0 else if isLt (T a) then 1 else if isDg (T a) then 2 else 3
def rvl (T : Nat → Int) (len a : Nat) : Int := if isLt (T a) then 0 else if isDg (T a) then nmv T a (min (tE T len a - a) 4) else T a
def rwd (T : Nat → Int) (len a : Nat) : Int := if isLt (T a) then ((w8 T a (min (tE T len a - a) 8) : Nat) : Int) else 0
/-- where the sign itself is wrong; -1 -/
def rlx (T : Nat → Int) (len a : Nat) : Int := if (tk T len a).1 = 6 then (tk T len a).2.1 else -1
/-- the reference has the sign at a before it -/
def RT (m : Mem) (T : Nat → Int) (len a : Nat) : Prop := m 264 4 = (a : Int) ∧ m 264 3 = rsg T len a ∧ m 264 12 = rlx T len a ∧ (m 264 5 = if len ≤ a then (a : Int) else ((tE T len a : Nat) : Int)) ∧ (a < len → m 264 6 = rvl T len a ∧ m 264 7 = rwd T len a)
def AhF (m m2 : Mem) : Prop := (∀ a, ¬a = 264 → m2 a = m a) ∧ ∀ j, ¬(j = 3 ∨ j = 4 ∨ j = 5 ∨ j = 6 ∨ j = 7 ∨ j = 12) → m2 264 j = m 264 j
theorem ahf_refl (m : Mem) : AhF m m := ⟨fun _ _ => rfl, fun _ _ => rfl⟩
theorem ahf_up {m m2 : Mem} (h : AhF m m2) {j : Nat} (hj : j = 3 ∨ j = 4 ∨ j = 5 ∨ j = 6 ∨ j = 7 ∨ j = 12) (v : Int) : AhF m (up m2 264 j v) := ⟨fun a ha => by rw [up_setA, setA_ne ha]; exact h.1 a ha, fun i hi => by rw [up_at, if_neg (fun u => hi (by rw [u]; exact hj))]; exact h.2 i hi⟩
theorem ahf_c : isRef 264 3 = false ∧ isRef 264 4 = false ∧ isRef 264 5 = false ∧ isRef 264 6 = false ∧ isRef 264 7 = false ∧ isRef 264 12 = false := by decide +kernel
theorem ahf_refs {m m2 : Mem} (h : AhF m m2) (r : Refs m) : Refs m2 := refs_of r fun a j hk => by
  by_cases q : a = 264
  · rw [q] at hk ⊢
    refine h.2 j fun u => ?_
    obtain ⟨c3, c4, c5, c6, c7, c12⟩ := ahf_c
    rcases u with u | u | u | u | u | u <;> rw [u] at hk
    · rw [c3] at hk; exact absurd hk (by decide)
    · rw [c4] at hk; exact absurd hk (by decide)
    · rw [c5] at hk; exact absurd hk (by decide)
    · rw [c6] at hk; exact absurd hk (by decide)
    · rw [c7] at hk; exact absurd hk (by decide)
    · rw [c12] at hk; exact absurd hk (by decide)
  · rw [h.1 a q]
/-- the end of the loop over a sign's bytes -/
def ahK (N : Nat) : Nat → Int → Int → Int → Int → Mem → Option Mem := fun z56 z57 z58 z59 z60 m61 =>
      (putI 11 5 z56 z57 m61).bind fun m62 =>
      if z58 = 0 then (
        some m62
      ) else (
        if 8 < z60 then (
          some m62
        ) else (
          (getI 11 12 z56 m62).bind fun t63 =>
          (getI 11 4 z56 m62).bind fun t64 =>
          if ¬ t63 = (wI (t64 + z59)) then (
            some m62
          ) else (
            (getI 11 7 z56 m62).bind fun t65 =>
            (X11_isOwn z56 t65 m62).bind fun p66 =>
            if p66 = 0 then (
              some m62
            ) else (
              (putI 11 12 z56 (-1) m62).bind fun m67 =>
              some m67
            )
          )
        )
      )
/-- while the loop goes: j bytes are gone by -/
def AhI (m0 m : Mem) (T : Nat → Int) (a : Nat) (lt : Bool) (lx : Int) (j : Nat) : Prop := AhF m0 m ∧ m 264 4 = (a : Int) ∧ (m 264 3 = if lt = true then 1 else 2) ∧ (m 264 12 = if ¬lx = -1 then lx else if (if lt = true then 6 else 4) < j then ((a + (if lt = true then 6 else 4) : Nat) : Int) else -1) ∧ (m 264 6 = if lt = true then 0 else nmv T a (min j 4)) ∧ (m 264 7 = if lt = true then ((w8 T a (min j 8) : Nat) : Int) else 0)
theorem m_runL {N : Nat} {m0 : Mem} {T : Nat → Int} {len a : Nat} (r : Refs m0) (h2 : m0 264 2 = (len : Int)) (hT : ∀ i, i < len → m0 265 i = T i) (hl : len ≤ 1600) (lt : Bool) (lx : Int) (hx : lx = -1 ∨ lx = (a : Int)) {Q : Mem → Prop} (c : Int → Bool) (hc : c = if lt = true then cLt else cDg) (K : Nat → Int → Int → Int → Int → Mem → Option Mem) : ∀ d F j : Nat, ∀ m, len - (a + j) = d → d < F → a + j ≤ len → (∀ i, i < j → c (T (a + i)) = true) → AhI m0 m T a lt lx j → (∀ m2, AhI m0 m2 T a lt lx (run c T len (a + j) - a) → Wp (K 264 ((run c T len (a + j) : Nat) : Int) (if lt = true then 1 else 0) (if lt = true then 6 else 4) ((run c T len (a + j) - a : Nat) : Int) m2) Q) → Wp (X11_ahead_L204 N K F 264 ((a + j : Nat) : Int) (if lt = true then 1 else 0) (if lt = true then 0 else 1) (if lt = true then 6 else 4) (j : Int) m) Q := by
  intro d
  induction d with
  | zero =>
    intro F j m hd hF hj hS hI g
    obtain ⟨F, rfl⟩ : ∃ f, F = f + 1 := ⟨F - 1, by omega⟩
    have e : run c T len (a + j) = a + j := run_n (by omega)
    rw [e, show a + j - a = j from by omega] at g
    show Wp (X11_ahead_L204_b N K (X11_ahead_L204 N K F) 264 ((a + j : Nat) : Int) (if lt = true then 1 else 0) (if lt = true then 0 else 1) (if lt = true then 6 else 4) (j : Int) m) Q
    unfold X11_ahead_L204_b
    refine wp_b (g264 (by decide)) ?_
    rw [hI.1.2 2 (by decide), h2, if_pos (by omega)]
    exact g m hI
  | succ d ih =>
    intro F j m hd hF hj hS hI g
    obtain ⟨F, rfl⟩ : ∃ f, F = f + 1 := ⟨F - 1, by omega⟩
    obtain ⟨f, i4, i3, i12, i6, i7⟩ := id hI
    have rr := ahf_refs f r
    have e265 : m 265 (a + j) = T (a + j) := by rw [f.1 265 (by decide)]; exact hT _ (by omega)
    have ld := arI (a := 265) 1800 (i := ((a + j : Nat) : Int)) (by decide +kernel) (by omega) (by omega) m
    rw [Int.toNat_natCast, e265] at ld
    show Wp (X11_ahead_L204_b N K (X11_ahead_L204 N K F) 264 ((a + j : Nat) : Int) (if lt = true then 1 else 0) (if lt = true then 0 else 1) (if lt = true then 6 else 4) (j : Int) m) Q
    unfold X11_ahead_L204_b
    refine wp_b (g264 (by decide)) ?_
    rw [f.2 2 (by decide), h2, if_neg (by omega)]
    have no : ¬c (T (a + j)) = true → Wp (K 264 ((a + j : Nat) : Int) (if lt = true then 1 else 0) (if lt = true then 6 else 4) (j : Int) m) Q := fun y => by
      have e : run c T len (a + j) = a + j := run_n (fun u => y u.2)
      rw [e, show a + j - a = j from by omega] at g
      exact g m hI
    -- a byte more
    have go : c (T (a + j)) = true → Wp (X11_ahead_J243 N (X11_ahead_L204 N K F) 264 ((a + j : Nat) : Int) (if lt = true then 1 else 0) (if lt = true then 0 else 1) (if lt = true then 6 else 4) (j : Int) m) Q := fun y => by
      have next : ∀ m2, AhI m0 m2 T a lt lx (j + 1) → Wp (X11_ahead_J325 N (X11_ahead_L204 N K F) 264 ((a + j : Nat) : Int) (if lt = true then 1 else 0) (if lt = true then 0 else 1) (if lt = true then 6 else 4) (j : Int) m2) Q := fun m2 h => by
        unfold X11_ahead_J325
        rw [show wI (((a + j : Nat) : Int) + 1) = ((a + (j + 1) : Nat) : Int) from by rw [wI_of2 (by omega) (by omega)]; omega, show wI ((j : Int) + 1) = ((j + 1 : Nat) : Int) from by rw [wI_of2 (by omega) (by omega)]; omega]
        refine ih F (j + 1) m2 (by omega) (by omega) (by omega) (fun i hi => ?_) h ?_
        · by_cases w : i = j
          · rw [w]; exact y
          · exact hS i (by omega)
        · rw [← show run c T len (a + j) = run c T len (a + (j + 1)) from run_y (by omega) y]
          exact g
      -- the place of what is too long
      have s12 : ∃ m1, (X11_ahead_J243 N (X11_ahead_L204 N K F) 264 ((a + j : Nat) : Int) (if lt = true then 1 else 0) (if lt = true then 0 else 1) (if lt = true then 6 else 4) (j : Int) m = X11_ahead_J263 N (X11_ahead_L204 N K F) 264 ((a + j : Nat) : Int) (if lt = true then 1 else 0) (if lt = true then 0 else 1) (if lt = true then 6 else 4) (j : Int) m1) ∧ AhF m0 m1 ∧ m1 264 4 = m 264 4 ∧ m1 264 3 = m 264 3 ∧ m1 264 6 = m 264 6 ∧ m1 264 7 = m 264 7 ∧ m1 264 12 = if ¬lx = -1 then lx else if (if lt = true then 6 else 4) < j + 1 then ((a + (if lt = true then 6 else 4) : Nat) : Int) else -1 := by
        have em : (if lt = true then (6 : Int) else 4) = (((if lt = true then 6 else 4) : Nat) : Int) := by cases lt <;> rfl
        unfold X11_ahead_J243
        by_cases q : j = if lt = true then 6 else 4
        · rw [if_neg (fun u => u (by rw [em]; omega)), g264 (by decide), Option.bind_some]
          by_cases q2 : lx = -1
          · have i12' : m 264 12 = -1 := by rw [i12, if_neg (fun u => u q2), if_neg (by omega)]
            rw [if_neg (fun u => u i12'), p264 (by decide), Option.bind_some]
            refine ⟨_, rfl, ahf_up f (by omega) _, up_slot (by decide) _ _ _ _, up_slot (by decide) _ _ _ _, up_slot (by decide) _ _ _ _, up_slot (by decide) _ _ _ _, ?_⟩
            rw [up_same, if_neg (fun u => u q2), if_pos (by omega), ← q]
          · have i12' : m 264 12 = lx := by rw [i12, if_pos q2]
            rw [if_pos (by rw [i12']; exact q2)]
            exact ⟨m, rfl, f, rfl, rfl, rfl, rfl, by rw [i12', if_pos q2]⟩
        · rw [if_pos (by rw [em]; omega)]
          refine ⟨m, rfl, f, rfl, rfl, rfl, rfl, ?_⟩
          rw [i12]
          by_cases q2 : lx = -1
          · rw [if_neg (show ¬¬lx = -1 from fun u => u q2), if_neg (show ¬¬lx = -1 from fun u => u q2)]
            by_cases q3 : (if lt = true then 6 else 4) < j
            · rw [if_pos q3, if_pos (show (if lt = true then 6 else 4) < j + 1 from by omega)]
            · rw [if_neg q3, if_neg (show ¬(if lt = true then 6 else 4) < j + 1 from by omega)]
          · rw [if_pos q2, if_pos q2]
      obtain ⟨m1, e1, f1, k4, k3, k6, k7, k12⟩ := s12
      rw [e1]
      have r1 := ahf_refs f1 r
      have e265' : m1 265 (a + j) = T (a + j) := by rw [f1.1 265 (by decide)]; exact hT _ (by omega)
      have ld1 := arI (a := 265) 1800 (i := ((a + j : Nat) : Int)) (by decide +kernel) (by omega) (by omega) m1
      rw [Int.toNat_natCast, e265'] at ld1
      rw [i6] at k6
      rw [i7] at k7
      rw [i4] at k4
      rw [i3] at k3
      cases lt with
      | true =>
        rw [if_pos rfl] at hc
        subst hc
        have hl2 : ∀ i, i < j + 1 → isLt (T (a + i)) := fun i hi => by
          by_cases w : i = j
          · rw [w]; exact cLt_i.mp y
          · exact cLt_i.mp (hS i (by omega))
        have b0 := hl2 j (by omega)
        have t293 : ∀ m2, AhI m0 m2 T a true lx (j + 1) → Wp (X11_ahead_J293 N (X11_ahead_L204 N K F) 264 ((a + j : Nat) : Int) (if true = true then 1 else 0) (if true = true then 0 else 1) (if true = true then 6 else 4) (j : Int) m2) Q := fun m2 h => by
          unfold X11_ahead_J293
          by_cases q : (if true = true then (6 : Int) else 4) ≤ (j : Int)
          · rw [if_pos q]; exact next m2 h
          · rw [if_neg q, if_pos (show (if true = true then (0 : Int) else 1) = 0 from rfl)]; exact next m2 h
        unfold X11_ahead_J263
        by_cases q : 8 ≤ j
        · rw [if_pos (by omega)]
          refine t293 m1 ⟨f1, k4, k3, k12, k6, ?_⟩
          rw [k7, if_pos rfl, if_pos rfl, show min j 8 = 8 from by omega, show min (j + 1) 8 = 8 from by omega]
        · rw [if_neg (by omega), if_neg (show ¬(if true = true then (1 : Int) else 0) = 0 from by decide)]
          refine wp_b (g264 (by decide)) ?_
          refine wp_b (gR0 r1) ?_
          refine wp_b ld1 ?_
          refine wp_b (p264 (by decide) _ _) ?_
          have wl : w8 T a j < 35000000000000000 := by
            have := w8_lt (T := T) (a := a) j (fun i hi => hl2 i (by omega)) (by omega)
            have c7 : j = 0 ∨ j = 1 ∨ j = 2 ∨ j = 3 ∨ j = 4 ∨ j = 5 ∨ j = 6 ∨ j = 7 := by omega
            rcases c7 with c7 | c7 | c7 | c7 | c7 | c7 | c7 | c7 <;> subst c7 <;> simp only [Nat.reducePow, Nat.reduceSub, Nat.reduceMul] at this <;> omega
          refine t293 _ ⟨ahf_up f1 (by omega) _, ?_, ?_, ?_, ?_, ?_⟩
          · rw [up_slot (by decide)]; exact k4
          · rw [up_slot (by decide)]; exact k3
          · rw [up_slot (by decide)]; exact k12
          · rw [up_slot (by decide)]; exact k6
          · rw [up_same, k7, if_pos rfl, if_pos rfl, show min j 8 = j from by omega, show min (j + 1) 8 = j + 1 from by omega]
            have eT : T (a + j) = (((T (a + j)).toNat : Nat) : Int) := by omega
            rw [eT, lor_8 wl (by omega)]
            rfl
      | false =>
        rw [if_neg (by decide)] at hc
        subst hc
        have hd2 : ∀ i, i < j + 1 → isDg (T (a + i)) := fun i hi => by
          by_cases w : i = j
          · rw [w]; exact cDg_i.mp y
          · exact cDg_i.mp (hS i (by omega))
        have t293 : Wp (X11_ahead_J293 N (X11_ahead_L204 N K F) 264 ((a + j : Nat) : Int) (if false = true then 1 else 0) (if false = true then 0 else 1) (if false = true then 6 else 4) (j : Int) m1) Q := by
          unfold X11_ahead_J293
          by_cases q : 4 ≤ j
          · rw [if_pos (show (if false = true then (6 : Int) else 4) ≤ (j : Int) from by rw [if_neg (by decide)]; omega)]
            refine next m1 ⟨f1, k4, k3, k12, ?_, k7⟩
            rw [k6, if_neg (by decide), if_neg (by decide), show min j 4 = 4 from by omega, show min (j + 1) 4 = 4 from by omega]
          · rw [if_neg (show ¬(if false = true then (6 : Int) else 4) ≤ (j : Int) from by rw [if_neg (by decide)]; omega), if_neg (show ¬(if false = true then (0 : Int) else 1) = 0 from by decide)]
            refine wp_b (g264 (by decide)) ?_
            refine wp_b (gR0 r1) ?_
            refine wp_b ld1 ?_
            refine wp_b (p264 (by decide) _ _) ?_
            have nb : ∀ n, n ≤ j + 1 → 0 ≤ nmv T a n ∧ nmv T a n < 10 ^ n := by
              intro n
              induction n with
              | zero => intro _; exact ⟨Int.le_refl 0, (by decide : (0 : Int) < 10 ^ 0)⟩
              | succ n ihn =>
                intro b1
                obtain ⟨i1, i2⟩ := ihn (by omega)
                have d := hd2 n (by omega)
                have ee : nmv T a (n + 1) = 10 * nmv T a n + T (a + n) - 48 := rfl
                rw [ee, Int.pow_succ]
                omega
            have nj := nb j (by omega)
            have dj := hd2 j (by omega)
            have nj2 : nmv T a j < 10000 := by
              have c4 : j = 0 ∨ j = 1 ∨ j = 2 ∨ j = 3 := by omega
              obtain ⟨_, n2⟩ := nj
              rcases c4 with c4 | c4 | c4 | c4 <;> subst c4 <;> omega
            refine next _ ⟨ahf_up f1 (by omega) _, ?_, ?_, ?_, ?_, ?_⟩
            · rw [up_slot (by decide)]; exact k4
            · rw [up_slot (by decide)]; exact k3
            · rw [up_slot (by decide)]; exact k12
            · rw [up_same, k6, if_neg (by decide), if_neg (by decide), show min j 4 = j from by omega, show min (j + 1) 4 = j + 1 from by omega, wI_of2 (x := 10 * nmv T a j) (by omega) (by omega), wI_of2 (x := 10 * nmv T a j + T (a + j)) (by omega) (by omega), wI_of2 (by omega) (by omega)]
              rfl
            · rw [up_slot (by decide)]; exact k7
        unfold X11_ahead_J263
        by_cases q : (8 : Int) ≤ (j : Int)
        · rw [if_pos q]; exact t293
        · rw [if_neg q, if_pos (show (if false = true then (1 : Int) else 0) = 0 from rfl)]; exact t293
    cases lt with
    | true =>
      rw [if_pos rfl] at hc
      rw [if_neg (show ¬(if true = true then (1 : Int) else 0) = 0 from by decide)]
      refine wp_b (gR0 rr) ?_
      refine wp_b ld ?_
      refine wp_b (m_isLetter _ m) ?_
      by_cases q : isLt (T (a + j))
      · rw [← bi_t q, if_neg (by decide)]
        exact go (by rw [hc]; exact cLt_i.mpr q)
      · rw [← bi_f q, if_pos rfl]
        exact no (by rw [hc]; exact fun u => q (cLt_i.mp u))
    | false =>
      rw [if_neg (by decide)] at hc
      rw [if_pos (show (if false = true then (1 : Int) else 0) = 0 from rfl)]
      refine wp_b (gR0 rr) ?_
      refine wp_b ld ?_
      refine wp_b (m_isDigit _ m) ?_
      by_cases q : isDg (T (a + j))
      · rw [← bi_t q, if_neg (by decide)]
        exact go (by rw [hc]; exact cDg_i.mpr q)
      · rw [← bi_f q, if_pos rfl]
        exact no (by rw [hc]; exact fun u => q (cDg_i.mp u))
