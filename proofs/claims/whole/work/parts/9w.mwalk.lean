/-! the reference's walks -/
def okW (I : Isl) (l : Lnd) (T : Nat → Int) : Nat → Nat → Bool := fun a b => !decide (hasW l (T a) = 1) && !decide (hasW l (T b) = 1) && decide (stp I (T a) (T b) = 1)
theorem m_isStep {m : Mem} {b : Nat} {I : Isl} {l : Lnd} (r : Refs m) (md : MD m b I) (my : MY m 0 l (nT I)) (z : Sz I) {x y : Int} (x0 : 0 ≤ x) (x1 : x < nC I) (y0 : 0 ≤ y) (y1 : y < nC I) : X11_isStep 264 x y m = some (if !decide (hasW l x = 1) && !decide (hasW l y = 1) && decide (stp I x y = 1) then 1 else 0) := by
  have z7 := z.2.2.2.2.2.2
  have w1 := hasW_in l x
  have w2 := hasW_in l y
  refine wp_eq ?_
  unfold X11_isStep
  refine wp_k k264 ?_
  refine wp_b (m_isWall0 r my x0 (by omega)) ?_
  by_cases q1 : hasW l x = 1
  · rw [if_pos (by omega), decide_eq_true q1]
    exact wp_z0 rfl
  rw [if_neg (by omega), decide_eq_false q1]
  refine wp_b (m_isWall0 r my y0 (by omega)) ?_
  by_cases q2 : hasW l y = 1
  · rw [if_pos (by omega), decide_eq_true q2]
    exact wp_z0 rfl
  rw [if_neg (by omega), decide_eq_false q2]
  refine wp_b (m_apart r md z x0 x1 y0 y1) ?_
  by_cases q3 : stp I x y = 1
  · rw [if_neg (fun u => u q3), decide_eq_true q3]
    exact wp_z1 rfl
  · rw [if_pos q3, decide_eq_false q3]
    exact wp_z0 rfl
theorem m_isEdge {m : Mem} {b : Nat} {I : Isl} (r : Refs m) (md : MD m b I) (z : Sz I) {c : Int} (c0 : 0 ≤ c) (c1 : c < nC I) : X11_isEdge 264 c m = some (if edB I c = true then 1 else 0) := by
  have w := sz_c z c0 c1
  have y := xy_t z c0 c1
  have z2 := z.2.1
  have z4 := z.2.2.2.1
  have yes : edB I c = true → Wp (X11_isEdge_J62 m) (fun r => r = if edB I c = true then 1 else 0) := fun q => by
    unfold X11_isEdge_J62
    rw [if_pos q]
    exact wp_z1 rfl
  refine wp_eq ?_
  unfold X11_isEdge
  refine wp_k k264 ?_
  refine wp_b (gR14 r) ?_
  refine wp_b (md_bank md) ?_
  refine wp_b (md_s14 md) ?_
  rw [if_neg (show ¬I 0 0 = 0 from by omega)]
  refine wp_b (gR14 r) ?_
  refine wp_b (md_bank md) ?_
  refine wp_b (md_s14 md) ?_
  rw [if_neg (show ¬I 0 0 = 0 from by omega), y.1, y.2]
  by_cases q1 : c % I 0 0 = 0
  · rw [if_pos q1]; exact yes (edB_t.mpr (Or.inl q1))
  rw [if_neg q1]
  by_cases q3 : c / I 0 0 = 0
  · rw [if_pos q3]; exact yes (edB_t.mpr (Or.inr (Or.inr (Or.inl q3))))
  rw [if_neg q3]
  refine wp_b (gR14 r) ?_
  refine wp_b (md_bank md) ?_
  refine wp_b (md_s14 md) ?_
  rw [wI_of2 (x := I 0 0 - 1) (by omega) (by omega)]
  by_cases q2 : c % I 0 0 = I 0 0 - 1
  · rw [if_pos q2]; exact yes (edB_t.mpr (Or.inr (Or.inl q2)))
  rw [if_neg q2]
  refine wp_b (gR15 r) ?_
  refine wp_b (md_bank md) ?_
  refine wp_b (md_s15 md) ?_
  rw [wI_of2 (x := I 1 0 - 1) (by omega) (by omega)]
  by_cases q4 : c / I 0 0 = I 1 0 - 1
  · rw [if_neg (fun u => u q4)]; exact yes (edB_t.mpr (Or.inr (Or.inr (Or.inr q4))))
  rw [if_pos q4, if_neg (fun u => by have := edB_t.mp u; omega)]
  exact wp_z0 rfl
/-- what the reference's walking rests on: the told cells in their order -/
def MK (m : Mem) (b : Nat) (I : Isl) (l : Lnd) (T : Nat → Int) (n : Nat) : Prop := Refs m ∧ MD m b I ∧ MY m 0 l (nT I) ∧ n ≤ 10 ∧ (∀ j, j < n → m 310 j = T j) ∧ ∀ j, j < n → 0 ≤ T j ∧ T j < nC I
/-- only the ways and the first walk change -/
def WyF (m m2 : Mem) : Prop := ∀ a, ¬(a = 309 ∨ a = 311) → m2 a = m a
theorem wyf_set {m m2 : Mem} (f : WyF m m2) {a : Nat} (h : a = 309 ∨ a = 311) (g : Nat → Int) : WyF m (setA m2 a g) := fun x hx => by
  rw [setA_ne (by omega)]
  exact f x hx
theorem wyf_mk {m m2 : Mem} {b : Nat} {I : Isl} {l : Lnd} {T : Nat → Int} {n : Nat} (f : WyF m m2) (k : MK m b I l T n) : MK m2 b I l T n := by
  obtain ⟨r, md, my, a, c, d⟩ := k
  refine ⟨refs_of r fun x k hk => ?_, md_off md (by rw [f 264 (by decide)]) (fun a _ _ => f a (by omega)), ml_off my (fun a _ _ => f a (by omega)), a, fun j hj => by rw [f 310 (by decide)]; exact c j hj, d⟩
  by_cases q : x = 309 ∨ x = 311
  · rcases q with q | q <;> subst q
    · exact absurd hk (by rw [arr_ref (by decide +kernel)]; decide)
    · exact absurd hk (by rw [arr_ref (by decide +kernel)]; decide)
  · rw [f x q]
/-- the table of ways of the sets above one -/
def Wtb (m : Mem) (ok : Nat → Nat → Bool) (n u : Nat) : Prop := ∀ s a : Nat, u ≤ s → s < 2 ^ n → a < n → m 311 (10 * s + a) = WY ok n (n - pop s) s a
theorem m_countsWays {N : Nat} (hN : 2000 ≤ N) {m : Mem} {b : Nat} {I : Isl} {l : Lnd} {T : Nat → Int} {n : Nat} (z : Sz I) (hn : 2 ≤ n) (k : MK m b I l T n) : ∃ g, X11_countsWays N 264 (n : Int) m = some (setA m 311 g) ∧ Wtb (setA m 311 g) (okW I l T) n 1 := by
  have n10 := k.2.2.2.1
  have p := p2_10 n (by omega)
  have pp : 1 ≤ 2 ^ n := Nat.one_le_two_pow
  have sh : ishl 1 (n : Int) = ((2 ^ n : Nat) : Int) := shl_c n (by omega)
  have X : Wp (X11_countsWays N 264 (n : Int) m) (fun m2 => ∃ g, m2 = setA m 311 g ∧ Wtb m2 (okW I l T) n 1) := by
    unfold X11_countsWays
    refine wp_k k264 ?_
    rw [sh, wI_of2 (x := ((2 ^ n : Nat) : Int) - 1) (by omega) (by omega)]
    have go := lw_1 (fun j mm => ∃ g, mm = setA m 311 g ∧ Wtb mm (okW I l T) n (2 ^ n - j)) (fun F i mm => X11_countsWays_L8 N F 264 (n : Int) (((2 ^ n : Nat) : Int) - 1) (((2 ^ n : Nat) : Int) - 1 - i) mm) (2 ^ n - 1) (fun m2 => ∃ g, m2 = setA m 311 g ∧ Wtb m2 (okW I l T) n 1) (fun F j mm hj hI ih => ?_) (fun F mm hI => ?_) N m (by omega) ⟨m 311, (setA_self m 311).symm, fun s a h1 h2 => by omega⟩
    · rw [Int.sub_zero] at go
      exact go
    · obtain ⟨g, hm, tb⟩ := hI
      obtain ⟨s, hs⟩ : ∃ s : Nat, s + j + 1 = 2 ^ n := ⟨2 ^ n - 1 - j, by omega⟩
      have s0 : 0 < s := by omega
      have wp := w_pop (n := n) (s := s) (by omega) (by omega)
      show Wp (X11_countsWays_L8_b N (X11_countsWays_L8 N F) 264 (n : Int) (((2 ^ n : Nat) : Int) - 1) (((2 ^ n : Nat) : Int) - 1 - (j : Int)) mm) _
      rw [show ((2 ^ n : Nat) : Int) - 1 - (j : Int) = (s : Int) from by omega]
      unfold X11_countsWays_L8_b
      rw [if_neg (by omega)]
      refine lw_1 (fun a mk => ∃ g, mk = setA m 311 g ∧ Wtb mk (okW I l T) n (s + 1) ∧ ∀ c, c < a → mk 311 (10 * s + c) = WY (okW I l T) n (n - pop s) s c) (fun F2 a mk => X11_countsWays_L15 N _ F2 264 (n : Int) (((2 ^ n : Nat) : Int) - 1) (s : Int) a mk) n _ (fun F2 a mk ha hI2 ih2 => ?_) (fun F2 mk hI2 => ?_) N mm (by omega) ⟨g, hm, fun s2 a h1 h2 h3 => tb s2 a (by omega) h2 h3, fun c hc => absurd hc (Nat.not_lt_zero c)⟩
      · obtain ⟨g2, hm2, tb2, lo2⟩ := hI2
        have fk : WyF m mk := by rw [hm2]; exact wyf_set (fun _ _ => rfl) (Or.inr rfl) g2
        have kk := wyf_mk fk k
        -- the sum is written
        have put : ∀ v : Int, v = WY (okW I l T) n (n - pop s) s a → Wp ((getR 11 75 264 mk).bind fun t19 => (astI t19 (wI ((wI (10 * (s : Int))) + (a : Int))) v mk).bind fun m20 => X11_countsWays_L15 N (fun z23 z24 z25 z26 m27 => X11_countsWays_L8 N F z23 z24 z25 (wI (z26 + (-1))) m27) F2 264 (n : Int) (((2 ^ n : Nat) : Int) - 1) (s : Int) (wI ((a : Int) + 1)) m20) (fun m2 => ∃ g, m2 = setA m 311 g ∧ Wtb m2 (okW I l T) n 1) := by
          intro v hv
          refine wp_b (gR75 kk.1) ?_
          rw [wI_of2 (x := 10 * (s : Int)) (by omega) (by omega), wI_of2 (x := 10 * (s : Int) + (a : Int)) (by omega) (by omega)]
          obtain ⟨g3, e3, a3, k3⟩ := ar_stE (a := 311) (n := 10240) (i := 10 * (s : Int) + (a : Int)) (by decide +kernel) (by decide +kernel) (by decide) (by omega) (by omega) v mk
          rw [show (10 * (s : Int) + (a : Int)).toNat = 10 * s + a from by omega] at a3 k3
          refine wp_b e3 ?_
          rw [wI_of2 (x := (a : Int) + 1) (by omega) (by omega)]
          refine ih2 ((a : Int) + 1) _ rfl ⟨g3, by rw [hm2, setA_setA], fun s2 c h1 h2 h3 => ?_, fun c hc => ?_⟩
          · rw [setA_same, k3 _ (by omega)]
            exact tb2 s2 c h1 h2 h3
          · rw [setA_same]
            by_cases e : c = a
            · rw [e, a3, hv]
            · rw [k3 _ (by omega)]
              exact lo2 c (by omega)
        show Wp (X11_countsWays_L15_b N _ (X11_countsWays_L15 N _ F2) 264 (n : Int) (((2 ^ n : Nat) : Int) - 1) (s : Int) a mk) _
        unfold X11_countsWays_L15_b X11_countsWays_J31
        rw [if_neg (by omega)]
        obtain ⟨F3, hF3⟩ : ∃ F3, N = F3 + 1 := ⟨N - 1, by omega⟩
        by_cases full : s = 2 ^ n - 1
        · have pn : n - pop s = 0 := by
            rcases Nat.lt_or_ge (pop s) n with q | q
            · exfalso
              -- a full set has all
              have zr := wp.1
              have al : ∀ k2, k2 ≤ n → zer s k2 = 0 := by
                intro k2
                induction k2 with
                | zero => intro _; rfl
                | succ k2 ihk =>
                  intro hk2
                  show zer s k2 + (if s.testBit k2 then 0 else 1) = 0
                  rw [ihk (by omega), if_pos (by rw [full, Nat.testBit_two_pow_sub_one]; exact decide_eq_true (by omega))]
              rw [al n (Nat.le_refl n)] at zr
              omega
            · omega
          rw [if_neg (fun u => u (by omega))]
          have one : ∀ K : Nat → Int → Int → Int → Int → Int → Mem → Option Mem, Wp (K 264 (n : Int) (((2 ^ n : Nat) : Int) - 1) (s : Int) a 1 mk) (fun m2 => ∃ g, m2 = setA m 311 g ∧ Wtb m2 (okW I l T) n 1) → Wp (X11_countsWays_L36 N K (F3 + 1) 264 (n : Int) (((2 ^ n : Nat) : Int) - 1) (s : Int) a 1 0 mk) (fun m2 => ∃ g, m2 = setA m 311 g ∧ Wtb m2 (okW I l T) n 1) := by
            intro K hK
            show Wp (X11_countsWays_L36_b N K (X11_countsWays_L36 N K F3) 264 (n : Int) (((2 ^ n : Nat) : Int) - 1) (s : Int) a 1 0 mk) _
            unfold X11_countsWays_L36_b
            rw [if_neg (by omega), if_pos (by omega)]
            exact hK
          rw [← hF3] at one
          exact one _ (put 1 (by rw [pn]; rfl))
        · rw [if_pos (by omega)]
          have lt : pop s < n := by
            rcases Nat.lt_or_ge (pop s) n with q | q
            · exact q
            · exact absurd (wp.2.2 (by omega)) full
          obtain ⟨r, hr⟩ : ∃ r, n - pop s = r + 1 := ⟨n - pop s - 1, by omega⟩
          have bd : ∀ c, c ≤ n → 0 ≤ sumTo (wyT (okW I l T) n r s a) c ∧ sumTo (wyT (okW I l T) n r s a) c ≤ 3628800 := by
            intro c hc
            have e := sumTo_bd (f := wyT (okW I l T) n r s a) (n := n) (B := 362880) (fun t ht => ⟨wyT_0 _ _ _ _ _ _, ?_⟩) c hc
            · omega
            · unfold wyT
              by_cases u : s.testBit t = false ∧ okW I l T a t = true
              · rw [if_pos u]
                have w := w_or (s := s) (c := t) (by omega) (by omega) u.1
                exact (WY_in (okW I l T) (n := n) (by omega) (by omega) (w_lt (by omega) ht) (by omega)).2
              · rw [if_neg u]; decide
          refine lw_2 (fun c v mz => mz = mk ∧ v = sumTo (wyT (okW I l T) n r s a) c) (fun F4 v c mz => X11_countsWays_L36 N _ F4 264 (n : Int) (((2 ^ n : Nat) : Int) - 1) (s : Int) a v c mz) n _ (fun F4 c v mz hc hI4 ih4 => ?_) (fun F4 v mz hI4 => ?_) N 0 mk (by omega) ⟨rfl, rfl⟩
          · obtain ⟨hz, hv⟩ := hI4
            subst hz
            subst hv
            have b1 := bd c (by omega)
            have b2 := bd (c + 1) (by omega)
            have es : sumTo (wyT (okW I l T) n r s a) (c + 1) = sumTo (wyT (okW I l T) n r s a) c + wyT (okW I l T) n r s a c := rfl
            have zero : wyT (okW I l T) n r s a c = 0 → Wp (X11_countsWays_J99 N (X11_countsWays_L36 N (fun z12 z13 z14 z15 z16 z17 m18 => (getR 11 75 z12 m18).bind fun t19 => (astI t19 (wI ((wI (10 * z15)) + z16)) z17 m18).bind fun m20 => X11_countsWays_L15 N (fun z23 z24 z25 z26 m27 => X11_countsWays_L8 N F z23 z24 z25 (wI (z26 + (-1))) m27) F2 z12 z13 z14 z15 (wI (z16 + 1)) m20) F4) 264 (n : Int) (((2 ^ n : Nat) : Int) - 1) (s : Int) a c (sumTo (wyT (okW I l T) n r s a) c) mz) (fun m2 => ∃ g, m2 = setA m 311 g ∧ Wtb m2 (okW I l T) n 1) := fun y => by
              unfold X11_countsWays_J99 X11_countsWays_J100
              exact ih4 _ _ mz (by first | omega | (simp (disch := omega) only [wI_of2] <;> omega)) ⟨rfl, by rw [es, y]; exact wI_of2 (by omega) (by omega)⟩
            show Wp (X11_countsWays_L36_b N _ (X11_countsWays_L36 N _ F4) 264 (n : Int) (((2 ^ n : Nat) : Int) - 1) (s : Int) a (sumTo (wyT (okW I l T) n r s a) c) c mz) _
            unfold X11_countsWays_L36_b
            rw [if_neg (by omega), if_neg (by omega), bit_c s (by omega) c (by omega)]
            by_cases q : s.testBit c = true
            · rw [show tbt s c = 1 from if_pos q, if_pos (by decide)]
              exact zero (by unfold wyT; rw [if_neg (fun u => by rw [q] at u; exact absurd u.1 (by decide))])
            · have qf : s.testBit c = false := by simpa using q
              rw [show tbt s c = 0 from if_neg q, if_neg (by decide)]
              refine wp_b (gR74 kk.1) ?_
              refine wp_b (arI 10 (by decide +kernel) (by omega) (by omega) mz) ?_
              refine wp_b (gR74 kk.1) ?_
              refine wp_b (arI 10 (by decide +kernel) (by omega) (by omega) mz) ?_
              have ta := kk.2.2.2.2.2 a ha
              have tc := kk.2.2.2.2.2 c hc
              rw [Int.toNat_natCast, Int.toNat_natCast, kk.2.2.2.2.1 a ha, kk.2.2.2.2.1 c hc]
              refine wp_b (m_isStep kk.1 kk.2.1 kk.2.2.1 z ta.1 ta.2 tc.1 tc.2) ?_
              by_cases y : okW I l T a c = true
              · have w := w_or (s := s) (c := c) (by omega) (by omega) qf
                have wl := w_lt (n := n) (s := s) (by omega) hc
                have ew : wyT (okW I l T) n r s a c = WY (okW I l T) n r (s ||| 2 ^ c) c := if_pos ⟨qf, y⟩
                rw [if_pos (show (!decide (hasW l (T a) = 1) && !decide (hasW l (T c) = 1) && decide (stp I (T a) (T c) = 1)) = true from y), if_neg (by decide)]
                refine wp_b (gR75 kk.1) ?_
                rw [or_c s (by omega) c (by omega), wI_of2 (x := 10 * ((s ||| 2 ^ c : Nat) : Int)) (by omega) (by omega), wI_of2 (x := 10 * ((s ||| 2 ^ c : Nat) : Int) + (c : Int)) (by omega) (by omega)]
                refine wp_b (arI 10240 (by decide +kernel) (by omega) (by omega) mz) ?_
                rw [show (10 * ((s ||| 2 ^ c : Nat) : Int) + (c : Int)).toNat = 10 * (s ||| 2 ^ c) + c from by omega, tb2 (s ||| 2 ^ c) c (by omega) wl hc, w.1, show n - (pop s + 1) = r from by omega]
                unfold X11_countsWays_J100
                exact ih4 _ _ mz (by first | omega | (simp (disch := omega) only [wI_of2] <;> omega)) ⟨rfl, by rw [es, ew]; rw [ew] at es; exact wI_of2 (by omega) (by omega)⟩
              · rw [if_neg (show ¬(!decide (hasW l (T a) = 1) && !decide (hasW l (T c) = 1) && decide (stp I (T a) (T c) = 1)) = true from y), if_pos rfl]
                exact zero (by unfold wyT; rw [if_neg (fun u => y u.2)])
          · obtain ⟨hz, hv⟩ := hI4
            subst hz
            subst hv
            show Wp (X11_countsWays_L36_b N _ (X11_countsWays_L36 N _ F4) 264 (n : Int) (((2 ^ n : Nat) : Int) - 1) (s : Int) a (sumTo (wyT (okW I l T) n r s a) n) n mz) _
            unfold X11_countsWays_L36_b
            rw [if_pos (Int.le_refl _)]
            exact put _ (by rw [hr, WY_s])
      · obtain ⟨g2, hm2, tb2, lo2⟩ := hI2
        show Wp (X11_countsWays_L15_b N _ (X11_countsWays_L15 N _ F2) 264 (n : Int) (((2 ^ n : Nat) : Int) - 1) (s : Int) n mk) _
        unfold X11_countsWays_L15_b
        rw [if_pos (Int.le_refl _)]
        show Wp (X11_countsWays_L8 N F 264 (n : Int) (((2 ^ n : Nat) : Int) - 1) (wI ((s : Int) + (-1))) mk) _
        rw [wI_of2 (x := (s : Int) + (-1)) (by omega) (by omega), show (s : Int) + (-1) = ((2 ^ n : Nat) : Int) - 1 - ((j : Int) + 1) from by omega]
        refine ih ((j : Int) + 1) mk rfl ⟨g2, hm2, fun s2 a h1 h2 h3 => ?_⟩
        by_cases e : s2 = s
        · rw [e]; exact lo2 a h3
        · exact tb2 s2 a (by omega) h2 h3
    · obtain ⟨g, hm, tb⟩ := hI
      show Wp (X11_countsWays_L8_b N (X11_countsWays_L8 N F) 264 (n : Int) (((2 ^ n : Nat) : Int) - 1) (((2 ^ n : Nat) : Int) - 1 - ((2 ^ n - 1 : Nat) : Int)) mm) _
      unfold X11_countsWays_L8_b
      rw [if_pos (by omega)]
      exact wp_some ⟨g, hm, fun s a h1 h2 h3 => tb s a (by omega) h2 h3⟩
  obtain ⟨m2, e, g, hg, tb⟩ := X
  subst hg
  exact ⟨g, e, tb⟩
