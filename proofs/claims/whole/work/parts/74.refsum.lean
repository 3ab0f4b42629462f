/-! the reference: what a sum is worth -/
theorem arL_st {a : Nat} {n : Nat} {i : Int} (c : (shK a == 2 && shN a == n && decide (3 ≤ a)) = true) (h0 : 0 ≤ i) (h1 : i < n) (v : Int) (m : Mem) : ∃ g, astL a i v m = some (setA m a g) ∧ g i.toNat = v ∧ ∀ j, ¬j = i.toNat → g j = m a j := by
  refine ⟨_, by rw [asL n c h0 h1, up_setA], if_pos rfl, fun j hj => if_neg hj⟩
/-- what the reference has been asked of a thing in an hour -/
def AK (m : Mem) (b v t h : Nat) (w : Int) (I : Isl) (l : Lnd) (sk : Int → Int) : Prop := Refs m ∧ MD m b I ∧ MY m v l (nT I) ∧ m 264 58 = (v : Int) ∧ m 264 59 = (t : Int) ∧ m 264 60 = (h : Int) ∧ m 264 61 = w ∧ m 301 (h - 1) = sk h ∧ m 302 (42 * h + (l 1 t).toNat) = cold I l sk (l 1 t) h
theorem ak_set {m : Mem} {b v t h : Nat} {w : Int} {I : Isl} {l : Lnd} {sk : Int → Int} (k : AK m b v t h w I l sk) {a : Nat} (q : a = 300 ∨ a = 303 ∨ a = 304 ∨ a = 305) (g : Nat → Int) : AK (setA m a g) b v t h w I l sk := by
  obtain ⟨h1, h2, h3, h4, h5, h6, h7, h8, h9⟩ := k
  have ne : ∀ x, ¬x = a → setA m a g x = m x := fun x hx => setA_ne hx m g
  refine ⟨refs_set h1 ?_ g, md_off h2 (by rw [ne 264 (by omega)]) (fun x _ _ => ne x (by omega)), ml_off h3 (fun x _ _ => ne x (by omega)), ?_, ?_, ?_, ?_, ?_, ?_⟩
  · rcases q with q | q | q | q <;> subst q <;> decide +kernel
  · rw [ne 264 (by omega)]; exact h4
  · rw [ne 264 (by omega)]; exact h5
  · rw [ne 264 (by omega)]; exact h6
  · rw [ne 264 (by omega)]; exact h7
  · rw [ne 301 (by omega)]; exact h8
  · rw [ne 302 (by omega)]; exact h9
theorem m_bi {t c : Int} : (if ¬t = c then some (0 : Int) else some 1) = some (bi (t = c)) := by
  by_cases q : t = c
  · rw [if_neg (fun x => x q), ← bi_t q]
  · rw [if_pos q, ← bi_f q]
theorem m_part {N : Nat} (hN : 2000 ≤ N) {m : Mem} {b v t h : Nat} {w : Int} {I : Isl} {l : Lnd} {sk : Int → Int} (k : AK m b v t h w I l sk) (z : Sz I) (n : Cn I) (vl : Vl I) (tc : Tc I l) (ht : t < nT I) (h0 : 1 ≤ h) (h1 : h ≤ 12) {s u : Int} (s0 : -10 ≤ s) (s1 : 0 ≤ s → u = s) : X11_part N 264 (cdS s) u m = some (val (fcs I l sk (l 1 t) (I 10 t) h w) s) := by
  obtain ⟨r, md, my, k58, k59, k60, k61, k301, k302⟩ := k
  have c := tc t (by have := n.2.2.1; omega) (by have := n.2.2.1; omega)
  have n4 := n.2.2.2.1
  obtain ⟨z1, z2, z3, z4, z5, z6, z7⟩ := id z
  refine wp_eq ?_
  unfold X11_part
  refine wp_k k264 ?_
  refine wp_b (gR52 r) ?_
  refine wp_b (g264 (by decide)) ?_
  refine wp_b (g264 (by decide)) ?_
  rw [k58, k59]
  refine wp_b (ml_r52 my (by omega) (by omega)) ?_
  refine wp_b (gR62 r) ?_
  refine wp_b (g264 (by decide)) ?_
  rw [k60, wI_of2 (x := (h : Int) - 1) (by omega) (by omega)]
  refine wp_b (arI 12 (by decide +kernel) (by omega) (by omega) m) ?_
  rw [show ((h : Int) - 1).toNat = h - 1 from by omega, k301]
  by_cases q0 : 0 ≤ s
  · have e : cdS s = 0 := by unfold cdS; repeat rw [if_neg (by omega)]
    rw [e, if_pos rfl, s1 q0]
    exact wp_some (by unfold val; rw [if_neg (by omega)])
  have q : s = -1 ∨ s = -2 ∨ s = -3 ∨ s = -4 ∨ s = -5 ∨ s = -6 ∨ s = -7 ∨ s = -8 ∨ s = -9 ∨ s = -10 := by omega
  rcases q with q | q | q | q | q | q | q | q | q | q <;> subst q
  · rw [show cdS (-1) = 2 from rfl, if_neg (by decide), if_neg (by decide), if_pos rfl]
    refine wp_b (g264 (by decide)) ?_
    rw [k58]
    refine wp_b (m_open hN r md my z c.1 c.2) ?_
    exact wp_some rfl
  · show Wp (Option.bind (X11_heightOf 264 (l 1 t) m) _) _
    refine wp_b (m_height r md c.1 (by omega)) ?_
    exact wp_some rfl
  · show Wp (Option.bind (getR 11 63 264 m) _) _
    refine wp_b (gR63 r) ?_
    refine wp_b (g264 (by decide)) ?_
    rw [k60, wI_of2 (x := 42 * (h : Int)) (by omega) (by omega), wI_of2 (x := 42 * (h : Int) + l 1 t) (by omega) (by omega)]
    refine wp_b (arI 546 (by decide +kernel) (by omega) (by omega) m) ?_
    rw [show (42 * (h : Int) + l 1 t).toNat = 42 * h + (l 1 t).toNat from by omega, k302]
    exact wp_some rfl
  · show Wp (Option.bind (getI 11 60 264 m) _) _
    refine wp_b (g264 (by decide)) ?_
    rw [k60]
    exact wp_some rfl
  · show Wp (if ¬sk h = 1 then some (0 : Int) else some 1) _
    rw [m_bi]
    exact wp_some rfl
  · show Wp (if ¬sk h = 2 then some (0 : Int) else some 1) _
    rw [m_bi]
    exact wp_some rfl
  · show Wp (if ¬sk h = 3 then some (0 : Int) else some 1) _
    rw [m_bi]
    exact wp_some rfl
  · show Wp (Option.bind (X11_nearHouses N 264 (l 1 t) m) _) _
    refine wp_b (m_hos hN r md z vl.2.2.2.2 c.1 c.2) ?_
    exact wp_some rfl
  · show Wp (Option.bind (getI 11 61 264 m) _) _
    refine wp_b (g264 (by decide)) ?_
    rw [k61]
    exact wp_some rfl
  · rw [show cdS (-10) = 1 from rfl, if_neg (by decide), if_pos rfl]
    refine wp_b (g264 (by decide)) ?_
    rw [k59]
    refine wp_b (m_takesOf r md n (by omega) (by have := n.2.2.1; omega)) ?_
    exact wp_some rfl
theorem lcm_le {x y : Int} : lcm x y ≤ 0 ↔ x ≤ y := by
  unfold lcm
  by_cases q : x < y
  · rw [if_pos q]; omega
  · rw [if_neg q]
    by_cases r : x = y
    · rw [if_pos r]; omega
    · rw [if_neg r]; omega
theorem lcm_ge2 {x y : Int} : 0 ≤ lcm x y ↔ y ≤ x := by
  unfold lcm
  by_cases q : x < y
  · rw [if_pos q]; omega
  · rw [if_neg q]
    by_cases r : x = y
    · rw [if_pos r]; omega
    · rw [if_neg r]; omega
theorem m_held (x : Int) (m : Mem) : X11_held x m = some (clp x) := by
  unfold X11_held clp
  by_cases q : x ≤ 1000000
  · rw [if_pos (lcm_le.mpr q)]
    by_cases r : -1000000 ≤ x
    · rw [if_pos (lcm_ge2.mpr r)]
      congr 1
      omega
    · rw [if_neg (fun y => r (lcm_ge2.mp y))]
      congr 1
      omega
  · rw [if_neg (fun y => q (lcm_le.mp y))]
    congr 1
    omega
theorem m_floor {a b : Int} (a1 : -1000000 ≤ a) (a2 : a ≤ 1000000) (b1 : -1000000 ≤ b) (b2 : b ≤ 1000000) (m : Mem) : X11_floor a b m = some (if b = 0 then 0 else flo a b) := by
  have d := tdiv_in (b := b) a1 a2
  have t := tmod_in (b := b) a1 a2
  unfold X11_floor
  by_cases b0 : b = 0
  · rw [if_neg (fun x => x (lcm_0.mpr b0)), if_pos b0]
  rw [if_pos (fun x => b0 (lcm_0.mp x)), if_neg b0, if_neg b0, if_neg b0, wL_of2 (x := Int.tmod a b) (by omega) (by omega), wL_of2 (x := Int.tdiv a b) (by omega) (by omega)]
  unfold flo X11_floor_J32 X11_floor_J43
  rw [wL_of2 (x := Int.tdiv a b - 1) (by omega) (by omega)]
  by_cases q : Int.tmod a b = 0
  · rw [if_pos (lcm_0.mpr q), if_neg (fun x => x.1 q)]
  · rw [if_neg (fun x => q (lcm_0.mp x))]
    by_cases x : 0 ≤ a
    · rw [if_pos (lcm_ge.mpr x)]
      by_cases y : 0 ≤ b
      · rw [if_pos (lcm_ge.mpr y), if_pos rfl, if_neg (by omega)]
      · rw [if_neg (fun u => y (lcm_ge.mp u)), if_neg (by decide), if_pos (by omega)]
    · rw [if_neg (fun u => x (lcm_ge.mp u))]
      by_cases y : 0 ≤ b
      · rw [if_pos (lcm_ge.mpr y), if_neg (by decide), if_pos (by omega)]
      · rw [if_neg (fun u => y (lcm_ge.mp u)), if_pos rfl, if_neg (by omega)]
theorem flo_in {a b : Int} (a1 : -1000000 ≤ a) (a2 : a ≤ 1000000) : -1000001 ≤ flo a b ∧ flo a b ≤ 1000000 := by
  have d := tdiv_in (b := b) a1 a2
  unfold flo
  by_cases q : ¬Int.tmod a b = 0 ∧ ¬(a < 0 ↔ b < 0)
  · rw [if_pos q]; omega
  · rw [if_neg q]; omega
theorem m_two {s a b : Int} (hs : isOp s) (a1 : -1000000 ≤ a) (a2 : a ≤ 1000000) (b1 : -1000000 ≤ b) (b2 : b ≤ 1000000) (m : Mem) : X11_two (cdS s) a b m = some (clp (jn s a b)) := by
  have ml := mul_in a1 a2 b1 b2
  have fl := flo_in (b := b) a1 a2
  have d := tdiv_in (b := b) a1 a2
  have t := tmod_in (b := b) a1 a2
  rcases hs with q | q | q | q | q | q | q <;> subst q
  · show (if lcm a b ≤ 0 then some b else some a) = some (clp (max a b))
    unfold clp
    by_cases x : a ≤ b
    · rw [if_pos (lcm_le.mpr x)]; congr 1; omega
    · rw [if_neg (fun u => x (lcm_le.mp u))]; congr 1; omega
  · show (if 0 ≤ lcm a b then some b else some a) = some (clp (min a b))
    unfold clp
    by_cases x : b ≤ a
    · rw [if_pos (lcm_ge2.mpr x)]; congr 1; omega
    · rw [if_neg (fun u => x (lcm_ge2.mp u))]; congr 1; omega
  · show ((X11_floor a b m).bind fun p7 => (X11_held p7 m).bind fun p8 => some p8) = some (clp (if b = 0 then 0 else flo a b))
    rw [m_floor a1 a2 b1 b2, Option.bind_some, m_held, Option.bind_some]
  · show ((X11_held (wL (a - b)) m).bind fun p3 => some p3) = some (clp (a - b))
    rw [wL_of2 (by omega) (by omega), m_held, Option.bind_some]
  · show ((X11_held (wL (a + b)) m).bind fun p3 => some p3) = some (clp (a + b))
    rw [wL_of2 (by omega) (by omega), m_held, Option.bind_some]
  · show ((X11_held (wL (a * b)) m).bind fun p3 => some p3) = some (clp (a * b))
    rw [wL_of2 (by omega) (by omega), m_held, Option.bind_some]
  · show (if ¬lcm b 0 = 0 then (X11_floor a b m).bind fun p10 => (X11_held (wL (a - wL (b * p10))) m).bind fun p11 => some p11 else some 0) = some (clp (if b = 0 then 0 else a - b * flo a b))
    by_cases b0 : b = 0
    · rw [if_neg (fun x => x (lcm_0.mpr b0)), if_pos b0]
      rfl
    · have mm := Int.mul_tdiv_add_tmod a b
      have bf : -3000000 ≤ b * flo a b ∧ b * flo a b ≤ 3000000 := by
        unfold flo
        by_cases q : ¬Int.tmod a b = 0 ∧ ¬(a < 0 ↔ b < 0)
        · rw [if_pos q, Int.mul_sub]; omega
        · rw [if_neg q]; omega
      rw [if_pos (fun x => b0 (lcm_0.mp x)), if_neg b0, m_floor a1 a2 b1 b2, Option.bind_some, if_neg b0, wL_of2 (x := b * flo a b) (by omega) (by omega), wL_of2 (x := a - b * flo a b) (by omega) (by omega), m_held, Option.bind_some]
theorem cdS_op {s : Int} (h : isOp s) : 10 ≤ cdS s ∧ ¬cdS s = 30 := by
  rcases h with q | q | q | q | q | q | q <;> subst q <;> decide
theorem cdS_no {s : Int} (h : -10 ≤ s) : cdS s < 10 ∨ cdS s = 30 := by
  by_cases q0 : 0 ≤ s
  · have e : cdS s = 0 := by unfold cdS; repeat rw [if_neg (by omega)]
    omega
  have q : s = -1 ∨ s = -2 ∨ s = -3 ∨ s = -4 ∨ s = -5 ∨ s = -6 ∨ s = -7 ∨ s = -8 ∨ s = -9 ∨ s = -10 := by omega
  rcases q with q | q | q | q | q | q | q | q | q | q <;> subst q <;> decide
theorem m_sum {N : Nat} (hN : 2000 ≤ N) {m : Mem} {b v t h : Nat} {w : Int} {I : Isl} {l : Lnd} {sk : Int → Int} (k : AK m b v t h w I l sk) (z : Sz I) (n : Cn I) (vl : Vl I) (tc : Tc I l) (ht : t < nT I) (h0 : 1 ≤ h) (h1 : h ≤ 12) (w0 : 0 ≤ w) (w1 : w ≤ 2000) {fm most : Int} {code : Int → Int} {nn : Nat} (hn : 0 < nn) (cd : CdM m b fm code nn) (wf : WF code nn) (m0 : 0 ≤ most) (m1 : most ≤ 100000) : Wp (X11_sumOf N 264 fm (fm + nn) most m) (fun p => p.1 = lim (wrt (fcs I l sk (l 1 t) (I 10 t) h w) code nn) most ∧ ∃ g, p.2 = setA m 300 g) := by
  have c := tc t (by have := n.2.2.1; omega) (by have := n.2.2.1; omega)
  have tk := vl.2.1 t (by omega) (by have := n.2.2.1; omega)
  have hb := k.2.1.1.1
  have fB0 := fcs_in z vl l sk c.1 c.2 (by omega) tk.2 h1 w0 w1
  generalize hf : fcs I l sk (l 1 t) (I 10 t) h w = f at *
  have si := stv_in wf fB0
  obtain ⟨wf1, wf2, wf3, wf4, wf5⟩ := id wf
  obtain ⟨cd1, cd2, cd3⟩ := cd
  unfold X11_sumOf
  refine wp_k k264 ?_
  refine wp_b (md_bank k.2.1) ?_
  rw [wI_of2 (x := 1600 * (b : Int)) (by omega) (by omega), wI_of2 (x := 1600 * (b : Int) + fm) (by omega) (by omega)]
  have z0 : 1600 * (b : Int) + fm = 1600 * (b : Int) + fm + 0 := by omega
  rw [z0]
  refine lw_2 (fun j x mm => x = dpt code j ∧ ∃ g, mm = setA m 300 g ∧ ∀ p : Int, 0 ≤ p → p < dpt code j → g p.toNat = stv f code j p) (fun F x i mm => X11_sumOf_L15 N _ F 264 (fm + nn) most x (1600 * (b : Int) + fm + i) mm) nn _ (fun F j x mm hj hI ih => ?_) (fun F x mm hI => ?_) N 0 m (by omega) ⟨rfl, m 300, (setA_self _ _).symm, fun p p0 p1 => absurd p1 (by show ¬p < 0; omega)⟩
  · obtain ⟨hx, g, hm, hg⟩ := hI
    have k2 : AK mm b v t h w I l sk := by rw [hm]; exact ak_set k (Or.inl rfl) g
    have r2 := k2.1
    have e1 : mm 287 = m 287 ∧ mm 288 = m 288 := by rw [hm]; exact ⟨setA_ne (by decide) _ _, setA_ne (by decide) _ _⟩
    have cj := cd3 j (by omega) (by omega)
    have w3j := wf3 j (by omega)
    have w3k := wf3 (j + 1) (by omega)
    have w4j := wf4 j hj
    have d1 : dpt code (j + 1) = if code j < -10 then dpt code j - 1 else dpt code j + 1 := rfl
    show Wp (X11_sumOf_L15_b N _ (X11_sumOf_L15 N _ F) 264 (fm + nn) most x (1600 * (b : Int) + fm + j) mm) _
    unfold X11_sumOf_L15_b; simp only [X11_sumOf_J112, X11_sumOf_J53]
    refine wp_b (md_bank k2.2.1) ?_
    rw [wI_of2 (x := 1600 * (b : Int)) (by omega) (by omega), wI_of2 (x := 1600 * (b : Int) + (fm + nn)) (by omega) (by omega), if_neg (by omega)]
    refine wp_b (gR35 r2) ?_
    refine wp_b (arI 3200 (by decide +kernel) (by omega) (by omega) mm) ?_
    rw [show (1600 * (b : Int) + fm + j).toNat = 1600 * b + (fm + j).toNat from by omega, e1.1, cj.1]
    have nx : wI (1600 * (b : Int) + fm + (j : Int) + 1) = 1600 * (b : Int) + fm + ((j : Int) + 1) := by
      rw [wI_of2 (by omega) (by omega)]; omega
    by_cases q : code j < -10
    · rw [if_pos q] at d1
      have w2j := wf2 j hj q
      have op : isOp (code j) := by
        rcases w4j with y | y
        · omega
        · exact y
      have co := cdS_op op
      rw [if_neg (by omega), if_pos co.2]
      refine wp_b (gR57 r2) ?_
      refine wp_b (gR57 r2) ?_
      rw [show wI (wI (x + -1) - 1) = dpt code j - 2 from by rw [wI_of2 (x := x + -1) (by omega) (by omega), wI_of2 (by omega) (by omega)]; omega, show wI (x + -1) = dpt code j - 1 from by rw [wI_of2 (by omega) (by omega)]; omega]
      refine wp_b (arL 500 (by decide +kernel) (by omega) (by omega) mm) ?_
      refine wp_b (gR57 r2) ?_
      refine wp_b (arL 500 (by decide +kernel) (by omega) (by omega) mm) ?_
      have g1 : mm 300 (dpt code j - 2).toNat = stv f code j (dpt code j - 2) := by rw [hm, setA_same]; exact hg _ (by omega) (by omega)
      have g2 : mm 300 (dpt code j - 1).toNat = stv f code j (dpt code j - 1) := by rw [hm, setA_same]; exact hg _ (by omega) (by omega)
      rw [g1, g2]
      have i1 := si j (by omega) (dpt code j - 2)
      have i2 := si j (by omega) (dpt code j - 1)
      refine wp_b (m_two op i1.1 i1.2 i2.1 i2.2 mm) ?_
      obtain ⟨g3, e3, a3, b3⟩ := arL_st (a := 300) (n := 500) (i := dpt code j - 2) (by decide +kernel) (by omega) (by omega) (clp (jn (code j) (stv f code j (dpt code j - 2)) (stv f code j (dpt code j - 1)))) mm
      refine wp_b e3 ?_
      rw [nx]
      refine ih _ ((j : Int) + 1) _ rfl ⟨by omega, g3, by rw [hm, setA_setA], fun p p0 p1 => ?_⟩
      have sj : stv f code (j + 1) p = if code j < -10 then (if p = dpt code j - 2 then clp (jn (code j) (stv f code j (dpt code j - 2)) (stv f code j (dpt code j - 1))) else stv f code j p) else if p = dpt code j then val f (code j) else stv f code j p := rfl
      rw [sj, if_pos q]
      by_cases y : p = dpt code j - 2
      · rw [if_pos y, y]; exact a3
      · rw [if_neg y, b3 _ (by omega), hm, setA_same]
        exact hg p p0 (by omega)
    · rw [if_neg q] at d1
      have co := cdS_no (s := code j) (by omega)
      have key : ∀ X Y : Option (Int × Mem), Wp X (fun p => p.1 = lim (wrt f code nn) most ∧ ∃ g, p.2 = setA m 300 g) → Wp (if cdS (code j) < 10 then X else if ¬cdS (code j) = 30 then Y else X) (fun p => p.1 = lim (wrt f code nn) most ∧ ∃ g, p.2 = setA m 300 g) := by
        intro X Y hX
        rcases co with co | co
        · rw [if_pos co]; exact hX
        · rw [if_neg (by omega), if_neg (fun u => u co)]; exact hX
      refine key _ _ ?_
      refine wp_b (gR57 r2) ?_
      refine wp_b (gR36 r2) ?_
      refine wp_b (arI 3200 (by decide +kernel) (by omega) (by omega) mm) ?_
      rw [show (1600 * (b : Int) + fm + j).toNat = 1600 * b + (fm + j).toNat from by omega, e1.2]
      refine wp_b (m_part hN k2 z n vl tc ht h0 h1 (s := code j) (by omega) cj.2) ?_
      rw [hf]
      obtain ⟨g3, e3, a3, b3⟩ := arL_st (a := 300) (n := 500) (i := x) (by decide +kernel) (by omega) (by omega) (val f (code j)) mm
      refine wp_b e3 ?_
      rw [nx]
      refine ih _ ((j : Int) + 1) _ rfl ⟨by rw [wI_of2 (by omega) (by omega)]; omega, g3, by rw [hm, setA_setA], fun p p0 p1 => ?_⟩
      have sj : stv f code (j + 1) p = if code j < -10 then (if p = dpt code j - 2 then clp (jn (code j) (stv f code j (dpt code j - 2)) (stv f code j (dpt code j - 1))) else stv f code j p) else if p = dpt code j then val f (code j) else stv f code j p := rfl
      rw [sj, if_neg q]
      by_cases y : p = dpt code j
      · rw [if_pos y, show p = x from by omega]; exact a3
      · rw [if_neg y, b3 _ (by omega), hm, setA_same]
        exact hg p p0 (by omega)
  · obtain ⟨hx, g, hm, hg⟩ := hI
    have k2 : AK mm b v t h w I l sk := by rw [hm]; exact ak_set k (Or.inl rfl) g
    have r2 := k2.1
    have d1 := wf5 hn
    have s1 := si nn (Nat.le_refl _) 0
    show Wp (X11_sumOf_L15_b N _ (X11_sumOf_L15 N _ F) 264 (fm + nn) most x (1600 * (b : Int) + fm + nn) mm) _
    unfold X11_sumOf_L15_b
    refine wp_b (md_bank k2.2.1) ?_
    rw [wI_of2 (x := 1600 * (b : Int)) (by omega) (by omega), wI_of2 (x := 1600 * (b : Int) + (fm + nn)) (by omega) (by omega), if_pos (by omega)]
    have g0 : mm 300 (0 : Int).toNat = wrt f code nn := by
      rw [hm, setA_same]
      exact hg 0 (by omega) (by omega)
    have g1 : wrt f code nn = stv f code nn 0 := rfl
    refine wp_b (gR57 r2) ?_
    refine wp_b (arL 500 (by decide +kernel) (by omega) (by omega) mm) ?_
    rw [g0]
    unfold lim
    by_cases x0 : 0 ≤ wrt f code nn
    · rw [if_pos (lcm_ge.mpr x0)]
      refine wp_b (gR57 r2) ?_
      refine wp_b (arL 500 (by decide +kernel) (by omega) (by omega) mm) ?_
      rw [g0]
      by_cases x1 : wrt f code nn ≤ most
      · rw [if_pos (lcm_le.mpr x1)]
        refine wp_b (gR57 r2) ?_
        refine wp_b (arL 500 (by decide +kernel) (by omega) (by omega) mm) ?_
        rw [g0]
        refine wp_some ⟨?_, g, hm⟩
        show wI (wrt f code nn) = _
        rw [wI_of2 (by omega) (by omega)]
        omega
      · rw [if_neg (fun u => x1 (lcm_le.mp u))]
        refine wp_some ⟨?_, g, hm⟩
        show most = _
        omega
    · rw [if_neg (fun u => x0 (lcm_ge.mp u))]
      refine wp_some ⟨?_, g, hm⟩
      show (0 : Int) = _
      omega
