/-! linen -/
/-- drops of a set of cloths; the best set so far -/
def lnS (d : Int → Int) (w : Nat) : Nat → Int
  | 0 => 0
  | k + 1 => lnS d w k + tbt w k * d k
def lnT (d : Int → Int) (n : Nat) (x : Int) : Nat → Int
  | 0 => -1
  | w + 1 => if (lnT d n x w = -1 ∨ pop w < pop (lnT d n x w).toNat) ∧ x ≤ lnS d w n then (w : Int) else lnT d n x w
theorem tbt_in (w c : Nat) : tbt w c = 0 ∨ tbt w c = 1 := by
  unfold tbt
  by_cases q : w.testBit c = true
  · rw [if_pos q]; exact Or.inr rfl
  · rw [if_neg q]; exact Or.inl rfl
theorem lnS_in {d : Int → Int} {w n : Nat} (h : ∀ k : Nat, k < n → 0 ≤ d k ∧ d k ≤ 1188) : ∀ k : Nat, k ≤ n → 0 ≤ lnS d w k ∧ lnS d w k ≤ 1188 * k := by
  intro k
  induction k with
  | zero => intro _; exact ⟨Int.le_refl 0, Int.le_refl 0⟩
  | succ k ih =>
    intro hk
    have a := ih (by omega)
    have b := h k (by omega)
    have e : lnS d w (k + 1) = lnS d w k + tbt w k * d k := rfl
    rcases tbt_in w k with c | c
    · rw [e, c, Int.zero_mul]; omega
    · rw [e, c, Int.one_mul]; omega
theorem lnT_in (d : Int → Int) (n : Nat) (x : Int) (w : Nat) : lnT d n x w = -1 ∨ 0 ≤ lnT d n x w ∧ lnT d n x w < w := by
  induction w with
  | zero => exact Or.inl rfl
  | succ w ih =>
    show (if _ then (w : Int) else lnT d n x w) = -1 ∨ 0 ≤ (if _ then (w : Int) else lnT d n x w) ∧ (if _ then (w : Int) else lnT d n x w) < ((w + 1 : Nat) : Int)
    by_cases q : (lnT d n x w = -1 ∨ pop w < pop (lnT d n x w).toNat) ∧ x ≤ lnS d w n
    · rw [if_pos q]; omega
    · rw [if_neg q]; omega
theorem lnT_s (d : Int → Int) (n : Nat) (x : Int) (w : Nat) : lnT d n x (w + 1) = if (lnT d n x w = -1 ∨ pop w < pop (lnT d n x w).toNat) ∧ x ≤ lnS d w n then (w : Int) else lnT d n x w := rfl
theorem p2_le : ∀ n, n < 11 → 2 ^ n ≤ 1024 := by decide
theorem dp_nH {I : Isl} (l : Lnd) {k : Nat} : 0 ≤ dpC I l k ∧ dpC I l k ≤ 1188 := dpC_in I l k
theorem x_together {N : Nat} (hN : 2000 ≤ N) {m : Mem} {I : Isl} {l : Lnd} (r : Refs m) (w : WR m I l) (n : Cn I) {u : Nat} (hu : u < 1024) : X9_together N 246 (u : Int) m = some (lnS (dpC I l) u (nH I)) := by
  obtain ⟨n1, n2, n3, n4, n5, n6⟩ := id n
  obtain ⟨w2, w3, wr⟩ := w
  have ek : ((nH I : Nat) : Int) = I 12 0 := Int.toNat_of_nonneg (by omega)
  unfold X9_together
  rw [if_pos k246]
  refine lp_2 (fun j => lnS (dpC I l) u j) Tr (fun F x i => X9_together_L4 N m F 246 u x i) (nH I) _ (tr 0) (fun F j hj _ ih => ?_) (fun F _ => ?_) N (by omega)
  · have a := lnS_in (d := dpC I l) (w := u) (n := nH I) (fun k _ => dpC_in I l k) j (by omega)
    have a2 := lnS_in (d := dpC I l) (w := u) (n := nH I) (fun k _ => dpC_in I l k) (j + 1) (by omega)
    have e : lnS (dpC I l) u (j + 1) = lnS (dpC I l) u j + tbt u j * dpC I l j := rfl
    have y := (wr j (by omega) (by omega)).1
    rw [Int.toNat_natCast] at y
    have d := dpC_in I l j
    have t : 0 ≤ tbt u j * dpC I l j ∧ tbt u j * dpC I l j ≤ 1188 := by
      rcases tbt_in u j with c | c
      · rw [c, Int.zero_mul]; omega
      · rw [c, Int.one_mul]; omega
    refine wp_eq ?_
    show Wp (X9_together_L4_b N m (X9_together_L4 N m F) 246 u (lnS (dpC I l) u j) j) _
    unfold X9_together_L4_b
    refine wp_b (w2I m) ?_
    rw [w2, if_neg (by omega)]
    refine wp_b (w0R r) ?_
    refine wp_b (arI 10 (by decide +kernel) (by omega) (by omega) m) ?_
    rw [Int.toNat_natCast, y, bit_c u hu j (by omega), wI_of2 (x := tbt u j * dpC I l j) (by omega) (by omega)]
    exact wp_of (ih _ _ (by rw [e]; exact wI_of2 (by omega) (by omega)) (by first | omega | (simp (disch := omega) only [wI_of2] <;> omega)) (tr _)) rfl
  · refine wp_eq ?_
    show Wp (X9_together_L4_b N m (X9_together_L4 N m F) 246 u (lnS (dpC I l) u (nH I)) (nH I)) _
    unfold X9_together_L4_b
    refine wp_b (w2I m) ?_
    rw [w2, if_pos (by omega)]
    exact wp_some rfl
theorem x_least {N : Nat} (hN : 2000 ≤ N) {m : Mem} {I : Isl} {l : Lnd} (r : Refs m) (w : WR m I l) (n : Cn I) (x : Int) : X9_leastLinen N 246 x m = some (lnT (dpC I l) (nH I) x (2 ^ nH I)) := by
  obtain ⟨n1, n2, n3, n4, n5, n6⟩ := id n
  have w2 := w.1
  have ek : ((nH I : Nat) : Int) = I 12 0 := Int.toNat_of_nonneg (by omega)
  have p := p2_le (nH I) (by omega)
  have sh : ishl 1 (m 246 2) = ((2 ^ nH I : Nat) : Int) := by rw [w2, ← ek]; exact shl_c (nH I) (by omega)
  unfold X9_leastLinen
  rw [if_pos k246]
  refine lp_2 (fun j => lnT (dpC I l) (nH I) x j) Tr (fun F y i => X9_leastLinen_L4 N m F 246 x y i) (2 ^ nH I) _ (tr 0) (fun F j hj _ ih => ?_) (fun F _ => ?_) N (by omega)
  · have ti := lnT_in (dpC I l) (nH I) x j
    have so : lnS (dpC I l) j (nH I) < x ∨ x ≤ lnS (dpC I l) j (nH I) := by omega
    refine wp_eq ?_
    show Wp (X9_leastLinen_L4_b N m (X9_leastLinen_L4 N m F) 246 x (lnT (dpC I l) (nH I) x j) j) _
    unfold X9_leastLinen_L4_b
    refine wp_b (w2I m) ?_
    rw [sh, if_neg (by omega)]
    have no : ¬((lnT (dpC I l) (nH I) x j = -1 ∨ pop j < pop (lnT (dpC I l) (nH I) x j).toNat) ∧ x ≤ lnS (dpC I l) j (nH I)) → Wp (X9_leastLinen_J53 N (X9_leastLinen_L4 N m F) 246 x (lnT (dpC I l) (nH I) x j) j m) (fun r => r = lnT (dpC I l) (nH I) x (2 ^ nH I)) := by
      intro q
      unfold X9_leastLinen_J53
      exact wp_of (ih _ _ (by rw [lnT_s, if_neg q]) (by first | omega | (simp (disch := omega) only [wI_of2] <;> omega)) (tr _)) rfl
    have yes : (lnT (dpC I l) (nH I) x j = -1 ∨ pop j < pop (lnT (dpC I l) (nH I) x j).toNat) → Wp (X9_leastLinen_J30 N (X9_leastLinen_L4 N m F) 246 x (lnT (dpC I l) (nH I) x j) j m) (fun r => r = lnT (dpC I l) (nH I) x (2 ^ nH I)) := by
      intro q
      unfold X9_leastLinen_J30 X9_leastLinen_J35
      rw [if_neg (by decide)]
      refine wp_b (x_together hN r w n (u := j) (by omega)) ?_
      rcases so with so | so
      · rw [if_pos so]
        exact no (fun u => by omega)
      · rw [if_neg (by omega)]
        unfold X9_leastLinen_J53
        exact wp_of (ih _ _ (by rw [lnT_s, if_pos ⟨q, so⟩]) (by first | omega | (simp (disch := omega) only [wI_of2] <;> omega)) (tr _)) rfl
    by_cases q : lnT (dpC I l) (nH I) x j = -1
    · rw [if_pos q]
      exact yes (Or.inl q)
    · rw [if_neg q]
      have et : (((lnT (dpC I l) (nH I) x j).toNat : Nat) : Int) = lnT (dpC I l) (nH I) x j := Int.toNat_of_nonneg (by omega)
      have bc := x_bc (w := (lnT (dpC I l) (nH I) x j).toNat) (by omega) m
      rw [et] at bc
      refine wp_b (x_bc (w := j) (by omega) m) ?_
      refine wp_b bc ?_
      by_cases q2 : pop j < pop (lnT (dpC I l) (nH I) x j).toNat
      · rw [if_neg (by omega)]
        exact yes (Or.inr q2)
      · rw [if_pos (by omega)]
        unfold X9_leastLinen_J35
        rw [if_pos rfl]
        exact no (fun u => by omega)
  · refine wp_eq ?_
    show Wp (X9_leastLinen_L4_b N m (X9_leastLinen_L4 N m F) 246 x (lnT (dpC I l) (nH I) x (2 ^ nH I)) ((2 ^ nH I : Nat) : Int)) _
    unfold X9_leastLinen_L4_b
    refine wp_b (w2I m) ?_
    rw [sh, if_pos (Int.le_refl _)]
    exact wp_some rfl
/-- the reference's loops -/
theorem m_linL {N : Nat} (hN : 2000 ≤ N) {m : Mem} {b : Nat} {I : Isl} {l : Lnd} (r : Refs m) (md : MD m b I) (n : Cn I) (cl : Cl I) (hd : ∀ k : Nat, k < nH I → X11_dawnOf 264 (I 13 k) m = some (dpC I l k)) {K : Nat → Int → Int → Int → Int → Int → Mem → Option (Int × Mem)} {Q : Int × Mem → Prop} {a1 a2 a3 : Int} {u : Nat} (hu : u < 1024) (hK : Wp (K 264 a1 a2 a3 u (lnS (dpC I l) u (nH I)) m) Q) : Wp (X11_linen_L69 N K N 264 a1 a2 a3 u 0 0 m) Q := by
  obtain ⟨n1, n2, n3, n4, n5, n6⟩ := id n
  have ek : ((nH I : Nat) : Int) = I 12 0 := Int.toNat_of_nonneg (by omega)
  refine lw_2 (fun j x mm => x = lnS (dpC I l) u j ∧ mm = m) (fun F x i mm => X11_linen_L69 N K F 264 a1 a2 a3 u x i mm) (nH I) _ (fun F j x mm hj hI ih => ?_) (fun F x mm hI => ?_) N 0 m (by omega) ⟨rfl, rfl⟩
  · obtain ⟨hx, hm⟩ := hI
    subst hm
    subst hx
    have a := lnS_in (d := dpC I l) (w := u) (n := nH I) (fun k _ => dpC_in I l k) j (by omega)
    have e : lnS (dpC I l) u (j + 1) = lnS (dpC I l) u j + tbt u j * dpC I l j := rfl
    have d := dpC_in I l j
    have t : 0 ≤ tbt u j * dpC I l j ∧ tbt u j * dpC I l j ≤ 1188 := by
      rcases tbt_in u j with c | c
      · rw [c, Int.zero_mul]; omega
      · rw [c, Int.one_mul]; omega
    show Wp (X11_linen_L69_b N K (X11_linen_L69 N K F) 264 a1 a2 a3 u (lnS (dpC I l) u j) j mm) _
    unfold X11_linen_L69_b
    refine wp_b (m_cloths hN r md n cl) ?_
    rw [if_neg (by omega)]
    refine wp_b (m_cloth hN r md n cl (by omega) (by omega)) ?_
    refine wp_b (hd j hj) ?_
    rw [bit_c u hu j (by omega), wI_of2 (x := tbt u j * dpC I l j) (by omega) (by omega)]
    exact ih _ _ mm (by first | omega | (simp (disch := omega) only [wI_of2] <;> omega)) ⟨by rw [e]; exact wI_of2 (by omega) (by omega), rfl⟩
  · obtain ⟨hx, hm⟩ := hI
    subst hm
    subst hx
    show Wp (X11_linen_L69_b N K (X11_linen_L69 N K F) 264 a1 a2 a3 u (lnS (dpC I l) u (nH I)) (nH I) mm) _
    unfold X11_linen_L69_b
    refine wp_b (m_cloths hN r md n cl) ?_
    rw [if_pos (by omega)]
    exact hK
theorem m_linJ {N : Nat} (hN : 2000 ≤ N) {m : Mem} {b : Nat} {I : Isl} {l : Lnd} (r : Refs m) (md : MD m b I) (n : Cn I) (cl : Cl I) (hd : ∀ k : Nat, k < nH I → X11_dawnOf 264 (I 13 k) m = some (dpC I l k)) (x w : Int) : X11_linen_J27 N 264 x w m = some (if lnT (dpC I l) (nH I) x (2 ^ nH I) = -1 then -1 else if w = 0 then ((pop (lnT (dpC I l) (nH I) x (2 ^ nH I)).toNat : Nat) : Int) else lnT (dpC I l) (nH I) x (2 ^ nH I), m) := by
  obtain ⟨n1, n2, n3, n4, n5, n6⟩ := id n
  have ek : ((nH I : Nat) : Int) = I 12 0 := Int.toNat_of_nonneg (by omega)
  have p := p2_le (nH I) (by omega)
  have sh : ishl 1 (I 12 0) = ((2 ^ nH I : Nat) : Int) := by rw [← ek]; exact shl_c (nH I) (by omega)
  refine wp_eq ?_
  unfold X11_linen_J27
  refine lw_2 (fun j y mm => y = lnT (dpC I l) (nH I) x j ∧ mm = m) (fun F y i mm => X11_linen_L32 N _ F 264 x w y i mm) (2 ^ nH I) _ (fun F j y mm hj hI ih => ?_) (fun F y mm hI => ?_) N (-1) m (by omega) ⟨rfl, rfl⟩
  · obtain ⟨hy, hm⟩ := hI
    subst hm
    subst hy
    have ti := lnT_in (dpC I l) (nH I) x j
    have so : lnS (dpC I l) j (nH I) < x ∨ x ≤ lnS (dpC I l) j (nH I) := by omega
    have no : ¬((lnT (dpC I l) (nH I) x j = -1 ∨ pop j < pop (lnT (dpC I l) (nH I) x j).toNat) ∧ x ≤ lnS (dpC I l) j (nH I)) → lnT (dpC I l) (nH I) x j = lnT (dpC I l) (nH I) x (j + 1) := by
      intro q
      rw [lnT_s, if_neg q]
    show Wp (X11_linen_L32_b N _ (X11_linen_L32 N _ F) 264 x w (lnT (dpC I l) (nH I) x j) j mm) _
    unfold X11_linen_L32_b
    refine wp_b (m_cloths hN r md n cl) ?_
    rw [sh, if_neg (by omega)]
    by_cases q : lnT (dpC I l) (nH I) x j = -1 ∨ pop j < pop (lnT (dpC I l) (nH I) x j).toNat
    · have go : Wp (X11_linen_J63 N (X11_linen_L32 N (fun z21 z22 m23 => if ¬ z22 = (-1) then (if ¬ z21 = 0 then (some (z22, m23)) else ((X11_bits N z22 m23).bind fun p24 => some (p24, m23))) else (some ((-1), m23))) F) 264 x w (lnT (dpC I l) (nH I) x j) j mm) (fun r => r = (if lnT (dpC I l) (nH I) x (2 ^ nH I) = -1 then -1 else if w = 0 then ((pop (lnT (dpC I l) (nH I) x (2 ^ nH I)).toNat : Nat) : Int) else lnT (dpC I l) (nH I) x (2 ^ nH I), mm)) := by
        unfold X11_linen_J63
        refine m_linL hN r md n cl hd (u := j) (by omega) ?_
        rcases so with so | so
        · rw [if_pos so]
          unfold X11_linen_J119 X11_linen_J120
          exact ih _ _ mm (by first | omega | (simp (disch := omega) only [wI_of2] <;> omega)) ⟨no (fun u => by omega), rfl⟩
        · rw [if_neg (by omega)]
          unfold X11_linen_J119 X11_linen_J120
          exact ih _ _ mm (by first | omega | (simp (disch := omega) only [wI_of2] <;> omega)) ⟨by rw [lnT_s, if_pos ⟨q, so⟩], rfl⟩
      by_cases q1 : lnT (dpC I l) (nH I) x j = -1
      · rw [if_pos q1]
        exact go
      · rw [if_neg q1]
        have et : (((lnT (dpC I l) (nH I) x j).toNat : Nat) : Int) = lnT (dpC I l) (nH I) x j := Int.toNat_of_nonneg (by omega)
        have bc := m_bits hN (w := (lnT (dpC I l) (nH I) x j).toNat) (by omega) mm
        rw [et] at bc
        refine wp_b (m_bits hN (w := j) (by omega) mm) ?_
        refine wp_b bc ?_
        rw [if_pos (by omega)]
        exact go
    · rw [if_neg (fun u => q (Or.inl u))]
      have et : (((lnT (dpC I l) (nH I) x j).toNat : Nat) : Int) = lnT (dpC I l) (nH I) x j := Int.toNat_of_nonneg (by omega)
      have bc := m_bits hN (w := (lnT (dpC I l) (nH I) x j).toNat) (by omega) mm
      rw [et] at bc
      refine wp_b (m_bits hN (w := j) (by omega) mm) ?_
      refine wp_b bc ?_
      rw [if_neg (by omega)]
      unfold X11_linen_J120
      exact ih _ _ mm (by first | omega | (simp (disch := omega) only [wI_of2] <;> omega)) ⟨no (fun u => q u.1), rfl⟩
  · obtain ⟨hy, hm⟩ := hI
    subst hm
    subst hy
    have ti := lnT_in (dpC I l) (nH I) x (2 ^ nH I)
    show Wp (X11_linen_L32_b N _ (X11_linen_L32 N _ F) 264 x w (lnT (dpC I l) (nH I) x (2 ^ nH I)) ((2 ^ nH I : Nat) : Int) mm) _
    unfold X11_linen_L32_b
    refine wp_b (m_cloths hN r md n cl) ?_
    rw [sh, if_pos (Int.le_refl _)]
    show Wp (if ¬lnT (dpC I l) (nH I) x (2 ^ nH I) = -1 then _ else _) _
    by_cases q : lnT (dpC I l) (nH I) x (2 ^ nH I) = -1
    · rw [if_neg (fun u => u q), if_pos q]
      exact wp_some rfl
    · rw [if_pos q, if_neg q]
      by_cases q2 : w = 0
      · have et : (((lnT (dpC I l) (nH I) x (2 ^ nH I)).toNat : Nat) : Int) = lnT (dpC I l) (nH I) x (2 ^ nH I) := Int.toNat_of_nonneg (by omega)
        have bc := m_bits hN (w := (lnT (dpC I l) (nH I) x (2 ^ nH I)).toNat) (by omega) mm
        rw [et] at bc
        rw [if_neg (fun u => u q2), if_pos q2]
        refine wp_b bc ?_
        exact wp_some rfl
      · rw [if_pos q2, if_neg q2]
        exact wp_some rfl
theorem linen_ok {N : Nat} (hN : 2000 ≤ N) {m : Mem} (h : Inv m) (x w : Int) : ∃ v m1 m2, X10_linen N 3 x w m = some (v, m1) ∧ X11_linen N 264 x w m1 = some (v, m2) ∧ Inv m2 := by
  obtain ⟨P, b, I, l, s, h⟩ := h
  have hn : Cn I := h.2.2.1.2.1
  obtain ⟨n1, n2, n3, n4, n5, n6⟩ := id hn
  have ek : ((nH I : Nat) : Int) = I 12 0 := Int.toNat_of_nonneg (by omega)
  by_cases q : 0 ≤ x ∧ 0 ≤ w ∧ w ≤ 1
  · obtain ⟨x0, w0, w1⟩ := q
    refine comb (P := P) (b := b) (I := I) (l := l) (s := s) (if lnT (dpC I l) (nH I) x (2 ^ nH I) = -1 then -1 else if w = 0 then ((pop (lnT (dpC I l) (nH I) x (2 ^ nH I)).toNat : Nat) : Int) else lnT (dpC I l) (nH I) x (2 ^ nH I)) ?_ (fun m1 h => ?_)
    · obtain ⟨mt, et, ht, nx, _⟩ := i_told2 hN h
      obtain ⟨m2, e2, wr, h2, _, _⟩ := x_prepare hN ht nx
      have r0 := h.1
      have b30 := h.2.1.1
      have p := p2_le (nH I) (by omega)
      have ti := lnT_in (dpC I l) (nH I) x (2 ^ nH I)
      unfold X10_linen
      refine wp_k k3 ?_
      rw [if_neg (by omega), if_neg (by omega), if_pos w1]
      refine wp_b (gX13 r0) ?_
      refine wp_b (b3_R b30) ?_
      refine wp_b (gX5 r0) ?_
      refine wp_b et ?_
      refine wp_b e2 ?_
      refine wp_b (gX13 h2.1) ?_
      refine wp_b (x_least hN h2.1 wr hn x) ?_
      by_cases q1 : lnT (dpC I l) (nH I) x (2 ^ nH I) = -1
      · rw [if_pos q1, if_pos q1]
        unfold X10_linen_J53
        exact wp_some ⟨q1, h2⟩
      · rw [if_neg q1, if_neg q1]
        by_cases q2 : w = 0
        · have et : (((lnT (dpC I l) (nH I) x (2 ^ nH I)).toNat : Nat) : Int) = lnT (dpC I l) (nH I) x (2 ^ nH I) := Int.toNat_of_nonneg (by omega)
          have bc := x_bc (w := (lnT (dpC I l) (nH I) x (2 ^ nH I)).toNat) (by omega) m2
          rw [et] at bc
          rw [if_pos (by omega), if_pos q2]
          refine wp_b bc ?_
          exact wp_some ⟨rfl, h2⟩
        · rw [if_neg (by omega), if_neg q2]
          unfold X10_linen_J53
          exact wp_some ⟨rfl, h2⟩
    · obtain ⟨r, ⟨b3, bb, b4, ps, md, mn⟩, ⟨z, n, kc, vl, cl, fx, cm⟩, ⟨hl, my, gl⟩, pa, to, zz, hg, wk, se, rd, te, fe, oe, kst⟩ := id h; have h1 := ps.1; have tc := gl.1; have hs := vl.2.2.2.2
      unfold X11_linen
      refine wp_k k264 ?_
      rw [if_neg (by omega)]
      refine wp_b (m_is _ _ _ _) ?_
      rw [← bi_t ⟨w0, w1⟩, if_pos (by decide)]
      refine wp_b (m_island r md) ?_
      by_cases qI : 0 < I 0 0
      · obtain ⟨mt, et, ht, nm, _⟩ := i_mtold hN h
        rw [← bi_t qI, if_neg (by decide)]
        refine wp_b et ?_
        refine wp_of (m_linJ hN ht.1 ht.2.1.2.2.2.2.1 n cl (fun k hk => ?_) x w) ⟨rfl, P, b, I, l, s, ht⟩
        have cc := cl_cell n cl tc (i := (k : Int)) (by omega) (by omega)
        exact m_dawn2 ht.1 n nm cc.1.1 cc.1.2
      · rw [← bi_f qI, if_pos rfl]
        have y2 := nC_pos z
        refine wp_of (m_linJ hN r md n cl (fun k hk => ?_) x w) ⟨rfl, P, b, I, l, s, h⟩
        have cc := cl_cell n cl tc (i := (k : Int)) (by omega) (by omega)
        omega
  · refine comb (P := P) (b := b) (I := I) (l := l) (s := s) (-1) ?_ (fun m1 h => ?_)
    · obtain ⟨r, ⟨b3, bb, b4, ps, md, mn⟩, ⟨z, n, kc, vl, cl, fx, cm⟩, ⟨hl, my, gl⟩, pa, to, zz, hg, wk, se, rd, te, fe, oe, kst⟩ := id h; have h1 := ps.1; have tc := gl.1; have hs := vl.2.2.2.2
      unfold X10_linen
      refine wp_k k3 ?_
      by_cases y : x < 0
      · rw [if_pos y]; exact wp_some ⟨rfl, h⟩
      · rw [if_neg y]
        by_cases y2 : w < 0
        · rw [if_pos y2]; exact wp_some ⟨rfl, h⟩
        · rw [if_neg y2, if_neg (by omega)]; exact wp_some ⟨rfl, h⟩
    · obtain ⟨r, ⟨b3, bb, b4, ps, md, mn⟩, ⟨z, n, kc, vl, cl, fx, cm⟩, ⟨hl, my, gl⟩, pa, to, zz, hg, wk, se, rd, te, fe, oe, kst⟩ := id h; have h1 := ps.1; have tc := gl.1; have hs := vl.2.2.2.2
      unfold X11_linen
      refine wp_k k264 ?_
      by_cases y : x < 0
      · rw [if_pos y]; exact wp_some ⟨rfl, P, b, I, l, s, h⟩
      · rw [if_neg y]
        refine wp_b (m_is _ _ _ _) ?_
        rw [← bi_f (fun u => q ⟨by omega, u⟩), if_neg (by decide)]
        exact wp_some ⟨rfl, P, b, I, l, s, h⟩
