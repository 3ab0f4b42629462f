/-! the reference: how open, how near, where cold flows -/
def opmTo (I : Isl) (l : Lnd) (c : Int) : Nat → Int
  | 0 => 0
  | k + 1 => opmTo I l c k + if (k : Int) = 4 then 0 else 1 - hasW l (cellAt I (c % I 0 0 + ((k : Int) % 3 - 1)) (c / I 0 0 + ((k : Int) / 3 - 1)))
theorem opm_opn (I : Isl) (l : Lnd) (c : Int) : opmTo I l c 9 = opn I l c := by
  have e : ∀ dx dy : Int, hasW l (cellAt I (c % I 0 0 + dx) (c / I 0 0 + dy)) = hasW l (cellAt I (c % I 0 0 + dx) (c / I 0 0 + dy)) := fun _ _ => rfl
  show 0 + (1 - hasW l (cellAt I (c % I 0 0 + -1) (c / I 0 0 + -1))) + (1 - hasW l (cellAt I (c % I 0 0 + 0) (c / I 0 0 + -1))) + (1 - hasW l (cellAt I (c % I 0 0 + 1) (c / I 0 0 + -1))) + (1 - hasW l (cellAt I (c % I 0 0 + -1) (c / I 0 0 + 0))) + 0 + (1 - hasW l (cellAt I (c % I 0 0 + 1) (c / I 0 0 + 0))) + (1 - hasW l (cellAt I (c % I 0 0 + -1) (c / I 0 0 + 1))) + (1 - hasW l (cellAt I (c % I 0 0 + 0) (c / I 0 0 + 1))) + (1 - hasW l (cellAt I (c % I 0 0 + 1) (c / I 0 0 + 1))) = 8 - hasW l (cellAt I (c % I 0 0 + 0) (c / I 0 0 + -1)) - hasW l (cellAt I (c % I 0 0 + 1) (c / I 0 0 + 0)) - hasW l (cellAt I (c % I 0 0 + 0) (c / I 0 0 + 1)) - hasW l (cellAt I (c % I 0 0 + -1) (c / I 0 0 + 0)) - hasW l (cellAt I (c % I 0 0 + 1) (c / I 0 0 + -1)) - hasW l (cellAt I (c % I 0 0 + 1) (c / I 0 0 + 1)) - hasW l (cellAt I (c % I 0 0 + -1) (c / I 0 0 + 1)) - hasW l (cellAt I (c % I 0 0 + -1) (c / I 0 0 + -1))
  omega
theorem opmTo_in (I : Isl) (l : Lnd) (c : Int) (k : Nat) : 0 ≤ opmTo I l c k ∧ opmTo I l c k ≤ k := by
  induction k with
  | zero => exact ⟨Int.le_refl _, Int.le_refl _⟩
  | succ k ih =>
    have := hasW_in l (cellAt I (c % I 0 0 + ((k : Int) % 3 - 1)) (c / I 0 0 + ((k : Int) / 3 - 1)))
    have e : opmTo I l c (k + 1) = opmTo I l c k + if (k : Int) = 4 then 0 else 1 - hasW l (cellAt I (c % I 0 0 + ((k : Int) % 3 - 1)) (c / I 0 0 + ((k : Int) / 3 - 1))) := rfl
    by_cases q : (k : Int) = 4
    · rw [if_pos q] at e; omega
    · rw [if_neg q] at e; omega
theorem hasW_no (l : Lnd) : hasW l (-1) = 0 := (bi_f (by omega)).symm
theorem m_open {N : Nat} (hN : 2000 ≤ N) {m : Mem} {b v n : Nat} {I : Isl} {l : Lnd} (r : Refs m) (h : MD m b I) (hl : MY m v l n) (z : Sz I) {c : Int} (c0 : 0 ≤ c) (c1 : c < nC I) : X11_opennessOf N 264 v c m = some (opn I l c) := by
  obtain ⟨w1, w2⟩ := sz_c z c0 c1
  obtain ⟨a1, a2, a3, a4, a5⟩ := xy_of z c0 c1
  obtain ⟨z1, z2, z3, z4, z5, z6, z7⟩ := id z
  clear a5 z5
  refine wp_eq ?_
  unfold X11_opennessOf
  refine wp_k k264 ?_
  refine wp_of (lp_2 (opmTo I l c) Tr (fun F x i => X11_opennessOf_L5 N m F 264 v c x i) 9 (opn I l c) trivial (fun F j hj _ ih => ?_) (fun F _ => ?_) N (by omega)) rfl
  · show X11_opennessOf_L5_b N m (X11_opennessOf_L5 N m F) 264 v c (opmTo I l c j) j = _
    have e : opmTo I l c (j + 1) = opmTo I l c j + if (j : Int) = 4 then 0 else 1 - hasW l (cellAt I (c % I 0 0 + ((j : Int) % 3 - 1)) (c / I 0 0 + ((j : Int) / 3 - 1))) := rfl
    have e1 := hasW_in l (cellAt I (c % I 0 0 + ((j : Int) % 3 - 1)) (c / I 0 0 + ((j : Int) / 3 - 1)))
    have e2 := opmTo_in I l c j
    refine wp_eq ?_
    unfold X11_opennessOf_L5_b; simp only [X11_opennessOf_J96, X11_opennessOf_J97, X11_opennessOf_J134, X11_opennessOf_J138, X11_opennessOf_J139]
    rw [if_neg (by omega)]
    refine wp_b (gR14 r) ?_
    refine wp_b (md_bank h) ?_
    refine wp_b (md_s14 h) ?_
    rw [if_neg (by omega)]
    refine wp_b (gR14 r) ?_
    refine wp_b (md_bank h) ?_
    refine wp_b (md_s14 h) ?_
    rw [if_neg (by omega)]
    refine wp_b (gR14 r) ?_
    refine wp_b (md_bank h) ?_
    refine wp_b (md_s14 h) ?_
    rw [Int.tmod_eq_emod_of_nonneg c0, Int.tdiv_eq_ediv_of_nonneg c0, Int.tmod_eq_emod_of_nonneg (a := (j : Int)) (by omega), Int.tdiv_eq_ediv_of_nonneg (a := (j : Int)) (by omega)]
    rw [show wI (wI (wI (c % I 0 0) + wI ((j : Int) % 3)) - 1) = c % I 0 0 + ((j : Int) % 3 - 1) from by simp (disch := omega) only [wI_of2]; omega, show wI (wI (wI (c / I 0 0) + wI ((j : Int) / 3)) - 1) = c / I 0 0 + ((j : Int) / 3 - 1) from by simp (disch := omega) only [wI_of2]; omega, wI_of2 (x := I 0 0 - 1) (by omega) (by omega)]
    generalize hx : c % I 0 0 + ((j : Int) % 3 - 1) = x at *
    generalize hy : c / I 0 0 + ((j : Int) / 3 - 1) = y at *
    have fin : ∀ s : Int, opmTo I l c j + s = opmTo I l c (j + 1) → Wp (X11_opennessOf_L5 N m F 264 v c (wI (opmTo I l c j + s)) (wI ((j : Int) + 1))) (fun r => r = opn I l c) := by
      intro s hs
      have b := opmTo_in I l c (j + 1)
      exact wp_of (ih _ _ (by rw [hs]; exact wI_of2 (by omega) (by omega)) (by first | omega | (simp (disch := omega) only [wI_of2] <;> omega)) trivial) rfl
    refine wp_b (m_is _ _ _ _) ?_
    by_cases q1 : 0 ≤ x ∧ x ≤ I 0 0 - 1
    · rw [← bi_t q1, if_neg (by decide)]
      refine wp_b (gR15 r) ?_
      refine wp_b (md_bank h) ?_
      refine wp_b (md_s15 h) ?_
      rw [wI_of2 (x := I 1 0 - 1) (by omega) (by omega)]
      refine wp_b (m_is _ _ _ _) ?_
      by_cases q2 : 0 ≤ y ∧ y ≤ I 1 0 - 1
      · rw [← bi_t q2, if_neg (by decide)]
        by_cases q3 : (j : Int) = 4
        · rw [if_pos q3]
          rw [if_pos q3] at e
          exact fin 0 (by omega)
        · rw [if_neg q3, if_neg (by decide)]
          rw [if_neg q3] at e
          have ci := cell_in (I := I) (x := x) (y := y) (by omega) (by omega) (by omega) (by omega)
          have ec : cellAt I x y = y * I 0 0 + x := if_pos ⟨by omega, by omega, by omega, by omega⟩
          refine wp_b (gR14 r) ?_
          refine wp_b (md_bank h) ?_
          refine wp_b (md_s14 h) ?_
          rw [wI_of2 (x := y * I 0 0) (by omega) (by omega), wI_of2 (x := y * I 0 0 + x) (by omega) (by omega), ← ec]
          refine wp_b (m_isWall r hl (by omega) (by omega)) ?_
          by_cases q4 : hasW l (cellAt I x y) = 0
          · rw [if_neg (fun u => u q4)]
            exact fin 1 (by omega)
          · rw [if_pos q4]
            exact fin 0 (by omega)
      · rw [← bi_f q2, if_pos rfl]
        have ec : cellAt I x y = -1 := if_neg (by omega)
        rw [ec, hasW_no] at e
        by_cases q3 : (j : Int) = 4
        · rw [if_pos q3]
          rw [if_pos q3] at e
          exact fin 0 (by omega)
        · rw [if_neg q3, if_true]
          rw [if_neg q3] at e
          exact fin 1 (by omega)
    · rw [← bi_f q1, if_pos rfl]
      have ec : cellAt I x y = -1 := if_neg (by omega)
      rw [ec, hasW_no] at e
      by_cases q3 : (j : Int) = 4
      · rw [if_pos q3]
        rw [if_pos q3] at e
        exact fin 0 (by omega)
      · rw [if_neg q3, if_true]
        rw [if_neg q3] at e
        exact fin 1 (by omega)
  · show X11_opennessOf_L5_b N m (X11_opennessOf_L5 N m F) 264 v c (opmTo I l c 9) (9 : Nat) = _
    unfold X11_opennessOf_L5_b
    rw [if_pos (by decide), opm_opn]
theorem m_hos {N : Nat} (hN : 2000 ≤ N) {m : Mem} {b : Nat} {I : Isl} (r : Refs m) (h : MD m b I) (z : Sz I) (hs : Hs I) {c : Int} (c0 : 0 ≤ c) (c1 : c < nC I) : X11_nearHouses N 264 c m = some (hos I c) := by
  obtain ⟨z1, z2, z3, z4, z5, z6, z7⟩ := id z
  refine wp_eq ?_
  unfold X11_nearHouses
  refine wp_k k264 ?_
  refine wp_of (lp_2 (hosTo I c) Tr (fun F x i => X11_nearHouses_L4 N m F 264 c x i) 4 (hos I c) trivial (fun F j hj _ ih => ?_) (fun F _ => ?_) N (by omega)) rfl
  · show X11_nearHouses_L4_b N m (X11_nearHouses_L4 N m F) 264 c (hosTo I c j) j = _
    have e : hosTo I c (j + 1) = hosTo I c j + (if nbr I j c = -1 then 0 else I 4 (nbr I j c)) := rfl
    have e1 := nbr_in I j c
    have e2 := hosTo_in hs c j
    have e3 := hs (nbr I j c)
    refine wp_eq ?_
    by_cases q : nbr I j c = -1
    · rw [if_pos q] at e
      (unfold X11_nearHouses_L4_b; simp only [X11_nearHouses_J37, X11_nearHouses_J38]; repeat' ((with_reducible show Wp _ _); first | with_reducible exact wp_some rfl | with_reducible refine wp_some ?_ | with_reducible refine wp_z0 ?_ | with_reducible refine wp_z1 ?_ | with_reducible exact wp_of (ih _ _ (by first | omega | (simp (disch := omega) only [wI_of2] <;> omega)) (by first | omega | (simp (disch := omega) only [wI_of2] <;> omega)) (tr _)) rfl | with_reducible refine wp_b (m_isHouse (by assumption) (by assumption) (by omega) (by omega)) ?_ | with_reducible refine wp_b (m_next (by assumption) (by assumption) (by assumption) (by omega) (by omega) (by omega) (by omega)) ?_ | (with_reducible refine wp_if (fun hc => ?_) (fun hc => ?_) <;> (try simp (disch := omega) only [isC, bi_0, bi_1, wI_of2, Decidable.not_not, not_true_eq_false, not_false_eq_true] at hc) <;> (try (exfalso; omega)))))
    · rw [if_neg q] at e
      (unfold X11_nearHouses_L4_b; simp only [X11_nearHouses_J37, X11_nearHouses_J38]; repeat' ((with_reducible show Wp _ _); first | with_reducible exact wp_some rfl | with_reducible refine wp_some ?_ | with_reducible refine wp_z0 ?_ | with_reducible refine wp_z1 ?_ | with_reducible exact wp_of (ih _ _ (by first | omega | (simp (disch := omega) only [wI_of2] <;> omega)) (by first | omega | (simp (disch := omega) only [wI_of2] <;> omega)) (tr _)) rfl | with_reducible refine wp_b (m_isHouse (by assumption) (by assumption) (by omega) (by omega)) ?_ | with_reducible refine wp_b (m_next (by assumption) (by assumption) (by assumption) (by omega) (by omega) (by omega) (by omega)) ?_ | (with_reducible refine wp_if (fun hc => ?_) (fun hc => ?_) <;> (try simp (disch := omega) only [isC, bi_0, bi_1, wI_of2, Decidable.not_not, not_true_eq_false, not_false_eq_true] at hc) <;> (try (exfalso; omega)))))
  · show X11_nearHouses_L4_b N m (X11_nearHouses_L4 N m F) 264 c (hosTo I c 4) (4 : Nat) = _
    unfold X11_nearHouses_L4_b
    rw [if_pos (by decide)]
    rfl
theorem stp_m (x y : Int) (hx : -7 ≤ x ∧ x ≤ 7) (hy : -7 ≤ y ∧ y ≤ 7) : wI ((if 0 ≤ wI x then wI x else wI (-wI x)) + (if 0 ≤ wI y then wI y else wI (-wI y))) = (x.natAbs : Int) + (y.natAbs : Int) := by
  rw [wI_of2 (x := x) (by omega) (by omega), wI_of2 (x := y) (by omega) (by omega), wI_of2 (x := -x) (by omega) (by omega), wI_of2 (x := -y) (by omega) (by omega)]
  by_cases a : 0 ≤ x
  · rw [if_pos a]
    by_cases b : 0 ≤ y
    · rw [if_pos b, wI_of2 (by omega) (by omega)]; omega
    · rw [if_neg b, wI_of2 (by omega) (by omega)]; omega
  · rw [if_neg a]
    by_cases b : 0 ≤ y
    · rw [if_pos b, wI_of2 (by omega) (by omega)]; omega
    · rw [if_neg b, wI_of2 (by omega) (by omega)]; omega
theorem m_apart {m : Mem} {b : Nat} {I : Isl} (r : Refs m) (h : MD m b I) (z : Sz I) {x y : Int} (a0 : 0 ≤ x) (a1 : x < nC I) (b0 : 0 ≤ y) (b1 : y < nC I) : X11_apart 264 x y m = some (stp I x y) := by
  have w := (sz_c z a0 a1).1
  have p := xy_of z a0 a1
  have q := xy_of z b0 b1
  obtain ⟨z1, z2, z3, z4, z5, z6, z7⟩ := id z
  refine wp_eq ?_
  unfold X11_apart
  refine wp_k k264 ?_
  refine wp_b (gR14 r) ?_
  refine wp_b (md_bank h) ?_
  refine wp_b (md_s14 h) ?_
  rw [if_neg (by omega)]
  refine wp_b (gR14 r) ?_
  refine wp_b (md_bank h) ?_
  refine wp_b (md_s14 h) ?_
  rw [if_neg (by omega)]
  refine wp_b (gR14 r) ?_
  refine wp_b (md_bank h) ?_
  refine wp_b (md_s14 h) ?_
  rw [if_neg (by omega)]
  refine wp_b (gR14 r) ?_
  refine wp_b (md_bank h) ?_
  refine wp_b (md_s14 h) ?_
  rw [if_neg (by omega)]
  rw [Int.tmod_eq_emod_of_nonneg a0, Int.tdiv_eq_ediv_of_nonneg a0, Int.tmod_eq_emod_of_nonneg b0, Int.tdiv_eq_ediv_of_nonneg b0, wI_of2 (x := x % I 0 0) (by omega) (by omega), wI_of2 (x := y % I 0 0) (by omega) (by omega), wI_of2 (x := x / I 0 0) (by omega) (by omega), wI_of2 (x := y / I 0 0) (by omega) (by omega)]
  have key := stp_m (x % I 0 0 - y % I 0 0) (x / I 0 0 - y / I 0 0) (by omega) (by omega)
  unfold stp
  rw [← key]
  clear key p q
  by_cases u : 0 ≤ wI (x % I 0 0 - y % I 0 0)
  · rw [if_pos u, if_pos u]
    unfold X11_apart_J59 X11_apart_J72
    by_cases w2 : 0 ≤ wI (x / I 0 0 - y / I 0 0)
    · rw [if_pos w2, if_pos w2]; exact wp_some rfl
    · rw [if_neg w2, if_neg w2]; exact wp_some rfl
  · rw [if_neg u, if_neg u]
    unfold X11_apart_J59 X11_apart_J72
    by_cases w2 : 0 ≤ wI (x / I 0 0 - y / I 0 0)
    · rw [if_pos w2, if_pos w2]; exact wp_some rfl
    · rw [if_neg w2, if_neg w2]; exact wp_some rfl
theorem m_ner {N : Nat} (hN : 2000 ≤ N) {m : Mem} {b v k : Nat} {I : Isl} {l : Lnd} (r : Refs m) (h : MD m b I) (hl : MY m v l k) (z : Sz I) (n : Cn I) (kc : Kc I) {t : Int} (t0 : 0 ≤ t) (t1 : t < k) (c0 : 0 ≤ l 1 t) (c1 : l 1 t < nC I) : X11_cisternOf N 264 v t m = some (ner I (l 1 t)) := by
  obtain ⟨n1, n2, n3, n4, n5, n6⟩ := id n
  refine wp_eq ?_
  unfold X11_cisternOf
  refine wp_k k264 ?_
  refine wp_b (gR52 r) ?_
  refine wp_b (ml_r52 hl t0 t1) ?_
  generalize l 1 t = c at *
  refine wp_of (lq_2 (nerTo I c) (fun j => (j : Int)) Tr (fun F x i => X11_cisternOf_L18 N m F 264 x c i) (nK I) (ner I c) trivial (fun F j hj _ ih => ?_) (fun F _ => ?_) N (by omega)) rfl
  · show X11_cisternOf_L18_b N m (X11_cisternOf_L18 N m F) 264 (nerTo I c j) c (j : Int) = _
    have e : nerTo I c (j + 1) = if nerTo I c j = -1 ∨ stp I c (I 7 j) < stp I c (I 7 (nerTo I c j)) then (j : Int) else nerTo I c j := rfl
    have b0 := kc j (by omega) (by omega)
    have b3 := nerTo_in I c j
    refine wp_eq ?_
    by_cases q0 : nerTo I c j = -1
    · rw [if_pos (Or.inl q0)] at e
      (unfold X11_cisternOf_L18_b; simp only [X11_cisternOf_J79, X11_cisternOf_J82]; repeat' ((with_reducible show Wp _ _); first | with_reducible exact wp_some rfl | with_reducible refine wp_some ?_ | with_reducible refine wp_z0 ?_ | with_reducible refine wp_z1 ?_ | with_reducible exact wp_of (ih _ _ (by rw [e]) (by first | omega | (simp (disch := omega) only [wI_of2] <;> omega)) (tr _)) rfl | with_reducible refine wp_b (md_bank (by assumption)) ?_ | with_reducible refine wp_b (g264 (by decide)) ?_ | with_reducible refine wp_b (gR21 (by assumption)) ?_ | with_reducible refine wp_b (gR22 (by assumption)) ?_ | with_reducible refine wp_b (md_s21 (by assumption)) ?_ | with_reducible refine wp_b (md_r22 (by assumption) (by assumption) (by omega) (by omega)) ?_ | with_reducible refine wp_b (m_apart (by assumption) (by assumption) (by assumption) (by omega) (by omega) (by omega) (by omega)) ?_ | (with_reducible refine wp_if (fun hc => ?_) (fun hc => ?_) <;> (try simp (disch := omega) only [isC, bi_0, bi_1, wI_of2, Decidable.not_not, not_true_eq_false, not_false_eq_true] at hc) <;> (try (exfalso; omega)))))
    have b4 := kc (nerTo I c j) (by omega) (by omega)
    by_cases q : stp I c (I 7 j) < stp I c (I 7 (nerTo I c j))
    · rw [if_pos (Or.inr q)] at e
      (unfold X11_cisternOf_L18_b; simp only [X11_cisternOf_J79, X11_cisternOf_J82]; repeat' ((with_reducible show Wp _ _); first | with_reducible exact wp_some rfl | with_reducible refine wp_some ?_ | with_reducible refine wp_z0 ?_ | with_reducible refine wp_z1 ?_ | with_reducible refine wp_b (md_r22 h n (by omega) (by omega)) ?_ | with_reducible exact wp_of (ih _ _ (by rw [e]) (by first | omega | (simp (disch := omega) only [wI_of2] <;> omega)) (tr _)) rfl | with_reducible refine wp_b (md_bank (by assumption)) ?_ | with_reducible refine wp_b (g264 (by decide)) ?_ | with_reducible refine wp_b (gR21 (by assumption)) ?_ | with_reducible refine wp_b (gR22 (by assumption)) ?_ | with_reducible refine wp_b (md_s21 (by assumption)) ?_ | with_reducible refine wp_b (md_r22 (by assumption) (by assumption) (by omega) (by omega)) ?_ | with_reducible refine wp_b (m_apart (by assumption) (by assumption) (by assumption) (by omega) (by omega) (by omega) (by omega)) ?_ | (with_reducible refine wp_if (fun hc => ?_) (fun hc => ?_) <;> (try simp (disch := omega) only [isC, bi_0, bi_1, wI_of2, Decidable.not_not, not_true_eq_false, not_false_eq_true] at hc) <;> (try (exfalso; omega)))))
    · rw [if_neg (by omega)] at e
      (unfold X11_cisternOf_L18_b; simp only [X11_cisternOf_J79, X11_cisternOf_J82]; repeat' ((with_reducible show Wp _ _); first | with_reducible exact wp_some rfl | with_reducible refine wp_some ?_ | with_reducible refine wp_z0 ?_ | with_reducible refine wp_z1 ?_ | with_reducible refine wp_b (md_r22 h n (by omega) (by omega)) ?_ | with_reducible exact wp_of (ih _ _ (by rw [e]) (by first | omega | (simp (disch := omega) only [wI_of2] <;> omega)) (tr _)) rfl | with_reducible refine wp_b (md_bank (by assumption)) ?_ | with_reducible refine wp_b (g264 (by decide)) ?_ | with_reducible refine wp_b (gR21 (by assumption)) ?_ | with_reducible refine wp_b (gR22 (by assumption)) ?_ | with_reducible refine wp_b (md_s21 (by assumption)) ?_ | with_reducible refine wp_b (md_r22 (by assumption) (by assumption) (by omega) (by omega)) ?_ | with_reducible refine wp_b (m_apart (by assumption) (by assumption) (by assumption) (by omega) (by omega) (by omega) (by omega)) ?_ | (with_reducible refine wp_if (fun hc => ?_) (fun hc => ?_) <;> (try simp (disch := omega) only [isC, bi_0, bi_1, wI_of2, Decidable.not_not, not_true_eq_false, not_false_eq_true] at hc) <;> (try (exfalso; omega)))))
  · show X11_cisternOf_L18_b N m (X11_cisternOf_L18 N m F) 264 (nerTo I c (nK I)) c ((nK I : Nat) : Int) = _
    refine wp_eq ?_
    (unfold X11_cisternOf_L18_b; simp only [X11_cisternOf_J79, X11_cisternOf_J82]; repeat' ((with_reducible show Wp _ _); first | with_reducible exact wp_some rfl | with_reducible refine wp_some ?_ | with_reducible refine wp_z0 ?_ | with_reducible refine wp_z1 ?_ | with_reducible refine wp_b (md_bank (by assumption)) ?_ | with_reducible refine wp_b (g264 (by decide)) ?_ | with_reducible refine wp_b (gR21 (by assumption)) ?_ | with_reducible refine wp_b (gR22 (by assumption)) ?_ | with_reducible refine wp_b (md_s21 (by assumption)) ?_ | with_reducible refine wp_b (md_r22 (by assumption) (by assumption) (by omega) (by omega)) ?_ | with_reducible refine wp_b (m_apart (by assumption) (by assumption) (by assumption) (by omega) (by omega) (by omega) (by omega)) ?_ | (with_reducible refine wp_if (fun hc => ?_) (fun hc => ?_) <;> (try simp (disch := omega) only [isC, bi_0, bi_1, wI_of2, Decidable.not_not, not_true_eq_false, not_false_eq_true] at hc) <;> (try (exfalso; omega)))))
    all_goals rfl
theorem m_thingAt {N : Nat} (hN : 2000 ≤ N) {m : Mem} {b v : Nat} {I : Isl} {l : Lnd} (r : Refs m) (h : MD m b I) (hl : MY m v l (nT I)) (n : Cn I) (c : Int) : X11_thingAt N 264 v c m = some (fnd (l 1) c (nT I)) := by
  obtain ⟨n1, n2, n3, n4, n5, n6⟩ := id n
  refine wp_eq ?_
  unfold X11_thingAt
  refine wp_k k264 ?_
  refine wp_of (lp_0 (fun j => fnd (l 1) c j = -1) (fun F i => X11_thingAt_L2 N m F 264 v c i) (nT I) _ rfl (fun F j hj hS ih => ?_) (fun F hS => ?_) N (by omega)) rfl
  · show X11_thingAt_L2_b N m (X11_thingAt_L2 N m F) 264 v c j = _
    refine wp_eq ?_
    (unfold X11_thingAt_L2_b; repeat' ((with_reducible show Wp _ _); first | with_reducible exact wp_some rfl | with_reducible refine wp_some ?_ | with_reducible refine wp_z0 ?_ | with_reducible refine wp_z1 ?_ | with_reducible refine wp_b (ml_r52 hl (by omega) (by omega)) ?_ | with_reducible exact wp_of (ih _ (by first | omega | (simp (disch := omega) only [wI_of2] <;> omega)) (fnd_no hS (by assumption))) rfl | with_reducible refine wp_b (md_bank (by assumption)) ?_ | with_reducible refine wp_b (g264 (by decide)) ?_ | with_reducible refine wp_b (gR23 (by assumption)) ?_ | with_reducible refine wp_b (gR52 (by assumption)) ?_ | with_reducible refine wp_b (md_s23 (by assumption)) ?_ | with_reducible refine wp_b (my0_52 (by assumption) (by omega) (by omega)) ?_ | (with_reducible refine wp_if (fun hc => ?_) (fun hc => ?_) <;> (try simp (disch := omega) only [isC, bi_0, bi_1, wI_of2, Decidable.not_not, not_true_eq_false, not_false_eq_true] at hc) <;> (try (exfalso; omega)))))
    exact (fnd_yes hS (by assumption) hj).symm
  · show X11_thingAt_L2_b N m (X11_thingAt_L2 N m F) 264 v c (nT I) = _
    refine wp_eq ?_
    (unfold X11_thingAt_L2_b; repeat' ((with_reducible show Wp _ _); first | with_reducible exact wp_some rfl | with_reducible refine wp_some ?_ | with_reducible refine wp_z0 ?_ | with_reducible refine wp_z1 ?_ | with_reducible refine wp_b (md_bank (by assumption)) ?_ | with_reducible refine wp_b (g264 (by decide)) ?_ | with_reducible refine wp_b (gR23 (by assumption)) ?_ | with_reducible refine wp_b (gR52 (by assumption)) ?_ | with_reducible refine wp_b (md_s23 (by assumption)) ?_ | with_reducible refine wp_b (my0_52 (by assumption) (by omega) (by omega)) ?_ | (with_reducible refine wp_if (fun hc => ?_) (fun hc => ?_) <;> (try simp (disch := omega) only [isC, bi_0, bi_1, wI_of2, Decidable.not_not, not_true_eq_false, not_false_eq_true] at hc) <;> (try (exfalso; omega)))))
    exact hS.symm
theorem m_cisternAt {N : Nat} (hN : 2000 ≤ N) {m : Mem} {b : Nat} {I : Isl} (r : Refs m) (h : MD m b I) (n : Cn I) (c : Int) : X11_cisternAt N 264 c m = some (fnd (I 7) c (nK I)) := by
  obtain ⟨n1, n2, n3, n4, n5, n6⟩ := id n
  refine wp_eq ?_
  unfold X11_cisternAt
  refine wp_k k264 ?_
  refine wp_of (lp_0 (fun j => fnd (I 7) c j = -1) (fun F i => X11_cisternAt_L2 N m F 264 c i) (nK I) _ rfl (fun F j hj hS ih => ?_) (fun F hS => ?_) N (by omega)) rfl
  · show X11_cisternAt_L2_b N m (X11_cisternAt_L2 N m F) 264 c j = _
    refine wp_eq ?_
    (unfold X11_cisternAt_L2_b; repeat' ((with_reducible show Wp _ _); first | with_reducible exact wp_some rfl | with_reducible refine wp_some ?_ | with_reducible refine wp_z0 ?_ | with_reducible refine wp_z1 ?_ | with_reducible refine wp_b (md_r22 h n (by omega) (by omega)) ?_ | with_reducible exact wp_of (ih _ (by first | omega | (simp (disch := omega) only [wI_of2] <;> omega)) (fnd_no hS (by assumption))) rfl | with_reducible refine wp_b (md_bank (by assumption)) ?_ | with_reducible refine wp_b (g264 (by decide)) ?_ | with_reducible refine wp_b (gR21 (by assumption)) ?_ | with_reducible refine wp_b (gR22 (by assumption)) ?_ | with_reducible refine wp_b (md_s21 (by assumption)) ?_ | with_reducible refine wp_b (md_r22 (by assumption) (by assumption) (by omega) (by omega)) ?_ | (with_reducible refine wp_if (fun hc => ?_) (fun hc => ?_) <;> (try simp (disch := omega) only [isC, bi_0, bi_1, wI_of2, Decidable.not_not, not_true_eq_false, not_false_eq_true] at hc) <;> (try (exfalso; omega)))))
    exact (fnd_yes hS (by assumption) hj).symm
  · show X11_cisternAt_L2_b N m (X11_cisternAt_L2 N m F) 264 c (nK I) = _
    refine wp_eq ?_
    (unfold X11_cisternAt_L2_b; repeat' ((with_reducible show Wp _ _); first | with_reducible exact wp_some rfl | with_reducible refine wp_some ?_ | with_reducible refine wp_z0 ?_ | with_reducible refine wp_z1 ?_ | with_reducible refine wp_b (md_bank (by assumption)) ?_ | with_reducible refine wp_b (g264 (by decide)) ?_ | with_reducible refine wp_b (gR21 (by assumption)) ?_ | with_reducible refine wp_b (gR22 (by assumption)) ?_ | with_reducible refine wp_b (md_s21 (by assumption)) ?_ | with_reducible refine wp_b (md_r22 (by assumption) (by assumption) (by omega) (by omega)) ?_ | (with_reducible refine wp_if (fun hc => ?_) (fun hc => ?_) <;> (try simp (disch := omega) only [isC, bi_0, bi_1, wI_of2, Decidable.not_not, not_true_eq_false, not_false_eq_true] at hc) <;> (try (exfalso; omega)))))
    exact hS.symm
theorem m_whatIn {N : Nat} (hN : 2000 ≤ N) {m : Mem} {b : Nat} {I : Isl} {l : Lnd} (r : Refs m) (h : MD m b I) (hl : MY m 0 l (nT I)) (z : Sz I) (n : Cn I) {c : Int} (c0 : 0 ≤ c) (c1 : c < nC I) : X11_whatIn N 264 c m = some (cont I l c) := by
  obtain ⟨z1, z2, z3, z4, z5, z6, z7⟩ := id z
  have e1 := hasW_in l c
  have ic : isC I c = 1 := bi_1.mpr ⟨c0, c1⟩
  refine wp_eq ?_
  unfold cont X11_whatIn
  refine wp_k k264 ?_
  refine wp_b (m_isWall (v := 0) r hl (by omega) (by omega)) ?_
  by_cases q : hasW l c = 1
  · rw [if_neg (by omega), if_pos q]
    exact wp_some rfl
  rw [if_pos (by omega), if_neg q, if_neg (by omega)]
  refine wp_b (m_isHouse r h (by omega) (by omega)) ?_
  by_cases q3 : I 4 c = 1
  · rw [← bi_t q3, if_neg (by decide), if_pos q3]
    exact wp_some rfl
  rw [← bi_f q3, if_pos rfl, if_neg q3]
  refine wp_b (m_thingAt (v := 0) hN r h hl n c) ?_
  by_cases q4 : fnd (l 1) c (nT I) = -1
  · rw [if_pos q4, if_neg (fun x => x q4)]
    refine wp_b (m_cisternAt hN r h n c) ?_
    by_cases q5 : fnd (I 7) c (nK I) = -1
    · rw [if_pos q5, if_neg (fun x => x q5)]
      exact wp_some rfl
    · rw [if_neg q5, if_pos q5]
      exact wp_some rfl
  · rw [if_neg q4, if_pos q4]
    exact wp_some rfl
theorem m_isFree {N : Nat} (hN : 2000 ≤ N) {m : Mem} {b : Nat} {I : Isl} {l : Lnd} (r : Refs m) (h : MD m b I) (hl : MY m 0 l (nT I)) (z : Sz I) (n : Cn I) {c : Int} (c0 : 0 ≤ c) (c1 : c < nC I) : X11_isFree N 264 c m = some (isF I l c) := by
  refine wp_eq ?_
  (unfold X11_isFree; repeat' ((with_reducible show Wp _ _); first | with_reducible exact wp_some rfl | with_reducible refine wp_some ?_ | with_reducible refine wp_z0 ?_ | with_reducible refine wp_z1 ?_ | with_reducible refine wp_k k264 ?_ | with_reducible refine wp_b (m_whatIn hN r h hl z n c0 c1) ?_ | (with_reducible refine wp_if (fun hc => ?_) (fun hc => ?_) <;> (try simp (disch := omega) only [isC, bi_0, bi_1, wI_of2, Decidable.not_not, not_true_eq_false, not_false_eq_true] at hc) <;> (try (exfalso; omega)))))
  all_goals first | exact bi_t (by omega) | exact bi_f (by omega)
