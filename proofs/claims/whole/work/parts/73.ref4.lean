/-! the reference: where cold flows, the sun, cloths -/
theorem lowTo_in (I : Isl) (l : Lnd) (c : Int) (s : Nat) : lowTo I l c s = -1 ∨ (0 ≤ lowTo I l c s ∧ lowTo I l c s < nC I) ∧ I 3 (lowTo I l c s) < I 3 c ∧ hasW l (lowTo I l c s) = 0 := by
  induction s with
  | zero => exact Or.inl rfl
  | succ s ih =>
    have e : lowTo I l c (s + 1) = if nbr I s c = -1 ∨ hasW l (nbr I s c) = 1 ∨ hof I c (lowTo I l c s) ≤ I 3 (nbr I s c) then lowTo I l c s else nbr I s c := rfl
    rw [e]
    by_cases q : nbr I s c = -1 ∨ hasW l (nbr I s c) = 1 ∨ hof I c (lowTo I l c s) ≤ I 3 (nbr I s c)
    · rw [if_pos q]; exact ih
    · rw [if_neg q]
      have a := nbr_in I s c
      have w := hasW_in l (nbr I s c)
      refine Or.inr ⟨by omega, ?_, by omega⟩
      by_cases y : lowTo I l c s = -1
      · have : hof I c (lowTo I l c s) = I 3 c := if_pos y
        omega
      · have : hof I c (lowTo I l c s) = I 3 (lowTo I l c s) := if_neg y
        omega
theorem m_low {N : Nat} (hN : 2000 ≤ N) {m : Mem} {b v n : Nat} {I : Isl} {l : Lnd} (r : Refs m) (h : MD m b I) (hl : MY m v l n) (z : Sz I) {c : Int} (c0 : 0 ≤ c) (c1 : c < nC I) : X11_flowsTo N 264 v c m = some (low I l c) := by
  obtain ⟨z1, z2, z3, z4, z5, z6, z7⟩ := id z
  refine wp_eq ?_
  unfold X11_flowsTo
  refine wp_k k264 ?_
  refine wp_of (lp_2 (lowTo I l c) Tr (fun F x i => X11_flowsTo_L5 N m F 264 v c x i) 4 (low I l c) trivial (fun F j hj _ ih => ?_) (fun F _ => ?_) N (by omega)) rfl
  · show X11_flowsTo_L5_b N m (X11_flowsTo_L5 N m F) 264 v c (lowTo I l c j) j = _
    have e : lowTo I l c (j + 1) = if nbr I j c = -1 ∨ hasW l (nbr I j c) = 1 ∨ hof I c (lowTo I l c j) ≤ I 3 (nbr I j c) then lowTo I l c j else nbr I j c := rfl
    have e1 := nbr_in I j c
    have e3 := hasW_in l (nbr I j c)
    have e4 := lowTo_in I l c j
    have e5 : lowTo I l c j = -1 ∧ hof I c (lowTo I l c j) = I 3 c ∨ ¬lowTo I l c j = -1 ∧ hof I c (lowTo I l c j) = I 3 (lowTo I l c j) := by
      by_cases y : lowTo I l c j = -1
      · exact Or.inl ⟨y, if_pos y⟩
      · exact Or.inr ⟨y, if_neg y⟩
    refine wp_eq ?_
    by_cases q : nbr I j c = -1 ∨ hasW l (nbr I j c) = 1 ∨ hof I c (lowTo I l c j) ≤ I 3 (nbr I j c)
    · rw [if_pos q] at e
      (unfold X11_flowsTo_L5_b; simp only [X11_flowsTo_J75, X11_flowsTo_J72]; repeat' ((with_reducible show Wp _ _); first | with_reducible exact wp_some rfl | with_reducible refine wp_some ?_ | with_reducible refine wp_z0 ?_ | with_reducible refine wp_z1 ?_ | with_reducible exact wp_of (ih _ _ (by rw [e]) (by first | omega | (simp (disch := omega) only [wI_of2] <;> omega)) (tr _)) rfl | with_reducible refine wp_b (m_height (by assumption) (by assumption) (by omega) (by omega)) ?_ | with_reducible refine wp_b (m_isWall (by assumption) (by assumption) (by omega) (by omega)) ?_ | with_reducible refine wp_b (m_next (by assumption) (by assumption) (by assumption) (by omega) (by omega) (by omega) (by omega)) ?_ | (with_reducible refine wp_if (fun hc => ?_) (fun hc => ?_) <;> (try simp (disch := omega) only [isC, bi_0, bi_1, wI_of2, Decidable.not_not, not_true_eq_false, not_false_eq_true] at hc) <;> (try (exfalso; omega)))))
    · rw [if_neg q] at e
      (unfold X11_flowsTo_L5_b; simp only [X11_flowsTo_J75, X11_flowsTo_J72]; repeat' ((with_reducible show Wp _ _); first | with_reducible exact wp_some rfl | with_reducible refine wp_some ?_ | with_reducible refine wp_z0 ?_ | with_reducible refine wp_z1 ?_ | with_reducible exact wp_of (ih _ _ (by rw [e]) (by first | omega | (simp (disch := omega) only [wI_of2] <;> omega)) (tr _)) rfl | with_reducible refine wp_b (m_height (by assumption) (by assumption) (by omega) (by omega)) ?_ | with_reducible refine wp_b (m_isWall (by assumption) (by assumption) (by omega) (by omega)) ?_ | with_reducible refine wp_b (m_next (by assumption) (by assumption) (by assumption) (by omega) (by omega) (by omega) (by omega)) ?_ | (with_reducible refine wp_if (fun hc => ?_) (fun hc => ?_) <;> (try simp (disch := omega) only [isC, bi_0, bi_1, wI_of2, Decidable.not_not, not_true_eq_false, not_false_eq_true] at hc) <;> (try (exfalso; omega)))))
  · show X11_flowsTo_L5_b N m (X11_flowsTo_L5 N m F) 264 v c (lowTo I l c 4) (4 : Nat) = _
    unfold X11_flowsTo_L5_b
    rw [if_pos (by decide)]
    rfl
theorem m_sun {N : Nat} (hN : 2000 ≤ N) {m : Mem} {b n : Nat} {I : Isl} {l : Lnd} (r : Refs m) (h : MD m b I) (hl : MY m 0 l n) (z : Sz I) {c : Int} (c0 : 0 ≤ c) (c1 : c < nC I) : X11_sunOf N 264 c m = some (sun I l c) := by
  have w := (sz_c z c0 c1).1
  obtain ⟨a1, a2, a3, a4, a5⟩ := xy_of z c0 c1
  obtain ⟨z1, z2, z3, z4, z5, z6, z7⟩ := id z
  refine wp_eq ?_
  unfold X11_sunOf
  refine wp_k k264 ?_
  refine wp_b (gR14 r) ?_
  refine wp_b (md_bank h) ?_
  refine wp_b (md_s14 h) ?_
  rw [if_neg (by omega), Int.tmod_eq_emod_of_nonneg c0]
  have s0 : wI (wI (c % I 0 0) + 1) = c % I 0 0 + 1 + (0 : Nat) := by simp (disch := omega) only [wI_of2]; omega
  rw [s0]
  refine wp_of (lq_2 (sunTo I l c) (fun j => c % I 0 0 + 1 + (j : Int)) Tr (fun F x i => X11_sunOf_L16 N m F 264 c x i) (I 0 0 - 1 - c % I 0 0).toNat (sun I l c) trivial (fun F j hj _ ih => ?_) (fun F _ => ?_) N (by omega)) rfl
  · show X11_sunOf_L16_b N m (X11_sunOf_L16 N m F) 264 c (sunTo I l c j) (c % I 0 0 + 1 + (j : Int)) = _
    have e : sunTo I l c (j + 1) = sunTo I l c j + 10 * hasW l (cellAt I (c % I 0 0 + 1 + j) (c / I 0 0)) := rfl
    have e1 := hasW_in l (cellAt I (c % I 0 0 + 1 + j) (c / I 0 0))
    have e2 := sunTo_in I l c j
    have ec : cellAt I (c % I 0 0 + 1 + j) (c / I 0 0) = c / I 0 0 * I 0 0 + (c % I 0 0 + 1 + j) := if_pos ⟨by omega, by omega, by omega, by omega⟩
    have ci := cell_in (I := I) (x := c % I 0 0 + 1 + j) (y := c / I 0 0) (by omega) (by omega) (by omega) (by omega)
    refine wp_eq ?_
    unfold X11_sunOf_L16_b; simp only [X11_sunOf_J59]
    refine wp_b (gR14 r) ?_
    refine wp_b (md_bank h) ?_
    refine wp_b (md_s14 h) ?_
    rw [if_neg (by omega)]
    refine wp_b (gR14 r) ?_
    refine wp_b (md_bank h) ?_
    refine wp_b (md_s14 h) ?_
    rw [if_neg (by omega), Int.tmod_eq_emod_of_nonneg c0]
    rw [show wI (wI (c - wI (c % I 0 0)) + (c % I 0 0 + 1 + (j : Int))) = cellAt I (c % I 0 0 + 1 + j) (c / I 0 0) from by rw [ec]; simp (disch := omega) only [wI_of2]; omega]
    refine wp_b (m_isWall (v := 0) r hl (by omega) (by omega)) ?_
    by_cases q : hasW l (cellAt I (c % I 0 0 + 1 + j) (c / I 0 0)) = 0
    · rw [if_pos q]
      exact wp_of (ih _ _ (by first | omega | (simp (disch := omega) only [wI_of2] <;> omega)) (by first | omega | (simp (disch := omega) only [wI_of2] <;> omega)) trivial) rfl
    · rw [if_neg q]
      exact wp_of (ih _ _ (by first | omega | (simp (disch := omega) only [wI_of2] <;> omega)) (by first | omega | (simp (disch := omega) only [wI_of2] <;> omega)) trivial) rfl
  · show X11_sunOf_L16_b N m (X11_sunOf_L16 N m F) 264 c (sunTo I l c _) (c % I 0 0 + 1 + (((I 0 0 - 1 - c % I 0 0).toNat : Nat) : Int)) = _
    refine wp_eq ?_
    unfold X11_sunOf_L16_b
    refine wp_b (gR14 r) ?_
    refine wp_b (md_bank h) ?_
    refine wp_b (md_s14 h) ?_
    rw [if_pos (by omega)]
    exact wp_some rfl
/-- how many of the first things are cloths -/
def clTo (I : Isl) : Nat → Int
  | 0 => 0
  | t + 1 => clTo I t + bi (I 11 t = 0)
/-- the cloths are the things of sort 0, in their order -/
def Cl (I : Isl) : Prop := I 12 0 = clTo I (nT I) ∧ ∀ t : Nat, t < nT I → I 11 t = 0 → I 13 (clTo I t) = t
theorem clTo_in (I : Isl) (t : Nat) : 0 ≤ clTo I t ∧ clTo I t ≤ t := by
  induction t with
  | zero => exact ⟨Int.le_refl _, Int.le_refl _⟩
  | succ t ih =>
    have := bi_in (I 11 t = 0)
    have e : clTo I (t + 1) = clTo I t + bi (I 11 t = 0) := rfl
    omega
theorem clTo_mono (I : Isl) (t : Nat) : ∀ d : Nat, clTo I t ≤ clTo I (t + d) := by
  intro d
  induction d with
  | zero => exact Int.le_refl _
  | succ d ih =>
    have := bi_in (I 11 (t + d : Nat) = 0)
    have e : clTo I (t + d + 1) = clTo I (t + d) + bi (I 11 (t + d : Nat) = 0) := rfl
    rw [show t + (d + 1) = t + d + 1 from rfl]
    omega
theorem cl_at {I : Isl} {k : Int} (k0 : 0 ≤ k) : ∀ n : Nat, k < clTo I n → ∃ t : Nat, t < n ∧ I 11 t = 0 ∧ clTo I t = k := by
  intro n
  induction n with
  | zero => intro h; exact absurd h (by show ¬k < 0; omega)
  | succ n ih =>
    intro h
    have e : clTo I (n + 1) = clTo I n + bi (I 11 n = 0) := rfl
    by_cases q : k < clTo I n
    · obtain ⟨t, h1, h2, h3⟩ := ih q
      exact ⟨t, by omega, h2, h3⟩
    · by_cases y : I 11 n = 0
      · rw [← bi_t y] at e
        exact ⟨n, by omega, y, by omega⟩
      · rw [← bi_f y] at e
        omega
/-- the k-th cloth is a thing of sort 0 -/
theorem cl_ok {I : Isl} (n : Cn I) (cl : Cl I) {k : Int} (k0 : 0 ≤ k) (k1 : k < I 12 0) : ∃ t : Nat, t < nT I ∧ I 11 t = 0 ∧ clTo I t = k ∧ I 13 k = t := by
  obtain ⟨t, h1, h2, h3⟩ := cl_at k0 (nT I) (by rw [← cl.1]; exact k1)
  exact ⟨t, h1, h2, h3, by rw [← h3]; exact cl.2 t h1 h2⟩
theorem m_cloths {N : Nat} (hN : 2000 ≤ N) {m : Mem} {b : Nat} {I : Isl} (r : Refs m) (h : MD m b I) (n : Cn I) (cl : Cl I) : X11_cloths N 264 m = some (I 12 0) := by
  obtain ⟨n1, n2, n3, n4, n5, n6⟩ := id n
  refine wp_eq ?_
  unfold X11_cloths
  refine wp_k k264 ?_
  refine wp_of (lp_2 (clTo I) Tr (fun F x i => X11_cloths_L4 N m F 264 x i) (nT I) (I 12 0) trivial (fun F j hj _ ih => ?_) (fun F _ => ?_) N (by omega)) rfl
  · show X11_cloths_L4_b N m (X11_cloths_L4 N m F) 264 (clTo I j) j = _
    have e : clTo I (j + 1) = clTo I j + bi (I 11 j = 0) := rfl
    have b1 := clTo_in I j
    refine wp_eq ?_
    by_cases q : I 11 j = 0
    · rw [← bi_t q] at e
      (unfold X11_cloths_L4_b; simp only [X11_cloths_J31]; repeat' ((with_reducible show Wp _ _); first | with_reducible exact wp_some rfl | with_reducible refine wp_some ?_ | with_reducible refine wp_z0 ?_ | with_reducible refine wp_z1 ?_ | with_reducible exact wp_of (ih _ _ (by first | omega | (simp (disch := omega) only [wI_of2] <;> omega)) (by first | omega | (simp (disch := omega) only [wI_of2] <;> omega)) (tr _)) rfl | with_reducible refine wp_b (md_bank (by assumption)) ?_ | with_reducible refine wp_b (g264 (by decide)) ?_ | with_reducible refine wp_b (gR23 (by assumption)) ?_ | with_reducible refine wp_b (md_s23 (by assumption)) ?_ | with_reducible refine wp_b (m_sortOf (by assumption) (by assumption) (by assumption) (by omega) (by omega)) ?_ | (with_reducible refine wp_if (fun hc => ?_) (fun hc => ?_) <;> (try simp (disch := omega) only [isC, bi_0, bi_1, wI_of2, Decidable.not_not, not_true_eq_false, not_false_eq_true] at hc) <;> (try (exfalso; omega)))))
    · rw [← bi_f q] at e
      (unfold X11_cloths_L4_b; simp only [X11_cloths_J31]; repeat' ((with_reducible show Wp _ _); first | with_reducible exact wp_some rfl | with_reducible refine wp_some ?_ | with_reducible refine wp_z0 ?_ | with_reducible refine wp_z1 ?_ | with_reducible exact wp_of (ih _ _ (by first | omega | (simp (disch := omega) only [wI_of2] <;> omega)) (by first | omega | (simp (disch := omega) only [wI_of2] <;> omega)) (tr _)) rfl | with_reducible refine wp_b (md_bank (by assumption)) ?_ | with_reducible refine wp_b (g264 (by decide)) ?_ | with_reducible refine wp_b (gR23 (by assumption)) ?_ | with_reducible refine wp_b (md_s23 (by assumption)) ?_ | with_reducible refine wp_b (m_sortOf (by assumption) (by assumption) (by assumption) (by omega) (by omega)) ?_ | (with_reducible refine wp_if (fun hc => ?_) (fun hc => ?_) <;> (try simp (disch := omega) only [isC, bi_0, bi_1, wI_of2, Decidable.not_not, not_true_eq_false, not_false_eq_true] at hc) <;> (try (exfalso; omega)))))
  · show X11_cloths_L4_b N m (X11_cloths_L4 N m F) 264 (clTo I (nT I)) (nT I) = _
    refine wp_eq ?_
    (unfold X11_cloths_L4_b; simp only [X11_cloths_J31]; repeat' ((with_reducible show Wp _ _); first | with_reducible exact wp_some rfl | with_reducible refine wp_some ?_ | with_reducible refine wp_z0 ?_ | with_reducible refine wp_z1 ?_ | with_reducible refine wp_b (md_bank (by assumption)) ?_ | with_reducible refine wp_b (g264 (by decide)) ?_ | with_reducible refine wp_b (gR23 (by assumption)) ?_ | with_reducible refine wp_b (md_s23 (by assumption)) ?_ | with_reducible refine wp_b (m_sortOf (by assumption) (by assumption) (by assumption) (by omega) (by omega)) ?_ | (with_reducible refine wp_if (fun hc => ?_) (fun hc => ?_) <;> (try simp (disch := omega) only [isC, bi_0, bi_1, wI_of2, Decidable.not_not, not_true_eq_false, not_false_eq_true] at hc) <;> (try (exfalso; omega)))))
    all_goals exact cl.1.symm
theorem m_cloth {N : Nat} (hN : 2000 ≤ N) {m : Mem} {b : Nat} {I : Isl} (r : Refs m) (h : MD m b I) (n : Cn I) (cl : Cl I) {k : Int} (k0 : 0 ≤ k) (k1 : k < I 12 0) : X11_cloth N 264 k m = some (I 13 k) := by
  obtain ⟨t, ht, hs, hk, hv⟩ := cl_ok n cl k0 k1
  obtain ⟨n1, n2, n3, n4, n5, n6⟩ := id n
  rw [hv]
  refine wp_eq ?_
  unfold X11_cloth
  refine wp_k k264 ?_
  have e0 : k = k - clTo I 0 := by show k = k - 0; omega
  rw [e0]
  refine wp_of (lp_2 (fun j => k - clTo I j) (fun j => j ≤ t) (fun F x i => X11_cloth_L4 N m F 264 x i) (nT I) _ (by omega) (fun F j hj hS ih => ?_) (fun F hS => ?_) N (by omega)) rfl
  · show X11_cloth_L4_b N m (X11_cloth_L4 N m F) 264 (k - clTo I j) j = _
    have e : clTo I (j + 1) = clTo I j + bi (I 11 j = 0) := rfl
    have b1 := clTo_in I j
    refine wp_eq ?_
    by_cases y : j = t
    · rw [y]
      rw [y] at b1
      (unfold X11_cloth_L4_b; simp only [X11_cloth_J37]; repeat' ((with_reducible show Wp _ _); first | with_reducible exact wp_some rfl | with_reducible refine wp_some ?_ | with_reducible refine wp_z0 ?_ | with_reducible refine wp_z1 ?_ | with_reducible refine wp_b (md_bank (by assumption)) ?_ | with_reducible refine wp_b (g264 (by decide)) ?_ | with_reducible refine wp_b (gR23 (by assumption)) ?_ | with_reducible refine wp_b (md_s23 (by assumption)) ?_ | with_reducible refine wp_b (m_sortOf (by assumption) (by assumption) (by assumption) (by omega) (by omega)) ?_ | (with_reducible refine wp_if (fun hc => ?_) (fun hc => ?_) <;> (try simp (disch := omega) only [isC, bi_0, bi_1, wI_of2, Decidable.not_not, not_true_eq_false, not_false_eq_true] at hc) <;> (try (exfalso; omega)))))
    · have mo := clTo_mono I (j + 1) (t - (j + 1))
      rw [show j + 1 + (t - (j + 1)) = t from by omega] at mo
      by_cases q : I 11 j = 0
      · rw [← bi_t q] at e
        (unfold X11_cloth_L4_b; simp only [X11_cloth_J37]; repeat' ((with_reducible show Wp _ _); first | with_reducible exact wp_some rfl | with_reducible refine wp_some ?_ | with_reducible refine wp_z0 ?_ | with_reducible refine wp_z1 ?_ | with_reducible exact wp_of (ih _ _ (by first | omega | (simp (disch := omega) only [wI_of2] <;> omega)) (by first | omega | (simp (disch := omega) only [wI_of2] <;> omega)) (by omega)) rfl | with_reducible refine wp_b (md_bank (by assumption)) ?_ | with_reducible refine wp_b (g264 (by decide)) ?_ | with_reducible refine wp_b (gR23 (by assumption)) ?_ | with_reducible refine wp_b (md_s23 (by assumption)) ?_ | with_reducible refine wp_b (m_sortOf (by assumption) (by assumption) (by assumption) (by omega) (by omega)) ?_ | (with_reducible refine wp_if (fun hc => ?_) (fun hc => ?_) <;> (try simp (disch := omega) only [isC, bi_0, bi_1, wI_of2, Decidable.not_not, not_true_eq_false, not_false_eq_true] at hc) <;> (try (exfalso; omega)))))
      · rw [← bi_f q] at e
        (unfold X11_cloth_L4_b; simp only [X11_cloth_J37]; repeat' ((with_reducible show Wp _ _); first | with_reducible exact wp_some rfl | with_reducible refine wp_some ?_ | with_reducible refine wp_z0 ?_ | with_reducible refine wp_z1 ?_ | with_reducible exact wp_of (ih _ _ (by first | omega | (simp (disch := omega) only [wI_of2] <;> omega)) (by first | omega | (simp (disch := omega) only [wI_of2] <;> omega)) (by omega)) rfl | with_reducible refine wp_b (md_bank (by assumption)) ?_ | with_reducible refine wp_b (g264 (by decide)) ?_ | with_reducible refine wp_b (gR23 (by assumption)) ?_ | with_reducible refine wp_b (md_s23 (by assumption)) ?_ | with_reducible refine wp_b (m_sortOf (by assumption) (by assumption) (by assumption) (by omega) (by omega)) ?_ | (with_reducible refine wp_if (fun hc => ?_) (fun hc => ?_) <;> (try simp (disch := omega) only [isC, bi_0, bi_1, wI_of2, Decidable.not_not, not_true_eq_false, not_false_eq_true] at hc) <;> (try (exfalso; omega)))))
  · exact absurd hS (by omega)
theorem m_dawn {m : Mem} (r : Refs m) {t : Int} (t0 : 0 ≤ t) (t1 : t < 10) : X11_dawnOf 264 t m = some (m 305 (120 + t.toNat)) := by
  refine wp_eq ?_
  unfold X11_dawnOf
  refine wp_k k264 ?_
  refine wp_b (gR66 r) ?_
  rw [wI_of2 (x := 120 + t) (by omega) (by omega)]
  refine wp_b (arI 130 (by decide +kernel) (by omega) (by omega) m) ?_
  exact wp_some (by rw [show (120 + t).toNat = 120 + t.toNat from by omega])
theorem m_comes {N : Nat} (hN : 2000 ≤ N) {m : Mem} {b v : Nat} {I : Isl} {l : Lnd} {sk : Int → Int} (r : Refs m) (h : MD m b I) (hl : MY m v l (nT I)) (z : Sz I) (n : Cn I) (kc : Kc I) (tc : Tc I l) (hw : ∀ t : Nat, t < nT I → m 305 (120 + t) = dwt I l sk (l 1 t) (I 10 t) 12) (k : Int) : X11_comes N 264 v k m = some (cms I l sk k) := by
  obtain ⟨n1, n2, n3, n4, n5, n6⟩ := id n
  refine wp_eq ?_
  unfold X11_comes
  refine wp_k k264 ?_
  refine wp_of (lp_2 (cmsTo I l sk k) Tr (fun F x i => X11_comes_L5 N m F 264 v k x i) (nT I) _ trivial (fun F j hj _ ih => ?_) (fun F _ => ?_) N (by omega)) rfl
  · show X11_comes_L5_b N m (X11_comes_L5 N m F) 264 v k (cmsTo I l sk k j) j = _
    have e : cmsTo I l sk k (j + 1) = cmsTo I l sk k j + if ner I (l 1 j) = k then dwt I l sk (l 1 j) (I 10 j) 12 else 0 := rfl
    have e1 := cmsTo_in I l sk k j
    have tj := tc j (by omega) (by omega)
    have dj := (dwt_in I l sk (l 1 j) (I 10 j) 12).1
    have hj2 := hw j hj
    refine wp_eq ?_
    unfold X11_comes_L5_b; simp only [X11_comes_J41]
    refine wp_b (gR23 r) ?_
    refine wp_b (md_bank h) ?_
    refine wp_b (md_s23 h) ?_
    rw [if_neg (by omega)]
    refine wp_b (m_ner hN r h hl z n kc (by omega) (by omega) tj.1 tj.2) ?_
    by_cases q : ner I (l 1 j) = k
    · rw [if_neg (fun x => x q)]
      rw [if_pos q] at e
      refine wp_b (m_dawn r (by omega) (by omega)) ?_
      rw [Int.toNat_natCast, hj2]
      exact wp_of (ih _ _ (by rw [e]; exact wI_of2 (by omega) (by omega)) (by first | omega | (simp (disch := omega) only [wI_of2] <;> omega)) trivial) rfl
    · rw [if_pos q]
      rw [if_neg q] at e
      exact wp_of (ih _ _ (by rw [e]; exact wI_of2 (by omega) (by omega)) (by first | omega | (simp (disch := omega) only [wI_of2] <;> omega)) trivial) rfl
  · show X11_comes_L5_b N m (X11_comes_L5 N m F) 264 v k (cmsTo I l sk k (nT I)) (nT I) = _
    refine wp_eq ?_
    (unfold X11_comes_L5_b; simp only [X11_comes_J41]; repeat' ((with_reducible show Wp _ _); first | with_reducible exact wp_some rfl | with_reducible refine wp_some ?_ | with_reducible refine wp_z0 ?_ | with_reducible refine wp_z1 ?_ | with_reducible refine wp_b (md_bank (by assumption)) ?_ | with_reducible refine wp_b (g264 (by decide)) ?_ | with_reducible refine wp_b (gR23 (by assumption)) ?_ | with_reducible refine wp_b (md_s23 (by assumption)) ?_ | (with_reducible refine wp_if (fun hc => ?_) (fun hc => ?_) <;> (try simp (disch := omega) only [isC, bi_0, bi_1, wI_of2, Decidable.not_not, not_true_eq_false, not_false_eq_true] at hc) <;> (try (exfalso; omega)))))
    all_goals rfl
