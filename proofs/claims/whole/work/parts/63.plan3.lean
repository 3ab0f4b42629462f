/-! the class's plan: where cold flows, what is nearest, what is in a cell -/
def hof (I : Isl) (c f : Int) : Int := if f = -1 then I 3 c else I 3 f
def lowTo (I : Isl) (l : Lnd) (c : Int) : Nat → Int
  | 0 => -1
  | s + 1 => if nbr I s c = -1 ∨ hasW l (nbr I s c) = 1 ∨ hof I c (lowTo I l c s) ≤ I 3 (nbr I s c) then lowTo I l c s else nbr I s c
def low (I : Isl) (l : Lnd) (c : Int) : Int := lowTo I l c 4
theorem x_low {N : Nat} (hN : 2000 ≤ N) {m : Mem} {P L : Nat} {I : Isl} {l : Lnd} (r : Refs m) (h : PD m P I) (hl : LD m L l) (z : Sz I) {c : Int} (c0 : 0 ≤ c) (c1 : c < nC I) : X5_lower N P L c m = some (low I l c) := by
  obtain ⟨z1, z2, z3, z4, z5, z6, z7⟩ := id z
  have ic : isC I c = 1 := bi_1.mpr ⟨c0, c1⟩
  refine wp_eq ?_
  unfold X5_lower; simp only [X5_lower_J20]
  refine wp_k (pd_K h) ?_
  refine wp_b (x_isCell h z c) ?_
  rw [if_neg (by omega)]
  refine wp_b (pd_R r h (by decide)) ?_
  refine wp_b (pd_r3 h c0 (by omega)) ?_
  refine wp_of (lp_3 (lowTo I l c) (fun j => hof I c (lowTo I l c j)) Tr (fun F x y i => X5_lower_L25 N m F P L c x y i) 4 (low I l c) trivial (fun F j hj _ ih => ?_) (fun F _ => ?_) N (by omega)) rfl
  · show X5_lower_L25_b N m (X5_lower_L25 N m F) P L c (lowTo I l c j) (hof I c (lowTo I l c j)) j = _
    have e : lowTo I l c (j + 1) = if nbr I j c = -1 ∨ hasW l (nbr I j c) = 1 ∨ hof I c (lowTo I l c j) ≤ I 3 (nbr I j c) then lowTo I l c j else nbr I j c := rfl
    have e1 := nbr_in I j c
    have e3 := hasW_in l (nbr I j c)
    refine wp_eq ?_
    by_cases q : nbr I j c = -1 ∨ hasW l (nbr I j c) = 1 ∨ hof I c (lowTo I l c j) ≤ I 3 (nbr I j c)
    · rw [if_pos q] at e
      (unfold X5_lower_L25_b; simp only [X5_lower_J92]; repeat' ((with_reducible show Wp _ _); first | with_reducible exact wp_some rfl | with_reducible refine wp_some ?_ | with_reducible refine wp_z0 ?_ | with_reducible refine wp_z1 ?_ | with_reducible exact wp_of (ih _ _ _ (by rw [e]) (by rw [e]) (by first | omega | (simp (disch := omega) only [wI_of2] <;> omega)) (tr _)) rfl | with_reducible refine wp_b (pd_R (by assumption) (by assumption) (by decide)) ?_ | with_reducible refine wp_b (pd_side (by assumption) (by assumption) (by omega) (by omega)) ?_ | with_reducible refine wp_b (pd_nb (by assumption) (by omega) (by omega) (by omega) (by omega) (by omega)) ?_ | with_reducible refine wp_b (pd_r3 (by assumption) (by omega) (by omega)) ?_ | with_reducible refine wp_b (x_hasWall (by assumption) (by assumption) _) ?_ | with_reducible refine wp_b (x_isCell (by assumption) (by assumption) _) ?_ | (with_reducible refine wp_if (fun hc => ?_) (fun hc => ?_) <;> (try simp (disch := omega) only [isC, bi_0, bi_1, wI_of2, Decidable.not_not, not_true_eq_false, not_false_eq_true] at hc) <;> (try (exfalso; omega)))))
    · rw [if_neg q] at e
      have e4 : hof I c (nbr I j c) = I 3 (nbr I j c) := if_neg (by omega)
      (unfold X5_lower_L25_b; simp only [X5_lower_J92]; repeat' ((with_reducible show Wp _ _); first | with_reducible exact wp_some rfl | with_reducible refine wp_some ?_ | with_reducible refine wp_z0 ?_ | with_reducible refine wp_z1 ?_ | with_reducible exact wp_of (ih _ _ _ (by rw [e]) (by rw [e, e4]) (by first | omega | (simp (disch := omega) only [wI_of2] <;> omega)) (tr _)) rfl | with_reducible refine wp_b (pd_R (by assumption) (by assumption) (by decide)) ?_ | with_reducible refine wp_b (pd_side (by assumption) (by assumption) (by omega) (by omega)) ?_ | with_reducible refine wp_b (pd_nb (by assumption) (by omega) (by omega) (by omega) (by omega) (by omega)) ?_ | with_reducible refine wp_b (pd_r3 (by assumption) (by omega) (by omega)) ?_ | with_reducible refine wp_b (x_hasWall (by assumption) (by assumption) _) ?_ | with_reducible refine wp_b (x_isCell (by assumption) (by assumption) _) ?_ | (with_reducible refine wp_if (fun hc => ?_) (fun hc => ?_) <;> (try simp (disch := omega) only [isC, bi_0, bi_1, wI_of2, Decidable.not_not, not_true_eq_false, not_false_eq_true] at hc) <;> (try (exfalso; omega)))))
  · show X5_lower_L25_b N m (X5_lower_L25 N m F) P L c (lowTo I l c 4) _ (4 : Nat) = _
    refine wp_eq ?_
    (unfold X5_lower_L25_b; simp only [X5_lower_J92]; repeat' ((with_reducible show Wp _ _); first | with_reducible exact wp_some rfl | with_reducible refine wp_some ?_ | with_reducible refine wp_z0 ?_ | with_reducible refine wp_z1 ?_ | with_reducible refine wp_b (pd_R (by assumption) (by assumption) (by decide)) ?_ | with_reducible refine wp_b (pd_side (by assumption) (by assumption) (by omega) (by omega)) ?_ | with_reducible refine wp_b (pd_nb (by assumption) (by omega) (by omega) (by omega) (by omega) (by omega)) ?_ | with_reducible refine wp_b (pd_r3 (by assumption) (by omega) (by omega)) ?_ | with_reducible refine wp_b (x_hasWall (by assumption) (by assumption) _) ?_ | with_reducible refine wp_b (x_isCell (by assumption) (by assumption) _) ?_ | (with_reducible refine wp_if (fun hc => ?_) (fun hc => ?_) <;> (try simp (disch := omega) only [isC, bi_0, bi_1, wI_of2, Decidable.not_not, not_true_eq_false, not_false_eq_true] at hc) <;> (try (exfalso; omega)))))
    all_goals rfl
def stp (I : Isl) (a b : Int) : Int := (a % I 0 0 - b % I 0 0).natAbs + (a / I 0 0 - b / I 0 0).natAbs
theorem stp_in {I : Isl} (z : Sz I) {a b : Int} (a0 : 0 ≤ a) (a1 : a < nC I) (b0 : 0 ≤ b) (b1 : b < nC I) : 0 ≤ stp I a b ∧ stp I a b ≤ 11 := by
  have p := xy_of z a0 a1
  have q := xy_of z b0 b1
  obtain ⟨z1, z2, z3, z4, z5, z6, z7⟩ := id z
  unfold stp
  omega
theorem stp_w {x y : Int} (hx : -7 ≤ x ∧ x ≤ 7) (hy : -7 ≤ y ∧ y ≤ 7) : wI (wI ((wI x).natAbs : Int) + wI ((wI y).natAbs : Int)) = (x.natAbs : Int) + (y.natAbs : Int) := by
  rw [wI_of2 (x := x) (by omega) (by omega), wI_of2 (x := y) (by omega) (by omega), wI_of2 (x := (x.natAbs : Int)) (by omega) (by omega), wI_of2 (x := (y.natAbs : Int)) (by omega) (by omega), wI_of2 (by omega) (by omega)]
theorem x_steps {m : Mem} {P : Nat} {I : Isl} (h : PD m P I) (z : Sz I) {a b : Int} (a0 : 0 ≤ a) (a1 : a < nC I) (b0 : 0 ≤ b) (b1 : b < nC I) : X5_steps P a b m = some (stp I a b) := by
  have w := (sz_c z a0 a1).1
  have p := xy_of z a0 a1
  have q := xy_of z b0 b1
  obtain ⟨z1, z2, z3, z4, z5, z6, z7⟩ := id z
  refine wp_eq ?_
  unfold X5_steps
  refine wp_k (pd_K h) ?_
  refine wp_b (x_acrossOf h z w a0) ?_
  refine wp_b (x_acrossOf h z w b0) ?_
  refine wp_b (x_downOf h z w a0 a1) ?_
  refine wp_b (x_downOf h z w b0 b1) ?_
  refine wp_some ?_
  unfold stp
  exact stp_w (by omega) (by omega)
def nerTo (I : Isl) (c : Int) : Nat → Int
  | 0 => -1
  | k + 1 => if nerTo I c k = -1 ∨ stp I c (I 7 k) < stp I c (I 7 (nerTo I c k)) then k else nerTo I c k
def ner (I : Isl) (c : Int) : Int := nerTo I c (nK I)
def farTo (I : Isl) (c : Int) (k : Nat) : Int := if nerTo I c k = -1 then 42 else stp I c (I 7 (nerTo I c k))
/-- where cisterns are -/
def Kc (I : Isl) : Prop := ∀ k : Int, 0 ≤ k → k < I 6 0 → 0 ≤ I 7 k ∧ I 7 k < nC I
theorem nerTo_in (I : Isl) (c : Int) (k : Nat) : (k = 0 ∧ nerTo I c k = -1) ∨ 0 ≤ nerTo I c k ∧ nerTo I c k < k := by
  induction k with
  | zero => exact Or.inl ⟨rfl, rfl⟩
  | succ k ih =>
    have e : nerTo I c (k + 1) = if nerTo I c k = -1 ∨ stp I c (I 7 k) < stp I c (I 7 (nerTo I c k)) then (k : Int) else nerTo I c k := rfl
    rw [e]
    by_cases q : nerTo I c k = -1 ∨ stp I c (I 7 k) < stp I c (I 7 (nerTo I c k))
    · rw [if_pos q]; exact Or.inr ⟨by omega, by omega⟩
    · rw [if_neg q]; omega
theorem x_ner {N : Nat} (hN : 2000 ≤ N) {m : Mem} {P : Nat} {I : Isl} (r : Refs m) (h : PD m P I) (z : Sz I) (n : Cn I) (kc : Kc I) {c : Int} (c0 : 0 ≤ c) (c1 : c < nC I) : X5_nearest N P c m = some (ner I c) := by
  obtain ⟨z1, z2, z3, z4, z5, z6, z7⟩ := id z
  obtain ⟨n1, n2, n3, n4, n5, n6⟩ := id n
  refine wp_eq ?_
  unfold X5_nearest
  refine wp_k (pd_K h) ?_
  refine wp_of (lp_3 (nerTo I c) (farTo I c) Tr (fun F x y i => X5_nearest_L8 N m F P c x y i) (nK I) (ner I c) trivial (fun F j hj _ ih => ?_) (fun F _ => ?_) N (by omega)) rfl
  · show X5_nearest_L8_b N m (X5_nearest_L8 N m F) P c (nerTo I c j) (farTo I c j) j = _
    have e : nerTo I c (j + 1) = if nerTo I c j = -1 ∨ stp I c (I 7 j) < stp I c (I 7 (nerTo I c j)) then (j : Int) else nerTo I c j := rfl
    have b0 := kc j (by omega) (by omega)
    have b2 := stp_in z c0 c1 b0.1 b0.2
    have b3 := nerTo_in I c j
    have f : farTo I c (j + 1) = if nerTo I c (j + 1) = -1 then 42 else stp I c (I 7 (nerTo I c (j + 1))) := rfl
    have g : farTo I c j = if nerTo I c j = -1 then 42 else stp I c (I 7 (nerTo I c j)) := rfl
    refine wp_eq ?_
    by_cases q : nerTo I c j = -1 ∨ stp I c (I 7 j) < stp I c (I 7 (nerTo I c j))
    · rw [if_pos q] at e
      rw [e, if_neg (by omega)] at f
      have g2 : stp I c (I 7 j) < farTo I c j := by
        rw [g]
        by_cases q2 : nerTo I c j = -1
        · rw [if_pos q2]; omega
        · rw [if_neg q2]; omega
      clear g
      (unfold X5_nearest_L8_b; simp only [X5_nearest_J43]; repeat' ((with_reducible show Wp _ _); first | with_reducible exact wp_some rfl | with_reducible refine wp_some ?_ | with_reducible refine wp_z0 ?_ | with_reducible refine wp_z1 ?_ | with_reducible exact wp_of (ih _ _ _ (by rw [e]) (by rw [f]) (by first | omega | (simp (disch := omega) only [wI_of2] <;> omega)) (tr _)) rfl | with_reducible refine wp_b (pd_I (by assumption) (by decide)) ?_ | with_reducible refine wp_b (pd_R (by assumption) (by assumption) (by decide)) ?_ | with_reducible refine wp_b (pd_r7 (by assumption) (by omega) (by omega)) ?_ | with_reducible refine wp_b (x_steps (by assumption) (by assumption) (by omega) (by omega) (by omega) (by omega)) ?_ | (with_reducible refine wp_if (fun hc => ?_) (fun hc => ?_) <;> (try simp (disch := omega) only [isC, bi_0, bi_1, wI_of2, Decidable.not_not, not_true_eq_false, not_false_eq_true] at hc) <;> (try (exfalso; omega)))))
    · rw [if_neg q] at e
      rw [e, if_neg (by omega)] at f
      rw [if_neg (by omega)] at g
      (unfold X5_nearest_L8_b; simp only [X5_nearest_J43]; repeat' ((with_reducible show Wp _ _); first | with_reducible exact wp_some rfl | with_reducible refine wp_some ?_ | with_reducible refine wp_z0 ?_ | with_reducible refine wp_z1 ?_ | with_reducible exact wp_of (ih _ _ _ (by rw [e]) (by rw [f, g]) (by first | omega | (simp (disch := omega) only [wI_of2] <;> omega)) (tr _)) rfl | with_reducible refine wp_b (pd_I (by assumption) (by decide)) ?_ | with_reducible refine wp_b (pd_R (by assumption) (by assumption) (by decide)) ?_ | with_reducible refine wp_b (pd_r7 (by assumption) (by omega) (by omega)) ?_ | with_reducible refine wp_b (x_steps (by assumption) (by assumption) (by omega) (by omega) (by omega) (by omega)) ?_ | (with_reducible refine wp_if (fun hc => ?_) (fun hc => ?_) <;> (try simp (disch := omega) only [isC, bi_0, bi_1, wI_of2, Decidable.not_not, not_true_eq_false, not_false_eq_true] at hc) <;> (try (exfalso; omega)))))
  · show X5_nearest_L8_b N m (X5_nearest_L8 N m F) P c (nerTo I c (nK I)) (farTo I c (nK I)) (nK I) = _
    refine wp_eq ?_
    (unfold X5_nearest_L8_b; simp only [X5_nearest_J43]; repeat' ((with_reducible show Wp _ _); first | with_reducible exact wp_some rfl | with_reducible refine wp_some ?_ | with_reducible refine wp_z0 ?_ | with_reducible refine wp_z1 ?_ | with_reducible refine wp_b (pd_I (by assumption) (by decide)) ?_ | with_reducible refine wp_b (pd_R (by assumption) (by assumption) (by decide)) ?_ | with_reducible refine wp_b (pd_r7 (by assumption) (by omega) (by omega)) ?_ | with_reducible refine wp_b (x_steps (by assumption) (by assumption) (by omega) (by omega) (by omega) (by omega)) ?_ | (with_reducible refine wp_if (fun hc => ?_) (fun hc => ?_) <;> (try simp (disch := omega) only [isC, bi_0, bi_1, wI_of2, Decidable.not_not, not_true_eq_false, not_false_eq_true] at hc) <;> (try (exfalso; omega)))))
    all_goals rfl
theorem x_hasCistern {N : Nat} (hN : 2000 ≤ N) {m : Mem} {P : Nat} {I : Isl} (r : Refs m) (h : PD m P I) (n : Cn I) (c : Int) : X5_hasCistern N P c m = some (bi (¬fnd (I 7) c (nK I) = -1)) := by
  obtain ⟨n1, n2, n3, n4, n5, n6⟩ := id n
  refine wp_eq ?_
  unfold X5_hasCistern
  refine wp_k (pd_K h) ?_
  refine wp_of (lp_0 (fun j => fnd (I 7) c j = -1) (fun F i => X5_hasCistern_L2 N m F P c i) (nK I) (bi (¬fnd (I 7) c (nK I) = -1)) rfl (fun F j hj hS ih => ?_) (fun F hS => ?_) N (by omega)) rfl
  · show X5_hasCistern_L2_b N m (X5_hasCistern_L2 N m F) P c j = _
    refine wp_eq ?_
    (unfold X5_hasCistern_L2_b; repeat' ((with_reducible show Wp _ _); first | with_reducible exact wp_some rfl | with_reducible refine wp_some ?_ | with_reducible refine wp_z0 ?_ | with_reducible refine wp_z1 ?_ | with_reducible exact wp_of (ih _ (by first | omega | (simp (disch := omega) only [wI_of2] <;> omega)) (fnd_no hS (by assumption))) rfl | with_reducible refine wp_b (pd_I (by assumption) (by decide)) ?_ | with_reducible refine wp_b (pd_R (by assumption) (by assumption) (by decide)) ?_ | with_reducible refine wp_b (pd_r7 (by assumption) (by omega) (by omega)) ?_ | (with_reducible refine wp_if (fun hc => ?_) (fun hc => ?_) <;> (try simp (disch := omega) only [isC, bi_0, bi_1, wI_of2, Decidable.not_not, not_true_eq_false, not_false_eq_true] at hc) <;> (try (exfalso; omega)))))
    exact bi_t (by rw [fnd_yes hS (by assumption) hj]; omega)
  · show X5_hasCistern_L2_b N m (X5_hasCistern_L2 N m F) P c (nK I) = _
    refine wp_eq ?_
    (unfold X5_hasCistern_L2_b; repeat' ((with_reducible show Wp _ _); first | with_reducible exact wp_some rfl | with_reducible refine wp_some ?_ | with_reducible refine wp_z0 ?_ | with_reducible refine wp_z1 ?_ | with_reducible refine wp_b (pd_I (by assumption) (by decide)) ?_ | with_reducible refine wp_b (pd_R (by assumption) (by assumption) (by decide)) ?_ | with_reducible refine wp_b (pd_r7 (by assumption) (by omega) (by omega)) ?_ | (with_reducible refine wp_if (fun hc => ?_) (fun hc => ?_) <;> (try simp (disch := omega) only [isC, bi_0, bi_1, wI_of2, Decidable.not_not, not_true_eq_false, not_false_eq_true] at hc) <;> (try (exfalso; omega)))))
    exact bi_f (by rw [hS]; omega)
def cont (I : Isl) (l : Lnd) (c : Int) : Int := if hasW l c = 1 then 1 else if isC I c = 0 then 0 else if I 4 c = 1 then 2 else if ¬fnd (l 1) c (nT I) = -1 then 3 else if ¬fnd (I 7) c (nK I) = -1 then 4 else 0
theorem x_cont {N : Nat} (hN : 2000 ≤ N) {m : Mem} {P L : Nat} {I : Isl} {l : Lnd} (r : Refs m) (h : PD m P I) (hl : LD m L l) (z : Sz I) (n : Cn I) (c : Int) : X5_contents N P L c m = some (cont I l c) := by
  obtain ⟨z1, z2, z3, z4, z5, z6, z7⟩ := id z
  obtain ⟨n1, n2, n3, n4, n5, n6⟩ := id n
  have e1 := hasW_in l c
  refine wp_eq ?_
  unfold X5_contents
  refine wp_k (pd_K h) ?_
  refine wp_b (x_hasWall r hl c) ?_
  unfold cont
  by_cases q : hasW l c = 1
  · rw [if_neg (by omega), if_pos q]
    exact wp_some rfl
  rw [if_pos (by omega), if_neg q]
  refine wp_b (x_isCell h z c) ?_
  by_cases q1 : isC I c = 0
  · rw [if_neg (fun x => x q1), if_pos q1]
    exact wp_some rfl
  rw [if_pos q1, if_neg q1]
  have q2 : 0 ≤ c ∧ c < nC I := by
    unfold isC at q1
    simp only [bi_0, Decidable.not_not] at q1
    exact q1
  refine wp_b (pd_R r h (by decide)) ?_
  refine wp_b (pd_r4 h (by omega) (by omega)) ?_
  by_cases q3 : I 4 c = 1
  · rw [if_neg (fun x => x q3), if_pos q3]
    exact wp_some rfl
  rw [if_pos q3, if_neg q3]
  refine wp_of (lp_0 (fun j => fnd (l 1) c j = -1) (fun F i => X5_contents_L34 N _ m F P L c i) (nT I) _ rfl (fun F j hj hS ih => ?_) (fun F hS => ?_) N (by omega)) rfl
  · show X5_contents_L34_b N _ m (X5_contents_L34 N _ m F) P L c j = _
    refine wp_eq ?_
    (unfold X5_contents_L34_b; repeat' ((with_reducible show Wp _ _); first | with_reducible exact wp_some rfl | with_reducible refine wp_some ?_ | with_reducible refine wp_z0 ?_ | with_reducible refine wp_z1 ?_ | with_reducible exact wp_of (ih _ (by first | omega | (simp (disch := omega) only [wI_of2] <;> omega)) (fnd_no hS (by assumption))) rfl | with_reducible refine wp_b (pd_I (by assumption) (by decide)) ?_ | with_reducible refine wp_b (ld_R (by assumption) (by assumption) (by decide)) ?_ | with_reducible refine wp_b (ld_r1 (by assumption) (by omega) (by omega)) ?_ | (with_reducible refine wp_if (fun hc => ?_) (fun hc => ?_) <;> (try simp (disch := omega) only [isC, bi_0, bi_1, wI_of2, Decidable.not_not, not_true_eq_false, not_false_eq_true] at hc) <;> (try (exfalso; omega)))))
    rw [if_pos (by rw [fnd_yes hS (by assumption) hj]; omega)]
  · show X5_contents_L34_b N _ m (X5_contents_L34 N _ m F) P L c (nT I) = _
    refine wp_eq ?_
    rw [if_neg (by rw [hS]; omega)]
    (unfold X5_contents_L34_b; repeat' ((with_reducible show Wp _ _); first | with_reducible exact wp_some rfl | with_reducible refine wp_some ?_ | with_reducible refine wp_z0 ?_ | with_reducible refine wp_z1 ?_ | with_reducible refine wp_b (x_hasCistern hN r h n c) ?_ | with_reducible refine wp_b (pd_I (by assumption) (by decide)) ?_ | with_reducible refine wp_b (ld_R (by assumption) (by assumption) (by decide)) ?_ | with_reducible refine wp_b (ld_r1 (by assumption) (by omega) (by omega)) ?_ | (with_reducible refine wp_if (fun hc => ?_) (fun hc => ?_) <;> (try simp (disch := omega) only [isC, bi_0, bi_1, wI_of2, Decidable.not_not, not_true_eq_false, not_false_eq_true] at hc) <;> (try (exfalso; omega)))))
    · rw [if_neg (fun x => x (by assumption))]
    · rw [if_pos (by assumption)]
def isF (I : Isl) (l : Lnd) (c : Int) : Int := bi ((0 ≤ c ∧ c < nC I) ∧ cont I l c = 0)
theorem x_isFree {N : Nat} (hN : 2000 ≤ N) {m : Mem} {P L : Nat} {I : Isl} {l : Lnd} (r : Refs m) (h : PD m P I) (hl : LD m L l) (z : Sz I) (n : Cn I) (c : Int) : X5_isFree N P L c m = some (isF I l c) := by
  refine wp_eq ?_
  (unfold X5_isFree; repeat' ((with_reducible show Wp _ _); first | with_reducible exact wp_some rfl | with_reducible refine wp_some ?_ | with_reducible refine wp_z0 ?_ | with_reducible refine wp_z1 ?_ | with_reducible refine wp_k (pd_K (by assumption)) ?_ | with_reducible refine wp_b (x_cont (by omega) (by assumption) (by assumption) (by assumption) (by assumption) (by assumption) _) ?_ | with_reducible refine wp_b (x_isCell (by assumption) (by assumption) _) ?_ | (with_reducible refine wp_if (fun hc => ?_) (fun hc => ?_) <;> (try simp (disch := omega) only [isC, bi_0, bi_1, wI_of2, Decidable.not_not, not_true_eq_false, not_false_eq_true] at hc) <;> (try (exfalso; omega)))))
  all_goals first | exact bi_t (by omega) | exact bi_f (by omega)
theorem pd_st {m : Mem} {P : Nat} {I : Isl} (r : Refs m) (h : PD m P I) : getR 1 1 (P + ofs 5) m = some (P + 14) := by
  rcases h.1 with e | e <;> subst e
  · exact rc r 25 (by decide +kernel)
  · exact rc r 54 (by decide +kernel)
theorem pd_r21 {m : Mem} {P : Nat} {I : Isl} (h : PD m P I) {i : Int} (h0 : 0 ≤ i) (h1 : i < 10) : aldI (P + 14) i m = some (I 21 i) := by
  have q : shK (P + 14) = 1 ∧ shN (P + 14) = 10 := by rcases h.1 with e | e <;> subst e <;> decide +kernel
  unfold aldI
  rw [if_pos ⟨q.1, h0, by rw [q.2]; exact h1⟩, h.2.2.2.2 i h0 h1]
/-- what no act can move stands there -/
def fix (I : Isl) (i : Int) : Int := if I 11 i = 0 then -1 else I 21 i
def tkn (I : Isl) (c : Int) : Int := bi (¬(0 ≤ c ∧ c < nC I) ∨ I 4 c = 1 ∨ ¬fnd (I 7) c (nK I) = -1 ∨ ¬fnd (fix I) c (nT I) = -1)
theorem x_isTaken {N : Nat} (hN : 2000 ≤ N) {m : Mem} {P : Nat} {I : Isl} (r : Refs m) (h : PD m P I) (z : Sz I) (n : Cn I) (c : Int) : X5_isTaken N P c m = some (tkn I c) := by
  obtain ⟨z1, z2, z3, z4, z5, z6, z7⟩ := id z
  obtain ⟨n1, n2, n3, n4, n5, n6⟩ := id n
  refine wp_eq ?_
  (unfold X5_isTaken; repeat' ((with_reducible show Wp _ _); first | with_reducible exact wp_some rfl | with_reducible refine wp_some ?_ | with_reducible refine wp_z0 ?_ | with_reducible refine wp_z1 ?_ | with_reducible refine wp_k (pd_K (by assumption)) ?_ | with_reducible refine wp_b (pd_R (by assumption) (by assumption) (by decide)) ?_ | with_reducible refine wp_b (pd_r4 (by assumption) (by omega) (by omega)) ?_ | with_reducible refine wp_b (x_hasCistern (by omega) (by assumption) (by assumption) (by assumption) _) ?_ | with_reducible refine wp_b (x_isCell (by assumption) (by assumption) _) ?_ | (with_reducible refine wp_if (fun hc => ?_) (fun hc => ?_) <;> (try simp (disch := omega) only [isC, bi_0, bi_1, wI_of2, Decidable.not_not, not_true_eq_false, not_false_eq_true] at hc) <;> (try (exfalso; omega)))))
  all_goals try exact bi_t (by omega)
  refine wp_of (lp_0 (fun j => fnd (fix I) c j = -1) (fun F i => X5_isTaken_L30 N m F P c i) (nT I) (tkn I c) rfl (fun F j hj hS ih => ?_) (fun F hS => ?_) N (by omega)) rfl
  · show X5_isTaken_L30_b N m (X5_isTaken_L30 N m F) P c j = _
    have f : fix I j = if I 11 j = 0 then -1 else I 21 j := rfl
    refine wp_eq ?_
    by_cases q : I 11 j = 0
    · rw [if_pos q] at f
      (unfold X5_isTaken_L30_b; simp only [X5_isTaken_J62]; repeat' ((with_reducible show Wp _ _); first | with_reducible exact wp_some rfl | with_reducible refine wp_some ?_ | with_reducible refine wp_z0 ?_ | with_reducible refine wp_z1 ?_ | with_reducible exact wp_of (ih _ (by first | omega | (simp (disch := omega) only [wI_of2] <;> omega)) (fnd_no hS (by omega))) rfl | with_reducible refine wp_b (pd_I (by assumption) (by decide)) ?_ | with_reducible refine wp_b (pd_R (by assumption) (by assumption) (by decide)) ?_ | with_reducible refine wp_b (ld_R (by assumption) (by assumption) (by decide)) ?_ | with_reducible refine wp_b (pd_r11 (by assumption) (by omega) (by omega)) ?_ | with_reducible refine wp_b (ld_r1 (by assumption) (by omega) (by omega)) ?_ | (with_reducible refine wp_if (fun hc => ?_) (fun hc => ?_) <;> (try simp (disch := omega) only [isC, bi_0, bi_1, wI_of2, Decidable.not_not, not_true_eq_false, not_false_eq_true] at hc) <;> (try (exfalso; omega)))))
    · rw [if_neg q] at f
      (unfold X5_isTaken_L30_b; simp only [X5_isTaken_J62]; repeat' ((with_reducible show Wp _ _); first | with_reducible exact wp_some rfl | with_reducible refine wp_some ?_ | with_reducible refine wp_z0 ?_ | with_reducible refine wp_z1 ?_ | with_reducible exact wp_of (ih _ (by first | omega | (simp (disch := omega) only [wI_of2] <;> omega)) (fnd_no hS (by omega))) rfl | with_reducible refine wp_b (pd_st r h) ?_ | with_reducible refine wp_b (pd_r21 h (by omega) (by omega)) ?_ | with_reducible refine wp_b (pd_I (by assumption) (by decide)) ?_ | with_reducible refine wp_b (pd_R (by assumption) (by assumption) (by decide)) ?_ | with_reducible refine wp_b (ld_R (by assumption) (by assumption) (by decide)) ?_ | with_reducible refine wp_b (pd_r11 (by assumption) (by omega) (by omega)) ?_ | with_reducible refine wp_b (ld_r1 (by assumption) (by omega) (by omega)) ?_ | (with_reducible refine wp_if (fun hc => ?_) (fun hc => ?_) <;> (try simp (disch := omega) only [isC, bi_0, bi_1, wI_of2, Decidable.not_not, not_true_eq_false, not_false_eq_true] at hc) <;> (try (exfalso; omega)))))
      exact bi_t (by rw [fnd_yes hS (by omega) hj]; omega)
  · show X5_isTaken_L30_b N m (X5_isTaken_L30 N m F) P c (nT I) = _
    refine wp_eq ?_
    (unfold X5_isTaken_L30_b; simp only [X5_isTaken_J62]; repeat' ((with_reducible show Wp _ _); first | with_reducible exact wp_some rfl | with_reducible refine wp_some ?_ | with_reducible refine wp_z0 ?_ | with_reducible refine wp_z1 ?_ | with_reducible refine wp_b (pd_I (by assumption) (by decide)) ?_ | with_reducible refine wp_b (pd_R (by assumption) (by assumption) (by decide)) ?_ | with_reducible refine wp_b (ld_R (by assumption) (by assumption) (by decide)) ?_ | with_reducible refine wp_b (pd_r11 (by assumption) (by omega) (by omega)) ?_ | with_reducible refine wp_b (ld_r1 (by assumption) (by omega) (by omega)) ?_ | (with_reducible refine wp_if (fun hc => ?_) (fun hc => ?_) <;> (try simp (disch := omega) only [isC, bi_0, bi_1, wI_of2, Decidable.not_not, not_true_eq_false, not_false_eq_true] at hc) <;> (try (exfalso; omega)))))
    exact bi_f (by rw [hS]; omega)
def fedTo (I : Isl) (l : Lnd) (k : Int) : Nat → Int
  | 0 => 0
  | t + 1 => fedTo I l k t + bi (ner I (l 1 t) = k)
/-- where things are -/
def Tc (I : Isl) (l : Lnd) : Prop := ∀ t : Int, 0 ≤ t → t < I 9 0 → 0 ≤ l 1 t ∧ l 1 t < nC I
theorem fedTo_in (I : Isl) (l : Lnd) (k : Int) (t : Nat) : 0 ≤ fedTo I l k t ∧ fedTo I l k t ≤ t := by
  induction t with
  | zero => exact ⟨Int.le_refl _, Int.le_refl _⟩
  | succ t ih =>
    have := bi_in (ner I (l 1 t) = k)
    have e : fedTo I l k (t + 1) = fedTo I l k t + bi (ner I (l 1 t) = k) := rfl
    omega
theorem x_feeders {N : Nat} (hN : 2000 ≤ N) {m : Mem} {P L : Nat} {I : Isl} {l : Lnd} (r : Refs m) (h : PD m P I) (hl : LD m L l) (z : Sz I) (n : Cn I) (kc : Kc I) (tc : Tc I l) (k : Int) : X5_feeders N P L k m = some (fedTo I l k (nT I)) := by
  obtain ⟨n1, n2, n3, n4, n5, n6⟩ := id n
  refine wp_eq ?_
  unfold X5_feeders
  refine wp_k (pd_K h) ?_
  refine wp_of (lp_2 (fedTo I l k) Tr (fun F x i => X5_feeders_L5 N m F P L k x i) (nT I) _ trivial (fun F j hj _ ih => ?_) (fun F _ => ?_) N (by omega)) rfl
  · show X5_feeders_L5_b N m (X5_feeders_L5 N m F) P L k (fedTo I l k j) j = _
    have e : fedTo I l k (j + 1) = fedTo I l k j + bi (ner I (l 1 j) = k) := rfl
    have e1 := fedTo_in I l k j
    have tj := tc j (by omega) (by omega)
    refine wp_eq ?_
    by_cases q : ner I (l 1 j) = k
    · rw [← bi_t q] at e
      (unfold X5_feeders_L5_b; simp only [X5_feeders_J32]; repeat' ((with_reducible show Wp _ _); first | with_reducible exact wp_some rfl | with_reducible refine wp_some ?_ | with_reducible refine wp_z0 ?_ | with_reducible refine wp_z1 ?_ | with_reducible exact wp_of (ih _ _ (by first | omega | (simp (disch := omega) only [wI_of2] <;> omega)) (by first | omega | (simp (disch := omega) only [wI_of2] <;> omega)) (tr _)) rfl | with_reducible refine wp_b (pd_I (by assumption) (by decide)) ?_ | with_reducible refine wp_b (ld_R (by assumption) (by assumption) (by decide)) ?_ | with_reducible refine wp_b (ld_r1 (by assumption) (by omega) (by omega)) ?_ | with_reducible refine wp_b (x_ner (by omega) (by assumption) (by assumption) (by assumption) (by assumption) (by assumption) (by omega) (by omega)) ?_ | (with_reducible refine wp_if (fun hc => ?_) (fun hc => ?_) <;> (try simp (disch := omega) only [isC, bi_0, bi_1, wI_of2, Decidable.not_not, not_true_eq_false, not_false_eq_true] at hc) <;> (try (exfalso; omega)))))
    · rw [← bi_f q] at e
      (unfold X5_feeders_L5_b; simp only [X5_feeders_J32]; repeat' ((with_reducible show Wp _ _); first | with_reducible exact wp_some rfl | with_reducible refine wp_some ?_ | with_reducible refine wp_z0 ?_ | with_reducible refine wp_z1 ?_ | with_reducible exact wp_of (ih _ _ (by first | omega | (simp (disch := omega) only [wI_of2] <;> omega)) (by first | omega | (simp (disch := omega) only [wI_of2] <;> omega)) (tr _)) rfl | with_reducible refine wp_b (pd_I (by assumption) (by decide)) ?_ | with_reducible refine wp_b (ld_R (by assumption) (by assumption) (by decide)) ?_ | with_reducible refine wp_b (ld_r1 (by assumption) (by omega) (by omega)) ?_ | with_reducible refine wp_b (x_ner (by omega) (by assumption) (by assumption) (by assumption) (by assumption) (by assumption) (by omega) (by omega)) ?_ | (with_reducible refine wp_if (fun hc => ?_) (fun hc => ?_) <;> (try simp (disch := omega) only [isC, bi_0, bi_1, wI_of2, Decidable.not_not, not_true_eq_false, not_false_eq_true] at hc) <;> (try (exfalso; omega)))))
  · show X5_feeders_L5_b N m (X5_feeders_L5 N m F) P L k (fedTo I l k (nT I)) (nT I) = _
    refine wp_eq ?_
    (unfold X5_feeders_L5_b; simp only [X5_feeders_J32]; repeat' ((with_reducible show Wp _ _); first | with_reducible exact wp_some rfl | with_reducible refine wp_some ?_ | with_reducible refine wp_z0 ?_ | with_reducible refine wp_z1 ?_ | with_reducible refine wp_b (pd_I (by assumption) (by decide)) ?_ | with_reducible refine wp_b (ld_R (by assumption) (by assumption) (by decide)) ?_ | with_reducible refine wp_b (ld_r1 (by assumption) (by omega) (by omega)) ?_ | with_reducible refine wp_b (x_ner (by omega) (by assumption) (by assumption) (by assumption) (by assumption) (by assumption) (by omega) (by omega)) ?_ | (with_reducible refine wp_if (fun hc => ?_) (fun hc => ?_) <;> (try simp (disch := omega) only [isC, bi_0, bi_1, wI_of2, Decidable.not_not, not_true_eq_false, not_false_eq_true] at hc) <;> (try (exfalso; omega)))))
    all_goals rfl
