/-! the class's plan, its loops -/
theorem lq_2 {γ β δ : Type} (a : Nat → β) (b : Nat → δ) (S : Nat → Prop) (L : Nat → β → δ → Option γ) (n : Nat) (v : γ) (h0 : S 0) (hs : ∀ F j, j < n → S j → (∀ (x : β) (y : δ), x = a (j + 1) → y = b (j + 1) → S (j + 1) → L F x y = some v) → L (F + 1) (a j) (b j) = some v) (he : ∀ F, S n → L (F + 1) (a n) (b n) = some v) : ∀ F, n + 1 ≤ F → L F (a 0) (b 0) = some v := by
  have g : ∀ F j : Nat, S j → j ≤ n → n + 1 ≤ F + j → L F (a j) (b j) = some v := by
    intro F
    induction F with
    | zero => intro j _ h1 h2; exfalso; omega
    | succ F ih =>
      intro j hj h1 h2
      by_cases e : j = n
      · subst e; exact he F hj
      · refine hs F j (by omega) hj (fun x y hx hy hS => ?_)
        have := ih (j + 1) hS (by omega) (by omega)
        rw [hx, hy]
        exact this
  intro F h
  exact g F 0 h0 (by omega) (by omega)
theorem hasW_in (l : Lnd) (c : Int) : hasW l c = 0 ∨ hasW l c = 1 := bi_in _
def opnTo (I : Isl) (l : Lnd) (c : Int) : Nat → Int
  | 0 => 8
  | s + 1 => opnTo I l c s - hasW l (nbr I s c)
def opn (I : Isl) (l : Lnd) (c : Int) : Int := opnTo I l c 8
theorem opnTo_in (I : Isl) (l : Lnd) (c : Int) (s : Nat) : 8 - (s : Int) ≤ opnTo I l c s ∧ opnTo I l c s ≤ 8 := by
  induction s with
  | zero => exact ⟨by show (8 : Int) - 0 ≤ 8; omega, Int.le_refl _⟩
  | succ s ih =>
    have := hasW_in l (nbr I s c)
    have e : opnTo I l c (s + 1) = opnTo I l c s - hasW l (nbr I s c) := rfl
    omega
theorem nbr_in (I : Isl) (s c : Int) : nbr I s c = -1 ∨ 0 ≤ nbr I s c ∧ nbr I s c < nC I := cellAt_in _ _
theorem x_open {N : Nat} (hN : 2000 ≤ N) {m : Mem} {P L : Nat} {I : Isl} {l : Lnd} (r : Refs m) (h : PD m P I) (hl : LD m L l) (z : Sz I) {c : Int} (c0 : 0 ≤ c) (c1 : c < nC I) : X5_openness N P L c m = some (opn I l c) := by
  obtain ⟨z1, z2, z3, z4, z5, z6, z7⟩ := id z
  refine wp_eq ?_
  unfold X5_openness
  refine wp_k (pd_K h) ?_
  refine wp_of (lp_2 (opnTo I l c) Tr (fun F x i => X5_openness_L6 N m F P L c x i) 8 (opn I l c) trivial (fun F j hj _ ih => ?_) (fun F _ => ?_) N (by omega)) rfl
  · show X5_openness_L6_b N m (X5_openness_L6 N m F) P L c (opnTo I l c j) j = _
    have e : opnTo I l c (j + 1) = opnTo I l c j - hasW l (nbr I j c) := rfl
    have e1 := hasW_in l (nbr I j c)
    have e2 := opnTo_in I l c j
    refine wp_eq ?_
    (unfold X5_openness_L6_b; simp only [X5_openness_J40]; repeat' ((with_reducible show Wp _ _); first | with_reducible exact wp_some rfl | with_reducible refine wp_some ?_ | with_reducible refine wp_z0 ?_ | with_reducible refine wp_z1 ?_ | with_reducible exact wp_of (ih _ _ (by first | omega | (simp (disch := omega) only [wI_of2] <;> omega)) (by first | omega | (simp (disch := omega) only [wI_of2] <;> omega)) (tr _)) rfl | with_reducible refine wp_b (pd_R (by assumption) (by assumption) (by decide)) ?_ | with_reducible refine wp_b (pd_side (by assumption) (by assumption) (by omega) (by omega)) ?_ | with_reducible refine wp_b (pd_nb (by assumption) (by omega) (by omega) (by omega) (by omega) (by omega)) ?_ | with_reducible refine wp_b (x_hasWall (by assumption) (by assumption) _) ?_ | with_reducible refine wp_b (x_isCell (by assumption) (by assumption) _) ?_ | (with_reducible refine wp_if (fun hc => ?_) (fun hc => ?_) <;> (try simp (disch := omega) only [isC, bi_0, bi_1, wI_of2, Decidable.not_not, not_true_eq_false, not_false_eq_true] at hc) <;> (try (exfalso; omega)))))
  · show X5_openness_L6_b N m (X5_openness_L6 N m F) P L c (opnTo I l c 8) (8 : Nat) = _
    refine wp_eq ?_
    (unfold X5_openness_L6_b; simp only [X5_openness_J40]; repeat' ((with_reducible show Wp _ _); first | with_reducible exact wp_some rfl | with_reducible refine wp_some ?_ | with_reducible refine wp_z0 ?_ | with_reducible refine wp_z1 ?_ | with_reducible refine wp_b (pd_R (by assumption) (by assumption) (by decide)) ?_ | with_reducible refine wp_b (pd_side (by assumption) (by assumption) (by omega) (by omega)) ?_ | with_reducible refine wp_b (pd_nb (by assumption) (by omega) (by omega) (by omega) (by omega) (by omega)) ?_ | with_reducible refine wp_b (x_hasWall (by assumption) (by assumption) _) ?_ | with_reducible refine wp_b (x_isCell (by assumption) (by assumption) _) ?_ | (with_reducible refine wp_if (fun hc => ?_) (fun hc => ?_) <;> (try simp (disch := omega) only [isC, bi_0, bi_1, wI_of2, Decidable.not_not, not_true_eq_false, not_false_eq_true] at hc) <;> (try (exfalso; omega)))))
    all_goals rfl
def Hs (I : Isl) : Prop := ∀ c : Int, I 4 c = 0 ∨ I 4 c = 1
def hosTo (I : Isl) (c : Int) : Nat → Int
  | 0 => 0
  | s + 1 => hosTo I c s + (if nbr I s c = -1 then 0 else I 4 (nbr I s c))
def hos (I : Isl) (c : Int) : Int := hosTo I c 4
theorem hosTo_in {I : Isl} (hs : Hs I) (c : Int) (s : Nat) : 0 ≤ hosTo I c s ∧ hosTo I c s ≤ s := by
  induction s with
  | zero => exact ⟨Int.le_refl _, Int.le_refl _⟩
  | succ s ih =>
    have := hs (nbr I s c)
    have e : hosTo I c (s + 1) = hosTo I c s + (if nbr I s c = -1 then 0 else I 4 (nbr I s c)) := rfl
    by_cases q : nbr I s c = -1
    · rw [if_pos q] at e; omega
    · rw [if_neg q] at e; omega
theorem x_hos {N : Nat} (hN : 2000 ≤ N) {m : Mem} {P : Nat} {I : Isl} (r : Refs m) (h : PD m P I) (z : Sz I) (hs : Hs I) {c : Int} (c0 : 0 ≤ c) (c1 : c < nC I) : X5_housesBy N P c m = some (hos I c) := by
  obtain ⟨z1, z2, z3, z4, z5, z6, z7⟩ := id z
  refine wp_eq ?_
  unfold X5_housesBy
  refine wp_k (pd_K h) ?_
  refine wp_of (lp_2 (hosTo I c) Tr (fun F x i => X5_housesBy_L4 N m F P c x i) 4 (hos I c) trivial (fun F j hj _ ih => ?_) (fun F _ => ?_) N (by omega)) rfl
  · show X5_housesBy_L4_b N m (X5_housesBy_L4 N m F) P c (hosTo I c j) j = _
    have e : hosTo I c (j + 1) = hosTo I c j + (if nbr I j c = -1 then 0 else I 4 (nbr I j c)) := rfl
    have e1 := nbr_in I j c
    have e2 := hosTo_in hs c j
    have e3 := hs (nbr I j c)
    refine wp_eq ?_
    by_cases q : nbr I j c = -1
    · rw [if_pos q] at e
      (unfold X5_housesBy_L4_b; simp only [X5_housesBy_J48]; repeat' ((with_reducible show Wp _ _); first | with_reducible exact wp_some rfl | with_reducible refine wp_some ?_ | with_reducible refine wp_z0 ?_ | with_reducible refine wp_z1 ?_ | with_reducible exact wp_of (ih _ _ (by first | omega | (simp (disch := omega) only [wI_of2] <;> omega)) (by first | omega | (simp (disch := omega) only [wI_of2] <;> omega)) (tr _)) rfl | with_reducible refine wp_b (pd_R (by assumption) (by assumption) (by decide)) ?_ | with_reducible refine wp_b (pd_side (by assumption) (by assumption) (by omega) (by omega)) ?_ | with_reducible refine wp_b (pd_nb (by assumption) (by omega) (by omega) (by omega) (by omega) (by omega)) ?_ | with_reducible refine wp_b (pd_r4 (by assumption) (by omega) (by omega)) ?_ | with_reducible refine wp_b (x_isCell (by assumption) (by assumption) _) ?_ | (with_reducible refine wp_if (fun hc => ?_) (fun hc => ?_) <;> (try simp (disch := omega) only [isC, bi_0, bi_1, wI_of2, Decidable.not_not, not_true_eq_false, not_false_eq_true] at hc) <;> (try (exfalso; omega)))))
    · rw [if_neg q] at e
      (unfold X5_housesBy_L4_b; simp only [X5_housesBy_J48]; repeat' ((with_reducible show Wp _ _); first | with_reducible exact wp_some rfl | with_reducible refine wp_some ?_ | with_reducible refine wp_z0 ?_ | with_reducible refine wp_z1 ?_ | with_reducible exact wp_of (ih _ _ (by first | omega | (simp (disch := omega) only [wI_of2] <;> omega)) (by first | omega | (simp (disch := omega) only [wI_of2] <;> omega)) (tr _)) rfl | with_reducible refine wp_b (pd_R (by assumption) (by assumption) (by decide)) ?_ | with_reducible refine wp_b (pd_side (by assumption) (by assumption) (by omega) (by omega)) ?_ | with_reducible refine wp_b (pd_nb (by assumption) (by omega) (by omega) (by omega) (by omega) (by omega)) ?_ | with_reducible refine wp_b (pd_r4 (by assumption) (by omega) (by omega)) ?_ | with_reducible refine wp_b (x_isCell (by assumption) (by assumption) _) ?_ | (with_reducible refine wp_if (fun hc => ?_) (fun hc => ?_) <;> (try simp (disch := omega) only [isC, bi_0, bi_1, wI_of2, Decidable.not_not, not_true_eq_false, not_false_eq_true] at hc) <;> (try (exfalso; omega)))))
  · show X5_housesBy_L4_b N m (X5_housesBy_L4 N m F) P c (hosTo I c 4) (4 : Nat) = _
    refine wp_eq ?_
    (unfold X5_housesBy_L4_b; simp only [X5_housesBy_J48]; repeat' ((with_reducible show Wp _ _); first | with_reducible exact wp_some rfl | with_reducible refine wp_some ?_ | with_reducible refine wp_z0 ?_ | with_reducible refine wp_z1 ?_ | with_reducible refine wp_b (pd_R (by assumption) (by assumption) (by decide)) ?_ | with_reducible refine wp_b (pd_side (by assumption) (by assumption) (by omega) (by omega)) ?_ | with_reducible refine wp_b (pd_nb (by assumption) (by omega) (by omega) (by omega) (by omega) (by omega)) ?_ | with_reducible refine wp_b (pd_r4 (by assumption) (by omega) (by omega)) ?_ | with_reducible refine wp_b (x_isCell (by assumption) (by assumption) _) ?_ | (with_reducible refine wp_if (fun hc => ?_) (fun hc => ?_) <;> (try simp (disch := omega) only [isC, bi_0, bi_1, wI_of2, Decidable.not_not, not_true_eq_false, not_false_eq_true] at hc) <;> (try (exfalso; omega)))))
    all_goals rfl
def sunTo (I : Isl) (l : Lnd) (c : Int) : Nat → Int
  | 0 => 0
  | s + 1 => sunTo I l c s + 10 * hasW l (cellAt I (c % I 0 0 + 1 + s) (c / I 0 0))
def sun (I : Isl) (l : Lnd) (c : Int) : Int := sunTo I l c (I 0 0 - 1 - c % I 0 0).toNat
theorem sunTo_in (I : Isl) (l : Lnd) (c : Int) (s : Nat) : 0 ≤ sunTo I l c s ∧ sunTo I l c s ≤ 10 * s := by
  induction s with
  | zero => exact ⟨Int.le_refl _, Int.le_refl _⟩
  | succ s ih =>
    have := hasW_in l (cellAt I (c % I 0 0 + 1 + s) (c / I 0 0))
    have e : sunTo I l c (s + 1) = sunTo I l c s + 10 * hasW l (cellAt I (c % I 0 0 + 1 + s) (c / I 0 0)) := rfl
    omega
theorem x_sun {N : Nat} (hN : 2000 ≤ N) {m : Mem} {P L : Nat} {I : Isl} {l : Lnd} (r : Refs m) (h : PD m P I) (hl : LD m L l) (z : Sz I) {c : Int} (c0 : 0 ≤ c) (c1 : c < nC I) : X5_sun N P L c m = some (sun I l c) := by
  obtain ⟨z1, z2, z3, z4, z5, z6, z7⟩ := id z
  have w := (sz_c z c0 c1).1
  obtain ⟨a1, a2, a3, a4, a5⟩ := xy_of z c0 c1
  refine wp_eq ?_
  unfold X5_sun
  refine wp_k (pd_K h) ?_
  refine wp_b (x_acrossOf h z w c0) ?_
  have s0 : wI (c % I 0 0 + 1) = c % I 0 0 + 1 + (0 : Nat) := by rw [wI_of2 (by omega) (by omega)]; omega
  rw [s0]
  refine wp_of (lq_2 (sunTo I l c) (fun j => c % I 0 0 + 1 + (j : Int)) Tr (fun F x i => X5_sun_L11 N m F P L c x i) (I 0 0 - 1 - c % I 0 0).toNat (sun I l c) trivial (fun F j hj _ ih => ?_) (fun F _ => ?_) N (by omega)) rfl
  · show X5_sun_L11_b N m (X5_sun_L11 N m F) P L c (sunTo I l c j) (c % I 0 0 + 1 + (j : Int)) = _
    have e : sunTo I l c (j + 1) = sunTo I l c j + 10 * hasW l (cellAt I (c % I 0 0 + 1 + j) (c / I 0 0)) := rfl
    have e1 := hasW_in l (cellAt I (c % I 0 0 + 1 + j) (c / I 0 0))
    have e2 := sunTo_in I l c j
    refine wp_eq ?_
    (unfold X5_sun_L11_b; simp only [X5_sun_J41]; repeat' ((with_reducible show Wp _ _); first | with_reducible exact wp_some rfl | with_reducible refine wp_some ?_ | with_reducible refine wp_z0 ?_ | with_reducible refine wp_z1 ?_ | with_reducible exact wp_of (ih _ _ (by first | omega | (simp (disch := omega) only [wI_of2] <;> omega)) (by first | omega | (simp (disch := omega) only [wI_of2] <;> omega)) (tr _)) rfl | with_reducible refine wp_b (pd_I (by assumption) (by decide)) ?_ | with_reducible refine wp_b (x_hasWall (by assumption) (by assumption) _) ?_ | with_reducible refine wp_b (x_cellAt (by assumption) (by assumption) _ _) ?_ | with_reducible refine wp_b (x_downOf (by assumption) (by assumption) (by omega) (by omega) (by omega)) ?_ | (with_reducible refine wp_if (fun hc => ?_) (fun hc => ?_) <;> (try simp (disch := omega) only [isC, bi_0, bi_1, wI_of2, Decidable.not_not, not_true_eq_false, not_false_eq_true] at hc) <;> (try (exfalso; omega)))))
  · show X5_sun_L11_b N m (X5_sun_L11 N m F) P L c (sunTo I l c _) (c % I 0 0 + 1 + (((I 0 0 - 1 - c % I 0 0).toNat : Nat) : Int)) = _
    refine wp_eq ?_
    (unfold X5_sun_L11_b; simp only [X5_sun_J41]; repeat' ((with_reducible show Wp _ _); first | with_reducible exact wp_some rfl | with_reducible refine wp_some ?_ | with_reducible refine wp_z0 ?_ | with_reducible refine wp_z1 ?_ | with_reducible refine wp_b (pd_I (by assumption) (by decide)) ?_ | with_reducible refine wp_b (x_hasWall (by assumption) (by assumption) _) ?_ | with_reducible refine wp_b (x_cellAt (by assumption) (by assumption) _ _) ?_ | with_reducible refine wp_b (x_downOf (by assumption) (by assumption) (by omega) (by omega) (by omega)) ?_ | (with_reducible refine wp_if (fun hc => ?_) (fun hc => ?_) <;> (try simp (disch := omega) only [isC, bi_0, bi_1, wI_of2, Decidable.not_not, not_true_eq_false, not_false_eq_true] at hc) <;> (try (exfalso; omega)))))
    all_goals rfl
