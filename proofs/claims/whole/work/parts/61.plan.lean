/-! the class's plan and lands: what their reading methods answer -/
theorem lp_0 {γ : Type} (S : Nat → Prop) (L : Nat → Int → Option γ) (n : Nat) (v : γ) (h0 : S 0) (hs : ∀ F j, j < n → S j → (∀ i : Int, i = j + 1 → S (j + 1) → L F i = some v) → L (F + 1) j = some v) (he : ∀ F, S n → L (F + 1) n = some v) : ∀ F, n + 1 ≤ F → L F 0 = some v := by
  have g : ∀ F j : Nat, S j → j ≤ n → n + 1 ≤ F + j → L F j = some v := by
    intro F
    induction F with
    | zero => intro j _ h1 h2; exfalso; omega
    | succ F ih =>
      intro j hj h1 h2
      by_cases e : j = n
      · subst e; exact he F hj
      · refine hs F j (by omega) hj (fun i hi hS => ?_)
        have := ih (j + 1) hS (by omega) (by omega)
        rw [hi]
        exact this
  intro F h
  exact g F 0 h0 (by omega) (by omega)
theorem lp_2 {γ β : Type} (a : Nat → β) (S : Nat → Prop) (L : Nat → β → Int → Option γ) (n : Nat) (v : γ) (h0 : S 0) (hs : ∀ F j, j < n → S j → (∀ (x : β) (i : Int), x = a (j + 1) → i = j + 1 → S (j + 1) → L F x i = some v) → L (F + 1) (a j) j = some v) (he : ∀ F, S n → L (F + 1) (a n) n = some v) : ∀ F, n + 1 ≤ F → L F (a 0) 0 = some v := by
  have g : ∀ F j : Nat, S j → j ≤ n → n + 1 ≤ F + j → L F (a j) j = some v := by
    intro F
    induction F with
    | zero => intro j _ h1 h2; exfalso; omega
    | succ F ih =>
      intro j hj h1 h2
      by_cases e : j = n
      · subst e; exact he F hj
      · refine hs F j (by omega) hj (fun x i hx hi hS => ?_)
        have := ih (j + 1) hS (by omega) (by omega)
        rw [hi, hx]
        exact this
  intro F h
  exact g F 0 h0 (by omega) (by omega)
theorem lp_3 {γ β δ : Type} (a : Nat → β) (b : Nat → δ) (S : Nat → Prop) (L : Nat → β → δ → Int → Option γ) (n : Nat) (v : γ) (h0 : S 0) (hs : ∀ F j, j < n → S j → (∀ (x : β) (y : δ) (i : Int), x = a (j + 1) → y = b (j + 1) → i = j + 1 → S (j + 1) → L F x y i = some v) → L (F + 1) (a j) (b j) j = some v) (he : ∀ F, S n → L (F + 1) (a n) (b n) n = some v) : ∀ F, n + 1 ≤ F → L F (a 0) (b 0) 0 = some v := by
  have g : ∀ F j : Nat, S j → j ≤ n → n + 1 ≤ F + j → L F (a j) (b j) j = some v := by
    intro F
    induction F with
    | zero => intro j _ h1 h2; exfalso; omega
    | succ F ih =>
      intro j hj h1 h2
      by_cases e : j = n
      · subst e; exact he F hj
      · refine hs F j (by omega) hj (fun x y i hx hy hi hS => ?_)
        have := ih (j + 1) hS (by omega) (by omega)
        rw [hi, hx, hy]
        exact this
  intro F h
  exact g F 0 h0 (by omega) (by omega)
def Tr (_ : Nat) : Prop := True
theorem tr (j : Nat) : Tr j := trivial
/-- the first place below n at which f is c; -1 -/
def fnd (f : Int → Int) (c : Int) : Nat → Int
  | 0 => -1
  | n + 1 => if fnd f c n = -1 then (if f n = c then n else -1) else fnd f c n
theorem fnd_no {f : Int → Int} {c : Int} {j : Nat} (h : fnd f c j = -1) (e : ¬f j = c) : fnd f c (j + 1) = -1 := by
  show (if fnd f c j = -1 then (if f j = c then (j : Int) else -1) else fnd f c j) = -1
  rw [if_pos h, if_neg e]
theorem fnd_more {f : Int → Int} {c : Int} {j : Nat} (h : ¬fnd f c j = -1) : ∀ k, fnd f c (j + k) = fnd f c j := by
  intro k
  induction k with
  | zero => rfl
  | succ k ih =>
    show (if fnd f c (j + k) = -1 then (if f (j + k : Nat) = c then ((j + k : Nat) : Int) else -1) else fnd f c (j + k)) = _
    rw [if_neg (by rw [ih]; exact h), ih]
theorem fnd_yes {f : Int → Int} {c : Int} {j n : Nat} (h : fnd f c j = -1) (e : f j = c) (hj : j < n) : fnd f c n = j := by
  have a : fnd f c (j + 1) = j := by
    show (if fnd f c j = -1 then (if f j = c then (j : Int) else -1) else fnd f c j) = _
    rw [if_pos h, if_pos e]
  have b := fnd_more (f := f) (c := c) (j := j + 1) (by rw [a]; omega) (n - (j + 1))
  rw [show j + 1 + (n - (j + 1)) = n from by omega] at b
  rw [b, a]
theorem fnd_in (f : Int → Int) (c : Int) (n : Nat) : fnd f c n = -1 ∨ 0 ≤ fnd f c n ∧ fnd f c n < n ∧ f (fnd f c n) = c := by
  induction n with
  | zero => exact Or.inl rfl
  | succ n ih =>
    by_cases h : fnd f c n = -1
    · by_cases e : f n = c
      · rw [fnd_yes h e (Nat.lt_succ_self n)]
        exact Or.inr ⟨by omega, by omega, e⟩
      · exact Or.inl (fnd_no h e)
    · have b := fnd_more h 1
      rw [b]
      rcases ih with q | q
      · exact absurd q h
      · exact Or.inr ⟨q.1, by omega, q.2.2⟩
theorem fnd_none {f : Int → Int} {c : Int} {n : Nat} (h : ∀ j : Nat, j < n → ¬f j = c) : fnd f c n = -1 := by
  induction n with
  | zero => rfl
  | succ n ih => exact fnd_no (ih (fun j hj => h j (by omega))) (h n (by omega))
def nT (I : Isl) : Nat := (I 9 0).toNat
def nK (I : Isl) : Nat := (I 6 0).toNat
def nH (I : Isl) : Nat := (I 12 0).toNat
def Cn (I : Isl) : Prop := I 6 0 = (nK I : Int) ∧ nK I ≤ 5 ∧ I 9 0 = (nT I : Int) ∧ nT I ≤ 10 ∧ I 12 0 = (nH I : Int) ∧ nH I ≤ nT I
def hasW (l : Lnd) (c : Int) : Int := bi (0 ≤ c ∧ c < 42 ∧ l 0 c = 1)
def isC (I : Isl) (c : Int) : Int := bi (0 ≤ c ∧ c < nC I)
theorem x_cells {m : Mem} {P : Nat} {I : Isl} (h : PD m P I) (z : Sz I) : X5_cells P m = some (nC I) := by
  have hn : nC I = I 0 0 * I 1 0 := rfl
  obtain ⟨z1, z2, z3, z4, z5, z6, z7⟩ := id z
  refine wp_eq ?_
  (unfold X5_cells; repeat' ((with_reducible show Wp _ _); first | with_reducible exact wp_some rfl | with_reducible refine wp_some ?_ | with_reducible refine wp_z0 ?_ | with_reducible refine wp_z1 ?_ | with_reducible refine wp_k (pd_K (by assumption)) ?_ | with_reducible refine wp_b (pd_I (by assumption) (by decide)) ?_ | (with_reducible refine wp_if (fun hc => ?_) (fun hc => ?_) <;> (try simp (disch := omega) only [isC, bi_0, bi_1, wI_of2, Decidable.not_not, not_true_eq_false, not_false_eq_true] at hc) <;> (try (exfalso; omega)))))
  exact wI_of2 (by omega) (by omega)
theorem x_isCell {m : Mem} {P : Nat} {I : Isl} (h : PD m P I) (z : Sz I) (c : Int) : X5_isCell P c m = some (isC I c) := by
  have hn : nC I = I 0 0 * I 1 0 := rfl
  obtain ⟨z1, z2, z3, z4, z5, z6, z7⟩ := id z
  refine wp_eq ?_
  (unfold X5_isCell; repeat' ((with_reducible show Wp _ _); first | with_reducible exact wp_some rfl | with_reducible refine wp_some ?_ | with_reducible refine wp_z0 ?_ | with_reducible refine wp_z1 ?_ | with_reducible refine wp_k (pd_K (by assumption)) ?_ | with_reducible refine wp_b (pd_I (by assumption) (by decide)) ?_ | (with_reducible refine wp_if (fun hc => ?_) (fun hc => ?_) <;> (try simp (disch := omega) only [isC, bi_0, bi_1, wI_of2, Decidable.not_not, not_true_eq_false, not_false_eq_true] at hc) <;> (try (exfalso; omega)))))
  all_goals first | exact bi_t (by omega) | exact bi_f (by omega)
theorem x_isThing {m : Mem} {P : Nat} {I : Isl} (h : PD m P I) (c : Int) : X5_isThing P c m = some (bi (0 ≤ c ∧ c < I 9 0)) := by
  refine wp_eq ?_
  (unfold X5_isThing; repeat' ((with_reducible show Wp _ _); first | with_reducible exact wp_some rfl | with_reducible refine wp_some ?_ | with_reducible refine wp_z0 ?_ | with_reducible refine wp_z1 ?_ | with_reducible refine wp_k (pd_K (by assumption)) ?_ | with_reducible refine wp_b (pd_I (by assumption) (by decide)) ?_ | (with_reducible refine wp_if (fun hc => ?_) (fun hc => ?_) <;> (try simp (disch := omega) only [isC, bi_0, bi_1, wI_of2, Decidable.not_not, not_true_eq_false, not_false_eq_true] at hc) <;> (try (exfalso; omega)))))
  all_goals first | exact bi_t (by omega) | exact bi_f (by omega)
theorem x_isCloth {m : Mem} {P : Nat} {I : Isl} (h : PD m P I) (c : Int) : X5_isCloth P c m = some (bi (0 ≤ c ∧ c < I 12 0)) := by
  refine wp_eq ?_
  (unfold X5_isCloth; repeat' ((with_reducible show Wp _ _); first | with_reducible exact wp_some rfl | with_reducible refine wp_some ?_ | with_reducible refine wp_z0 ?_ | with_reducible refine wp_z1 ?_ | with_reducible refine wp_k (pd_K (by assumption)) ?_ | with_reducible refine wp_b (pd_I (by assumption) (by decide)) ?_ | (with_reducible refine wp_if (fun hc => ?_) (fun hc => ?_) <;> (try simp (disch := omega) only [isC, bi_0, bi_1, wI_of2, Decidable.not_not, not_true_eq_false, not_false_eq_true] at hc) <;> (try (exfalso; omega)))))
  all_goals first | exact bi_t (by omega) | exact bi_f (by omega)
theorem x_isCistern {m : Mem} {P : Nat} {I : Isl} (h : PD m P I) (c : Int) : X5_isCistern P c m = some (bi (0 ≤ c ∧ c < I 6 0)) := by
  refine wp_eq ?_
  (unfold X5_isCistern; repeat' ((with_reducible show Wp _ _); first | with_reducible exact wp_some rfl | with_reducible refine wp_some ?_ | with_reducible refine wp_z0 ?_ | with_reducible refine wp_z1 ?_ | with_reducible refine wp_k (pd_K (by assumption)) ?_ | with_reducible refine wp_b (pd_I (by assumption) (by decide)) ?_ | (with_reducible refine wp_if (fun hc => ?_) (fun hc => ?_) <;> (try simp (disch := omega) only [isC, bi_0, bi_1, wI_of2, Decidable.not_not, not_true_eq_false, not_false_eq_true] at hc) <;> (try (exfalso; omega)))))
  all_goals first | exact bi_t (by omega) | exact bi_f (by omega)
theorem x_hasWall {m : Mem} {L : Nat} {l : Lnd} (r : Refs m) (h : LD m L l) (c : Int) : X1_hasWall L c m = some (hasW l c) := by
  refine wp_eq ?_
  (unfold X1_hasWall; repeat' ((with_reducible show Wp _ _); first | with_reducible exact wp_some rfl | with_reducible refine wp_some ?_ | with_reducible refine wp_z0 ?_ | with_reducible refine wp_z1 ?_ | with_reducible refine wp_k (ld_K (by assumption)) ?_ | with_reducible refine wp_b (ld_R (by assumption) (by assumption) (by decide)) ?_ | with_reducible refine wp_b (ld_r0 (by assumption) (by omega) (by omega)) ?_ | with_reducible refine wp_b (ld_n0 (by assumption)) ?_ | (with_reducible refine wp_if (fun hc => ?_) (fun hc => ?_) <;> (try simp (disch := omega) only [isC, bi_0, bi_1, wI_of2, Decidable.not_not, not_true_eq_false, not_false_eq_true] at hc) <;> (try (exfalso; omega)))))
  all_goals first | exact bi_t (by omega) | exact bi_f (by omega)
theorem x_acrossOf {m : Mem} {P : Nat} {I : Isl} (h : PD m P I) (z : Sz I) (w : 2 ≤ I 0 0) {c : Int} (c0 : 0 ≤ c) : X5_acrossOf P c m = some (c % I 0 0) := by
  obtain ⟨z1, z2, z3, z4, z5, z6, z7⟩ := id z
  refine wp_eq ?_
  (unfold X5_acrossOf; repeat' ((with_reducible show Wp _ _); first | with_reducible exact wp_some rfl | with_reducible refine wp_some ?_ | with_reducible refine wp_z0 ?_ | with_reducible refine wp_z1 ?_ | with_reducible refine wp_k (pd_K (by assumption)) ?_ | with_reducible refine wp_b (pd_I (by assumption) (by decide)) ?_ | (with_reducible refine wp_if (fun hc => ?_) (fun hc => ?_) <;> (try simp (disch := omega) only [isC, bi_0, bi_1, wI_of2, Decidable.not_not, not_true_eq_false, not_false_eq_true] at hc) <;> (try (exfalso; omega)))))
  have a := Int.emod_nonneg c (b := I 0 0) (by omega)
  have b := Int.emod_lt_of_pos c (b := I 0 0) (by omega)
  rw [Int.tmod_eq_emod_of_nonneg c0]
  exact wI_of2 (by omega) (by omega)
theorem x_downOf {m : Mem} {P : Nat} {I : Isl} (h : PD m P I) (z : Sz I) (w : 2 ≤ I 0 0) {c : Int} (c0 : 0 ≤ c) (c1 : c < nC I) : X5_downOf P c m = some (c / I 0 0) := by
  obtain ⟨a1, a2, a3, a4, a5⟩ := xy_of z c0 c1
  obtain ⟨z1, z2, z3, z4, z5, z6, z7⟩ := id z
  refine wp_eq ?_
  (unfold X5_downOf; repeat' ((with_reducible show Wp _ _); first | with_reducible exact wp_some rfl | with_reducible refine wp_some ?_ | with_reducible refine wp_z0 ?_ | with_reducible refine wp_z1 ?_ | with_reducible refine wp_k (pd_K (by assumption)) ?_ | with_reducible refine wp_b (pd_I (by assumption) (by decide)) ?_ | (with_reducible refine wp_if (fun hc => ?_) (fun hc => ?_) <;> (try simp (disch := omega) only [isC, bi_0, bi_1, wI_of2, Decidable.not_not, not_true_eq_false, not_false_eq_true] at hc) <;> (try (exfalso; omega)))))
  rw [Int.tdiv_eq_ediv_of_nonneg c0]
  exact wI_of2 (by omega) (by omega)
theorem x_cellAt {m : Mem} {P : Nat} {I : Isl} (h : PD m P I) (z : Sz I) (x y : Int) : X5_cellAt P x y m = some (cellAt I x y) := by
  obtain ⟨z1, z2, z3, z4, z5, z6, z7⟩ := id z
  refine wp_eq ?_
  (unfold X5_cellAt; simp only [X5_cellAt_J28, X5_cellAt_J29]; repeat' ((with_reducible show Wp _ _); first | with_reducible exact wp_some rfl | with_reducible refine wp_some ?_ | with_reducible refine wp_z0 ?_ | with_reducible refine wp_z1 ?_ | with_reducible refine wp_k (pd_K (by assumption)) ?_ | with_reducible refine wp_b (pd_I (by assumption) (by decide)) ?_ | (with_reducible refine wp_if (fun hc => ?_) (fun hc => ?_) <;> (try simp (disch := omega) only [isC, bi_0, bi_1, wI_of2, Decidable.not_not, not_true_eq_false, not_false_eq_true] at hc) <;> (try (exfalso; omega)))))
  all_goals unfold cellAt
  all_goals first | (rw [if_neg (by omega)]) | skip
  all_goals (rw [if_pos (by omega)]; have q := cell_in (I := I) (x := x) (y := y) (by omega) (by omega) (by omega) (by omega); rw [wI_of2 (x := y * I 0 0) (by omega) (by omega)]; exact wI_of2 (by omega) (by omega))
