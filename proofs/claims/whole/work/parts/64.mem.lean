/-! rows set anew; what stays -/
def setA (m : Mem) (a : Nat) (g : Nat → Int) : Mem := fun b => if b = a then g else m b
theorem up_setA (m : Mem) (a k : Nat) (v : Int) : up m a k v = setA m a (fun j => if j = k then v else m a j) := by
  funext b j
  unfold up setA
  by_cases e : b = a
  · subst e
    rw [if_pos rfl]
    by_cases q : j = k
    · rw [if_pos ⟨rfl, q⟩, if_pos q]
    · rw [if_neg (fun x => q x.2), if_neg q]
  · rw [if_neg (fun x => e x.1), if_neg e]
theorem setA_same (m : Mem) (a : Nat) (g : Nat → Int) : setA m a g a = g := if_pos rfl
theorem setA_ne {a b : Nat} (h : ¬b = a) (m : Mem) (g : Nat → Int) : setA m a g b = m b := if_neg h
theorem setA_setA (m : Mem) (a : Nat) (g g2 : Nat → Int) : setA (setA m a g) a g2 = setA m a g2 := by
  funext b
  unfold setA
  by_cases e : b = a
  · rw [if_pos e, if_pos e]
  · rw [if_neg e, if_neg e, if_neg e]
theorem setA_self (m : Mem) (a : Nat) : setA m a (m a) = m := by
  funext b
  unfold setA
  by_cases e : b = a
  · rw [if_pos e, e]
  · rw [if_neg e]
def Off (S : Nat → Prop) (m m2 : Mem) : Prop := ∀ a, ¬S a → m2 a = m a
theorem off_refl {S : Nat → Prop} (m : Mem) : Off S m m := fun _ _ => rfl
theorem off_trans {S T : Nat → Prop} {m m2 m3 : Mem} (h : Off S m m2) (g : Off T m2 m3) (i : ∀ a, T a → S a) : Off S m m3 := fun a ha => by rw [g a (fun x => ha (i a x)), h a ha]
theorem off_set {S : Nat → Prop} {m m2 : Mem} (h : Off S m m2) {a : Nat} (i : S a) (g : Nat → Int) : Off S m (setA m2 a g) := fun b hb => by
  rw [setA_ne (fun e => hb (by rw [e]; exact i)), h b hb]
theorem off_sub {S T : Nat → Prop} {m m2 : Mem} (h : Off S m m2) (i : ∀ a, S a → T a) : Off T m m2 := fun a ha => h a (fun x => ha (i a x))
theorem refs_set {m : Mem} (h : Refs m) {a : Nat} (q : shK a = 1 ∨ shK a = 2) (g : Nat → Int) : Refs (setA m a g) := refs_of h fun b j hb => by
  have e : ¬b = a := fun e => by
    subst e
    unfold isRef at hb
    rcases q with q | q <;> rw [q] at hb <;> cases hb
  rw [setA_ne e]
theorem pd_off {m m2 : Mem} {P : Nat} {I : Isl} (h : PD m P I) (q : ∀ a, P ≤ a → a ≤ P + 22 → ¬a = P + 12 → ¬a = P + 13 → ¬a = P + 15 → m2 a = m a) : PD m2 P I := by
  obtain ⟨h1, h2, h3, h4, h5⟩ := h
  refine ⟨h1, fun k c => ?_, fun k i i0 i1 => ?_, fun s c s0 s1 c0 c1 => ?_, fun i i0 i1 => ?_⟩
  · rw [q P (by omega) (by omega) (by omega) (by omega) (by omega)]; exact h2 k c
  · have e : ofs k ≤ 22 ∧ ¬ofs k = 12 ∧ ¬ofs k = 13 ∧ ¬ofs k = 15 ∨ rln k = 0 := by
      by_cases c : k < 21
      · have g : ∀ k, k < 21 → (decide (ofs k ≤ 22) && ofs k != 12 && ofs k != 13 && ofs k != 15 || rln k == 0) = true := by decide
        have := g k c
        simp only [Bool.or_eq_true, Bool.and_eq_true, bne_iff_ne, beq_iff_eq, decide_eq_true_eq, ne_eq] at this
        omega
      · right
        unfold rln
        repeat rw [if_neg (by omega)]
    rcases e with e | e
    · rw [q (P + ofs k) (by omega) (by omega) (by omega) (by omega) (by omega)]; exact h3 k i i0 i1
    · rw [e] at i1; exact absurd i1 (by omega)
  · rw [q (P + 2 + s.toNat) (by omega) (by omega) (by omega) (by omega) (by omega)]; exact h4 s c s0 s1 c0 c1
  · rw [q (P + 14) (by omega) (by omega) (by omega) (by omega) (by omega)]; exact h5 i i0 i1
theorem pd_set {m : Mem} {P : Nat} {I : Isl} (h : PD m P I) {a : Nat} (q : a < P ∨ P + 22 < a) (g : Nat → Int) : PD (setA m a g) P I := pd_off h fun b _ _ _ _ _ => setA_ne (by omega) m g
theorem ld_off {m m2 : Mem} {L : Nat} {l : Lnd} (h : LD m L l) (q : ∀ a, L ≤ a → a ≤ L + 3 → m2 a = m a) : LD m2 L l := by
  obtain ⟨h1, h2, h3⟩ := h
  refine ⟨h1, fun k i hk i0 i1 => ?_, ?_⟩
  · rw [q (L + 1 + k) (by omega) (by omega)]; exact h2 k i hk i0 i1
  · rw [q L (by omega) (by omega)]; exact h3
theorem ld_set {m : Mem} {L : Nat} {l : Lnd} (h : LD m L l) {a : Nat} (q : a < L ∨ L + 3 < a) (g : Nat → Int) : LD (setA m a g) L l := ld_off h fun b _ _ => setA_ne (by omega) m g
theorem lw_1 {γ : Type} (Inv : Nat → Mem → Prop) (L : Nat → Int → Mem → Option γ) (n : Nat) (Q : γ → Prop) (hs : ∀ F j m, j < n → Inv j m → (∀ (i : Int) m2, i = (j : Int) + 1 → Inv (j + 1) m2 → Wp (L F i m2) Q) → Wp (L (F + 1) j m) Q) (he : ∀ F m, Inv n m → Wp (L (F + 1) n m) Q) : ∀ F m, n + 1 ≤ F → Inv 0 m → Wp (L F 0 m) Q := by
  have g : ∀ F (j : Nat) m, j ≤ n → n + 1 ≤ F + j → Inv j m → Wp (L F j m) Q := by
    intro F
    induction F with
    | zero => intro j m h1 h2 _; exfalso; omega
    | succ F ih =>
      intro j m h1 h2 hI
      by_cases e : j = n
      · subst e; exact he F m hI
      · refine hs F j m (by omega) hI (fun i m2 hi hI2 => ?_)
        rw [hi]
        exact ih (j + 1) m2 (by omega) (by omega) hI2
  intro F m h hI
  exact g F 0 m (by omega) (by omega) hI
theorem lw_2 {γ β : Type} (Inv : Nat → β → Mem → Prop) (L : Nat → β → Int → Mem → Option γ) (n : Nat) (Q : γ → Prop) (hs : ∀ F j x m, j < n → Inv j x m → (∀ x2 (i : Int) m2, i = (j : Int) + 1 → Inv (j + 1) x2 m2 → Wp (L F x2 i m2) Q) → Wp (L (F + 1) x j m) Q) (he : ∀ F x m, Inv n x m → Wp (L (F + 1) x n m) Q) : ∀ F x m, n + 1 ≤ F → Inv 0 x m → Wp (L F x 0 m) Q := by
  have g : ∀ F (j : Nat) x m, j ≤ n → n + 1 ≤ F + j → Inv j x m → Wp (L F x j m) Q := by
    intro F
    induction F with
    | zero => intro j x m h1 h2 _; exfalso; omega
    | succ F ih =>
      intro j x m h1 h2 hI
      by_cases e : j = n
      · subst e; exact he F x m hI
      · refine hs F j x m (by omega) hI (fun x2 i m2 hi hI2 => ?_)
        rw [hi]
        exact ih (j + 1) x2 m2 (by omega) (by omega) hI2
  intro F x m h hI
  exact g F 0 x m (by omega) (by omega) hI
theorem ar_ld {a : Nat} {n : Nat} {i : Int} (k : shK a = 1) (hn : shN a = n) (h0 : 0 ≤ i) (h1 : i < n) (m : Mem) : aldI a i m = some (m a i.toNat) := if_pos ⟨k, h0, by rw [hn]; exact h1⟩
theorem ar_st {a : Nat} {n : Nat} {i : Int} (k : shK a = 1) (hn : shN a = n) (h3 : 3 ≤ a) (h0 : 0 ≤ i) (h1 : i < n) (v : Int) (m : Mem) : astI a i v m = some (setA m a (fun j => if j = i.toNat then v else m a j)) := by
  rw [← up_setA]
  exact if_pos ⟨k, h3, h0, by rw [hn]; exact h1⟩
theorem ar_len {a n : Nat} (k : shK a = 1) (hn : shN a = n) : alen a = some (n : Int) := by
  unfold alen
  rw [if_pos (by omega), hn]
theorem x_fill {N : Nat} {a n : Nat} (k : shK a = 1) (hn : shN a = n) (h3 : 3 ≤ a) (hN : n + 1 ≤ N) (hn2 : n ≤ 2000) (v : Int) (m : Mem) : J7_fill_53178 N a v m = some (setA m a (fun j => if j < n then v else m a j)) := by
  refine wp_eq ?_
  unfold J7_fill_53178
  refine wp_b (ar_len k hn) ?_
  refine lw_1 (fun j m2 => m2 = setA m a (fun i => if i < j then v else m a i)) (fun F i m2 => J7_fill_53178_L5 N F a v i n m2) n _ (fun F j m2 hj hI ih => ?_) (fun F m2 hI => ?_) N m hN ?_
  · show Wp (J7_fill_53178_L5_b N (J7_fill_53178_L5 N F) a v j n m2) _
    unfold J7_fill_53178_L5_b
    rw [if_neg (by omega)]
    refine wp_b (ar_st k hn h3 (by omega) (by omega) v m2) ?_
    refine ih _ _ (by first | omega | (simp (disch := omega) only [wI_of2] <;> omega)) ?_
    rw [hI, setA_setA, setA_same]
    congr 1
    funext i
    rw [Int.toNat_natCast]
    by_cases e : i = j
    · rw [if_pos e, if_pos (by omega)]
    · rw [if_neg e]
      by_cases q : i < j
      · rw [if_pos q, if_pos (by omega)]
      · rw [if_neg q, if_neg (by omega)]
  · show Wp (J7_fill_53178_L5_b N (J7_fill_53178_L5 N F) a v n n m2) _
    unfold J7_fill_53178_L5_b
    rw [if_pos (Int.le_refl _)]
    exact wp_some hI
  · have : (fun i : Nat => if i < 0 then v else m a i) = m a := by
      funext i
      rw [if_neg (by omega)]
    rw [this, setA_self]
theorem x_acopy {a b : Nat} (ka : shK a = 1) (kb : shK b = 1) (h3 : 3 ≤ a) (h4 : 3 ≤ b) {k : Int} (k0 : 0 ≤ k) (k1 : k ≤ shN a) (k2 : k ≤ shN b) (m : Mem) : acopy a 0 b 0 k m = some (setA m b (fun j => if j < k.toNat then m a j else m b j)) := by
  unfold acopy
  rw [if_pos ⟨ka, kb, h3, h4, by omega, by omega, k0, by omega, by omega⟩]
  congr 1
  funext c j
  unfold setA
  by_cases e : c = b
  · subst e
    rw [if_pos rfl]
    by_cases q : j < k.toNat
    · rw [if_pos q, if_pos ⟨rfl, by omega, by omega⟩]
      congr 1
      omega
    · rw [if_neg q, if_neg (fun x => q (by omega))]
  · rw [if_neg e, if_neg (fun x => e x.1)]
theorem ld_3 {L : Nat} (h : isLd L = true) {k : Nat} (c : k < 3) : 3 ≤ L + 1 + k := by
  have q := ((ld_c L (isLd_lt h) h).2 k c).2
  simp only [Bool.and_eq_true, decide_eq_true_eq] at q
  exact q.2
theorem ld_P {L : Nat} (h : isLd L = true) (v : Int) (m : Mem) : putI 1 3 L v m = some (up m L 3 v) := by
  have q := (ld_c L (isLd_lt h) h).1
  simp only [Bool.and_eq_true, beq_iff_eq] at q
  exact if_pos ⟨q.1, by omega⟩
theorem ld_R2 {m : Mem} {L : Nat} {k : Nat} (r : Refs m) (h : isLd L = true) (c : k < 3) : getR 1 k L m = some (L + 1 + k) := rc r (L + 1 + k) ((ld_c L (isLd_lt h) h).2 k c).1
theorem isLd_far {L K : Nat} (h : isLd L = true) (g : isLd K = true) (q : ¬L = K) : L + 3 < K ∨ K + 3 < L := by
  have f : ∀ L, L < 160 → isLd L = true → ∀ K, K < 160 → isLd K = true → (L == K || decide (L + 3 < K) || decide (K + 3 < L)) = true := by decide +kernel
  have := f L (isLd_lt h) h K (isLd_lt g) g
  simp only [Bool.or_eq_true, beq_iff_eq, decide_eq_true_eq] at this
  omega
/-- one land is copied into another -/
theorem x_copy {m : Mem} {L K : Nat} {l : Lnd} (r : Refs m) (hL : isLd L = true) (h : LD m K l) (q : ¬L = K) : Wp (X1_copyFrom L K m) (fun m2 => LD m2 L l ∧ Refs m2 ∧ Off (fun a => L ≤ a ∧ a ≤ L + 3) m m2) := by
  have far := isLd_far hL h.1 q
  have sK := fun k c => ld_S (L := K) h.1 (k := k) c
  have sL := fun k c => ld_S (L := L) hL (k := k) c
  have tK := fun k c => ld_3 (L := K) h.1 (k := k) c
  have tL := fun k c => ld_3 (L := L) hL (k := k) c
  unfold X1_copyFrom
  rw [if_pos (ld_K (m := up m L 3 0) (l := fun _ _ => 0) (L := L) |> fun _ => (by have := (ld_c L (isLd_lt hL) hL).1; simp only [Bool.and_eq_true, beq_iff_eq] at this; exact this.1))]
  refine wp_b (ld_R r h (by decide)) ?_
  refine wp_b (ld_R2 r hL (by decide)) ?_
  refine wp_b (ld_R2 r hL (by decide)) ?_
  refine wp_b (ar_len (sL 0 (by decide)).1 (sL 0 (by decide)).2) ?_
  refine wp_b (x_acopy (sK 0 (by decide)).1 (sL 0 (by decide)).1 (tK 0 (by decide)) (tL 0 (by decide)) (by omega) (by rw [(sK 0 (by decide)).2]; exact Int.le_refl _) (by rw [(sL 0 (by decide)).2]; exact Int.le_refl _) m) ?_
  have r1 := refs_set r (a := L + 1 + 0) (Or.inl (sL 0 (by decide)).1) (fun j => if j < ((lln 0 : Nat) : Int).toNat then m (K + 1 + 0) j else m (L + 1 + 0) j)
  have h1 := ld_set h (a := L + 1 + 0) (by omega) (fun j => if j < ((lln 0 : Nat) : Int).toNat then m (K + 1 + 0) j else m (L + 1 + 0) j)
  refine wp_b (ld_R r1 h1 (by decide)) ?_
  refine wp_b (ld_R2 r1 hL (by decide)) ?_
  refine wp_b (ld_R2 r1 hL (by decide)) ?_
  refine wp_b (ar_len (sL 1 (by decide)).1 (sL 1 (by decide)).2) ?_
  refine wp_b (x_acopy (sK 1 (by decide)).1 (sL 1 (by decide)).1 (tK 1 (by decide)) (tL 1 (by decide)) (by omega) (by rw [(sK 1 (by decide)).2]; exact Int.le_refl _) (by rw [(sL 1 (by decide)).2]; exact Int.le_refl _) _) ?_
  generalize hm1 : setA m (L + 1 + 0) (fun j => if j < ((lln 0 : Nat) : Int).toNat then m (K + 1 + 0) j else m (L + 1 + 0) j) = m1 at r1 h1 ⊢
  have r2 := refs_set r1 (a := L + 1 + 1) (Or.inl (sL 1 (by decide)).1) (fun j => if j < ((lln 1 : Nat) : Int).toNat then m1 (K + 1 + 1) j else m1 (L + 1 + 1) j)
  have h2 := ld_set h1 (a := L + 1 + 1) (by omega) (fun j => if j < ((lln 1 : Nat) : Int).toNat then m1 (K + 1 + 1) j else m1 (L + 1 + 1) j)
  refine wp_b (ld_R r2 h2 (by decide)) ?_
  refine wp_b (ld_R2 r2 hL (by decide)) ?_
  refine wp_b (ld_R2 r2 hL (by decide)) ?_
  refine wp_b (ar_len (sL 2 (by decide)).1 (sL 2 (by decide)).2) ?_
  refine wp_b (x_acopy (sK 2 (by decide)).1 (sL 2 (by decide)).1 (tK 2 (by decide)) (tL 2 (by decide)) (by omega) (by rw [(sK 2 (by decide)).2]; exact Int.le_refl _) (by rw [(sL 2 (by decide)).2]; exact Int.le_refl _) _) ?_
  generalize hm2 : setA m1 (L + 1 + 1) (fun j => if j < ((lln 1 : Nat) : Int).toNat then m1 (K + 1 + 1) j else m1 (L + 1 + 1) j) = m2 at r2 h2 ⊢
  have r3 := refs_set r2 (a := L + 1 + 2) (Or.inl (sL 2 (by decide)).1) (fun j => if j < ((lln 2 : Nat) : Int).toNat then m2 (K + 1 + 2) j else m2 (L + 1 + 2) j)
  have h3 := ld_set h2 (a := L + 1 + 2) (by omega) (fun j => if j < ((lln 2 : Nat) : Int).toNat then m2 (K + 1 + 2) j else m2 (L + 1 + 2) j)
  refine wp_b (ld_I h3) ?_
  refine wp_b (ld_P hL _ _) ?_
  generalize hm3 : setA m2 (L + 1 + 2) (fun j => if j < ((lln 2 : Nat) : Int).toNat then m2 (K + 1 + 2) j else m2 (L + 1 + 2) j) = m3 at r3 h3 ⊢
  refine wp_some ⟨⟨hL, fun k i hk i0 i1 => ?_, up_same _ _ _ _⟩, refs_up r3 ?_ _, fun a ha => ?_⟩
  · have e : up m3 L 3 (l 3 0) (L + 1 + k) = m3 (L + 1 + k) := by
      funext j
      exact if_neg (by omega)
    rw [e]
    have i2 : i.toNat < lln k := by omega
    have c : k = 0 ∨ k = 1 ∨ k = 2 := by omega
    rcases c with c | c | c
    · subst c
      rw [← hm3, setA_ne (by omega), ← hm2, setA_ne (by omega), ← hm1, setA_same]
      show (if i.toNat < ((lln 0 : Nat) : Int).toNat then m (K + 1 + 0) i.toNat else m (L + 1 + 0) i.toNat) = _
      rw [if_pos (by omega)]
      exact h.2.1 0 i hk i0 i1
    · subst c
      rw [← hm3, setA_ne (by omega), ← hm2, setA_same]
      show (if i.toNat < ((lln 1 : Nat) : Int).toNat then m1 (K + 1 + 1) i.toNat else m1 (L + 1 + 1) i.toNat) = _
      rw [if_pos (by omega)]
      exact h1.2.1 1 i hk i0 i1
    · subst c
      rw [← hm3, setA_same]
      show (if i.toNat < ((lln 2 : Nat) : Int).toNat then m2 (K + 1 + 2) i.toNat else m2 (L + 1 + 2) i.toNat) = _
      rw [if_pos (by omega)]
      exact h2.2.1 2 i hk i0 i1
  · unfold isRef
    have := (ld_c L (isLd_lt hL) hL).1
    simp only [Bool.and_eq_true, beq_iff_eq] at this
    rw [this.1]
    rfl
  · have n1 : ¬a = L := fun e => ha (by omega)
    have e : up m3 L 3 (l 3 0) a = m3 a := by
      funext j
      exact if_neg (by omega)
    rw [e, ← hm3, setA_ne (by omega), ← hm2, setA_ne (by omega), ← hm1, setA_ne (by omega)]
