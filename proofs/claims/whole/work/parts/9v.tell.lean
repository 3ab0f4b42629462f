/-! the class tells and walks -/
theorem sum_ins {g h : Nat → Int} {q : Nat} : ∀ i, q ≤ i → (∀ j, j < q → h j = g j) → (∀ j, q < j → j ≤ i → h j = g (j - 1)) → sumTo h (i + 1) = sumTo g i + h q := by
  intro i
  induction i with
  | zero =>
    intro hq _ _
    have e : q = 0 := by omega
    subst e
    show (0 : Int) + h 0 = 0 + h 0
    rfl
  | succ i ih =>
    intro hq h1 h2
    by_cases e : q = i + 1
    · subst e
      show sumTo h (i + 1) + h (i + 1) = sumTo g (i + 1) + h (i + 1)
      rw [sumTo_same h1]
    · have a := ih (by omega) h1 (fun j a b => h2 j a (by omega))
      show sumTo h (i + 1) + h (i + 1) = sumTo g i + g i + h q
      rw [a, h2 (i + 1) (by omega) (Nat.le_refl _), Nat.add_sub_cancel]
      omega
def lsI (T : Nat → Int) (x : Int) : Nat → Int := fun j => if T j < x then 1 else 0
theorem lsI_in (T : Nat → Int) (x : Int) (j : Nat) : 0 ≤ lsI T x j ∧ lsI T x j ≤ 1 := by
  unfold lsI
  split <;> omega
theorem sum_lo {f : Nat → Int} {k : Nat} (h : ∀ j, f j = if j < k then 1 else 0) : ∀ n, k ≤ n → sumTo f n = k := by
  have a : ∀ n, sumTo f n = if n < k then (n : Int) else k := by
    intro n
    induction n with
    | zero =>
      show (0 : Int) = _
      split <;> omega
    | succ n ih =>
      show sumTo f n + f n = _
      rw [ih, h n]
      split <;> split <;> omega
  intro n hn
  rw [a n, if_neg (by omega)]
/-- the told cells in their order -/
def Srt (A T : Nat → Int) (i : Nat) : Prop := (∀ j k, j < k → k < i → A j < A k) ∧ (∀ x, sumTo (lsI A x) i = sumTo (lsI T x) i) ∧ ∀ j, j < i → ∃ k, k < i ∧ A j = T k
theorem srt_at {A T : Nat → Int} {n j : Nat} (h : Srt A T n) (hj : j < n) : sumTo (lsI T (A j)) n = j := by
  rw [← h.2.1 (A j)]
  rw [sumTo_same (g := fun k => if k < j then 1 else 0) (fun k hk => ?_)]
  · exact sum_lo (fun _ => rfl) n (by omega)
  · show (if A k < A j then (1 : Int) else 0) = if k < j then 1 else 0
    by_cases q : k < j
    · rw [if_pos q, if_pos (h.1 k j q hj)]
    · rw [if_neg q]
      by_cases e : k = j
      · rw [e, if_neg (by omega)]
      · have := h.1 j k (by omega) hk
        rw [if_neg (by omega)]
theorem srt_ins {A B T : Nat → Int} {i q : Nat} (h : Srt A T i) (hq : q ≤ i) (un : ∀ j, j < i → ¬T j = T i) (lo : q = 0 ∨ A (q - 1) ≤ T i) (hi : ∀ j, q ≤ j → j < i → T i < A j) (b1 : ∀ j, j < q → B j = A j) (b2 : B q = T i) (b3 : ∀ j, q < j → j ≤ i → B j = A (j - 1)) : Srt B T (i + 1) := by
  obtain ⟨h1, h2, h3⟩ := h
  have ne : ∀ j, j < i → ¬A j = T i := fun j hj e => by
    obtain ⟨k, hk, ek⟩ := h3 j hj
    exact un k hk (ek.symm.trans e)
  have low : ∀ j, j < q → A j < T i := fun j hj => by
    rcases lo with e | e
    · omega
    · have n1 := ne (q - 1) (by omega)
      by_cases u : j = q - 1
      · rw [u]; omega
      · have := h1 j (q - 1) (by omega) (by omega)
        omega
  refine ⟨fun j k hjk hk => ?_, fun x => ?_, fun j hj => ?_⟩
  · by_cases k1 : k < q
    · rw [b1 j (by omega), b1 k k1]; exact h1 j k hjk (by omega)
    · by_cases k2 : k = q
      · rw [k2, b2, b1 j (by omega)]; exact low j (by omega)
      · rw [b3 k (by omega) (by omega)]
        have hk2 := hi (k - 1) (by omega) (by omega)
        by_cases j1 : j < q
        · rw [b1 j j1]
          have := low j j1
          omega
        · by_cases j2 : j = q
          · rw [j2, b2]; exact hk2
          · rw [b3 j (by omega) (by omega)]
            exact h1 (j - 1) (k - 1) (by omega) (by omega)
  · have e := sum_ins (g := lsI A x) (h := lsI B x) (q := q) i hq (fun j hj => by unfold lsI; rw [b1 j hj]) (fun j a b => by unfold lsI; rw [b3 j a b])
    rw [e, h2 x]
    show sumTo (lsI T x) i + lsI B x q = sumTo (lsI T x) i + lsI T x i
    unfold lsI
    rw [b2]
  · by_cases j1 : j < q
    · obtain ⟨k, hk, ek⟩ := h3 j (by omega)
      exact ⟨k, by omega, by rw [b1 j j1]; exact ek⟩
    · by_cases j2 : j = q
      · exact ⟨i, by omega, by rw [j2]; exact b2⟩
      · obtain ⟨k, hk, ek⟩ := h3 (j - 1) (by omega)
        exact ⟨k, by omega, by rw [b3 j (by omega) (by omega)]; exact ek⟩
theorem x_tell {N : Nat} (hN : 2000 ≤ N) {m : Mem} (r : Refs m) {n : Nat} (hn : n ≤ 10) (un : ∀ i, i < n → ∀ j, j < i → ¬m 4 j = m 4 i) : ∃ m2, X2_tell N 258 4 (n : Int) m = some m2 ∧ m2 258 1 = (n : Int) ∧ Srt (m2 259) (m 4) n ∧ Refs m2 ∧ ∀ a k, ¬((a = 258 ∧ k = 1) ∨ a = 259) → m2 a k = m a k := by
  have X : Wp (X2_tell N 258 4 (n : Int) m) (fun m2 => m2 258 1 = (n : Int) ∧ Srt (m2 259) (m 4) n ∧ Refs m2 ∧ ∀ a k, ¬((a = 258 ∧ k = 1) ∨ a = 259) → m2 a k = m a k) := by
    unfold X2_tell
    refine wp_k k258 ?_
    refine wp_b (d1P 0 m) ?_
    refine lw_1 (fun i mm => mm 258 1 = (i : Int) ∧ Srt (mm 259) (m 4) i ∧ Refs mm ∧ ∀ a k, ¬((a = 258 ∧ k = 1) ∨ a = 259) → mm a k = m a k) (fun F i mm => X2_tell_L7 N F 258 4 (n : Int) i mm) n _ (fun F i mm hi hI ih => ?_) (fun F mm hI => ?_) N _ (by omega) ⟨up_same _ _ _ _, ⟨fun j k _ hk => absurd hk (Nat.not_lt_zero k), fun _ => rfl, fun j hj => absurd hj (Nat.not_lt_zero j)⟩, refs_up r (by decide +kernel) 0, fun a k hk => by
      unfold up
      rw [if_neg (fun u => hk (Or.inl u))]⟩
    · obtain ⟨c1, srt, rm, f⟩ := hI
      have e4 : mm 4 = m 4 := funext fun k => f 4 k (by omega)
      show Wp (X2_tell_L7_b N (X2_tell_L7 N F) 258 4 (n : Int) i mm) _
      unfold X2_tell_L7_b
      rw [if_neg (by omega), if_neg (by omega)]
      refine wp_b (ar_len (a := 4) (n := 1600) (by decide +kernel) (by decide +kernel)) ?_
      rw [if_neg (by omega)]
      refine wp_b (d1I mm) ?_
      rw [c1]
      -- the place is found
      have fin : ∀ (mk : Mem) (q : Nat), q ≤ i → Refs mk → mk 258 1 = (i : Int) → (∀ a k, ¬((a = 258 ∧ k = 1) ∨ a = 259) → mk a k = m a k) → (q = 0 ∨ mm 259 (q - 1) ≤ m 4 i) → (∀ j, q ≤ j → j < i → m 4 i < mm 259 j) → (∀ j, j < q → mk 259 j = mm 259 j) → (∀ j, q < j → j ≤ i → mk 259 j = mm 259 (j - 1)) → Wp ((fun z13 z14 z15 z16 z17 m18 =>
            (getR 2 0 z13 m18).bind fun t19 =>
            (aldI z14 z16 m18).bind fun t20 =>
            (astI t19 z17 t20 m18).bind fun m21 =>
            (getI 2 1 z13 m21).bind fun t22 =>
            (putI 2 1 z13 (wI (t22 + 1)) m21).bind fun m23 =>
            X2_tell_L7 N F z13 z14 z15 (wI (z16 + 1)) m23) 258 4 (n : Int) (i : Int) (q : Int) mk) (fun m2 => m2 258 1 = (n : Int) ∧ Srt (m2 259) (m 4) n ∧ Refs m2 ∧ ∀ a k, ¬((a = 258 ∧ k = 1) ∨ a = 259) → m2 a k = m a k) := by
        intro mk q hq rk ck fk lo hi2 b1 b3
        show Wp ((getR 2 0 258 mk).bind fun t19 => (aldI 4 (i : Int) mk).bind fun t20 => (astI t19 (q : Int) t20 mk).bind fun m21 => (getI 2 1 258 m21).bind fun t22 => (putI 2 1 258 (wI (t22 + 1)) m21).bind fun m23 => X2_tell_L7 N F 258 4 (n : Int) (wI ((i : Int) + 1)) m23) _
        refine wp_b (d0R rk) ?_
        refine wp_b (arI 1600 (by decide +kernel) (by omega) (by omega) mk) ?_
        rw [Int.toNat_natCast, fk 4 i (by omega)]
        obtain ⟨g1, e1, a1, k1⟩ := ar_stE (a := 259) (n := 10) (i := (q : Int)) (by decide +kernel) (by decide +kernel) (by decide) (by omega) (by omega) (m 4 i) mk
        rw [Int.toNat_natCast] at a1 k1
        refine wp_b e1 ?_
        refine wp_b (d1I _) ?_
        rw [setA_ne (show ¬258 = 259 from by decide), ck, wI_of2 (x := (i : Int) + 1) (by omega) (by omega)]
        refine wp_b (d1P _ _) ?_
        refine ih ((i : Int) + 1) _ rfl ⟨?_, ?_, refs_up (refs_set rk (by decide +kernel) g1) (by decide +kernel) _, fun a k hk => ?_⟩
        · rw [up_same]; omega
        · refine srt_ins srt hq (fun j hj => un i hi j hj) lo hi2 (fun j hj => ?_) ?_ (fun j a b => ?_)
          · rw [up_obj (by decide), setA_same, k1 j (by omega)]; exact b1 j hj
          · rw [up_obj (by decide), setA_same]; exact a1
          · rw [up_obj (by decide), setA_same, k1 j (by omega)]; exact b3 j a b
        · unfold up
          rw [if_neg (fun u => hk (Or.inl u)), setA_ne (fun u => hk (Or.inr u))]
          exact fk a k hk
      have go := lw_1 (fun c mk => Refs mk ∧ mk 258 1 = (i : Int) ∧ (∀ a k, ¬((a = 258 ∧ k = 1) ∨ a = 259) → mk a k = m a k) ∧ (∀ j, i - c ≤ j → j < i → m 4 i < mm 259 j) ∧ (∀ j, j < i - c → mk 259 j = mm 259 j) ∧ (∀ j, i - c < j → j ≤ i → mk 259 j = mm 259 (j - 1))) (fun F2 c mk => X2_tell_L30 N (fun z13 z14 z15 z16 z17 m18 =>
            (getR 2 0 z13 m18).bind fun t19 =>
            (aldI z14 z16 m18).bind fun t20 =>
            (astI t19 z17 t20 m18).bind fun m21 =>
            (getI 2 1 z13 m21).bind fun t22 =>
            (putI 2 1 z13 (wI (t22 + 1)) m21).bind fun m23 =>
            X2_tell_L7 N F z13 z14 z15 (wI (z16 + 1)) m23) F2 258 4 (n : Int) (i : Int) ((i : Int) - c) mk) i (fun m2 => m2 258 1 = (n : Int) ∧ Srt (m2 259) (m 4) n ∧ Refs m2 ∧ ∀ a k, ¬((a = 258 ∧ k = 1) ∨ a = 259) → m2 a k = m a k) (fun F2 c mk hc hI2 ih2 => ?_) (fun F2 mk hI2 => ?_) N mm (by omega) ⟨rm, c1, f, fun j a b => by omega, fun j hj => rfl, fun j a b => by omega⟩
      · rw [Int.sub_zero] at go
        exact go
      · obtain ⟨rk, ck, fk, hi2, b1, b3⟩ := hI2
        obtain ⟨q, hq⟩ : ∃ q, q + 1 + c = i := ⟨i - c - 1, by omega⟩
        have e4k : mk 4 i = m 4 i := fk 4 i (by omega)
        show Wp (X2_tell_L30_b N _ (X2_tell_L30 N _ F2) 258 4 (n : Int) (i : Int) ((i : Int) - (c : Int)) mk) _
        rw [show (i : Int) - (c : Int) = ((q + 1 : Nat) : Int) from by omega]
        unfold X2_tell_L30_b
        rw [if_neg (by omega)]
        refine wp_b (d0R rk) ?_
        rw [wI_of2 (x := ((q + 1 : Nat) : Int) - 1) (by omega) (by omega)]
        refine wp_b (arI 10 (by decide +kernel) (by omega) (by omega) mk) ?_
        refine wp_b (arI 1600 (by decide +kernel) (by omega) (by omega) mk) ?_
        rw [Int.toNat_natCast, e4k, show (((q + 1 : Nat) : Int) - 1).toNat = q from by omega, b1 q (by omega)]
        by_cases y : mm 259 q ≤ m 4 i
        · rw [if_pos y]
          exact fin mk (q + 1) (by omega) rk ck fk (Or.inr (by rw [Nat.add_sub_cancel]; exact y)) (fun j a b => hi2 j (by omega) b) (fun j hj => b1 j (by omega)) (fun j a b => b3 j (by omega) b)
        · rw [if_neg y]
          refine wp_b (d0R rk) ?_
          refine wp_b (d0R rk) ?_
          refine wp_b (arI 10 (by decide +kernel) (by omega) (by omega) mk) ?_
          rw [show (((q + 1 : Nat) : Int) - 1).toNat = q from by omega, b1 q (by omega)]
          obtain ⟨g1, e1, a1, k1⟩ := ar_stE (a := 259) (n := 10) (i := ((q + 1 : Nat) : Int)) (by decide +kernel) (by decide +kernel) (by decide) (by omega) (by omega) (mm 259 q) mk
          rw [Int.toNat_natCast] at a1 k1
          refine wp_b e1 ?_
          rw [wI_of2 (x := ((q + 1 : Nat) : Int) + (-1)) (by omega) (by omega), show ((q + 1 : Nat) : Int) + (-1) = (i : Int) - ((c : Int) + 1) from by omega]
          refine ih2 ((c : Int) + 1) _ rfl ⟨refs_set rk (by decide +kernel) g1, by rw [setA_ne (by decide)]; exact ck, fun a k hk => by rw [setA_ne (fun u => hk (Or.inr u))]; exact fk a k hk, fun j a b => ?_, fun j hj => ?_, fun j a b => ?_⟩
          · by_cases u : j = q
            · rw [u]; omega
            · exact hi2 j (by omega) b
          · rw [setA_same, k1 j (by omega)]; exact b1 j (by omega)
          · rw [setA_same]
            by_cases u : j = q + 1
            · rw [u, a1, Nat.add_sub_cancel]
            · rw [k1 j u]; exact b3 j (by omega) b
      · obtain ⟨rk, ck, fk, hi2, b1, b3⟩ := hI2
        show Wp (X2_tell_L30_b N _ (X2_tell_L30 N _ F2) 258 4 (n : Int) (i : Int) ((i : Int) - (i : Int)) mk) _
        rw [Int.sub_self]
        unfold X2_tell_L30_b
        rw [if_pos (Int.le_refl _)]
        exact fin mk 0 (Nat.zero_le _) rk ck fk (Or.inl rfl) (fun j a b => hi2 j (by omega) b) (fun j hj => absurd hj (Nat.not_lt_zero j)) (fun j a b => b3 j (by omega) b)
    · obtain ⟨c1, srt, rm, f⟩ := hI
      show Wp (X2_tell_L7_b N (X2_tell_L7 N F) 258 4 (n : Int) n mm) _
      unfold X2_tell_L7_b
      rw [if_pos (Int.le_refl _)]
      exact wp_some ⟨c1, srt, rm, f⟩
  exact X
/-- the walks that begin in a cell -/
def bgT (I : Isl) (T : Nat → Int) (n : Nat) : Nat → Int := fun i => if edB I (T i) = true then WY (ajS I T) n (n - 1) (0 ||| 2 ^ i) i else 0
theorem bgT_0 (I : Isl) (T : Nat → Int) (n i : Nat) : 0 ≤ bgT I T n i := by
  unfold bgT
  split
  · exact WY_0 _ _ _ _ _
  · exact Int.le_refl 0
theorem one_c {n i : Nat} (hn : n < 11) (hi : i < n) : pop (0 ||| 2 ^ i) = 1 ∧ 0 ||| 2 ^ i < 2 ^ n := by
  have w := w_or (s := 0) (c := i) (by decide) (by omega) (Nat.zero_testBit i)
  rw [pop_0] at w
  exact ⟨w.1, w_lt (Nat.two_pow_pos n) hi⟩
theorem bgT_in (I : Isl) (T : Nat → Int) {n : Nat} (hn : n < 11) (i : Nat) (hi : i < n) : 0 ≤ bgT I T n i ∧ bgT I T n i ≤ 362880 := by
  have o := one_c hn hi
  unfold bgT
  split
  · exact WY_in (ajS I T) hn (by omega) o.2 (by omega)
  · decide
theorem bgS_in (I : Isl) (T : Nat → Int) {n : Nat} (hn : n < 11) (k : Nat) (hk : k ≤ n) : 0 ≤ sumTo (bgT I T n) k ∧ sumTo (bgT I T n) k ≤ 362880 * k := sumTo_bd (fun j hj => bgT_in I T hn j hj) k hk
theorem x_findWalks {N : Nat} (hN : 2000 ≤ N) {m : Mem} {P : Nat} {I : Isl} {l : Lnd} {T : Nat → Int} {n : Nat} (z : Sz I) (hn : 2 ≤ n) (r : Refs m) (h1 : PD m P I) (hl : LD m 69 l) (td : TD m I T n) : ∃ m2, X2_findWalks N 258 P 69 m = some m2 ∧ TrF m m2 ∧ ((∃ j, j < n ∧ hasW l (T j) = 1) → m2 258 4 = 0) ∧ ((∀ j, j < n → ¬hasW l (T j) = 1) → m2 258 4 = sumTo (bgT I T n) n ∧ (0 < sumTo (bgT I T n) n → ∀ j, j < n → m2 261 j = T ((fz (bgT I T n) n :: FW (ajS I T) n (n - 1) (0 ||| 2 ^ fz (bgT I T n) n) (fz (bgT I T n) n)).getD j 0))) := by
  obtain ⟨t1, t2, t3, t4⟩ := id td
  have z7 := z.2.2.2.2.2.2
  have X : Wp (X2_findWalks N 258 P 69 m) (fun m2 => TrF m m2 ∧ ((∃ j, j < n ∧ hasW l (T j) = 1) → m2 258 4 = 0) ∧ ((∀ j, j < n → ¬hasW l (T j) = 1) → m2 258 4 = sumTo (bgT I T n) n ∧ (0 < sumTo (bgT I T n) n → ∀ j, j < n → m2 261 j = T ((fz (bgT I T n) n :: FW (ajS I T) n (n - 1) (0 ||| 2 ^ fz (bgT I T n) n) (fz (bgT I T n) n)).getD j 0)))) := by
    unfold X2_findWalks
    refine wp_k k258 ?_
    refine wp_b (d4P 0 m) ?_
    have f0 : TrF m (up m 258 4 0) := trf_up (trf_refl m) 0
    have r0 := trf_refs f0 r
    have td0 := trf_td f0 td
    have hl0 : LD (up m 258 4 0) 69 l := ld_off hl (fun a _ _ => trf_ro f0 (by omega))
    refine lw_1 (fun i mm => mm = up m 258 4 0 ∧ ∀ j, j < i → ¬hasW l (T j) = 1) (fun F i mm => X2_findWalks_L7 N _ F 258 P 69 i mm) n _ (fun F i mm hi hI ih => ?_) (fun F mm hI => ?_) N _ (by omega) ⟨rfl, fun j hj => absurd hj (Nat.not_lt_zero j)⟩
    · obtain ⟨hm, hw⟩ := hI
      subst hm
      show Wp (X2_findWalks_L7_b N _ (X2_findWalks_L7 N _ F) 258 P 69 i (up m 258 4 0)) _
      unfold X2_findWalks_L7_b
      refine wp_b (d1I _) ?_
      rw [td0.1, if_neg (by omega)]
      refine wp_b (d0R r0) ?_
      refine wp_b (arI 10 (by decide +kernel) (by omega) (by omega) _) ?_
      rw [Int.toNat_natCast, td0.2.2.1 i hi]
      refine wp_b (x_hasWall r0 hl0 (T i)) ?_
      by_cases q : hasW l (T i) = 1
      · rw [if_neg (by omega)]
        refine wp_some ⟨f0, fun _ => up_same _ _ _ _, fun u => absurd q (u i hi)⟩
      · have wi := hasW_in l (T i)
        rw [if_pos (by omega)]
        refine ih _ _ (by first | omega | (simp (disch := omega) only [wI_of2] <;> omega)) ⟨rfl, fun j hj => ?_⟩
        by_cases e : j = i
        · rw [e]; exact q
        · exact hw j (by omega)
    · obtain ⟨hm, hw⟩ := hI
      subst hm
      show Wp (X2_findWalks_L7_b N _ (X2_findWalks_L7 N _ F) 258 P 69 n (up m 258 4 0)) _
      unfold X2_findWalks_L7_b
      refine wp_b (d1I _) ?_
      rw [td0.1, if_pos (Int.le_refl _)]
      show Wp (X2_findWalks_L37 N N 258 P 0 (up m 258 4 0)) _
      refine lw_1 (fun i mm => TrF m mm ∧ mm 258 4 = sumTo (bgT I T n) i ∧ (fz (bgT I T n) i < i → ∀ j, j < n → mm 261 j = T ((fz (bgT I T n) i :: FW (ajS I T) n (n - 1) (0 ||| 2 ^ fz (bgT I T n) i) (fz (bgT I T n) i)).getD j 0))) (fun F i mm => X2_findWalks_L37 N F 258 P i mm) n _ (fun F i mm hi hI ih => ?_) (fun F mm hI => ?_) N _ (by omega) ⟨f0, up_same _ _ _ _, fun u => absurd u (Nat.not_lt_zero _)⟩
      · obtain ⟨f, x1, x2⟩ := hI
        have rm := trf_refs f r
        have tm := trf_td f td
        have hm := pd_off h1 (m2 := mm) (fun x _ _ _ _ _ => trf_ro f (by have := h1.1; omega))
        have b1 := bgS_in I T (n := n) (by omega) i (by omega)
        have es : sumTo (bgT I T n) (i + 1) = sumTo (bgT I T n) i + bgT I T n i := rfl
        have szc := sum_fz (bgT_0 I T n) i
        have l0 := fz_le (bgT I T n) i
        show Wp (X2_findWalks_L37_b N (X2_findWalks_L37 N F) 258 P i mm) _
        unfold X2_findWalks_L37_b
        refine wp_b (d1I _) ?_
        rw [tm.1, if_neg (by omega)]
        refine wp_b (d0R rm) ?_
        refine wp_b (arI 10 (by decide +kernel) (by omega) (by omega) _) ?_
        rw [Int.toNat_natCast, tm.2.2.1 i hi]
        refine wp_b (x_isAtEdge hm z (t4 i hi).1 (t4 i hi).2) ?_
        by_cases q : edB I (T i) = true
        · have eb : bgT I T n i = WY (ajS I T) n (n - 1) (0 ||| 2 ^ i) i := if_pos q
          have o := one_c (n := n) (by omega) hi
          rw [if_pos q, if_neg (by decide)]
          have wi := WY_in (ajS I T) (n := n) (r := n - 1) (s := 0 ||| 2 ^ i) (a := i) (by omega) (by omega) o.2 (by omega)
          obtain ⟨m3, e3, f3, y1, y2, y3, y4⟩ := x_tread hN z hn (n - 1) 0 12 i 0 mm (by omega) (by omega) hi (Nat.two_pow_pos n) (by omega) o.2 rm hm tm (by omega) (by omega)
          refine wp_b e3 ?_
          unfold X2_findWalks_J66
          refine ih _ m3 (by first | omega | (simp (disch := omega) only [wI_of2] <;> omega)) ⟨trf_trans f f3, by rw [y1, x1, es, eb], fun v => ?_⟩
          by_cases w2 : fz (bgT I T n) i = i
          · have s0 := szc.1.mp w2
            by_cases w3 : bgT I T n i = 0
            · rw [fz_miss w2 w3] at v
              omega
            · have wpos : 0 < WY (ajS I T) n (n - 1) (0 ||| 2 ^ i) i := by
                have := bgT_0 I T n i
                omega
              have fr := y4 (by omega) wpos
              rw [fz_hit w2 w3]
              intro j hj
              rw [fr j hj, if_neg (Nat.not_lt_zero j), Nat.sub_zero]
          · have e := fz_more (f := bgT I T n) (c := i) (by omega) 1
            have spos := szc.2 (by omega)
            rw [e, y3 (Or.inl (by omega))]
            exact x2 (by omega)
        · have eb : bgT I T n i = 0 := if_neg q
          rw [if_neg q, if_pos rfl]
          unfold X2_findWalks_J66
          refine ih _ mm (by first | omega | (simp (disch := omega) only [wI_of2] <;> omega)) ⟨f, by rw [x1, es, eb, Int.add_zero], fun v => ?_⟩
          by_cases w2 : fz (bgT I T n) i = i
          · rw [fz_miss w2 eb] at v
            omega
          · have e := fz_more (f := bgT I T n) (c := i) (by omega) 1
            rw [e]
            exact x2 (by omega)
      · obtain ⟨f, x1, x2⟩ := hI
        have tm := trf_td f td
        show Wp (X2_findWalks_L37_b N (X2_findWalks_L37 N F) 258 P n mm) _
        unfold X2_findWalks_L37_b
        refine wp_b (d1I _) ?_
        rw [tm.1, if_pos (Int.le_refl _)]
        refine wp_some ⟨f, fun ⟨j, hj, u⟩ => absurd u (hw j hj), fun _ => ⟨x1, fun u => x2 ?_⟩⟩
        have szn := sum_fz (bgT_0 I T n) n
        have ln := fz_le (bgT I T n) n
        rcases Nat.lt_or_ge (fz (bgT I T n) n) n with w | w
        · exact w
        · have := szn.1.mp (by omega)
          omega
  exact X
