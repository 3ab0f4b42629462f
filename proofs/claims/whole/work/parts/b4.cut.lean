/-! the class cuts a sign -/
theorem ow_len {L : List Nat} (h : ¬ow L = -1) : L.length ≤ 7 ∧ ∃ i : Nat, i < 27 ∧ ow L = i ∧ owT.getD i [] = L := by
  rcases owN_in L 27 with ⟨e, _⟩ | ⟨i, hi, e, h1, _⟩
  · exact absurd e h
  · exact ⟨by rw [← h1]; exact (owT_ok i hi).2.1, i, hi, e, h1⟩
theorem lshr_5 (x : Int) : lshr x 5 = x / 32 := rfl
theorem x_putWord {N : Nat} (hN : 2000 ≤ N) {m : Mem} (r : Refs m) (ks : Kst m) {k : Nat} (hc : m 6 2 = (k : Int)) (hk : k < 1601) {a e : Nat} (h1 : a < e) (h2 : e ≤ 1600) (hd : ∀ i, i < e - a → isLt (m 4 (a + i))) : ∃ m2, X8_putWord N 6 4 (a : Int) (e : Int) m = some m2 ∧ (if ¬ow (lts (m 4) a (e - a)) = -1 then Put m m2 k 2 a (ow (lts (m 4) a (e - a))) else if e - a ≤ 6 then Put m m2 k 3 a ((pk5 (lts (m 4) a (e - a)) : Nat) : Int) else Put m m2 k 6 a ((a + 6 : Nat) : Int)) := by
  obtain ⟨L, hL⟩ : ∃ L, L = lts (m 4) a (e - a) := ⟨_, rfl⟩
  have ll : L.length = e - a := by rw [hL]; exact lts_len _ _ _
  have lo : okLt L := by rw [hL]; exact lts_ok hd
  have lD : ∀ j, L.getD j 0 = if j < e - a then (m 4 (a + j) - 96).toNat else 0 := fun j => by rw [hL]; exact lts_D _ _ _ _
  rw [← hL]
  have kb : ∀ j, j ≤ 7 → kf L j < 34359738368 := fun j hj => by
    have := kf_lt lo j
    have c : 32 ^ j ≤ 32 ^ 7 := Nat.pow_le_pow_right (by decide) hj
    have e7 : (32 : Nat) ^ 7 = 34359738368 := by decide
    omega
  have X : Wp (X8_putWord N 6 4 (a : Int) (e : Int) m) (fun m2 => if ¬ow L = -1 then Put m m2 k 2 a (ow L) else if e - a ≤ 6 then Put m m2 k 3 a ((pk5 L : Nat) : Int) else Put m m2 k 6 a ((a + 6 : Nat) : Int)) := by
    unfold X8_putWord
    refine wp_k k6w ?_
    have tail : ∀ s0 : Int, s0 = ow L → Wp (X8_putWord_J68 N 6 (a : Int) (e : Int) ((kf L 7 : Nat) : Int) s0 m) (fun m2 => if ¬ow L = -1 then Put m m2 k 2 a (ow L) else if e - a ≤ 6 then Put m m2 k 3 a ((pk5 L : Nat) : Int) else Put m m2 k 6 a ((a + 6 : Nat) : Int)) := fun s0 hs => by
      subst hs
      unfold X8_putWord_J68
      rw [wI_of2 (x := (e : Int) - (a : Int)) (by omega) (by omega)]
      by_cases q : ow L = -1
      · rw [if_pos q]
        by_cases q2 : e - a ≤ 6
        · rw [if_neg (by omega), lshr_5]
          have e7 : kf L 7 = kf L 6 * 32 + L.getD 6 0 := rfl
          have z6 : L.getD 6 0 = 0 := (okLt_D lo 6).2 (by omega)
          have b6 := kf_lt lo 6
          have e6 : (32 : Nat) ^ 6 = 1073741824 := by decide
          have ek : ((kf L 7 : Nat) : Int) / 32 = ((pk5 L : Nat) : Int) := by
            rw [← kf_pk5 (show L.length ≤ 6 from by omega)]
            omega
          rw [ek, wI_of2 (by omega) (by rw [← kf_pk5 (show L.length ≤ 6 from by omega)]; omega)]
          obtain ⟨m2, e2, p⟩ := x_put r hc hk 3 (a : Int) ((pk5 L : Nat) : Int) (by rw [← kf_pk5 (show L.length ≤ 6 from by omega)]; unfold okPk; omega)
          refine wp_b e2 ?_
          refine wp_some ?_
          rw [if_neg (fun u => u q), if_pos q2]
          exact p
        · rw [if_pos (by omega), show wI ((a : Int) + 6) = ((a + 6 : Nat) : Int) from by rw [wI_of2 (by omega) (by omega)]; omega]
          obtain ⟨m2, e2, p⟩ := x_put r hc hk 6 (a : Int) ((a + 6 : Nat) : Int) (by unfold okPk; omega)
          refine wp_b e2 ?_
          refine wp_some ?_
          rw [if_neg (fun u => u q), if_neg q2]
          exact p
      · rw [if_neg q]
        obtain ⟨_, i0, hi0, eo, _⟩ := ow_len q
        obtain ⟨m2, e2, p⟩ := x_put r hc hk 2 (a : Int) (ow L) (by rw [eo]; unfold okPk; omega)
        refine wp_b e2 ?_
        refine wp_some ?_
        rw [if_pos q]
        exact p
    refine lw_2 (fun j x mm => mm = m ∧ x = ((kf L j : Nat) : Int)) (fun F x i mm => X8_putWord_L6 N _ F 6 4 (a : Int) (e : Int) x i mm) 7 _ (fun F j x mm hj hI ih => ?_) (fun F x mm hI => ?_) N 0 m (by omega) ⟨rfl, rfl⟩
    · obtain ⟨hm, hx⟩ := hI
      subst hm
      subst hx
      have b := kb j (by omega)
      have b2 := kb (j + 1) (by omega)
      have ee : kf L (j + 1) = kf L j * 32 + L.getD j 0 := rfl
      have d := lD j
      show Wp (X8_putWord_L6_b N _ (X8_putWord_L6 N _ F) 6 4 (a : Int) (e : Int) ((kf L j : Nat) : Int) (j : Int) mm) _
      unfold X8_putWord_L6_b
      rw [if_neg (by omega), wI_of2 (x := (a : Int) + (j : Int)) (by omega) (by omega)]
      unfold X8_putWord_J40
      by_cases q : j < e - a
      · rw [if_pos q] at d
        have hl := hd j q
        rw [if_neg (by omega)]
        refine wp_b (arI 1600 (by decide +kernel) (by omega) (by omega) mm) ?_
        rw [show ((a : Int) + (j : Int)).toNat = a + j from by omega]
        refine wp_b (v := mm 4 (a + j) - 96) (by unfold X8_numberOf; rw [wI_of2 (x := mm 4 (a + j) - 97) (by omega) (by omega), wI_of2 (by omega) (by omega)]; congr 1; omega) ?_
        rw [wL_of2 (x := ((kf L j : Nat) : Int) * 32) (by omega) (by omega), wL_of2 (by omega) (by omega)]
        exact ih _ _ mm (by first | omega | (simp (disch := omega) only [wI_of2] <;> omega)) ⟨rfl, by rw [ee, d]; omega⟩
      · rw [if_neg q] at d
        rw [if_pos (by omega), wL_of2 (x := ((kf L j : Nat) : Int) * 32) (by omega) (by omega), wL_of2 (by omega) (by omega)]
        exact ih _ _ mm (by first | omega | (simp (disch := omega) only [wI_of2] <;> omega)) ⟨rfl, by rw [ee, d]; omega⟩
    · obtain ⟨hm, hx⟩ := hI
      subst hm
      subst hx
      show Wp (X8_putWord_L6_b N _ (X8_putWord_L6 N _ F) 6 4 (a : Int) (e : Int) ((kf L 7 : Nat) : Int) 7 mm) _
      unfold X8_putWord_L6_b
      rw [if_pos (by decide)]
      show Wp (if 7 < (wI ((e : Int) - (a : Int))) then _ else _) _
      rw [wI_of2 (x := (e : Int) - (a : Int)) (by omega) (by omega)]
      by_cases q : 7 < e - a
      · rw [if_pos (by omega)]
        refine tail (-1) ?_
        by_cases y : ow L = -1
        · exact y.symm
        · have := (ow_len y).1
          omega
      · rw [if_neg (by omega)]
        refine wp_b (x_ownWord hN r ks lo (by omega)) ?_
        exact tail _ rfl
  exact X
theorem shl4_c : ∀ s : Nat, s < 4 → ∀ j : Nat, j < 12 → ishl (s : Int) (2 * (j : Int)) = ((s * 4 ^ j : Nat) : Int) := by decide +kernel
theorem ior_lo {x y i : Nat} (hx : x < 2 ^ i) (hb : x + y * 2 ^ i < 2147483648) : ior (x : Int) ((y * 2 ^ i : Nat) : Int) = ((x + y * 2 ^ i : Nat) : Int) := by
  have s := Nat.shiftLeft_add_eq_or_of_lt (b := x) (i := i) hx y
  rw [Nat.shiftLeft_eq] at s
  have e : ior (x : Int) ((y * 2 ^ i : Nat) : Int) = (BitVec.ofInt 32 (x : Int) ||| BitVec.ofInt 32 ((y * 2 ^ i : Nat) : Int)).toInt := rfl
  have n1 : (BitVec.ofInt 32 (x : Int)).toNat = x := by rw [BitVec.toNat_ofInt]; omega
  have n2 : (BitVec.ofInt 32 ((y * 2 ^ i : Nat) : Int)).toNat = y * 2 ^ i := by rw [BitVec.toNat_ofInt]; omega
  have n3 : (BitVec.ofInt 32 (x : Int) ||| BitVec.ofInt 32 ((y * 2 ^ i : Nat) : Int)).toNat = x + y * 2 ^ i := by
    rw [BitVec.toNat_or, n1, n2, Nat.or_comm, ← s]
    omega
  rw [e, BitVec.toInt_eq_toNat_of_lt (by rw [n3]; omega), n3]
abbrev skG (T : Nat → Int) (a n : Nat) : Prop := n ≤ 12 ∧ ∀ i : Nat, i < n → ¬sko (T (a + i)) = -1
theorem sko_in (x : Int) : sko x = -1 ∨ 0 ≤ sko x ∧ sko x ≤ 3 := by
  unfold sko
  repeat' split
  all_goals omega
theorem skP_lt (T : Nat → Int) (a : Nat) : ∀ n, skP T a n < 4 ^ n := by
  intro n
  induction n with
  | zero => exact (by decide : 0 < 4 ^ 0)
  | succ n ih =>
    show skP T a n + (sko (T (a + n))).toNat * 4 ^ n < 4 ^ (n + 1)
    have s : (sko (T (a + n))).toNat ≤ 3 := by have := sko_in (T (a + n)); omega
    have p : (sko (T (a + n))).toNat * 4 ^ n ≤ 3 * 4 ^ n := Nat.mul_le_mul_right _ s
    rw [Nat.pow_succ]
    omega
theorem x_putLetters {N : Nat} (hN : 2000 ≤ N) {m : Mem} (r : Refs m) {k : Nat} (hc : m 6 2 = (k : Int)) (hk : k < 1601) {a e : Nat} (h1 : a < e) (h2 : e ≤ 1600) : ∃ m2, X8_putLetters N 6 4 (a : Int) (e : Int) m = some m2 ∧ (if skG (m 4) a (e - a) then Put m m2 k 4 a ((skP (m 4) a (e - a) : Nat) : Int) else Put m m2 k 6 a (a : Int)) := by
  have X : Wp (X8_putLetters N 6 4 (a : Int) (e : Int) m) (fun m2 => if skG (m 4) a (e - a) then Put m m2 k 4 a ((skP (m 4) a (e - a) : Nat) : Int) else Put m m2 k 6 a (a : Int)) := by
    obtain ⟨Q, hQ⟩ : ∃ Q : Mem → Prop, Q = fun m2 => if skG (m 4) a (e - a) then Put m m2 k 4 a ((skP (m 4) a (e - a) : Nat) : Int) else Put m m2 k 6 a (a : Int) := ⟨_, rfl⟩
    rw [← hQ]
    unfold X8_putLetters
    refine wp_k k6w ?_
    rw [wI_of2 (x := (e : Int) - (a : Int)) (by omega) (by omega)]
    have bad : ∀ x : Int, ¬skG (m 4) a (e - a) → Wp (X8_putLetters_J86 N (a : Int) x 0 6 6 m) Q := fun x u => by
      unfold X8_putLetters_J86 X8_putLetters_J98
      rw [if_pos rfl]
      obtain ⟨m2, e2, p⟩ := x_put r hc hk 6 (a : Int) (a : Int) (by unfold okPk; omega)
      refine wp_b e2 ?_
      rw [hQ]
      refine wp_some ?_
      rw [if_neg u]
      exact p
    have badL : ∀ F (x y : Int), ¬skG (m 4) a (e - a) → Wp (X8_putLetters_L21 N (fun z6 z7 z8 z9 m10 => if z9 = 0 then X8_putLetters_J86 N z7 z8 z9 z6 6 m10 else X8_putLetters_J86 N z7 z8 z9 z6 4 m10) (F + 1) 6 4 (a : Int) (e : Int) x 0 y m) Q := fun F x y u => by
      show Wp (X8_putLetters_L21_b N _ (X8_putLetters_L21 N _ F) 6 4 (a : Int) (e : Int) x 0 y m) Q
      unfold X8_putLetters_L21_b
      by_cases w : (e : Int) ≤ y
      · rw [if_pos w]
        show Wp (if (0 : Int) = 0 then X8_putLetters_J86 N (a : Int) x 0 6 6 m else X8_putLetters_J86 N (a : Int) x 0 6 4 m) Q
        rw [if_pos rfl]
        exact bad x u
      · rw [if_neg w, if_pos rfl]
        show Wp (if (0 : Int) = 0 then X8_putLetters_J86 N (a : Int) x 0 6 6 m else X8_putLetters_J86 N (a : Int) x 0 6 4 m) Q
        rw [if_pos rfl]
        exact bad x u
    unfold X8_putLetters_J16
    by_cases q : e - a ≤ 12
    · rw [if_neg (by omega)]
      have key : ∀ d F j : Nat, e - a - j = d → d + 1 < F → j ≤ e - a → (∀ i, i < j → ¬sko (m 4 (a + i)) = -1) → Wp (X8_putLetters_L21 N (fun z6 z7 z8 z9 m10 => if z9 = 0 then X8_putLetters_J86 N z7 z8 z9 z6 6 m10 else X8_putLetters_J86 N z7 z8 z9 z6 4 m10) F 6 4 (a : Int) (e : Int) ((skP (m 4) a j : Nat) : Int) 1 ((a + j : Nat) : Int) m) Q := by
        intro d
        induction d with
        | zero =>
          intro F j hd hF hj hS
          obtain ⟨F, rfl⟩ : ∃ f, F = f + 1 := ⟨F - 1, by omega⟩
          have ej : j = e - a := by omega
          show Wp (X8_putLetters_L21_b N _ (X8_putLetters_L21 N _ F) 6 4 (a : Int) (e : Int) ((skP (m 4) a j : Nat) : Int) 1 ((a + j : Nat) : Int) m) Q
          unfold X8_putLetters_L21_b
          rw [if_pos (by omega)]
          show Wp (if (1 : Int) = 0 then X8_putLetters_J86 N (a : Int) ((skP (m 4) a j : Nat) : Int) 1 6 6 m else X8_putLetters_J86 N (a : Int) ((skP (m 4) a j : Nat) : Int) 1 6 4 m) Q
          rw [if_neg (by decide)]
          unfold X8_putLetters_J86 X8_putLetters_J98
          rw [if_neg (by decide)]
          have ltj := skP_lt (m 4) a j
          have c4j : 4 ^ j ≤ 4 ^ 12 := Nat.pow_le_pow_right (by decide) (by omega)
          have e4j : (4 : Nat) ^ 12 = 16777216 := by decide
          obtain ⟨m2, e2, p⟩ := x_put r hc hk 4 (a : Int) ((skP (m 4) a j : Nat) : Int) (by unfold okPk; omega)
          refine wp_b e2 ?_
          rw [hQ]
          refine wp_some ?_
          rw [ej] at p hS
          rw [if_pos ⟨q, hS⟩]
          exact p
        | succ d ih =>
          intro F j hd hF hj hS
          obtain ⟨F, rfl⟩ : ∃ f, F = f + 2 := ⟨F - 2, by omega⟩
          show Wp (X8_putLetters_L21_b N _ (X8_putLetters_L21 N _ (F + 1)) 6 4 (a : Int) (e : Int) ((skP (m 4) a j : Nat) : Int) 1 ((a + j : Nat) : Int) m) Q
          unfold X8_putLetters_L21_b
          rw [if_neg (by omega), if_neg (by decide)]
          refine wp_b (arI 1600 (by decide +kernel) (by omega) (by omega) m) ?_
          rw [show ((a + j : Nat) : Int).toNat = a + j from by omega]
          refine wp_b (x_skyOf _ m) ?_
          by_cases y : sko (m 4 (a + j)) = -1
          · rw [if_pos y]
            unfold X8_putLetters_J52
            exact badL F _ _ (fun u => u.2 j (by omega) y)
          · rw [if_neg y]
            unfold X8_putLetters_J52
            have si := sko_in (m 4 (a + j))
            obtain ⟨s, hs⟩ : ∃ s : Nat, sko (m 4 (a + j)) = (s : Int) := ⟨(sko (m 4 (a + j))).toNat, by omega⟩
            have lt := skP_lt (m 4) a j
            have lt2 := skP_lt (m 4) a (j + 1)
            have c4 : 4 ^ (j + 1) ≤ 4 ^ 12 := Nat.pow_le_pow_right (by decide) (by omega)
            have e4 : (4 : Nat) ^ 12 = 16777216 := by decide
            have ee : skP (m 4) a (j + 1) = skP (m 4) a j + (sko (m 4 (a + j))).toNat * 4 ^ j := rfl
            have p4 : (4 : Nat) ^ j = 2 ^ (2 * j) := by rw [Nat.pow_mul]
            rw [wI_of2 (x := ((a + j : Nat) : Int) - (a : Int)) (by omega) (by omega), show ((a + j : Nat) : Int) - (a : Int) = (j : Int) from by omega, wI_of2 (x := 2 * (j : Int)) (by omega) (by omega), hs, shl4_c s (by omega) j (by omega), p4]
            rw [hs, Int.toNat_natCast, p4] at ee
            rw [p4] at lt
            rw [ior_lo lt (by omega), ← ee, show wI (((a + j : Nat) : Int) + 1) = ((a + (j + 1) : Nat) : Int) from by rw [wI_of2 (by omega) (by omega)]; omega]
            exact ih (F + 1) (j + 1) (by omega) (by omega) (by omega) (fun i hi => by
              by_cases w : i = j
              · rw [w]; exact y
              · exact hS i (by omega))
      exact key (e - a) N 0 rfl (by omega) (by omega) (fun i hi => absurd hi (Nat.not_lt_zero i))
    · rw [if_pos (by omega)]
      obtain ⟨F, rfl⟩ : ∃ f, N = f + 1 := ⟨N - 1, by omega⟩
      exact badL F 0 _ (fun u => q u.1)
  exact X
