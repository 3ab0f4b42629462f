/-! the class puts a sign -/
/-- what is kept of a sign: its value, its place, its kind in one number -/
def pkw (kd fs vl : Int) : Int := vl * 16384 + fs * 8 + kd
def okPk (kd fs vl : Int) : Prop := (0 ≤ kd ∧ kd ≤ 7) ∧ (0 ≤ fs ∧ fs ≤ 2047) ∧ -2147483648 ≤ vl ∧ vl < 2147483648
theorem lor_11 {z f : Int} (hd : z % 2048 = 0) (f0 : 0 ≤ f) (f1 : f < 2048) (z1 : -9000000000000000000 ≤ z) (z2 : z ≤ 9000000000000000000) : lor z f = z + f := by
  have e : lor z f = (BitVec.ofInt 64 z ||| BitVec.ofInt 64 f).toInt := rfl
  have n1 : (BitVec.ofInt 64 z).toNat = (z % 18446744073709551616).toNat := by rw [BitVec.toNat_ofInt]; rfl
  have n2 : (BitVec.ofInt 64 f).toNat = f.toNat := by rw [BitVec.toNat_ofInt]; omega
  obtain ⟨q, hq⟩ : ∃ q : Nat, (z % 18446744073709551616).toNat = q * 2048 := ⟨(z % 18446744073709551616).toNat / 2048, by omega⟩
  have s := Nat.shiftLeft_add_eq_or_of_lt (b := f.toNat) (i := 11) (by show f.toNat < 2048; omega) q
  rw [Nat.shiftLeft_eq] at s
  have n3 : (BitVec.ofInt 64 z ||| BitVec.ofInt 64 f).toNat = q * 2048 + f.toNat := by
    rw [BitVec.toNat_or, n1, n2, hq]
    exact s.symm
  rw [e, BitVec.toInt_eq_toNat_bmod, n3, show ((2 : Nat) ^ 64) = 18446744073709551616 from rfl, bmod_wL]
  unfold wL
  omega
theorem lor_3 {z f : Int} (hd : z % 8 = 0) (f0 : 0 ≤ f) (f1 : f < 8) (z1 : -9000000000000000000 ≤ z) (z2 : z ≤ 9000000000000000000) : lor z f = z + f := by
  have e : lor z f = (BitVec.ofInt 64 z ||| BitVec.ofInt 64 f).toInt := rfl
  have n1 : (BitVec.ofInt 64 z).toNat = (z % 18446744073709551616).toNat := by rw [BitVec.toNat_ofInt]; rfl
  have n2 : (BitVec.ofInt 64 f).toNat = f.toNat := by rw [BitVec.toNat_ofInt]; omega
  obtain ⟨q, hq⟩ : ∃ q : Nat, (z % 18446744073709551616).toNat = q * 8 := ⟨(z % 18446744073709551616).toNat / 8, by omega⟩
  have s := Nat.shiftLeft_add_eq_or_of_lt (b := f.toNat) (i := 3) (by show f.toNat < 8; omega) q
  rw [Nat.shiftLeft_eq] at s
  have n3 : (BitVec.ofInt 64 z ||| BitVec.ofInt 64 f).toNat = q * 8 + f.toNat := by
    rw [BitVec.toNat_or, n1, n2, hq]
    exact s.symm
  rw [e, BitVec.toInt_eq_toNat_bmod, n3, show ((2 : Nat) ^ 64) = 18446744073709551616 from rfl, bmod_wL]
  unfold wL
  omega
theorem pkw_eq {kd fs vl : Int} (o : okPk kd fs vl) : lor (lshl (lor (lshl vl 11) fs) 3) kd = pkw kd fs vl := by
  obtain ⟨⟨k0, k1⟩, ⟨f0, f1⟩, v0, v1⟩ := o
  have a : lshl vl 11 = wL (vl * 2048) := rfl
  have c : ∀ x : Int, lshl x 3 = wL (x * 8) := fun _ => rfl
  rw [a, wL_of2 (x := vl * 2048) (by omega) (by omega), lor_11 (z := vl * 2048) (by omega) f0 (by omega) (by omega) (by omega), c, wL_of2 (x := (vl * 2048 + fs) * 8) (by omega) (by omega), lor_3 (z := (vl * 2048 + fs) * 8) (by omega) k0 (by omega) (by omega) (by omega)]
  unfold pkw
  omega
theorem pkw_k {kd fs vl : Int} (o : okPk kd fs vl) : iand (wI (pkw kd fs vl)) 7 = kd := by
  obtain ⟨⟨k0, k1⟩, ⟨f0, f1⟩, v0, v1⟩ := o
  have e : iand (wI (pkw kd fs vl)) 7 = wI (pkw kd fs vl) % 8 := iand_low _ 3 (by decide)
  rw [e]
  unfold wI pkw
  omega
theorem pkw_f {kd fs vl : Int} (o : okPk kd fs vl) : iand (wI (lshr (pkw kd fs vl) 3)) 2047 = fs := by
  obtain ⟨⟨k0, k1⟩, ⟨f0, f1⟩, v0, v1⟩ := o
  have e : iand (wI (lshr (pkw kd fs vl) 3)) 2047 = wI (lshr (pkw kd fs vl) 3) % 2048 := iand_low _ 11 (by decide)
  have e2 : lshr (pkw kd fs vl) 3 = pkw kd fs vl / 8 := rfl
  rw [e, e2]
  unfold wI pkw
  omega
theorem pkw_v {kd fs vl : Int} (o : okPk kd fs vl) : wI (lshr (pkw kd fs vl) 14) = vl := by
  obtain ⟨⟨k0, k1⟩, ⟨f0, f1⟩, v0, v1⟩ := o
  have e2 : lshr (pkw kd fs vl) 14 = pkw kd fs vl / 16384 := rfl
  rw [e2, show pkw kd fs vl / 16384 = vl from by unfold pkw; omega, wI_of2 v0 v1]
def Put (m m2 : Mem) (k : Nat) (kd fs vl : Int) : Prop := m2 6 2 = ((k + 1 : Nat) : Int) ∧ m2 6 3 = kd ∧ (m2 6 4 = if kd = 2 ∧ vl = 10 then 1 else 0) ∧ (m2 8 k = pkw kd fs vl ∧ okPk kd fs vl) ∧ ∀ a j, ¬(a = 6 ∧ (j = 2 ∨ j = 3 ∨ j = 4)) → ¬(a = 8 ∧ j = k) → m2 a j = m a j
theorem k6w : shK 6 = 8 + 10 := by decide +kernel
theorem put_refs {m m2 : Mem} {k : Nat} {kd fs vl : Int} (h : Put m m2 k kd fs vl) (r : Refs m) : Refs m2 := refs_of r fun a j hk => h.2.2.2.2 a j (fun u => by
    rcases u with ⟨ua, u | u | u⟩ <;> rw [ua, u] at hk
    · exact absurd hk (by decide +kernel)
    · exact absurd hk (by decide +kernel)
    · exact absurd hk (by decide +kernel)) (fun u => by
    rw [u.1, arr_ref (by decide +kernel)] at hk
    exact absurd hk (by decide))
theorem x_put {m : Mem} (r : Refs m) {k : Nat} (hc : m 6 2 = (k : Int)) (hk : k < 1601) (kd fs vl : Int) (o : okPk kd fs vl) : ∃ m2, X8_put 6 kd fs vl m = some m2 ∧ Put m m2 k kd fs vl := by
  have g4 : ∀ mm : Mem, getI 8 2 6 mm = some (mm 6 2) := fun mm => gtI (by decide +kernel) mm
  have w1 : ∀ {mm : Mem}, Refs mm → getR 8 1 6 mm = some 8 := fun rr => rc rr 8 (by decide +kernel)
  obtain ⟨gA, eA, aA, qA⟩ := arL_st (a := 8) (n := 1601) (i := (k : Int)) (by decide +kernel) (by omega) (by omega) (pkw kd fs vl) m
  rw [Int.toNat_natCast] at aA qA
  have cA : setA m 8 gA 6 2 = (k : Int) := by rw [setA_ne (by decide)]; exact hc
  obtain ⟨mc, hmc⟩ : ∃ mc, mc = up (up (setA m 8 gA) 6 2 ((k + 1 : Nat) : Int)) 6 3 kd := ⟨_, rfl⟩
  have low : ∀ a j, ¬(a = 6 ∧ (j = 2 ∨ j = 3 ∨ j = 4)) → ∀ z, up mc 6 4 z a j = setA m 8 gA a j := fun a j h1 z => by
    rw [hmc]
    unfold up
    rw [if_neg (by omega), if_neg (by omega), if_neg (by omega)]
  have fin : ∀ z : Int, (z = if kd = 2 ∧ vl = 10 then 1 else 0) → Put m (up mc 6 4 z) k kd fs vl := fun z hz => by
    refine ⟨?_, ?_, ?_, ⟨?_, o⟩, fun a j h1 h2 => ?_⟩
    · rw [up_slot (by decide), hmc, up_slot (by decide), up_same]
    · rw [up_slot (by decide), hmc, up_same]
    · rw [up_same]; exact hz
    · rw [low 8 k (by omega), setA_same]; exact aA
    · rw [low a j h1]
      by_cases y3 : a = 8
      · subst y3; rw [setA_same, qA j (by omega)]
      · rw [setA_ne y3]
  have X : Wp (X8_put 6 kd fs vl m) (fun m2 => Put m m2 k kd fs vl) := by
    unfold X8_put
    refine wp_k k6w ?_
    refine wp_b (g4 m) ?_
    refine wp_b (w1 r) ?_
    refine wp_b (v := ((1601 : Nat) : Int)) (by unfold alen; rw [if_pos (by decide +kernel)]; rfl) ?_
    rw [hc, if_neg (by omega)]
    refine wp_b (w1 r) ?_
    refine wp_b (g4 m) ?_
    rw [hc, pkw_eq o]
    refine wp_b eA ?_
    refine wp_b (g4 _) ?_
    rw [cA, show wI ((k : Int) + 1) = ((k + 1 : Nat) : Int) from by rw [wI_of2 (by omega) (by omega)]; omega]
    refine wp_b (ptI (by decide +kernel) _ _) ?_
    unfold X8_put_J44
    refine wp_b (ptI (by decide +kernel) _ _) ?_
    rw [← hmc]
    unfold X8_put_J65 X8_put_J66
    by_cases q1 : kd = 2
    · rw [if_neg (fun u => u q1)]
      by_cases q2 : vl = 10
      · rw [if_neg (fun u => u q2)]
        refine wp_b (ptZ1 (by decide +kernel) _) ?_
        exact wp_some (fin 1 (by rw [if_pos ⟨q1, q2⟩]))
      · rw [if_pos q2]
        refine wp_b (ptZ0 (by decide +kernel) _) ?_
        exact wp_some (fin 0 (by rw [if_neg (fun u => q2 u.2)]))
    · rw [if_pos q1]
      refine wp_b (ptZ0 (by decide +kernel) _) ?_
      exact wp_some (fin 0 (by rw [if_neg (fun u => q1 u.1)]))
  obtain ⟨m2, e, h⟩ := X
  exact ⟨m2, e, h⟩
theorem x_isLetter (x : Int) (m : Mem) : X8_isLetter x m = some (bi (isLt x)) := by
  refine wp_eq ?_
  unfold X8_isLetter
  by_cases q : x < 97
  · rw [if_pos q]; exact wp_z0 (bi_f (by omega))
  · rw [if_neg q]
    by_cases q2 : 122 < x
    · rw [if_pos q2]; exact wp_z0 (bi_f (by omega))
    · rw [if_neg q2]; exact wp_z1 (bi_t (by omega))
theorem x_isDigit (x : Int) (m : Mem) : X8_isDigit x m = some (bi (isDg x)) := by
  refine wp_eq ?_
  unfold X8_isDigit
  by_cases q : x < 48
  · rw [if_pos q]; exact wp_z0 (bi_f (by omega))
  · rw [if_neg q]
    by_cases q2 : 57 < x
    · rw [if_pos q2]; exact wp_z0 (bi_f (by omega))
    · rw [if_neg q2]; exact wp_z1 (bi_t (by omega))
theorem x_isBlank (x : Int) (m : Mem) : X8_isBlank x m = some (bi (isBl x)) := by
  refine wp_eq ?_
  unfold X8_isBlank X8_isBlank_J12
  by_cases q : x = 32
  · rw [if_pos q]; exact wp_z1 (bi_t (Or.inl q))
  · rw [if_neg q]
    by_cases q2 : x = 10
    · rw [if_neg (fun u => u q2)]; exact wp_z1 (bi_t (Or.inr q2))
    · rw [if_pos q2]; exact wp_z0 (bi_f (by omega))
theorem x_skyOf (x : Int) (m : Mem) : X8_skyOf x m = some (sko x) := by
  unfold X8_skyOf sko
  repeat' split
  all_goals first | rfl | omega
/-- the letters' place -/
theorem lts_D (T : Nat → Int) (a n j : Nat) : (lts T a n).getD j 0 = if j < n then (T (a + j) - 96).toNat else 0 := by
  rw [List.getD_eq_getElem?_getD]
  by_cases q : j < n
  · rw [if_pos q, List.getElem?_eq_getElem (by rw [lts_len]; exact q)]
    unfold lts
    simp
  · rw [if_neg q, List.getElem?_eq_none (by rw [lts_len]; omega)]
    rfl
theorem lts_ok {T : Nat → Int} {a n : Nat} (h : ∀ i, i < n → isLt (T (a + i))) : okLt (lts T a n) := by
  intro c hc
  unfold lts at hc
  rw [List.mem_map] at hc
  obtain ⟨i, hi, e⟩ := hc
  have := h i (by simpa using hi)
  omega
theorem x_putNumber {N : Nat} (hN : 2000 ≤ N) {m : Mem} (r : Refs m) {k : Nat} (hc : m 6 2 = (k : Int)) (hk : k < 1601) {a e : Nat} (h1 : a < e) (h2 : e ≤ 1600) (hd : ∀ i, a ≤ i → i < e → isDg (m 4 i)) : ∃ m2, X8_putNumber N 6 4 (a : Int) (e : Int) m = some m2 ∧ (if e - a ≤ 4 then Put m m2 k 1 a (nmv (m 4) a (e - a)) else Put m m2 k 6 a ((a + 4 : Nat) : Int)) := by
  have X : Wp (X8_putNumber N 6 4 (a : Int) (e : Int) m) (fun m2 => if e - a ≤ 4 then Put m m2 k 1 a (nmv (m 4) a (e - a)) else Put m m2 k 6 a ((a + 4 : Nat) : Int)) := by
    unfold X8_putNumber
    refine wp_k k6w ?_
    rw [wI_of2 (x := (e : Int) - (a : Int)) (by omega) (by omega)]
    by_cases q : e - a ≤ 4
    · rw [if_pos (by omega)]
      have nb : ∀ n, a + n ≤ e → n ≤ 4 → 0 ≤ nmv (m 4) a n ∧ nmv (m 4) a n < 10 ^ n := by
        intro n
        induction n with
        | zero => intro _ _; exact ⟨Int.le_refl 0, (by decide : (0 : Int) < 10 ^ 0)⟩
        | succ n ih =>
          intro b1 b2
          obtain ⟨i1, i2⟩ := ih (by omega) (by omega)
          have d := hd (a + n) (by omega) (by omega)
          have ee : nmv (m 4) a (n + 1) = 10 * nmv (m 4) a n + m 4 (a + n) - 48 := rfl
          rw [ee, Int.pow_succ]
          omega
      have nb2 : ∀ n, a + n ≤ e → n ≤ 4 → 0 ≤ nmv (m 4) a n ∧ nmv (m 4) a n < 10000 := fun n b1 b2 => by
        obtain ⟨i1, i2⟩ := nb n b1 b2
        have c : n = 0 ∨ n = 1 ∨ n = 2 ∨ n = 3 ∨ n = 4 := by omega
        refine ⟨i1, ?_⟩
        rcases c with c | c | c | c | c <;> subst c <;> omega
      have key : Wp (X8_putNumber_L24 N (fun z3 z4 z5 m6 => (X8_put z3 1 z4 z5 m6).bind fun p7 => some p7) N 6 4 (a : Int) (e : Int) 0 ((a : Int) + 0) m) (fun m2 => if e - a ≤ 4 then Put m m2 k 1 a (nmv (m 4) a (e - a)) else Put m m2 k 6 a ((a + 4 : Nat) : Int)) := by
        refine lw_2 (fun j x mm => mm = m ∧ x = nmv (m 4) a j) (fun F x i mm => X8_putNumber_L24 N (fun z3 z4 z5 m6 => (X8_put z3 1 z4 z5 m6).bind fun p7 => some p7) F 6 4 (a : Int) (e : Int) x ((a : Int) + i) mm) (e - a) _ (fun F j x mm hj hI ih => ?_) (fun F x mm hI => ?_) N 0 m (by omega) ⟨rfl, rfl⟩
        · obtain ⟨hm, hx⟩ := hI
          subst hm
          subst hx
          have d := hd (a + j) (by omega) (by omega)
          have b := nb2 j (by omega) (by omega)
          have b2 := nb2 (j + 1) (by omega) (by omega)
          have ee : nmv (mm 4) a (j + 1) = 10 * nmv (mm 4) a j + mm 4 (a + j) - 48 := rfl
          show Wp (X8_putNumber_L24_b N _ (X8_putNumber_L24 N _ F) 6 4 (a : Int) (e : Int) (nmv (mm 4) a j) ((a : Int) + (j : Int)) mm) _
          unfold X8_putNumber_L24_b
          rw [if_neg (by omega)]
          refine wp_b (arI 1600 (by decide +kernel) (by omega) (by omega) mm) ?_
          rw [show ((a : Int) + (j : Int)).toNat = a + j from by omega, wI_of2 (x := nmv (mm 4) a j * 10) (by omega) (by omega), wI_of2 (x := nmv (mm 4) a j * 10 + mm 4 (a + j)) (by omega) (by omega), wI_of2 (x := nmv (mm 4) a j * 10 + mm 4 (a + j) - 48) (by omega) (by omega), wI_of2 (x := (a : Int) + (j : Int) + 1) (by omega) (by omega)]
          have := ih (nmv (mm 4) a j * 10 + mm 4 (a + j) - 48) ((j : Int) + 1) mm rfl ⟨rfl, by rw [ee]; omega⟩
          rw [show (a : Int) + (j : Int) + 1 = (a : Int) + ((j : Int) + 1) from by omega]
          exact this
        · obtain ⟨hm, hx⟩ := hI
          subst hm
          subst hx
          show Wp (X8_putNumber_L24_b N _ (X8_putNumber_L24 N _ F) 6 4 (a : Int) (e : Int) (nmv (mm 4) a (e - a)) ((a : Int) + ((e - a : Nat) : Int)) mm) _
          unfold X8_putNumber_L24_b
          rw [if_pos (by omega)]
          obtain ⟨m2, e2, p⟩ := x_put r hc hk 1 (a : Int) (nmv (mm 4) a (e - a)) (by have := nb2 (e - a) (by omega) q; unfold okPk; omega)
          refine wp_b e2 ?_
          refine wp_some ?_
          rw [if_pos q]
          exact p
      rw [Int.add_zero] at key
      exact key
    · rw [if_neg (by omega)]
      obtain ⟨m2, e2, p⟩ := x_put r hc hk 6 (a : Int) ((a + 4 : Nat) : Int) (by unfold okPk; omega)
      rw [show wI ((a : Int) + 4) = ((a + 4 : Nat) : Int) from by rw [wI_of2 (by omega) (by omega)]; omega]
      refine wp_b e2 ?_
      refine wp_some ?_
      rw [if_neg q]
      exact p
  exact X
