/-! sums: what a row of codes is worth -/
def clp (x : Int) : Int := max (-1000000) (min x 1000000)
theorem clp_in (x : Int) : -1000000 ≤ clp x ∧ clp x ≤ 1000000 := by unfold clp; omega
/-- the greatest whole number not above -/
def flo (a b : Int) : Int := if ¬Int.tmod a b = 0 ∧ ¬(a < 0 ↔ b < 0) then Int.tdiv a b - 1 else Int.tdiv a b
def jn (s a b : Int) : Int := if s = -101 then max a b else if s = -100 then min a b else if s = -47 then (if b = 0 then 0 else flo a b) else if s = -45 then a - b else if s = -43 then a + b else if s = -42 then a * b else if s = -37 then (if b = 0 then 0 else a - b * flo a b) else 0
def dpt (code : Int → Int) : Nat → Int
  | 0 => 0
  | i + 1 => if code i < -10 then dpt code i - 1 else dpt code i + 1
/-- what a code that joins nothing tells -/
def val (f : Int → Int) (s : Int) : Int := if s < 0 then f (-1 - s) else s
def stv (f code : Int → Int) : Nat → Int → Int
  | 0 => fun _ => 0
  | i + 1 => fun p => if code i < -10 then (if p = dpt code i - 2 then clp (jn (code i) (stv f code i (dpt code i - 2)) (stv f code i (dpt code i - 1))) else stv f code i p) else if p = dpt code i then val f (code i) else stv f code i p
def wrt (f code : Int → Int) (n : Nat) : Int := stv f code n 0
def isOp (s : Int) : Prop := s = -101 ∨ s = -100 ∨ s = -47 ∨ s = -45 ∨ s = -43 ∨ s = -42 ∨ s = -37
/-- a row of codes that can be a sum's -/
def WF (code : Int → Int) (n : Nat) : Prop := n ≤ 1600 ∧ (∀ i : Nat, i < n → code i < -10 → 2 ≤ dpt code i) ∧ (∀ i : Nat, i ≤ n → 0 ≤ dpt code i ∧ dpt code i ≤ 63) ∧ (∀ i : Nat, i < n → -10 ≤ code i ∧ code i ≤ 9999 ∨ isOp (code i)) ∧ (0 < n → dpt code n = 1)
def fB (f : Int → Int) : Prop := ∀ k : Int, 0 ≤ k → k < 10 → -1000000 ≤ f k ∧ f k ≤ 1000000
theorem val_in {f : Int → Int} (h : fB f) {s : Int} (h1 : -10 ≤ s) (h2 : s ≤ 9999) : -1000000 ≤ val f s ∧ val f s ≤ 1000000 := by
  unfold val
  by_cases q : s < 0
  · rw [if_pos q]; exact h _ (by omega) (by omega)
  · rw [if_neg q]; omega
theorem stv_in {f code : Int → Int} {n : Nat} (w : WF code n) (h : fB f) : ∀ i : Nat, i ≤ n → ∀ p, -1000000 ≤ stv f code i p ∧ stv f code i p ≤ 1000000 := by
  intro i
  induction i with
  | zero => intro _ p; show (-1000000 : Int) ≤ 0 ∧ (0 : Int) ≤ 1000000; omega
  | succ i ih =>
    intro hi p
    have e : stv f code (i + 1) p = if code i < -10 then (if p = dpt code i - 2 then clp (jn (code i) (stv f code i (dpt code i - 2)) (stv f code i (dpt code i - 1))) else stv f code i p) else if p = dpt code i then val f (code i) else stv f code i p := rfl
    rw [e]
    by_cases q : code i < -10
    · rw [if_pos q]
      by_cases r : p = dpt code i - 2
      · rw [if_pos r]; exact clp_in _
      · rw [if_neg r]; exact ih (by omega) p
    · rw [if_neg q]
      by_cases r : p = dpt code i
      · rw [if_pos r]
        refine val_in h (by omega) ?_
        have c := w.2.2.2.1 i (by omega)
        unfold isOp at c
        omega
      · rw [if_neg r]; exact ih (by omega) p
theorem tdiv_in {a b : Int} (h1 : -1000000 ≤ a) (h2 : a ≤ 1000000) : -1000000 ≤ Int.tdiv a b ∧ Int.tdiv a b ≤ 1000000 := by
  have h : (Int.tdiv a b).natAbs ≤ a.natAbs := by
    rw [Int.natAbs_tdiv]
    exact Nat.div_le_self _ _
  omega
theorem tmod_in {a b : Int} (h1 : -1000000 ≤ a) (h2 : a ≤ 1000000) : -1000000 ≤ Int.tmod a b ∧ Int.tmod a b ≤ 1000000 := by
  have h : (Int.tmod a b).natAbs ≤ a.natAbs := by
    rw [Int.natAbs_tmod]
    exact Nat.mod_le _ _
  omega
theorem lxor_neg {a b : Int} (ha : inL a) (hb : inL b) : lxor a b < 0 ↔ ¬(a < 0 ↔ b < 0) := by
  have e : lxor a b = ((Int64.ofInt a).toBitVec ^^^ (Int64.ofInt b).toBitVec).toInt := rfl
  have n : ∀ x : BitVec 64, x.toInt < 0 ↔ x.msb = true := fun x => by
    rw [BitVec.msb_eq_toInt]
    simp
  rw [e, n, BitVec.msb_xor]
  have p : ∀ x : Int, inL x → ((Int64.ofInt x).toBitVec.msb = true ↔ x < 0) := fun x hx => by
    rw [← n, bvL hx]
  have pa := p a ha
  have pb := p b hb
  rw [← pa, ← pb]
  cases (Int64.ofInt a).toBitVec.msb <;> cases (Int64.ofInt b).toBitVec.msb <;> simp
theorem lcm_0 {x : Int} : lcm x 0 = 0 ↔ x = 0 := by
  unfold lcm
  by_cases q : x < 0
  · rw [if_pos q]; omega
  · rw [if_neg q]
    by_cases r : x = 0
    · rw [if_pos r]; simp [r]
    · rw [if_neg r]; simp [r]
theorem lcm_ge {x : Int} : 0 ≤ lcm x 0 ↔ 0 ≤ x := by
  unfold lcm
  by_cases q : x < 0
  · rw [if_pos q]; omega
  · rw [if_neg q]
    by_cases r : x = 0
    · rw [if_pos r]; omega
    · rw [if_neg r]; omega
theorem lcm_eq {x y : Int} : lcm x y = 0 ↔ x = y := by
  unfold lcm
  by_cases q : x < y
  · rw [if_pos q]; omega
  · rw [if_neg q]
    by_cases r : x = y
    · rw [if_pos r]; simp [r]
    · rw [if_neg r]; simp [r]
theorem wL_of2 {x : Int} (a : -9000000000000000000 ≤ x) (b : x ≤ 9000000000000000000) : wL x = x := wL_of ⟨by omega, by omega⟩
theorem inL2 {x : Int} (a : -1000000 ≤ x) (b : x ≤ 1000000) : inL x := ⟨by omega, by omega⟩
theorem x_fdiv {a b : Int} (a1 : -1000000 ≤ a) (a2 : a ≤ 1000000) (b1 : -1000000 ≤ b) (b2 : b ≤ 1000000) (b0 : ¬b = 0) (m : Mem) : J9_floorDiv_f86c9 a b m = some (flo a b) := by
  have d := tdiv_in (b := b) a1 a2
  have t := tmod_in (b := b) a1 a2
  have x := lxor_neg (inL2 a1 a2) (inL2 b1 b2)
  have mm := Int.mul_tdiv_add_tmod a b
  have c : Int.tdiv a b * b = a - Int.tmod a b := by rw [Int.mul_comm]; omega
  unfold J9_floorDiv_f86c9 flo
  rw [if_neg b0, wL_of2 (x := Int.tdiv a b) (by omega) (by omega), c, wL_of2 (x := a - Int.tmod a b) (by omega) (by omega), wL_of2 (x := Int.tdiv a b - 1) (by omega) (by omega)]
  by_cases q : (a < 0 ↔ b < 0)
  · rw [if_pos (lcm_ge.mpr (by rcases Int.lt_or_le (lxor a b) 0 with y | y; exact absurd q (x.mp y); exact y)), if_neg (fun y => y.2 q)]
  · rw [if_neg (fun y => by have := lcm_ge.mp y; have := x.mpr q; omega)]
    by_cases r : Int.tmod a b = 0
    · rw [if_pos (lcm_eq.mpr (by omega)), if_neg (fun y => y.1 r)]
    · rw [if_neg (fun y => by have := lcm_eq.mp y; omega), if_pos ⟨r, q⟩]
theorem x_fmod {a b : Int} (a1 : -1000000 ≤ a) (a2 : a ≤ 1000000) (b1 : -1000000 ≤ b) (b2 : b ≤ 1000000) (b0 : ¬b = 0) (m : Mem) : J9_floorMod_f86c9 a b m = some (a - b * flo a b) := by
  have d := tdiv_in (b := b) a1 a2
  have t := tmod_in (b := b) a1 a2
  have x := lxor_neg (inL2 a1 a2) (inL2 b1 b2)
  have mm := Int.mul_tdiv_add_tmod a b
  unfold J9_floorMod_f86c9 flo
  rw [if_neg b0, wL_of2 (x := Int.tmod a b) (by omega) (by omega), wL_of2 (x := Int.tmod a b + b) (by omega) (by omega)]
  by_cases q : (a < 0 ↔ b < 0)
  · rw [if_pos (lcm_ge.mpr (by rcases Int.lt_or_le (lxor a b) 0 with y | y; exact absurd q (x.mp y); exact y)), if_neg (fun y => y.2 q)]
    congr 1
    omega
  · rw [if_neg (fun y => by have := lcm_ge.mp y; have := x.mpr q; omega)]
    by_cases r : Int.tmod a b = 0
    · rw [if_pos (lcm_eq.mpr r), if_neg (fun y => y.1 r)]
      congr 1
      omega
    · rw [if_neg (fun y => by have := lcm_eq.mp y; omega), if_pos ⟨r, q⟩, Int.mul_sub]
      congr 1
      omega
theorem mul_in {a b : Int} (a1 : -1000000 ≤ a) (a2 : a ≤ 1000000) (b1 : -1000000 ≤ b) (b2 : b ≤ 1000000) : -1000000000000 ≤ a * b ∧ a * b ≤ 1000000000000 := by
  have h : (a * b).natAbs ≤ 1000000 * 1000000 := by
    rw [Int.natAbs_mul]
    exact Nat.mul_le_mul (by omega) (by omega)
  omega
theorem x_join (s : Int) {a b : Int} (a1 : -1000000 ≤ a) (a2 : a ≤ 1000000) (b1 : -1000000 ≤ b) (b2 : b ≤ 1000000) (m : Mem) : X7_join s a b m = some (jn s a b) := by
  have ml := mul_in a1 a2 b1 b2
  unfold X7_join jn
  by_cases q1 : s = -101
  · rw [if_pos q1, if_pos q1]
  rw [if_neg q1, if_neg q1]
  by_cases q2 : s = -100
  · rw [if_pos q2, if_pos q2]
  rw [if_neg q2, if_neg q2]
  by_cases q3 : s = -47
  · rw [if_pos q3, if_pos q3]
    by_cases b0 : b = 0
    · rw [if_neg (fun x => x (lcm_0.mpr b0)), if_pos b0]
    · rw [if_pos (fun x => b0 (lcm_0.mp x)), if_neg b0, x_fdiv a1 a2 b1 b2 b0, Option.bind_some]
  rw [if_neg q3, if_neg q3]
  by_cases q4 : s = -45
  · rw [if_pos q4, if_pos q4, wL_of2 (by omega) (by omega)]
  rw [if_neg q4, if_neg q4]
  by_cases q5 : s = -43
  · rw [if_pos q5, if_pos q5, wL_of2 (by omega) (by omega)]
  rw [if_neg q5, if_neg q5]
  by_cases q6 : s = -42
  · rw [if_pos q6, if_pos q6, wL_of2 (by omega) (by omega)]
  rw [if_neg q6, if_neg q6]
  by_cases q7 : s = -37
  · rw [if_pos q7, if_pos q7]
    by_cases b0 : b = 0
    · rw [if_neg (fun x => x (lcm_0.mpr b0)), if_pos b0]
    · rw [if_pos (fun x => b0 (lcm_0.mp x)), if_neg b0, x_fmod a1 a2 b1 b2 b0, Option.bind_some]
  rw [if_neg q7, if_neg q7]
/-- both sums of the class lie in one row; it is as long as they are together -/
def Lq (m : Mem) (S : Nat) : Prop := m S 1 = (m (S + 3) 0 - m (S + 2) 0) + (m (S + 3) 1 - m (S + 2) 1)
/-- a sum of the class: w = 0 is DEW's, 1 is DRIES' -/
def SD (m : Mem) (S w : Nat) (code : Int → Int) (n : Nat) : Prop := (S = 34 ∨ S = 63) ∧ w < 2 ∧ Lq m S ∧ ∃ f : Nat, (((f + n : Nat) : Int) ≤ m S 1 ∧ m S 1 ≤ 1600) ∧ m (S + 2) w = (f : Int) ∧ m (S + 3) w = ((f + n : Nat) : Int) ∧ ∀ i : Int, 0 ≤ i → i < n → m (S + 1) (f + i.toNat) = code i
theorem sd_c {S : Nat} (h : S = 34 ∨ S = 63) : shK S = 7 + 10 ∧ shN S = 6 ∧ shK (S + 1) = 1 ∧ shN (S + 1) = 1600 ∧ shK (S + 4) = 1 ∧ shN (S + 4) = 64 ∧ (shK (S + 2) = 1 ∧ shN (S + 2) = 2) ∧ shK (S + 3) = 1 ∧ shN (S + 3) = 2 := by
  rcases h with e | e <;> subst e <;> decide +kernel
theorem sd_R {m : Mem} {S : Nat} (r : Refs m) (h : S = 34 ∨ S = 63) : getR 7 0 S m = some (S + 1) ∧ getR 7 5 S m = some (S + 4) ∧ getR 7 3 S m = some (S + 2) ∧ getR 7 4 S m = some (S + 3) := by
  rcases h with e | e <;> subst e
  · exact ⟨rc r 35 (by decide +kernel), rc r 38 (by decide +kernel), rc r 36 (by decide +kernel), rc r 37 (by decide +kernel)⟩
  · exact ⟨rc r 64 (by decide +kernel), rc r 67 (by decide +kernel), rc r 65 (by decide +kernel), rc r 66 (by decide +kernel)⟩
theorem sd_off {m m2 : Mem} {S w : Nat} {code : Int → Int} {n : Nat} (h : SD m S w code n) (q : ∀ a, S ≤ a → a ≤ S + 3 → m2 a = m a) : SD m2 S w code n := by
  obtain ⟨h1, h2, lq, f, h3, h4, h5, h6⟩ := h
  refine ⟨h1, h2, ?_, f, ?_, ?_, ?_, fun i i0 i1 => ?_⟩
  · unfold Lq at lq ⊢
    rw [q S (by omega) (by omega), q (S + 2) (by omega) (by omega), q (S + 3) (by omega) (by omega)]; exact lq
  · rw [q S (by omega) (by omega)]; exact h3
  · rw [q (S + 2) (by omega) (by omega)]; exact h4
  · rw [q (S + 3) (by omega) (by omega)]; exact h5
  · rw [q (S + 1) (by omega) (by omega)]; exact h6 i i0 i1
theorem sd_set {m : Mem} {S w : Nat} {code : Int → Int} {n : Nat} (h : SD m S w code n) {a : Nat} (q : a < S ∨ S + 3 < a) (g : Nat → Int) : SD (setA m a g) S w code n := sd_off h fun b b1 b2 => setA_ne (by omega) m g
theorem x_isTold {m : Mem} {S w : Nat} {code : Int → Int} {n : Nat} (r : Refs m) (h : SD m S w code n) : X7_isTold S w m = some (bi (0 < n)) := by
  have c := sd_c h.1
  obtain ⟨h1, h2, lq, f, h3, h4, h5, h6⟩ := h
  refine wp_eq ?_
  unfold X7_isTold
  refine wp_k c.1 ?_
  rw [if_neg (by omega), if_neg (by omega)]
  refine wp_b (sd_R r h1).2.2.2 ?_
  refine wp_b (ar_ld c.2.2.2.2.2.2.2.1 c.2.2.2.2.2.2.2.2 (by omega) (by omega) m) ?_
  refine wp_b (sd_R r h1).2.2.1 ?_
  refine wp_b (ar_ld c.2.2.2.2.2.2.1.1 c.2.2.2.2.2.2.1.2 (by omega) (by omega) m) ?_
  rw [Int.toNat_natCast, h4, h5]
  by_cases q : 0 < n
  · rw [if_neg (by omega)]
    exact wp_z1 (bi_t q)
  · rw [if_pos (by omega)]
    exact wp_z0 (bi_f q)
def FA (m : Mem) (F : Nat) (f : Int → Int) : Prop := shK F = 1 ∧ shN F = 10 ∧ ∀ k : Int, 0 ≤ k → k < 10 → m F k.toNat = f k
theorem x_fact {m : Mem} {F : Nat} {f : Int → Int} (h : FA m F f) {k : Int} (k0 : 0 ≤ k) (k1 : k < 10) : X7_factAt F k m = some (f k) := by
  unfold X7_factAt
  rw [if_neg (by omega), ar_len h.1 h.2.1, Option.bind_some, if_neg (by omega), ar_ld h.1 h.2.1 k0 (by omega), Option.bind_some, h.2.2 k k0 k1]
theorem x_worth {N : Nat} (hN : 2000 ≤ N) {m : Mem} {S k F : Nat} {code f : Int → Int} {n : Nat} (r : Refs m) (h : SD m S k code n) (hf : FA m F f) (hF : ¬F = S + 4) (w : WF code n) (b : fB f) : Wp (X7_worth N S k F m) (fun p => p.1 = wrt f code n ∧ ∃ g, p.2 = setA m (S + 4) g) := by
  have c := sd_c h.1
  have hS := h.1
  have si := stv_in w b
  obtain ⟨w1, w2, w3, w4, w5⟩ := id w
  unfold X7_worth
  refine wp_k c.1 ?_
  refine wp_b (x_isTold r h) ?_
  by_cases n0 : n = 0
  · subst n0
    rw [← bi_f (by omega), if_neg (fun x => x rfl)]
    exact wp_some ⟨rfl, m (S + 4), (setA_self _ _).symm⟩
  rw [← bi_t (by omega), if_pos (by decide)]
  obtain ⟨h1, h2, lq, ff, h3, h4, h5, h6⟩ := id h
  refine wp_b (sd_R r hS).2.2.1 ?_
  refine wp_b (ar_ld c.2.2.2.2.2.2.1.1 c.2.2.2.2.2.2.1.2 (by omega) (by omega) m) ?_
  rw [Int.toNat_natCast, h4]
  have e0 : (ff : Int) = (ff : Int) + 0 := by omega
  rw [e0]
  refine lw_2 (fun j t mm => t = dpt code j ∧ ∃ g, mm = setA m (S + 4) g ∧ ∀ p : Int, 0 ≤ p → p < dpt code j → g p.toNat = stv f code j p) (fun FF t i mm => X7_worth_L20 N _ FF S k F t ((ff : Int) + i) mm) n _ (fun FF j t mm hj hI ih => ?_) (fun FF t mm hI => ?_) N 0 m (by omega) ⟨rfl, m (S + 4), (setA_self _ _).symm, fun p p0 p1 => absurd p1 (by show ¬p < 0; omega)⟩
  · obtain ⟨ht, g, hm, hg⟩ := hI
    have r2 : Refs mm := by rw [hm]; exact refs_set r (Or.inl c.2.2.2.2.1) g
    have k2 : SD mm S k code n := by rw [hm]; exact sd_set h (by omega) g
    have k5 : mm (S + 3) k = ((ff + n : Nat) : Int) := by rw [hm, setA_ne (by omega)]; exact h5
    have hf2 : FA mm F f := by rw [hm]; exact ⟨hf.1, hf.2.1, fun k k0 k1 => by rw [setA_ne hF]; exact hf.2.2 k k0 k1⟩
    have e1 : mm (S + 1) (ff + j) = code j := by
      have := h6 j (by omega) (by omega)
      rw [Int.toNat_natCast] at this
      rw [hm, setA_ne (by omega)]
      exact this
    have w3j := w3 j (by omega)
    have w3k := w3 (j + 1) (by omega)
    have w4j := w4 j hj
    have d1 : dpt code (j + 1) = if code j < -10 then dpt code j - 1 else dpt code j + 1 := rfl
    show Wp (X7_worth_L20_b N _ (X7_worth_L20 N _ FF) S k F t ((ff : Int) + j) mm) _
    unfold X7_worth_L20_b; simp only [X7_worth_J137, X7_worth_J76]
    refine wp_b (sd_R r2 h.1).2.2.2 ?_
    refine wp_b (ar_ld c.2.2.2.2.2.2.2.1 c.2.2.2.2.2.2.2.2 (by omega) (by omega) mm) ?_
    rw [Int.toNat_natCast, k5, if_neg (by omega)]
    refine wp_b (sd_R r2 h.1).1 ?_
    refine wp_b (ar_ld c.2.2.1 c.2.2.2.1 (by omega) (by omega) mm) ?_
    rw [show ((ff : Int) + j).toNat = ff + j from by omega, e1]
    by_cases q : code j < -10
    · rw [if_pos q] at d1
      have w2j := w2 j hj q
      rw [if_pos q, if_neg (by omega)]
      refine wp_b (sd_R r2 h.1).2.1 ?_
      rw [show wI (wI (t + -1) - 1) = dpt code j - 2 from by rw [wI_of2 (x := t + -1) (by omega) (by omega), wI_of2 (by omega) (by omega)]; omega, show wI (t + -1) = dpt code j - 1 from by rw [wI_of2 (by omega) (by omega)]; omega]
      refine wp_b (ar_ld c.2.2.2.2.1 c.2.2.2.2.2.1 (by omega) (by omega) mm) ?_
      refine wp_b (sd_R r2 h.1).2.1 ?_
      refine wp_b (ar_ld c.2.2.2.2.1 c.2.2.2.2.2.1 (by omega) (by omega) mm) ?_
      have g1 : mm (S + 4) (dpt code j - 2).toNat = stv f code j (dpt code j - 2) := by rw [hm, setA_same]; exact hg _ (by omega) (by omega)
      have g2 : mm (S + 4) (dpt code j - 1).toNat = stv f code j (dpt code j - 1) := by rw [hm, setA_same]; exact hg _ (by omega) (by omega)
      rw [g1, g2]
      have i1 := si j (by omega) (dpt code j - 2)
      have i2 := si j (by omega) (dpt code j - 1)
      refine wp_b (x_join (code j) i1.1 i1.2 i2.1 i2.2 mm) ?_
      refine wp_b (sd_R r2 h.1).2.1 ?_
      have cl : wI (max (-1000000) (min (jn (code j) (stv f code j (dpt code j - 2)) (stv f code j (dpt code j - 1))) 1000000)) = clp (jn (code j) (stv f code j (dpt code j - 2)) (stv f code j (dpt code j - 1))) := by
        have := clp_in (jn (code j) (stv f code j (dpt code j - 2)) (stv f code j (dpt code j - 1)))
        exact wI_of2 (x := clp _) (by omega) (by omega)
      rw [cl]
      refine wp_b (ar_st c.2.2.2.2.1 c.2.2.2.2.2.1 (by omega) (by omega) (by omega) _ mm) ?_
      rw [show wI ((ff : Int) + j + 1) = (ff : Int) + ((j : Int) + 1) from by rw [wI_of2 (by omega) (by omega)]; omega]
      refine ih _ ((j : Int) + 1) _ rfl ⟨by omega, _, by rw [hm, setA_setA, setA_same], fun p p0 p1 => ?_⟩
      have sj : stv f code (j + 1) p = if code j < -10 then (if p = dpt code j - 2 then clp (jn (code j) (stv f code j (dpt code j - 2)) (stv f code j (dpt code j - 1))) else stv f code j p) else if p = dpt code j then val f (code j) else stv f code j p := rfl
      rw [sj, if_pos q]
      by_cases z : p = dpt code j - 2
      · rw [if_pos z, if_pos (by omega)]
      · rw [if_neg z, if_neg (by omega)]
        exact hg p p0 (by omega)
    · rw [if_neg q] at d1
      rw [if_neg q, if_neg (by omega)]
      refine wp_b (sd_R r2 h.1).2.1 ?_
      by_cases z : code j < 0
      · rw [if_pos z]
        rw [show wI (-1 - code j) = -1 - code j from wI_of2 (by omega) (by omega)]
        refine wp_b (x_fact hf2 (by omega) (by omega)) ?_
        refine wp_b (ar_st c.2.2.2.2.1 c.2.2.2.2.2.1 (by omega) (by omega) (by omega) _ mm) ?_
        rw [show wI ((ff : Int) + j + 1) = (ff : Int) + ((j : Int) + 1) from by rw [wI_of2 (by omega) (by omega)]; omega]
        refine ih _ ((j : Int) + 1) _ rfl ⟨(by first | omega | (simp (disch := omega) only [wI_of2] <;> omega)), _, by rw [hm, setA_setA, setA_same], fun p p0 p1 => ?_⟩
        have sj : stv f code (j + 1) p = if code j < -10 then (if p = dpt code j - 2 then clp (jn (code j) (stv f code j (dpt code j - 2)) (stv f code j (dpt code j - 1))) else stv f code j p) else if p = dpt code j then val f (code j) else stv f code j p := rfl
        rw [sj, if_neg q]
        by_cases y : p = dpt code j
        · rw [if_pos y, if_pos (by omega)]
          unfold val
          rw [if_pos z]
        · rw [if_neg y, if_neg (by omega)]
          exact hg p p0 (by omega)
      · rw [if_neg z]
        refine wp_b (ar_st c.2.2.2.2.1 c.2.2.2.2.2.1 (by omega) (by omega) (by omega) _ mm) ?_
        rw [show wI ((ff : Int) + j + 1) = (ff : Int) + ((j : Int) + 1) from by rw [wI_of2 (by omega) (by omega)]; omega]
        refine ih _ ((j : Int) + 1) _ rfl ⟨(by first | omega | (simp (disch := omega) only [wI_of2] <;> omega)), _, by rw [hm, setA_setA, setA_same], fun p p0 p1 => ?_⟩
        have sj : stv f code (j + 1) p = if code j < -10 then (if p = dpt code j - 2 then clp (jn (code j) (stv f code j (dpt code j - 2)) (stv f code j (dpt code j - 1))) else stv f code j p) else if p = dpt code j then val f (code j) else stv f code j p := rfl
        rw [sj, if_neg q]
        by_cases y : p = dpt code j
        · rw [if_pos y, if_pos (by omega)]
          unfold val
          rw [if_neg z]
        · rw [if_neg y, if_neg (by omega)]
          exact hg p p0 (by omega)
  · obtain ⟨ht, g, hm, hg⟩ := hI
    have r2 : Refs mm := by rw [hm]; exact refs_set r (Or.inl c.2.2.2.2.1) g
    have k2 : SD mm S k code n := by rw [hm]; exact sd_set h (by omega) g
    have k5 : mm (S + 3) k = ((ff + n : Nat) : Int) := by rw [hm, setA_ne (by omega)]; exact h5
    show Wp (X7_worth_L20_b N _ (X7_worth_L20 N _ FF) S k F t ((ff : Int) + n) mm) _
    unfold X7_worth_L20_b
    refine wp_b (sd_R r2 h.1).2.2.2 ?_
    refine wp_b (ar_ld c.2.2.2.2.2.2.2.1 c.2.2.2.2.2.2.2.2 (by omega) (by omega) mm) ?_
    rw [Int.toNat_natCast, k5, if_pos (by omega)]
    show Wp (if t ≤ 0 then some (0, mm) else _) _
    have d1 := w5 (by omega)
    rw [if_neg (by omega)]
    refine wp_b (sd_R r2 h.1).2.1 ?_
    refine wp_b (ar_ld c.2.2.2.2.1 c.2.2.2.2.2.1 (by omega) (by omega) mm) ?_
    refine wp_some ⟨?_, g, hm⟩
    show mm (S + 4) (0 : Int).toNat = _
    rw [hm, setA_same]
    exact hg 0 (by omega) (by omega)
