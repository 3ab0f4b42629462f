/-! the reference: its rows, its island, its layers -/
theorem gR0 {m : Mem} (r : Refs m) : getR 11 0 264 m = some 265 := rc r 265 (by decide +kernel)
theorem gR14 {m : Mem} (r : Refs m) : getR 11 14 264 m = some 266 := rc r 266 (by decide +kernel)
theorem gR15 {m : Mem} (r : Refs m) : getR 11 15 264 m = some 267 := rc r 267 (by decide +kernel)
theorem gR16 {m : Mem} (r : Refs m) : getR 11 16 264 m = some 268 := rc r 268 (by decide +kernel)
theorem gR17 {m : Mem} (r : Refs m) : getR 11 17 264 m = some 269 := rc r 269 (by decide +kernel)
theorem gR18 {m : Mem} (r : Refs m) : getR 11 18 264 m = some 270 := rc r 270 (by decide +kernel)
theorem gR19 {m : Mem} (r : Refs m) : getR 11 19 264 m = some 271 := rc r 271 (by decide +kernel)
theorem gR20 {m : Mem} (r : Refs m) : getR 11 20 264 m = some 272 := rc r 272 (by decide +kernel)
theorem gR21 {m : Mem} (r : Refs m) : getR 11 21 264 m = some 273 := rc r 273 (by decide +kernel)
theorem gR22 {m : Mem} (r : Refs m) : getR 11 22 264 m = some 274 := rc r 274 (by decide +kernel)
theorem gR23 {m : Mem} (r : Refs m) : getR 11 23 264 m = some 275 := rc r 275 (by decide +kernel)
theorem gR24 {m : Mem} (r : Refs m) : getR 11 24 264 m = some 276 := rc r 276 (by decide +kernel)
theorem gR25 {m : Mem} (r : Refs m) : getR 11 25 264 m = some 277 := rc r 277 (by decide +kernel)
theorem gR26 {m : Mem} (r : Refs m) : getR 11 26 264 m = some 278 := rc r 278 (by decide +kernel)
theorem gR27 {m : Mem} (r : Refs m) : getR 11 27 264 m = some 279 := rc r 279 (by decide +kernel)
theorem gR28 {m : Mem} (r : Refs m) : getR 11 28 264 m = some 280 := rc r 280 (by decide +kernel)
theorem gR29 {m : Mem} (r : Refs m) : getR 11 29 264 m = some 281 := rc r 281 (by decide +kernel)
theorem gR30 {m : Mem} (r : Refs m) : getR 11 30 264 m = some 282 := rc r 282 (by decide +kernel)
theorem gR31 {m : Mem} (r : Refs m) : getR 11 31 264 m = some 283 := rc r 283 (by decide +kernel)
theorem gR32 {m : Mem} (r : Refs m) : getR 11 32 264 m = some 284 := rc r 284 (by decide +kernel)
theorem gR33 {m : Mem} (r : Refs m) : getR 11 33 264 m = some 285 := rc r 285 (by decide +kernel)
theorem gR34 {m : Mem} (r : Refs m) : getR 11 34 264 m = some 286 := rc r 286 (by decide +kernel)
theorem gR35 {m : Mem} (r : Refs m) : getR 11 35 264 m = some 287 := rc r 287 (by decide +kernel)
theorem gR36 {m : Mem} (r : Refs m) : getR 11 36 264 m = some 288 := rc r 288 (by decide +kernel)
theorem gR37 {m : Mem} (r : Refs m) : getR 11 37 264 m = some 289 := rc r 289 (by decide +kernel)
theorem gR38 {m : Mem} (r : Refs m) : getR 11 38 264 m = some 290 := rc r 290 (by decide +kernel)
theorem gR41 {m : Mem} (r : Refs m) : getR 11 41 264 m = some 291 := rc r 291 (by decide +kernel)
theorem gR42 {m : Mem} (r : Refs m) : getR 11 42 264 m = some 292 := rc r 292 (by decide +kernel)
theorem gR43 {m : Mem} (r : Refs m) : getR 11 43 264 m = some 293 := rc r 293 (by decide +kernel)
theorem gR46 {m : Mem} (r : Refs m) : getR 11 46 264 m = some 294 := rc r 294 (by decide +kernel)
theorem gR49 {m : Mem} (r : Refs m) : getR 11 49 264 m = some 295 := rc r 295 (by decide +kernel)
theorem gR50 {m : Mem} (r : Refs m) : getR 11 50 264 m = some 296 := rc r 296 (by decide +kernel)
theorem gR51 {m : Mem} (r : Refs m) : getR 11 51 264 m = some 297 := rc r 297 (by decide +kernel)
theorem gR52 {m : Mem} (r : Refs m) : getR 11 52 264 m = some 298 := rc r 298 (by decide +kernel)
theorem gR53 {m : Mem} (r : Refs m) : getR 11 53 264 m = some 299 := rc r 299 (by decide +kernel)
theorem gR57 {m : Mem} (r : Refs m) : getR 11 57 264 m = some 300 := rc r 300 (by decide +kernel)
theorem gR62 {m : Mem} (r : Refs m) : getR 11 62 264 m = some 301 := rc r 301 (by decide +kernel)
theorem gR63 {m : Mem} (r : Refs m) : getR 11 63 264 m = some 302 := rc r 302 (by decide +kernel)
theorem gR64 {m : Mem} (r : Refs m) : getR 11 64 264 m = some 303 := rc r 303 (by decide +kernel)
theorem gR65 {m : Mem} (r : Refs m) : getR 11 65 264 m = some 304 := rc r 304 (by decide +kernel)
theorem gR66 {m : Mem} (r : Refs m) : getR 11 66 264 m = some 305 := rc r 305 (by decide +kernel)
theorem gR67 {m : Mem} (r : Refs m) : getR 11 67 264 m = some 306 := rc r 306 (by decide +kernel)
theorem gR68 {m : Mem} (r : Refs m) : getR 11 68 264 m = some 307 := rc r 307 (by decide +kernel)
theorem gR71 {m : Mem} (r : Refs m) : getR 11 71 264 m = some 308 := rc r 308 (by decide +kernel)
theorem gR73 {m : Mem} (r : Refs m) : getR 11 73 264 m = some 309 := rc r 309 (by decide +kernel)
theorem gR74 {m : Mem} (r : Refs m) : getR 11 74 264 m = some 310 := rc r 310 (by decide +kernel)
theorem gR75 {m : Mem} (r : Refs m) : getR 11 75 264 m = some 311 := rc r 311 (by decide +kernel)
theorem gR76 {m : Mem} (r : Refs m) : getR 11 76 264 m = some 312 := rc r 312 (by decide +kernel)
theorem g264_c : ∀ k, k < 78 → (shK 264 == 11 + 10 && decide (k < shN 264)) = true := by decide +kernel
theorem g264 {m : Mem} {k : Nat} (h : k < 78) : getI 11 k 264 m = some (m 264 k) := gtI (g264_c k h) m
theorem wao {m : Mem} {a n K v len : Nat} {f : Int → Int} (c : (shK a == 1 && shN a == n) = true) (hv : K * v + len ≤ n) (hn : n ≤ 20000) (hr : ∀ i : Int, 0 ≤ i → i < len → m a (K * v + i.toNat) = f i) {i : Int} (h0 : 0 ≤ i) (h1 : i < len) : aldI a (wI (wI ((K : Int) * (v : Int)) + i)) m = some (f i) := by
  have e : (K : Int) * (v : Int) = ((K * v : Nat) : Int) := by rw [Int.natCast_mul]
  rw [e, wI_of2 (x := ((K * v : Nat) : Int)) (by omega) (by omega), wI_of2 (by omega) (by omega), arI n c (by omega) (by omega), show (((K * v : Nat) : Int) + i).toNat = K * v + i.toNat from by omega, hr i h0 h1]
/-- a code of the class, as the reference keeps it -/
def cdS (s : Int) : Int := if s = -101 then 16 else if s = -100 then 15 else if s = -37 then 14 else if s = -47 then 13 else if s = -42 then 12 else if s = -45 then 11 else if s = -43 then 10 else if s = -9 then 30 else if s = -10 then 1 else if s < 0 then 1 - s else 0
/-- codes from a place on -/
def CdM (m : Mem) (b : Nat) (from' : Int) (code : Int → Int) (n : Nat) : Prop := 0 ≤ from' ∧ from' + n ≤ 1600 ∧ ∀ i : Int, 0 ≤ i → i < n → m 287 (1600 * b + (from' + i).toNat) = cdS (code i) ∧ (0 ≤ code i → m 288 (1600 * b + (from' + i).toNat) = code i)
/-- a sum of the reference -/
def SM (m : Mem) (b : Nat) (a a2 : Nat) (code : Int → Int) (n : Nat) : Prop := (m a b = -1 ∧ n = 0) ∨ (¬m a b = -1 ∧ 0 < n ∧ m a2 b = m a b + n ∧ CdM m b (m a b) code n)
/-- the bank b of the reference holds I -/
def MD (m : Mem) (b : Nat) (I : Isl) : Prop := ((b = 0 ∨ b = 1) ∧ m 264 13 = (b : Int)) ∧ (m 266 b = I 0 0 ∧ m 267 b = I 1 0 ∧ m 273 b = I 6 0 ∧ m 275 b = I 9 0 ∧ m 284 b = I 17 0 ∧ m 285 b = I 18 0 ∧ m 286 b = I 19 0) ∧ (∀ i : Int, 0 ≤ i → i < 42 → m 268 (42 * b + i.toNat) = I 3 i) ∧ (∀ i : Int, 0 ≤ i → i < 42 → m 270 (42 * b + i.toNat) = I 4 i) ∧ (∀ i : Int, 0 ≤ i → i < nK I → m 274 (5 * b + i.toNat) = I 7 i) ∧ (∀ i : Int, 0 ≤ i → i < nT I → m 276 (10 * b + i.toNat) = I 11 i) ∧ (∀ i : Int, 0 ≤ i → i < nT I → m 277 (10 * b + i.toNat) = I 10 i) ∧ (∀ i : Int, 0 ≤ i → i < 12 → m 279 (12 * b + i.toNat) = I 15 (i + 1)) ∧ SM m b 280 281 (I 22) (nD I) ∧ SM m b 282 283 (I 24) (nR I)
theorem md_off {m m2 : Mem} {b : Nat} {I : Isl} (h : MD m b I) (q : m2 264 13 = m 264 13) (o : ∀ a, 266 ≤ a → a ≤ 288 → m2 a = m a) : MD m2 b I := by
  obtain ⟨⟨h1, h2⟩, ⟨h3, h4, h5, h6, h7, h8, h9⟩, r1, r2, r3, r4, r5, r6, s1, s2⟩ := h
  refine ⟨⟨h1, by rw [q]; exact h2⟩, ?_, ?_, ?_, ?_, ?_, ?_, ?_, ?_, ?_⟩
  · rw [o 266 (by decide) (by decide), o 267 (by decide) (by decide), o 273 (by decide) (by decide), o 275 (by decide) (by decide), o 284 (by decide) (by decide), o 285 (by decide) (by decide), o 286 (by decide) (by decide)]
    exact ⟨h3, h4, h5, h6, h7, h8, h9⟩
  · rw [o 268 (by decide) (by decide)]; exact r1
  · rw [o 270 (by decide) (by decide)]; exact r2
  · rw [o 274 (by decide) (by decide)]; exact r3
  · rw [o 276 (by decide) (by decide)]; exact r4
  · rw [o 277 (by decide) (by decide)]; exact r5
  · rw [o 279 (by decide) (by decide)]; exact r6
  · unfold SM CdM
    rw [o 280 (by decide) (by decide), o 281 (by decide) (by decide), o 287 (by decide) (by decide), o 288 (by decide) (by decide)]
    exact s1
  · unfold SM CdM
    rw [o 282 (by decide) (by decide), o 283 (by decide) (by decide), o 287 (by decide) (by decide), o 288 (by decide) (by decide)]
    exact s2
theorem md_bank {m : Mem} {b : Nat} {I : Isl} (h : MD m b I) : getI 11 13 264 m = some (b : Int) := by
  rw [g264 (by decide), h.1.2]
theorem md_two {m : Mem} {b : Nat} {I : Isl} (h : MD m b I) {a : Nat} {v : Int} (c : (shK a == 1 && shN a == 2) = true) (e : m a b = v) : aldI a (b : Int) m = some v := by
  rw [arI 2 c (by omega) (by have := h.1.1; omega), Int.toNat_natCast, e]
theorem md_s14 {m : Mem} {b : Nat} {I : Isl} (h : MD m b I) : aldI 266 (b : Int) m = some (I 0 0) := md_two h (by decide +kernel) h.2.1.1
theorem md_s15 {m : Mem} {b : Nat} {I : Isl} (h : MD m b I) : aldI 267 (b : Int) m = some (I 1 0) := md_two h (by decide +kernel) h.2.1.2.1
theorem md_s21 {m : Mem} {b : Nat} {I : Isl} (h : MD m b I) : aldI 273 (b : Int) m = some (I 6 0) := md_two h (by decide +kernel) h.2.1.2.2.1
theorem md_s23 {m : Mem} {b : Nat} {I : Isl} (h : MD m b I) : aldI 275 (b : Int) m = some (I 9 0) := md_two h (by decide +kernel) h.2.1.2.2.2.1
theorem md_s32 {m : Mem} {b : Nat} {I : Isl} (h : MD m b I) : aldI 284 (b : Int) m = some (I 17 0) := md_two h (by decide +kernel) h.2.1.2.2.2.2.1
theorem md_s33 {m : Mem} {b : Nat} {I : Isl} (h : MD m b I) : aldI 285 (b : Int) m = some (I 18 0) := md_two h (by decide +kernel) h.2.1.2.2.2.2.2.1
theorem md_s34 {m : Mem} {b : Nat} {I : Isl} (h : MD m b I) : aldI 286 (b : Int) m = some (I 19 0) := md_two h (by decide +kernel) h.2.1.2.2.2.2.2.2
theorem md_r16 {m : Mem} {b : Nat} {I : Isl} (h : MD m b I) {i : Int} (h0 : 0 ≤ i) (h1 : i < 42) : aldI 268 (wI (wI (42 * (b : Int)) + i)) m = some (I 3 i) := wao (K := 42) (len := 42) (n := 84) (by decide +kernel) (by have := h.1.1; omega) (by decide) h.2.2.1 h0 h1
theorem md_r18 {m : Mem} {b : Nat} {I : Isl} (h : MD m b I) {i : Int} (h0 : 0 ≤ i) (h1 : i < 42) : aldI 270 (wI (wI (42 * (b : Int)) + i)) m = some (I 4 i) := wao (K := 42) (len := 42) (n := 84) (by decide +kernel) (by have := h.1.1; omega) (by decide) h.2.2.2.1 h0 h1
theorem md_r22 {m : Mem} {b : Nat} {I : Isl} (h : MD m b I) (n : Cn I) {i : Int} (h0 : 0 ≤ i) (h1 : i < I 6 0) : aldI 274 (wI (wI (5 * (b : Int)) + i)) m = some (I 7 i) := wao (K := 5) (len := nK I) (n := 10) (by decide +kernel) (by have := h.1.1; have := n.2.1; omega) (by decide) h.2.2.2.2.1 h0 (by have := n.1; omega)
theorem md_r24 {m : Mem} {b : Nat} {I : Isl} (h : MD m b I) (n : Cn I) {i : Int} (h0 : 0 ≤ i) (h1 : i < I 9 0) : aldI 276 (wI (wI (10 * (b : Int)) + i)) m = some (I 11 i) := wao (K := 10) (len := nT I) (n := 20) (by decide +kernel) (by have := h.1.1; have := n.2.2.2.1; omega) (by decide) h.2.2.2.2.2.1 h0 (by have := n.2.2.1; omega)
theorem md_r25 {m : Mem} {b : Nat} {I : Isl} (h : MD m b I) (n : Cn I) {i : Int} (h0 : 0 ≤ i) (h1 : i < I 9 0) : aldI 277 (wI (wI (10 * (b : Int)) + i)) m = some (I 10 i) := wao (K := 10) (len := nT I) (n := 20) (by decide +kernel) (by have := h.1.1; have := n.2.2.2.1; omega) (by decide) h.2.2.2.2.2.2.1 h0 (by have := n.2.2.1; omega)
/-- layer v of the reference holds l -/
def MY (m : Mem) (v : Nat) (l : Lnd) (n : Nat) : Prop := v < 22 ∧ (∀ i : Int, 0 ≤ i → i < 42 → m 297 (42 * v + i.toNat) = l 0 i) ∧ (∀ i : Int, 0 ≤ i → i < n → m 298 (10 * v + i.toNat) = l 1 i) ∧ (∀ i : Int, 0 ≤ i → i < 5 → m 299 (5 * v + i.toNat) = l 2 i) ∧ m 296 v = l 3 0 ∧ n ≤ 10
theorem ml_r51 {m : Mem} {v n : Nat} {l : Lnd} (h : MY m v l n) {i : Int} (h0 : 0 ≤ i) (h1 : i < 42) : aldI 297 (wI (wI (42 * (v : Int)) + i)) m = some (l 0 i) := wao (K := 42) (len := 42) (n := 924) (by decide +kernel) (by have := h.1; omega) (by decide) h.2.1 h0 h1
theorem ml_r52 {m : Mem} {v n : Nat} {l : Lnd} (h : MY m v l n) {i : Int} (h0 : 0 ≤ i) (h1 : i < n) : aldI 298 (wI (wI (10 * (v : Int)) + i)) m = some (l 1 i) := wao (K := 10) (len := n) (n := 220) (by decide +kernel) (by have := h.1; have := h.2.2.2.2.2; omega) (by decide) h.2.2.1 h0 h1
theorem ml_r53 {m : Mem} {v n : Nat} {l : Lnd} (h : MY m v l n) {i : Int} (h0 : 0 ≤ i) (h1 : i < 5) : aldI 299 (wI (wI (5 * (v : Int)) + i)) m = some (l 2 i) := wao (K := 5) (len := 5) (n := 110) (by decide +kernel) (by have := h.1; omega) (by decide) h.2.2.2.1 h0 h1
theorem ml_off {m m2 : Mem} {v n : Nat} {l : Lnd} (h : MY m v l n) (o : ∀ a, 296 ≤ a → a ≤ 299 → m2 a = m a) : MY m2 v l n := by
  obtain ⟨h1, h2, h3, h4, h5, h6⟩ := h
  refine ⟨h1, ?_, ?_, ?_, ?_, h6⟩
  · rw [o 297 (by decide) (by decide)]; exact h2
  · rw [o 298 (by decide) (by decide)]; exact h3
  · rw [o 299 (by decide) (by decide)]; exact h4
  · rw [o 296 (by decide) (by decide)]; exact h5
theorem m_is (a b c : Int) (m : Mem) : X11_is a b c m = some (bi (b ≤ a ∧ a ≤ c)) := by
  refine wp_eq ?_
  (unfold X11_is; repeat' ((with_reducible show Wp _ _); first | with_reducible exact wp_some rfl | with_reducible refine wp_some ?_ | with_reducible refine wp_z0 ?_ | with_reducible refine wp_z1 ?_ | (with_reducible refine wp_if (fun hc => ?_) (fun hc => ?_) <;> (try simp (disch := omega) only [isC, bi_0, bi_1, wI_of2, Decidable.not_not, not_true_eq_false, not_false_eq_true] at hc) <;> (try (exfalso; omega)))))
  all_goals first | exact bi_t (by omega) | exact bi_f (by omega)
theorem m_cells {m : Mem} {b : Nat} {I : Isl} (r : Refs m) (h : MD m b I) (z : Sz I) : X11_cells 264 m = some (nC I) := by
  have hn : nC I = I 0 0 * I 1 0 := rfl
  obtain ⟨z1, z2, z3, z4, z5, z6, z7⟩ := id z
  refine wp_eq ?_
  (unfold X11_cells; repeat' ((with_reducible show Wp _ _); first | with_reducible exact wp_some rfl | with_reducible refine wp_some ?_ | with_reducible refine wp_z0 ?_ | with_reducible refine wp_z1 ?_ | with_reducible refine wp_k k264 ?_ | with_reducible refine wp_b (md_bank (by assumption)) ?_ | with_reducible refine wp_b (g264 (by decide)) ?_ | with_reducible refine wp_b (gR14 (by assumption)) ?_ | with_reducible refine wp_b (gR15 (by assumption)) ?_ | with_reducible refine wp_b (md_s14 (by assumption)) ?_ | with_reducible refine wp_b (md_s15 (by assumption)) ?_ | (with_reducible refine wp_if (fun hc => ?_) (fun hc => ?_) <;> (try simp (disch := omega) only [isC, bi_0, bi_1, wI_of2, Decidable.not_not, not_true_eq_false, not_false_eq_true] at hc) <;> (try (exfalso; omega)))))
  exact wI_of2 (by omega) (by omega)
theorem m_isCell {m : Mem} {b : Nat} {I : Isl} (r : Refs m) (h : MD m b I) (z : Sz I) (c : Int) : X11_isCell 264 c m = some (isC I c) := by
  refine wp_eq ?_
  (unfold X11_isCell; repeat' ((with_reducible show Wp _ _); first | with_reducible exact wp_some rfl | with_reducible refine wp_some ?_ | with_reducible refine wp_z0 ?_ | with_reducible refine wp_z1 ?_ | with_reducible refine wp_k k264 ?_ | with_reducible refine wp_b (m_cells (by assumption) (by assumption) (by assumption)) ?_ | (with_reducible refine wp_if (fun hc => ?_) (fun hc => ?_) <;> (try simp (disch := omega) only [isC, bi_0, bi_1, wI_of2, Decidable.not_not, not_true_eq_false, not_false_eq_true] at hc) <;> (try (exfalso; omega)))))
  all_goals first | exact bi_t (by omega) | exact bi_f (by omega)
theorem m_isThing {m : Mem} {b : Nat} {I : Isl} (r : Refs m) (h : MD m b I) (c : Int) : X11_isThing 264 c m = some (bi (0 ≤ c ∧ c < I 9 0)) := by
  refine wp_eq ?_
  (unfold X11_isThing; repeat' ((with_reducible show Wp _ _); first | with_reducible exact wp_some rfl | with_reducible refine wp_some ?_ | with_reducible refine wp_z0 ?_ | with_reducible refine wp_z1 ?_ | with_reducible refine wp_k k264 ?_ | with_reducible refine wp_b (md_bank (by assumption)) ?_ | with_reducible refine wp_b (g264 (by decide)) ?_ | with_reducible refine wp_b (gR23 (by assumption)) ?_ | with_reducible refine wp_b (md_s23 (by assumption)) ?_ | (with_reducible refine wp_if (fun hc => ?_) (fun hc => ?_) <;> (try simp (disch := omega) only [isC, bi_0, bi_1, wI_of2, Decidable.not_not, not_true_eq_false, not_false_eq_true] at hc) <;> (try (exfalso; omega)))))
  all_goals first | exact bi_t (by omega) | exact bi_f (by omega)
theorem m_isCistern {m : Mem} {b : Nat} {I : Isl} (r : Refs m) (h : MD m b I) (c : Int) : X11_isCistern 264 c m = some (bi (0 ≤ c ∧ c < I 6 0)) := by
  refine wp_eq ?_
  (unfold X11_isCistern; repeat' ((with_reducible show Wp _ _); first | with_reducible exact wp_some rfl | with_reducible refine wp_some ?_ | with_reducible refine wp_z0 ?_ | with_reducible refine wp_z1 ?_ | with_reducible refine wp_k k264 ?_ | with_reducible refine wp_b (md_bank (by assumption)) ?_ | with_reducible refine wp_b (g264 (by decide)) ?_ | with_reducible refine wp_b (gR21 (by assumption)) ?_ | with_reducible refine wp_b (md_s21 (by assumption)) ?_ | (with_reducible refine wp_if (fun hc => ?_) (fun hc => ?_) <;> (try simp (disch := omega) only [isC, bi_0, bi_1, wI_of2, Decidable.not_not, not_true_eq_false, not_false_eq_true] at hc) <;> (try (exfalso; omega)))))
  all_goals first | exact bi_t (by omega) | exact bi_f (by omega)
