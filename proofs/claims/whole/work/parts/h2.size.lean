/-! the island's size, both; then all statements -/
variable {T : Nat → Int} {len K D B : Nat} {m0 n0 : Mem}
theorem jf_tf {m n m2 n2 : Mem} {f p : Int} (r : Refs m) (rn : Refs n) (cf : CFr D m0 m) (rf : RF B n0 n) (hf : 0 < f) (t : Told m m2 f p) (g : FtM n n2 f p) : JF D B m0 n0 m2 n2 := by
  have tt := t
  have gg := g
  obtain ⟨n1, a, e⟩ := g
  subst e
  refine ⟨fl_tf hf tt gg, told_refs r tt, ft_refs rn gg, cf_up cf (fun b j h1 _ => ?_), rf_up rf (fun b j h1 _ _ => ?_)⟩
  · by_cases q : b = 5
    · rw [q]; exact t.2.2.2 j (fun u => h1 ⟨q, u.1⟩)
    · rw [t.2.2.1 b q]
  · by_cases q : b = 264
    · rw [q, bl_at (fun u => h1 ⟨q, by omega⟩)]; exact a.2 j (fun u => h1 ⟨q, by omega⟩)
    · rw [bl_ne q, a.1 b q]
theorem jf_w {m n : Mem} (h : JF D B m0 n0 m n) {a : Nat} (ha : a = 266 ∨ a = 267) (v : Int) : JF D B m0 n0 m (up n a B v) := by
  obtain ⟨⟨f, p', hf, x1, x2, x3, x4⟩, y1, y2, y3, y4⟩ := h
  refine ⟨⟨f, p', hf, x1, x2, by rw [up_ne (by omega)]; exact x3, by rw [up_ne (by omega)]; exact x4⟩, y1, ?_, y3, rf_st y4 (ibk1 (by omega) B) _⟩
  rcases ha with e | e <;> subst e
  · exact refs_arr y2 (by decide +kernel) _ _
  · exact refs_arr y2 (by decide +kernel) _ _
theorem c_stop0 {N : Nat} (hN : 1 ≤ N) (m : Mem) : X6_read_J53 N 5 D m = some (0, m) := by
  obtain ⟨M, rfl⟩ : ∃ f, N = f + 1 := ⟨N - 1, by omega⟩
  unfold X6_read_J53 X6_read_J54
  show X6_read_L59_b (M + 1) (X6_read_L59 (M + 1) M) 5 D 0 0 m = _
  unfold X6_read_L59_b
  rw [if_neg (by decide), if_pos rfl]
  rfl
theorem rG3F {N : Nat} (hN : 1 ≤ N) {x : Mem} (f : FS x) : isG3 N 264 x = isGE N 264 1 x := by
  obtain ⟨M, rfl⟩ : ∃ f, N = f + 1 := ⟨N - 1, by omega⟩
  unfold isG3
  rw [m_finF f, Option.bind_some]
  exact l_FS f _ _
theorem rG2F {N : Nat} (hN : 1 ≤ N) {x : Mem} (r : Refs x) (hB : B = 0 ∨ B = 1) (e40 : x 264 40 = (B : Int)) (f : FS x) : isG2 N 264 x = isGE N 264 1 (up x 267 B 0) := by
  unfold isG2
  rw [gR15 r, Option.bind_some, g264 (by decide), Option.bind_some, e40, m_numberF f, Option.bind_some, wst1 (by decide +kernel) hB, Option.bind_some]
  exact rG3F hN (by show 0 < up x 267 B 0 264 8; rw [up_ne (by decide)]; exact f)
theorem rG1F {N : Nat} (hN : 1 ≤ N) {x : Mem} (r : Refs x) (hB : B = 0 ∨ B = 1) (e40 : x 264 40 = (B : Int)) (f : FS x) : isG1 N 264 x = isGE N 264 1 (up (up x 266 B 0) 267 B 0) := by
  unfold isG1
  rw [gR14 r, Option.bind_some, g264 (by decide), Option.bind_some, e40, m_numberF f, Option.bind_some, wst1 (by decide +kernel) hB, Option.bind_some]
  exact rG2F hN (refs_arr r (by decide +kernel) _ _) hB (by rw [up_ne (by decide)]; exact e40) (by show 0 < up x 266 B 0 264 8; rw [up_ne (by decide)]; exact f)
/-- the island of a size, with nothing told yet -/
def I1 (W H : Int) (m : Mem) (D : Nat) : Isl := fun k i => if k = 0 then W else if k = 1 then H else if k = 19 then 5 else if k = 7 then m (D + 16) i.toNat else if k = 8 then m (D + 17) i.toNat else if k = 10 then m (D + 18) i.toNat else if k = 11 then m (D + 19) i.toNat else if k = 13 then m (D + 20) i.toNat else if k = 14 then m (D + 21) i.toNat else 0
def l1z : Lnd := fun _ _ => 0
theorem sum_0 (n : Nat) : sumTo (fun _ => 0) n = 0 := by
  induction n with
  | zero => rfl
  | succ n ih =>
    show sumTo (fun _ => 0) n + 0 = 0
    rw [ih]; rfl
theorem wf_0 (c : Int → Int) : WF c 0 := ⟨by decide, fun i hi => absurd hi (Nat.not_lt_zero i), fun i hi => by
    have e : i = 0 := by omega
    subst e
    exact (by show (0 : Int) ≤ 0 ∧ (0 : Int) ≤ 63; decide), fun i hi => absurd hi (Nat.not_lt_zero i), fun h => absurd h (by decide)⟩
theorem gw_1 {W H : Int} (w : 2 ≤ W ∧ W ≤ 7) (h : 2 ≤ H ∧ H ≤ 6) (m : Mem) (D : Nat) : GW (I1 W H m D) l1z := by
  have p : 0 ≤ W * H ∧ W * H ≤ 7 * 6 := ⟨Int.mul_nonneg (by omega) (by omega), Int.mul_le_mul w.2 h.2 (by omega) (by omega)⟩
  have en : nC (I1 W H m D) = W * H := rfl
  have e9 : nT (I1 W H m D) = 0 := rfl
  have e6 : nK (I1 W H m D) = 0 := rfl
  refine ⟨⟨by show 0 ≤ W; omega, by show W ≤ 7; omega, by show 0 ≤ H; omega, by show H ≤ 6; omega, Or.inr ⟨by show 2 ≤ W; omega, by show 2 ≤ H; omega⟩, by rw [en]; omega, by rw [en]; omega⟩, ⟨w.1, h.1⟩, ⟨rfl, by rw [e6]; decide, rfl, by rw [e9]; decide, rfl, by show 0 ≤ nT (I1 W H m D); omega⟩, fun k k0 k1 => absurd k1 (by show ¬k < (0 : Int); omega), ⟨fun c _ _ => by show (0 : Int) ≤ 0 ∧ (0 : Int) ≤ 9; decide, fun t t0 t1 => absurd t1 (by show ¬t < (0 : Int); omega), wf_0 _, wf_0 _, fun c => Or.inl rfl⟩, ⟨rfl, fun t ht => absurd ht (by rw [e9]; omega)⟩, by show (0 : Int) ≤ 0 ∧ (0 : Int) ≤ 100 ∧ (1 : Int) ≤ 5 ∧ (5 : Int) ≤ 20; decide, ⟨fun t ht => absurd ht (by rw [e9]; omega), fun c _ _ => Or.inl rfl, fun c _ _ => rfl⟩, by show (0 : Int) ≤ 0 ∧ (0 : Int) ≤ 999; decide, fun k _ _ => rfl, rfl, ?_, ?_⟩
  · show sumTo (fun _ => (0 : Int)) 42 ≤ 12
    rw [sum_0]; decide
  · show sumTo (fun _ => (0 : Int)) 42 ≤ 6
    rw [sum_0]; decide
theorem pd_1 {m m2 : Mem} {W H : Int} (cl : Clr m D) (hD : D = 11 ∨ D = 40) (w : 2 ≤ W ∧ W ≤ 7) (h : 2 ≤ H ∧ H ≤ 6) (e0 : m2 D 0 = W) (e1 : m2 D 1 = H) (ek : ∀ k, ¬k = 0 → ¬k = 1 → m2 D k = m D k) (o : ∀ a, ¬a = D → ¬(D + 2 ≤ a ∧ a ≤ D + 9) → m2 a = m a) (rows : ∀ s c : Nat, s < 8 → (c : Int) < nC (I1 W H m D) → m2 (D + 2 + s) c = nbr (I1 W H m D) s c) : PS m2 D (I1 W H m D) ∧ LD m2 (D + 12) l1z := by
  obtain ⟨⟨c6, c9, c12, c18, c19, c20⟩, c42, c10, c5, c13, c3, cs1, cs2⟩ := cl
  obtain ⟨hl, hS1⟩ := clr_D1 hD
  have sd : ∀ (w : Nat) (c : Int → Int), w < 2 → SD m2 (D + 23) w c 0 := fun w c hw => by
    have e1 : m2 (D + 23) 1 = 0 := by rw [o (D + 23) (by omega) (by omega)]; exact cs1
    have e25 : ∀ w, w < 2 → m2 (D + 23 + 2) w = 0 := fun w hw => by
      rw [o (D + 23 + 2) (by omega) (by omega)]
      rcases (by omega : w = 0 ∨ w = 1) with e | e <;> subst e
      · exact cs2.1
      · exact cs2.2.1
    have e26 : ∀ w, w < 2 → m2 (D + 23 + 3) w = 0 := fun w hw => by
      rw [o (D + 23 + 3) (by omega) (by omega)]
      rcases (by omega : w = 0 ∨ w = 1) with e | e <;> subst e
      · exact cs2.2.2.1
      · exact cs2.2.2.2
    exact ⟨hS1, hw, by unfold Lq; rw [e1, e26 0 (by decide), e26 1 (by decide), e25 0 (by decide), e25 1 (by decide)]; rfl, 0, ⟨by rw [e1]; decide, by rw [e1]; decide⟩, e25 w hw, e26 w hw, fun i i0 i1 => absurd i1 (by omega)⟩
  refine ⟨⟨⟨hD, fun k hk => ?_, fun k i i0 i1 => ?_, fun s c s0 s1 q0 q1 => ?_, fun i i0 i1 => ?_⟩, sd 0 _ (by decide), sd 1 _ (by decide)⟩, ⟨hl, fun k i hk i0 i1 => ?_, ?_⟩⟩
  · unfold isPS at hk
    simp only [Bool.or_eq_true, beq_iff_eq] at hk
    have c : k = 0 ∨ k = 1 ∨ k = 6 ∨ k = 9 ∨ k = 12 ∨ k = 17 ∨ k = 18 ∨ k = 19 := by omega
    rcases c with c | c | c | c | c | c | c | c <;> subst c
    · exact e0
    · exact e1
    · rw [ek 6 (by decide) (by decide)]; exact c6
    · rw [ek 9 (by decide) (by decide)]; exact c9
    · rw [ek 12 (by decide) (by decide)]; exact c12
    · rw [ek 17 (by decide) (by decide)]; exact c18
    · rw [ek 18 (by decide) (by decide)]; exact c19
    · rw [ek 19 (by decide) (by decide)]; exact c20
  · have lt := rln_lt (k := k) (by omega)
    have c : k = 3 ∨ k = 4 ∨ k = 7 ∨ k = 8 ∨ k = 10 ∨ k = 11 ∨ k = 13 ∨ k = 14 ∨ k = 15 := by
      have g : ∀ k, k < 20 → (rln k == 0 || k == 3 || k == 4 || k == 7 || k == 8 || k == 10 || k == 11 || k == 13 || k == 14 || k == 15) = true := by decide
      have := g k lt
      simp only [Bool.or_eq_true, beq_iff_eq] at this
      omega
    rcases c with c | c | c | c | c | c | c | c | c <;> subst c
    · show m2 (D + 10) i.toNat = 0
      rw [o (D + 10) (by omega) (by omega)]; exact (c42 i.toNat (by have : i < (42 : Int) := i1; omega)).1
    · show m2 (D + 11) i.toNat = 0
      rw [o (D + 11) (by omega) (by omega)]; exact (c42 i.toNat (by have : i < (42 : Int) := i1; omega)).2.1
    · show m2 (D + 16) i.toNat = m (D + 16) i.toNat
      rw [o (D + 16) (by omega) (by omega)]
    · show m2 (D + 17) i.toNat = m (D + 17) i.toNat
      rw [o (D + 17) (by omega) (by omega)]
    · show m2 (D + 18) i.toNat = m (D + 18) i.toNat
      rw [o (D + 18) (by omega) (by omega)]
    · show m2 (D + 19) i.toNat = m (D + 19) i.toNat
      rw [o (D + 19) (by omega) (by omega)]
    · show m2 (D + 20) i.toNat = m (D + 20) i.toNat
      rw [o (D + 20) (by omega) (by omega)]
    · show m2 (D + 21) i.toNat = m (D + 21) i.toNat
      rw [o (D + 21) (by omega) (by omega)]
    · show m2 (D + 22) i.toNat = 0
      rw [o (D + 22) (by omega) (by omega)]; exact c13 i.toNat (by have : i < (13 : Int) := i1; omega)
  · have := rows s.toNat c.toNat (by omega) (by omega)
    rw [Int.toNat_of_nonneg s0, Int.toNat_of_nonneg q0] at this
    exact this
  · show m2 (D + 14) i.toNat = 0
    rw [o (D + 14) (by omega) (by omega)]; exact c10 i.toNat (by omega)
  · have c : k = 0 ∨ k = 1 ∨ k = 2 := by omega
    rcases c with c | c | c <;> subst c
    · show m2 (D + 13) i.toNat = 0
      rw [o (D + 13) (by omega) (by omega)]; exact (c42 i.toNat (by have : i < (42 : Int) := i1; omega)).2.2
    · show m2 (D + 14) i.toNat = 0
      rw [o (D + 14) (by omega) (by omega)]; exact c10 i.toNat (by have : i < (10 : Int) := i1; omega)
    · show m2 (D + 15) i.toNat = 0
      rw [o (D + 15) (by omega) (by omega)]; exact c5 i.toNat (by have : i < (5 : Int) := i1; omega)
  · show m2 (D + 12) 3 = 0
    rw [o (D + 12) (by omega) (by omega)]; exact c3
theorem rw_1 {n n1 n2 : Mem} {W H : Int} {m : Mem} {D : Nat} (ini : Ini n n1 B len) (hB : B = 0 ∨ B = 1) (e66 : n2 266 B = W) (e67 : n2 267 B = H) (o : ∀ a, 268 ≤ a → a ≤ 290 → n2 a = n1 a) (o40 : n2 264 40 = n1 264 40) (o39 : n2 264 39 = n1 264 39) : RW n2 B (I1 W H m D) l1z := by
  obtain ⟨r, ⟨i2, i1, i5, i8, i9, i40, i39⟩, ⟨w71, w72, w73, w75, w80, w82, w84, w85, w86⟩, rows, sky, fr⟩ := ini
  have e9 : nT (I1 W H m D) = 0 := rfl
  have e6 : nK (I1 W H m D) = 0 := rfl
  refine ⟨⟨hB, by rw [o40]; exact i40, e66, e67, by rw [o 273 (by decide) (by decide)]; exact w73, by rw [o 275 (by decide) (by decide)]; exact w75, fun c hc => by rw [o 269 (by decide) (by decide)]; exact (rows c hc).2.1, fun c hc => by rw [o 270 (by decide) (by decide)]; exact (rows c hc).2.2, fun k hk => absurd hk (by rw [e6]; omega), fun t ht => absurd ht (by rw [e9]; omega)⟩, fun c hc => by rw [o 268 (by decide) (by decide)]; exact (rows c hc).1, fun t ht => absurd ht (by rw [e9]; omega), fun h hh => by rw [o 279 (by decide) (by decide)]; exact sky h hh, ⟨by rw [o 284 (by decide) (by decide)]; exact w84, by rw [o 285 (by decide) (by decide)]; exact w85, by rw [o 286 (by decide) (by decide)]; exact w86⟩, ?_, ⟨?_, fun k hk => absurd hk (by rw [e6]; omega), fun t ht => absurd ht (by rw [e9]; omega)⟩, ⟨Or.inl ⟨by rw [o 280 (by decide) (by decide)]; exact w80, rfl⟩, fun u => absurd (by rw [o 280 (by decide) (by decide)]; exact w80) u⟩, ⟨Or.inl ⟨by rw [o 282 (by decide) (by decide)]; exact w82, rfl⟩, fun u => absurd (by rw [o 282 (by decide) (by decide)]; exact w82) u⟩, by rw [o39, i39]; rfl⟩
  · rw [o 271 (by decide) (by decide), w71]
    show 0 = sumTo (fun _ => (0 : Int)) 42
    rw [sum_0]
  · rw [o 272 (by decide) (by decide), w72]
    show 0 = sumTo (fun _ => (0 : Int)) 42
    rw [sum_0]
