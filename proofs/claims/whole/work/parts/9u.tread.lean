/-! the class's walks -/
theorem d1I (m : Mem) : getI 2 1 258 m = some (m 258 1) := gtI (by decide +kernel) m
theorem d4I (m : Mem) : getI 2 4 258 m = some (m 258 4) := gtI (by decide +kernel) m
theorem d1P (v : Int) (m : Mem) : putI 2 1 258 v m = some (up m 258 1 v) := ptI (by decide +kernel) v m
theorem d4P (v : Int) (m : Mem) : putI 2 4 258 v m = some (up m 258 4 v) := ptI (by decide +kernel) v m
theorem d0R {m : Mem} (r : Refs m) : getR 2 0 258 m = some 259 := rc r 259 (by decide +kernel)
theorem d2R {m : Mem} (r : Refs m) : getR 2 2 258 m = some 260 := rc r 260 (by decide +kernel)
theorem d3R {m : Mem} (r : Refs m) : getR 2 3 258 m = some 261 := rc r 261 (by decide +kernel)
/-- what treading changes -/
def TrF (m m2 : Mem) : Prop := ∀ a k, ¬((a = 258 ∧ k = 4) ∨ a = 260 ∨ a = 261) → m2 a k = m a k
theorem trf_refl (m : Mem) : TrF m m := fun _ _ _ => rfl
theorem trf_trans {m m2 m3 : Mem} (f : TrF m m2) (g : TrF m2 m3) : TrF m m3 := fun a k h => by rw [g a k h, f a k h]
theorem trf_set {m m2 : Mem} (f : TrF m m2) {a : Nat} (h : a = 260 ∨ a = 261) (g : Nat → Int) : TrF m (setA m2 a g) := fun b k hk => by
  rw [setA_ne (fun e => hk (by omega))]
  exact f b k hk
theorem trf_up {m m2 : Mem} (f : TrF m m2) (v : Int) : TrF m (up m2 258 4 v) := fun b k hk => by
  unfold up
  rw [if_neg (fun e => hk (Or.inl e))]
  exact f b k hk
theorem trf_ro {m m2 : Mem} (f : TrF m m2) {a : Nat} (h : ¬a = 258 ∧ ¬a = 260 ∧ ¬a = 261) : m2 a = m a := funext fun k => f a k (by omega)
theorem trf_refs {m m2 : Mem} (f : TrF m m2) (r : Refs m) : Refs m2 := refs_of r fun a k hk => f a k fun u => by
  rcases u with u | u | u
  · rw [u.1, u.2, show isRef 258 4 = false from by decide +kernel] at hk
    exact absurd hk (by decide)
  · rw [u, arr_ref (by decide +kernel)] at hk
    exact absurd hk (by decide)
  · rw [u, arr_ref (by decide +kernel)] at hk
    exact absurd hk (by decide)
/-- the cells that are told: so many, on the island -/
def TD (m : Mem) (I : Isl) (T : Nat → Int) (n : Nat) : Prop := m 258 1 = (n : Int) ∧ n ≤ 10 ∧ (∀ j, j < n → m 259 j = T j) ∧ ∀ j, j < n → 0 ≤ T j ∧ T j < nC I
theorem trf_td {m m2 : Mem} {I : Isl} {T : Nat → Int} {n : Nat} (f : TrF m m2) (t : TD m I T n) : TD m2 I T n := by
  obtain ⟨a, b, c, d⟩ := t
  exact ⟨by rw [f 258 1 (by decide)]; exact a, b, fun j hj => by rw [trf_ro f (by decide)]; exact c j hj, d⟩
def ajS (I : Isl) (T : Nat → Int) : Nat → Nat → Bool := fun a b => decide (stp I (T a) (T b) = 1)
theorem x_areNext {m : Mem} {P : Nat} {I : Isl} (h1 : PD m P I) (z : Sz I) {a b : Int} (a0 : 0 ≤ a) (a1 : a < nC I) (b0 : 0 ≤ b) (b1 : b < nC I) : X5_areNext P a b m = some (bi (stp I a b = 1)) := by
  refine wp_eq ?_
  unfold X5_areNext
  refine wp_k (pd_K h1) ?_
  refine wp_b (x_isCell h1 z a) ?_
  rw [show isC I a = 1 from bi_1.mpr ⟨a0, a1⟩, if_neg (by decide)]
  refine wp_b (x_isCell h1 z b) ?_
  rw [show isC I b = 1 from bi_1.mpr ⟨b0, b1⟩, if_neg (by decide)]
  refine wp_b (x_steps h1 z a0 a1 b0 b1) ?_
  by_cases q : stp I a b = 1
  · rw [if_neg (fun u => u q)]
    exact wp_z1 (bi_t q)
  · rw [if_pos q]
    exact wp_z0 (bi_f q)
/-- a cell at the edge -/
def edg (I : Isl) (c : Int) : Prop := c % I 0 0 = 0 ∨ c % I 0 0 = I 0 0 - 1 ∨ c / I 0 0 = 0 ∨ c / I 0 0 = I 1 0 - 1
def edB (I : Isl) (c : Int) : Bool := decide (c % I 0 0 = 0) || decide (c % I 0 0 = I 0 0 - 1) || decide (c / I 0 0 = 0) || decide (c / I 0 0 = I 1 0 - 1)
theorem edB_t {I : Isl} {c : Int} : edB I c = true ↔ (c % I 0 0 = 0 ∨ c % I 0 0 = I 0 0 - 1 ∨ c / I 0 0 = 0 ∨ c / I 0 0 = I 1 0 - 1) := by
  unfold edB
  simp only [Bool.or_eq_true, decide_eq_true_eq]
  omega
theorem xy_t {I : Isl} (z : Sz I) {c : Int} (c0 : 0 ≤ c) (c1 : c < nC I) : wI (Int.tmod c (I 0 0)) = c % I 0 0 ∧ wI (Int.tdiv c (I 0 0)) = c / I 0 0 := by
  have w := sz_c z c0 c1
  have y := xy_of z c0 c1
  have z2 := z.2.1
  have z4 := z.2.2.2.1
  rw [Int.tmod_eq_emod_of_nonneg c0, Int.tdiv_eq_ediv_of_nonneg c0]
  exact ⟨wI_of2 (by omega) (by omega), wI_of2 (by omega) (by omega)⟩
theorem x_isAtEdge {m : Mem} {P : Nat} {I : Isl} (h1 : PD m P I) (z : Sz I) {c : Int} (c0 : 0 ≤ c) (c1 : c < nC I) : X5_isAtEdge P c m = some (if edB I c = true then 1 else 0) := by
  have w := sz_c z c0 c1
  have y := xy_t z c0 c1
  have z2 := z.2.1
  have z4 := z.2.2.2.1
  have e1 : X5_acrossOf P c m = some (c % I 0 0) := by
    refine wp_eq ?_
    unfold X5_acrossOf
    refine wp_k (pd_K h1) ?_
    refine wp_b (pd_I h1 (by decide)) ?_
    rw [if_neg (by omega)]
    refine wp_b (pd_I h1 (by decide)) ?_
    rw [if_neg (by omega), y.1]
    exact wp_some rfl
  have e2 : X5_downOf P c m = some (c / I 0 0) := by
    refine wp_eq ?_
    unfold X5_downOf
    refine wp_k (pd_K h1) ?_
    refine wp_b (pd_I h1 (by decide)) ?_
    rw [if_neg (by omega)]
    refine wp_b (pd_I h1 (by decide)) ?_
    rw [if_neg (by omega), y.2]
    exact wp_some rfl
  have yes : edB I c = true → Wp (X5_isAtEdge_J40 m) (fun r => r = if edB I c = true then 1 else 0) := fun q => by
    unfold X5_isAtEdge_J40
    rw [if_pos q]
    exact wp_z1 rfl
  refine wp_eq ?_
  unfold X5_isAtEdge
  refine wp_k (pd_K h1) ?_
  refine wp_b e1 ?_
  refine wp_b e2 ?_
  by_cases q1 : c % I 0 0 = 0
  · rw [if_pos q1]; exact yes (edB_t.mpr (Or.inl q1))
  rw [if_neg q1]
  refine wp_b (pd_I h1 (by decide)) ?_
  rw [wI_of2 (x := I 0 0 - 1) (by omega) (by omega)]
  by_cases q2 : c % I 0 0 = I 0 0 - 1
  · rw [if_pos q2]; exact yes (edB_t.mpr (Or.inr (Or.inl q2)))
  rw [if_neg q2]
  by_cases q3 : c / I 0 0 = 0
  · rw [if_pos q3]; exact yes (edB_t.mpr (Or.inr (Or.inr (Or.inl q3))))
  rw [if_neg q3]
  refine wp_b (pd_I h1 (by decide)) ?_
  rw [wI_of2 (x := I 1 0 - 1) (by omega) (by omega)]
  by_cases q4 : c / I 0 0 = I 1 0 - 1
  · rw [if_neg (fun u => u q4)]; exact yes (edB_t.mpr (Or.inr (Or.inr (Or.inr q4))))
  rw [if_pos q4, if_neg (fun u => by have := edB_t.mp u; omega)]
  exact wp_z0 rfl
theorem sum_mono {f : Nat → Int} (h : ∀ j, 0 ≤ f j) (c : Nat) : ∀ d, sumTo f c ≤ sumTo f (c + d) := by
  intro d
  induction d with
  | zero => exact Int.le_refl _
  | succ d ih =>
    have := h (c + d)
    show sumTo f c ≤ sumTo f (c + d) + f (c + d)
    omega
/-- the first row behind a path -/
def FR (m2 m : Mem) (T : Nat → Int) (n d : Nat) (L : List Nat) : Prop := ∀ j, j < n → m2 261 j = if j < d then m 260 j else T (L.getD (j - d) 0)
theorem x_tread {N : Nat} (hN : 2000 ≤ N) {P : Nat} {I : Isl} {T : Nat → Int} {n : Nat} (z : Sz I) (hn : 2 ≤ n) : ∀ (r d D a s : Nat) (m : Mem), d + r + 1 = n → r + 1 ≤ D → a < n → s < 2 ^ n → pop (s ||| 2 ^ a) + r = n → s ||| 2 ^ a < 2 ^ n → Refs m → PD m P I → TD m I T n → 0 ≤ m 258 4 → m 258 4 + WY (ajS I T) n r (s ||| 2 ^ a) a ≤ 100000000 → ∃ m2, X2_tread N D 258 P (a : Int) (s : Int) (d : Int) m = some m2 ∧ TrF m m2 ∧ m2 258 4 = m 258 4 + WY (ajS I T) n r (s ||| 2 ^ a) a ∧ (∀ j, j < d → m2 260 j = m 260 j) ∧ (0 < m 258 4 ∨ WY (ajS I T) n r (s ||| 2 ^ a) a = 0 → m2 261 = m 261) ∧ (m 258 4 = 0 → 0 < WY (ajS I T) n r (s ||| 2 ^ a) a → FR m2 m T n d (a :: FW (ajS I T) n r (s ||| 2 ^ a) a)) := by
  intro r
  induction r with
  | zero =>
    intro d D a s m hd hD ha hs hp hs2 r h1 td w0 w1'
    have w1 : m 258 4 + 1 ≤ 100000000 := w1'
    obtain ⟨t1, t2, t3, t4⟩ := id td
    obtain ⟨D, rfl⟩ : ∃ D2, D = D2 + 1 := ⟨D - 1, by omega⟩
    obtain ⟨g1, e1, a1, k1⟩ := ar_stE (a := 260) (n := 10) (i := (d : Int)) (by decide +kernel) (by decide +kernel) (by decide) (by omega) (by omega) (T a) m
    rw [Int.toNat_natCast] at a1 k1
    have r1 : Refs (setA m 260 g1) := refs_set r (by decide +kernel) g1
    have c4 : (setA m 260 g1) 258 4 = m 258 4 := by rw [setA_ne (by decide)]
    have start : ∀ {Q : Mem → Prop}, Wp (X2_keep 258 (setA m 260 g1)) Q → Wp (X2_tread N (D + 1) 258 P (a : Int) (s : Int) (d : Int) m) Q := by
      intro Q hQ
      show Wp (X2_tread_c N (X2_tread N D) 258 P (a : Int) (s : Int) (d : Int) m) Q
      unfold X2_tread_c
      refine wp_b (d1I m) ?_
      rw [t1, if_neg (by omega), if_neg (by omega)]
      refine wp_b (d1I m) ?_
      rw [t1, if_pos (by omega)]
      refine wp_b (d2R r) ?_
      refine wp_b (d0R r) ?_
      refine wp_b (arI 10 (by decide +kernel) (by omega) (by omega) m) ?_
      rw [Int.toNat_natCast, t3 a ha]
      refine wp_b e1 ?_
      refine wp_b (d1I _) ?_
      rw [setA_ne (show ¬258 = 260 from by decide), t1, wI_of2 (x := (d : Int) + 1) (by omega) (by omega), if_neg (by omega)]
      refine wp_bw hQ (fun m2 hm2 => wp_some hm2)
    have go : Wp (X2_tread N (D + 1) 258 P (a : Int) (s : Int) (d : Int) m) (fun m2 => TrF m m2 ∧ m2 258 4 = m 258 4 + 1 ∧ (∀ j, j < d → m2 260 j = m 260 j) ∧ (0 < m 258 4 → m2 261 = m 261) ∧ (m 258 4 = 0 → FR m2 m T n d [a])) := by
      refine start ?_
      unfold X2_keep
      refine wp_k k258 ?_
      refine wp_b (d4I _) ?_
      rw [c4]
      have f1 : TrF m (setA m 260 g1) := trf_set (trf_refl m) (Or.inl rfl) g1
      by_cases q : m 258 4 = 0
      · rw [if_neg (fun u => u q)]
        refine wp_b (d2R r1) ?_
        refine wp_b (d3R r1) ?_
        refine wp_b (x_acopy (a := 260) (b := 261) (k := 10) (by decide +kernel) (by decide +kernel) (by decide) (by decide) (by decide) (by decide +kernel) (by decide +kernel) _) ?_
        unfold X2_keep_J22
        refine wp_b (d4I _) ?_
        rw [setA_ne (show ¬258 = 261 from by decide), c4, wI_of2 (x := m 258 4 + 1) (by omega) (by omega)]
        refine wp_b (d4P _ _) ?_
        refine wp_some ⟨trf_up (trf_set f1 (Or.inr rfl) _) _, up_same _ _ _ _, fun j hj => ?_, fun u => by omega, fun _ j hj => ?_⟩
        · rw [up_obj (by decide), setA_ne (by decide), setA_same, k1 j (by omega)]
        · rw [up_obj (by decide), setA_same]
          show (if j < 10 then setA m 260 g1 260 j else _) = _
          rw [if_pos (by omega), setA_same]
          by_cases u : j < d
          · rw [if_pos u, k1 j (by omega)]
          · rw [if_neg u, show j = d from by omega, a1, Nat.sub_self]
            rfl
      · rw [if_pos q]
        unfold X2_keep_J22
        refine wp_b (d4I _) ?_
        rw [c4, wI_of2 (x := m 258 4 + 1) (by omega) (by omega)]
        refine wp_b (d4P _ _) ?_
        refine wp_some ⟨trf_up f1 _, up_same _ _ _ _, fun j hj => ?_, fun _ => ?_, fun u => absurd u q⟩
        · rw [up_obj (by decide), setA_same, k1 j (by omega)]
        · rw [up_setA, setA_ne (by decide), setA_ne (by decide)]
    obtain ⟨m2, e2, f2, x1, x2, x3, x4⟩ := go
    refine ⟨m2, e2, f2, x1, x2, fun u => ?_, fun u _ => x4 u⟩
    rcases u with u | u
    · exact x3 u
    · exact absurd (show (1 : Int) = 0 from u) (by decide)
  | succ r ih =>
    intro d D a s m hd hD ha hs hp hs2 rr h1 td w0 w1
    rw [WY_s] at w1
    obtain ⟨t1, t2, t3, t4⟩ := id td
    have p := p2_10 n (by omega)
    obtain ⟨D, rfl⟩ : ∃ D2, D = D2 + 1 := ⟨D - 1, by omega⟩
    obtain ⟨g1, e1, a1, k1⟩ := ar_stE (a := 260) (n := 10) (i := (d : Int)) (by decide +kernel) (by decide +kernel) (by decide) (by omega) (by omega) (T a) m
    rw [Int.toNat_natCast] at a1 k1
    have f1 : TrF m (setA m 260 g1) := trf_set (trf_refl m) (Or.inl rfl) g1
    have c4 : (setA m 260 g1) 258 4 = m 258 4 := by rw [setA_ne (by decide)]
    obtain ⟨s2, hs2e⟩ : ∃ s2, s2 = s ||| 2 ^ a := ⟨_, rfl⟩
    rw [← hs2e] at hp hs2 w1 ⊢
    have bd : ∀ c, c ≤ n → 0 ≤ sumTo (wyT (ajS I T) n r s2 a) c ∧ sumTo (wyT (ajS I T) n r s2 a) c ≤ 3628800 := by
      intro c hc
      have e := sumTo_bd (f := wyT (ajS I T) n r s2 a) (n := n) (B := 362880) (fun t ht => ⟨wyT_0 _ _ _ _ _ _, ?_⟩) c hc
      · omega
      · unfold wyT
        by_cases u : s2.testBit t = false ∧ ajS I T a t = true
        · rw [if_pos u]
          have w := w_or (s := s2) (c := t) (by omega) (by omega) u.1
          exact (WY_in (ajS I T) (n := n) (by omega) (by omega) (w_lt hs2 ht) (by omega)).2
        · rw [if_neg u]; decide
    have go : Wp (X2_tread N (D + 1) 258 P (a : Int) (s : Int) (d : Int) m) (fun m2 => TrF m m2 ∧ m2 258 4 = m 258 4 + sumTo (wyT (ajS I T) n r s2 a) n ∧ (∀ j, j < d → m2 260 j = m 260 j) ∧ m2 260 d = T a ∧ (0 < m 258 4 ∨ fz (wyT (ajS I T) n r s2 a) n = n → m2 261 = m 261) ∧ (m 258 4 = 0 → fz (wyT (ajS I T) n r s2 a) n < n → FR m2 m T n d (a :: fz (wyT (ajS I T) n r s2 a) n :: FW (ajS I T) n r (s2 ||| 2 ^ fz (wyT (ajS I T) n r s2 a) n) (fz (wyT (ajS I T) n r s2 a) n)))) := by
      show Wp (X2_tread_c N (X2_tread N D) 258 P (a : Int) (s : Int) (d : Int) m) _
      unfold X2_tread_c
      refine wp_b (d1I m) ?_
      rw [t1, if_neg (by omega), if_neg (by omega)]
      refine wp_b (d1I m) ?_
      rw [t1, if_pos (by omega)]
      refine wp_b (d2R rr) ?_
      refine wp_b (d0R rr) ?_
      refine wp_b (arI 10 (by decide +kernel) (by omega) (by omega) m) ?_
      rw [Int.toNat_natCast, t3 a ha]
      refine wp_b e1 ?_
      refine wp_b (d1I _) ?_
      rw [setA_ne (show ¬258 = 260 from by decide), t1, wI_of2 (x := (d : Int) + 1) (by omega) (by omega), if_pos (by omega), or_c s (by omega) a (by omega), ← hs2e]
      refine lw_1 (fun c mm => TrF m mm ∧ mm 258 4 = m 258 4 + sumTo (wyT (ajS I T) n r s2 a) c ∧ (∀ j, j < d → mm 260 j = m 260 j) ∧ mm 260 d = T a ∧ (0 < m 258 4 ∨ fz (wyT (ajS I T) n r s2 a) c = c → mm 261 = m 261) ∧ (m 258 4 = 0 → fz (wyT (ajS I T) n r s2 a) c < c → FR mm m T n d (a :: fz (wyT (ajS I T) n r s2 a) c :: FW (ajS I T) n r (s2 ||| 2 ^ fz (wyT (ajS I T) n r s2 a) c) (fz (wyT (ajS I T) n r s2 a) c)))) (fun F c mm => X2_tread_L61 N (X2_tread N D) F 258 P (a : Int) (d : Int) (s2 : Int) c mm) n _ (fun F c mm hc hI ih2 => ?_) (fun F mm hI => ?_) N (setA m 260 g1) (by omega) ⟨f1, by rw [c4]; show m 258 4 = m 258 4 + 0; omega, fun j hj => by rw [setA_same, k1 j (by omega)], by rw [setA_same]; exact a1, fun _ => by rw [setA_ne (by decide)], fun _ u => absurd u (Nat.not_lt_zero _)⟩
      · obtain ⟨f, x1, x2, x3, x4, x5⟩ := hI
        have rm := trf_refs f rr
        have tm := trf_td f td
        have hm := pd_off h1 (m2 := mm) (fun x _ _ _ _ _ => trf_ro f (by have := h1.1; omega))
        have b1 := bd c (by omega)
        have b2 := bd (c + 1) (by omega)
        have es : sumTo (wyT (ajS I T) n r s2 a) (c + 1) = sumTo (wyT (ajS I T) n r s2 a) c + wyT (ajS I T) n r s2 a c := rfl
        have mo := sum_mono (wyT_0 (ajS I T) n r s2 a) (c + 1) (n - (c + 1))
        rw [show c + 1 + (n - (c + 1)) = n from by omega] at mo
        have l := fz_le (wyT (ajS I T) n r s2 a) c
        have szc := sum_fz (wyT_0 (ajS I T) n r s2 a) c
        have zero : wyT (ajS I T) n r s2 a c = 0 → Wp (X2_tread_J113 N (X2_tread N D) (X2_tread_L61 N (X2_tread N D) F) 258 P (a : Int) (d : Int) (s2 : Int) c mm) _ := fun y => by
          unfold X2_tread_J113
          refine ih2 _ mm (by first | omega | (simp (disch := omega) only [wI_of2] <;> omega)) ⟨f, by rw [x1, es, y, Int.add_zero], x2, x3, fun u => x4 ?_, fun u v => ?_⟩
          · rcases u with u | u
            · exact Or.inl u
            · refine Or.inr ?_
              by_cases w : fz (wyT (ajS I T) n r s2 a) c = c
              · exact w
              · have := fz_more (f := wyT (ajS I T) n r s2 a) (c := c) (by omega) 1
                omega
          · by_cases w : fz (wyT (ajS I T) n r s2 a) c = c
            · rw [fz_miss w y] at v
              omega
            · have e := fz_more (f := wyT (ajS I T) n r s2 a) (c := c) (by omega) 1
              rw [e]
              exact x5 u (by omega)
        show Wp (X2_tread_L61_b N (X2_tread N D) (X2_tread_L61 N (X2_tread N D) F) 258 P (a : Int) (d : Int) (s2 : Int) c mm) _
        unfold X2_tread_L61_b
        refine wp_b (d1I mm) ?_
        rw [tm.1, if_neg (by omega), bit_c s2 (by omega) c (by omega)]
        by_cases q : s2.testBit c = true
        · rw [show tbt s2 c = 1 from if_pos q, if_pos (by decide)]
          exact zero (by unfold wyT; rw [if_neg (fun u => by rw [q] at u; exact absurd u.1 (by decide))])
        · have qf : s2.testBit c = false := by simpa using q
          rw [show tbt s2 c = 0 from if_neg q, if_neg (by decide)]
          refine wp_b (d0R rm) ?_
          refine wp_b (arI 10 (by decide +kernel) (by omega) (by omega) mm) ?_
          refine wp_b (d0R rm) ?_
          refine wp_b (arI 10 (by decide +kernel) (by omega) (by omega) mm) ?_
          rw [Int.toNat_natCast, Int.toNat_natCast, tm.2.2.1 a ha, tm.2.2.1 c hc]
          refine wp_b (x_areNext hm z (t4 a ha).1 (t4 a ha).2 (t4 c hc).1 (t4 c hc).2) ?_
          by_cases y : stp I (T a) (T c) = 1
          · have okc : ajS I T a c = true := decide_eq_true y
            have w := w_or (s := s2) (c := c) (by omega) (by omega) qf
            have wl := w_lt hs2 hc
            have ew : wyT (ajS I T) n r s2 a c = WY (ajS I T) n r (s2 ||| 2 ^ c) c := if_pos ⟨qf, okc⟩
            rw [← bi_t y, if_neg (by decide), wI_of2 (x := (d : Int) + 1) (by omega) (by omega)]
            obtain ⟨m3, e3, f3, y1, y2, y3, y4⟩ := ih (d + 1) D c s2 mm (by omega) (by omega) hc hs2 (by omega) wl rm hm tm (by omega) (by omega)
            rw [show (((d + 1 : Nat) : Int)) = (d : Int) + 1 from by omega] at e3
            refine wp_b e3 ?_
            unfold X2_tread_J113
            refine ih2 _ m3 (by first | omega | (simp (disch := omega) only [wI_of2] <;> omega)) ⟨trf_trans f f3, by rw [y1, x1, es, ew]; omega, fun j hj => by rw [y2 j (by omega)]; exact x2 j hj, by rw [y2 d (by omega)]; exact x3, fun u => ?_, fun u v => ?_⟩
            · have y3' : m3 261 = mm 261 := y3 (by
                rcases u with u | u
                · exact Or.inl (by omega)
                · by_cases w2 : fz (wyT (ajS I T) n r s2 a) c = c
                  · by_cases w3 : wyT (ajS I T) n r s2 a c = 0
                    · exact Or.inr (by rw [← ew]; exact w3)
                    · rw [fz_hit w2 w3] at u
                      omega
                  · have := fz_more (f := wyT (ajS I T) n r s2 a) (c := c) (by omega) 1
                    omega)
              rw [y3']
              refine x4 ?_
              rcases u with u | u
              · exact Or.inl u
              · refine Or.inr ?_
                by_cases w2 : fz (wyT (ajS I T) n r s2 a) c = c
                · exact w2
                · have := fz_more (f := wyT (ajS I T) n r s2 a) (c := c) (by omega) 1
                  omega
            · by_cases w2 : fz (wyT (ajS I T) n r s2 a) c = c
              · have s0 : sumTo (wyT (ajS I T) n r s2 a) c = 0 := szc.1.mp w2
                by_cases w3 : wyT (ajS I T) n r s2 a c = 0
                · rw [fz_miss w2 w3] at v
                  omega
                · have wpos : 0 < WY (ajS I T) n r (s2 ||| 2 ^ c) c := by
                    have := wyT_0 (ajS I T) n r s2 a c
                    omega
                  have fr := y4 (by omega) wpos
                  rw [fz_hit w2 w3]
                  intro j hj
                  rw [fr j hj]
                  by_cases j1 : j < d
                  · rw [if_pos (by omega), if_pos j1, x2 j j1]
                  · by_cases j2 : j = d
                    · rw [if_pos (by omega), if_neg j1, j2, x3, Nat.sub_self]
                      rfl
                    · rw [if_neg (by omega), if_neg j1, show j - d = (j - (d + 1)) + 1 from by omega]
                      rfl
              · have e := fz_more (f := wyT (ajS I T) n r s2 a) (c := c) (by omega) 1
                have spos : 0 < sumTo (wyT (ajS I T) n r s2 a) c := szc.2 (by omega)
                have y3' : m3 261 = mm 261 := y3 (Or.inl (by omega))
                rw [e]
                intro j hj
                rw [y3']
                exact x5 u (by omega) j hj
          · rw [← bi_f y, if_pos rfl]
            exact zero (by unfold wyT; rw [if_neg (fun u => y (of_decide_eq_true u.2))])
      · obtain ⟨f, x1, x2, x3, x4, x5⟩ := hI
        have tm := trf_td f td
        show Wp (X2_tread_L61_b N (X2_tread N D) (X2_tread_L61 N (X2_tread N D) F) 258 P (a : Int) (d : Int) (s2 : Int) n mm) _
        unfold X2_tread_L61_b
        refine wp_b (d1I mm) ?_
        rw [tm.1, if_pos (Int.le_refl _)]
        exact wp_some ⟨f, x1, x2, x3, x4, x5⟩
    obtain ⟨m2, e2, f2, x1, x2, x3, x4, x5⟩ := go
    have sz := sum_fz (wyT_0 (ajS I T) n r s2 a) n
    have l := fz_le (wyT (ajS I T) n r s2 a) n
    refine ⟨m2, e2, f2, by rw [WY_s]; exact x1, x2, fun u => x4 ?_, fun u v => ?_⟩
    · rcases u with u | u
      · exact Or.inl u
      · rw [WY_s] at u
        exact Or.inr (sz.1.mpr u)
    · rw [WY_s] at v
      refine x5 u ?_
      rcases Nat.lt_or_ge (fz (wyT (ajS I T) n r s2 a) n) n with w | w
      · exact w
      · have := sz.1.mp (by omega)
        omega
