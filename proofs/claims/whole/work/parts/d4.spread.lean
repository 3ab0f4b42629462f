/-! the class spreads an island of a size -/
theorem pl_c {D : Nat} (h : D = 11 ∨ D = 40) : shK D = 5 + 10 ∧ shN D = 20 := by rcases h with e | e <;> subst e <;> decide +kernel
theorem pl_g {D : Nat} (h : D = 11 ∨ D = 40) {k : Nat} (hk : k < 20) (m : Mem) : getI 5 k D m = some (m D k) := by
  obtain ⟨a, b⟩ := pl_c h
  unfold getI
  rw [if_pos ⟨a, by rw [b]; exact hk⟩]
theorem pl_p {D : Nat} (h : D = 11 ∨ D = 40) {k : Nat} (hk : k < 20) (v : Int) (m : Mem) : putI 5 k D v m = some (up m D k v) := by
  obtain ⟨a, b⟩ := pl_c h
  unfold putI
  rw [if_pos ⟨a, by rw [b]; exact hk⟩]
theorem pl_R {m : Mem} (r : Refs m) {D : Nat} (h : D = 11 ∨ D = 40) {k : Nat} (c : (ofs k != 0) = true) : getR 5 k D m = some (D + ofs k) := by
  have q := pd_Rc D (by omega) (by rcases h with e | e <;> subst e <;> decide) k (ofs_lt c) c
  exact rc r (D + ofs k) q
theorem pl_side {m : Mem} (r : Refs m) {D : Nat} (h : D = 11 ∨ D = 40) {s : Nat} (h1 : s < 8) : aldR (D + ofs 2) (s : Int) m = some (D + 2 + s) ∧ shK (D + 2 + s) = 1 ∧ shN (D + 2 + s) = 42 := by
  have q := pd_sidec D (by omega) (by rcases h with e | e <;> subst e <;> decide) s h1
  rw [Bool.and_eq_true, Bool.and_eq_true] at q
  simp only [beq_iff_eq] at q
  exact ⟨rca r rfl (D + 2 + s) q.1.1, q.1.2, q.2⟩
/-- the size alone is known -/
def WH (m : Mem) (D : Nat) (I : Isl) : Prop := (D = 11 ∨ D = 40) ∧ m D 0 = I 0 0 ∧ m D 1 = I 1 0
theorem wh_across {m : Mem} {D : Nat} {I : Isl} (h : WH m D I) (w : 2 ≤ I 0 0 ∧ I 0 0 ≤ 7) {c : Int} (c0 : 0 ≤ c) : X5_acrossOf D c m = some (c % I 0 0) := by
  have a := Int.emod_nonneg c (b := I 0 0) (by omega)
  have b := Int.emod_lt_of_pos c (b := I 0 0) (by omega)
  refine wp_eq ?_
  unfold X5_acrossOf
  refine wp_k (pl_c h.1).1 ?_
  refine wp_b (pl_g h.1 (by decide) m) ?_
  rw [h.2.1, if_neg (by omega)]
  refine wp_b (pl_g h.1 (by decide) m) ?_
  rw [h.2.1, if_neg (by omega), Int.tmod_eq_emod_of_nonneg c0, wI_of2 (by omega) (by omega)]
  exact wp_some rfl
theorem wh_down {m : Mem} {D : Nat} {I : Isl} (h : WH m D I) (w : 2 ≤ I 0 0 ∧ I 0 0 ≤ 7) {c : Int} (c0 : 0 ≤ c) (c1 : c ≤ 42) : X5_downOf D c m = some (c / I 0 0) := by
  have a := Int.ediv_nonneg c0 (show 0 ≤ I 0 0 from by omega)
  have b := Int.ediv_le_self (b := I 0 0) c0
  refine wp_eq ?_
  unfold X5_downOf
  refine wp_k (pl_c h.1).1 ?_
  refine wp_b (pl_g h.1 (by decide) m) ?_
  rw [h.2.1, if_neg (by omega)]
  refine wp_b (pl_g h.1 (by decide) m) ?_
  rw [h.2.1, if_neg (by omega), Int.tdiv_eq_ediv_of_nonneg c0, wI_of2 (by omega) (by omega)]
  exact wp_some rfl
theorem wh_cellAt {m : Mem} {D : Nat} {I : Isl} (h : WH m D I) (w : 2 ≤ I 0 0 ∧ I 0 0 ≤ 7) (v : 2 ≤ I 1 0 ∧ I 1 0 ≤ 6) (x y : Int) : X5_cellAt D x y m = some (cellAt I x y) := by
  have no : ¬(0 ≤ x ∧ x < I 0 0 ∧ 0 ≤ y ∧ y < I 1 0) → Wp (X5_cellAt_J28 D x y m) (fun r => r = cellAt I x y) := fun u => by
    unfold X5_cellAt_J28 X5_cellAt_J29 cellAt
    rw [if_pos rfl, if_neg u]
    exact wp_some rfl
  refine wp_eq ?_
  unfold X5_cellAt
  refine wp_k (pl_c h.1).1 ?_
  by_cases q1 : x < 0
  · rw [if_pos q1]; exact no (by omega)
  · rw [if_neg q1]
    refine wp_b (pl_g h.1 (by decide) m) ?_
    rw [h.2.1]
    by_cases q2 : I 0 0 ≤ x
    · rw [if_pos q2]; exact no (by omega)
    · rw [if_neg q2]
      by_cases q3 : y < 0
      · rw [if_pos q3]; exact no (by omega)
      · rw [if_neg q3]
        refine wp_b (pl_g h.1 (by decide) m) ?_
        rw [h.2.2]
        by_cases q4 : I 1 0 ≤ y
        · rw [if_pos q4]; exact no (by omega)
        · rw [if_neg q4]
          unfold X5_cellAt_J29 cellAt
          rw [if_neg (by decide)]
          refine wp_b (pl_g h.1 (by decide) m) ?_
          have p : 0 ≤ y * I 0 0 ∧ y * I 0 0 ≤ 6 * 7 := ⟨Int.mul_nonneg (by omega) (by omega), Int.mul_le_mul (by omega) w.2 (by omega) (by omega)⟩
          rw [h.2.1, if_pos (by omega), wI_of2 (x := y * I 0 0) (by omega) (by omega), wI_of2 (by omega) (by omega)]
          exact wp_some rfl
/-- rows of sides below a cell are told; a cell's sides below s -/
def SpI (m0 m : Mem) (D : Nat) (I : Isl) (c s : Nat) : Prop := Refs m ∧ (∀ a, ¬(D + 2 ≤ a ∧ a ≤ D + 9) → m a = m0 a) ∧ (∀ t x : Nat, t < 8 → x < c → m (D + 2 + t) x = nbr I t x) ∧ ∀ t : Nat, t < s → m (D + 2 + t) c = nbr I t c
theorem x_spreadP {N : Nat} (hN : 2000 ≤ N) {m : Mem} (r : Refs m) (ks : Kst m) {D : Nat} (hD : D = 11 ∨ D = 40) {I : Isl} (w : 2 ≤ I 0 0 ∧ I 0 0 ≤ 7) (v : 2 ≤ I 1 0 ∧ I 1 0 ≤ 6) : ∃ m2, X5_spread N D (I 0 0) (I 1 0) m = some m2 ∧ Refs m2 ∧ m2 D 0 = I 0 0 ∧ m2 D 1 = I 1 0 ∧ (∀ k, ¬k = 0 → ¬k = 1 → m2 D k = m D k) ∧ (∀ a, ¬a = D → ¬(D + 2 ≤ a ∧ a ≤ D + 9) → m2 a = m a) ∧ ∀ s c : Nat, s < 8 → (c : Int) < nC I → m2 (D + 2 + s) c = nbr I s c := by
  have p : 4 ≤ I 0 0 * I 1 0 ∧ I 0 0 * I 1 0 ≤ 7 * 6 := ⟨Int.mul_le_mul w.1 v.1 (by omega) (by omega), Int.mul_le_mul w.2 v.2 (by omega) (by omega)⟩
  have nC' : nC I = I 0 0 * I 1 0 := rfl
  have ec : (((nC I).toNat : Nat) : Int) = nC I := Int.toNat_of_nonneg (by omega)
  have cr : isRef D 0 = false ∧ isRef D 1 = false := by rcases hD with e | e <;> subst e <;> decide +kernel
  obtain ⟨m0, hm0⟩ : ∃ m0, m0 = up (up m D 0 (I 0 0)) D 1 (I 1 0) := ⟨_, rfl⟩
  have r0 : Refs m0 := by rw [hm0]; exact refs_up (refs_up r cr.1 _) cr.2 _
  have X : Wp (X5_spread N D (I 0 0) (I 1 0) m) (fun m2 => SpI m0 m2 D I (nC I).toNat 0) := by
    unfold X5_spread
    refine wp_k (pl_c hD).1 ?_
    refine wp_b (pl_p hD (by decide) _ _) ?_
    refine wp_b (pl_p hD (by decide) _ _) ?_
    rw [← hm0]
    have wh0 : WH m0 D I := ⟨hD, by rw [hm0, up_slot (by decide), up_same], by rw [hm0, up_same]⟩
    have kn : ∀ {mm : Mem} {c s : Nat}, SpI m0 mm D I c s → WH mm D I ∧ mm 1 = m 1 ∧ mm 2 = m 2 := fun {mm c s} h => by
      refine ⟨⟨hD, by rw [h.2.1 D (by omega)]; exact wh0.2.1, by rw [h.2.1 D (by omega)]; exact wh0.2.2⟩, ?_, ?_⟩
      · rw [h.2.1 1 (by omega), hm0, up_setA, setA_ne (by omega), up_setA, setA_ne (by omega)]
      · rw [h.2.1 2 (by omega), hm0, up_setA, setA_ne (by omega), up_setA, setA_ne (by omega)]
    refine lw_1 (fun c mm => SpI m0 mm D I c 0) (fun F c mm => X5_spread_L12 N F D c mm) (nC I).toNat _ (fun F c mm hc hI ih => ?_) (fun F mm hI => ?_) N m0 (by omega) ⟨r0, fun _ _ => rfl, fun t x _ hx => absurd hx (Nat.not_lt_zero x), fun t ht => absurd ht (Nat.not_lt_zero t)⟩
    · obtain ⟨wh, _, _⟩ := kn hI
      show Wp (X5_spread_L12_b N (X5_spread_L12 N F) D c mm) _
      unfold X5_spread_L12_b
      refine wp_b (pl_g hD (by decide) mm) ?_
      refine wp_b (pl_g hD (by decide) mm) ?_
      rw [wh.2.1, wh.2.2, wI_of2 (x := I 0 0 * I 1 0) (by omega) (by omega), if_neg (by omega), if_neg (by omega)]
      refine lw_1 (fun s mk => SpI m0 mk D I c s) (fun F2 s mk => X5_spread_L34 N (fun z14 z15 m16 => X5_spread_L12 N F z14 (wI (z15 + 1)) m16) F2 D c s mk) 8 _ (fun F2 s mk hs hI2 ih2 => ?_) (fun F2 mk hI2 => ?_) N mm (by omega) hI
      · obtain ⟨wh2, e1, e2⟩ := kn hI2
        obtain ⟨rr, fo, rows, part⟩ := hI2
        obtain ⟨sd, sk1, sn1⟩ := pl_side rr hD (s := s) hs
        show Wp (X5_spread_L34_b N _ (X5_spread_L34 N _ F2) D c s mk) _
        unfold X5_spread_L34_b
        rw [if_neg (by omega)]
        refine wp_b (pl_R rr hD (k := 2) (by decide)) ?_
        refine wp_b sd ?_
        refine wp_b (wh_across wh2 w (by omega)) ?_
        refine wp_b (arI 8 (by decide +kernel) (by omega) (by omega) mk) ?_
        refine wp_b (wh_down wh2 w (by omega) (by omega)) ?_
        refine wp_b (arI 8 (by decide +kernel) (by omega) (by omega) mk) ?_
        rw [Int.toNat_natCast, e1, e2, (ks.1 s hs).1, (ks.1 s hs).2]
        have dx : -1 ≤ mst 1 s ∧ mst 1 s ≤ 1 ∧ -1 ≤ mst 2 s ∧ mst 2 s ≤ 1 := by
          have : ∀ s, s < 8 → -1 ≤ mst 1 s ∧ mst 1 s ≤ 1 ∧ -1 ≤ mst 2 s ∧ mst 2 s ≤ 1 := by decide +kernel
          exact this s hs
        have a1 := Int.emod_nonneg (c : Int) (b := I 0 0) (by omega)
        have a2 := Int.emod_lt_of_pos (c : Int) (b := I 0 0) (by omega)
        have a3 := Int.ediv_nonneg (show (0 : Int) ≤ c from by omega) (show 0 ≤ I 0 0 from by omega)
        have a4 := Int.ediv_le_self (a := (c : Int)) (b := I 0 0) (by omega)
        rw [wI_of2 (x := (c : Int) % I 0 0 + mst 1 s) (by omega) (by omega), wI_of2 (x := (c : Int) / I 0 0 + mst 2 s) (by omega) (by omega)]
        refine wp_b (wh_cellAt wh2 w v _ _) ?_
        obtain ⟨g, e, ga, q⟩ := ar_stE (a := D + 2 + s) (n := 42) (i := (c : Int)) sk1 sn1 (by omega) (by omega) (by omega) (cellAt I ((c : Int) % I 0 0 + mst 1 s) ((c : Int) / I 0 0 + mst 2 s)) mk
        rw [Int.toNat_natCast] at ga q
        refine wp_b e ?_
        have en : nbr I s c = cellAt I ((c : Int) % I 0 0 + mst 1 s) ((c : Int) / I 0 0 + mst 2 s) := by
          unfold nbr dxs dys
          rw [Int.toNat_natCast]
        refine ih2 _ _ (by first | omega | (simp (disch := omega) only [wI_of2] <;> omega)) ⟨refs_set rr (Or.inl sk1) g, fun a ha => by rw [setA_ne (by omega)]; exact fo a ha, fun t x ht hx => ?_, fun t ht => ?_⟩
        · by_cases y : t = s
          · subst y
            rw [setA_same, q x (by omega)]; exact rows t x ht hx
          · rw [setA_ne (by omega)]; exact rows t x ht hx
        · by_cases y : t = s
          · subst y
            rw [setA_same, ga, en]
          · rw [setA_ne (by omega)]; exact part t (by omega)
      · show Wp (X5_spread_L34_b N _ (X5_spread_L34 N _ F2) D c 8 mk) _
        unfold X5_spread_L34_b
        rw [if_pos (by decide)]
        obtain ⟨rr, fo, rows, part⟩ := hI2
        show Wp (X5_spread_L12 N F D (wI ((c : Int) + 1)) mk) _
        refine ih _ mk (by first | omega | (simp (disch := omega) only [wI_of2] <;> omega)) ⟨rr, fo, fun t x ht hx => ?_, fun t ht => absurd ht (Nat.not_lt_zero t)⟩
        by_cases y : x = c
        · rw [y]; exact part t ht
        · exact rows t x ht (by omega)
    · obtain ⟨wh, _, _⟩ := kn hI
      show Wp (X5_spread_L12_b N (X5_spread_L12 N F) D (nC I).toNat mm) _
      unfold X5_spread_L12_b
      refine wp_b (pl_g hD (by decide) mm) ?_
      refine wp_b (pl_g hD (by decide) mm) ?_
      rw [wh.2.1, wh.2.2, wI_of2 (x := I 0 0 * I 1 0) (by omega) (by omega), if_pos (by omega)]
      exact wp_some hI
  obtain ⟨m2, e, rr, fo, rows, _⟩ := X
  have eD : m2 D = m0 D := fo D (by omega)
  refine ⟨m2, e, rr, by rw [eD, hm0, up_slot (by decide), up_same], by rw [eD, hm0, up_same], fun k k0 k1 => by rw [eD, hm0, up_at, if_neg k1, up_at, if_neg k0], fun a a0 a1 => by rw [fo a a1, hm0, up_setA, setA_ne a0, up_setA, setA_ne a0], fun s c hs hc => rows s c hs (by omega)⟩
