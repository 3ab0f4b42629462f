/-! the reference's orders -/
theorem sumTo_front (f : Nat → Int) (n : Nat) : sumTo f (n + 1) = f 0 + sumTo (fun i => f (i + 1)) n := by
  induction n with
  | zero => show (0 : Int) + f 0 = f 0 + 0; omega
  | succ n ih =>
    show sumTo f (n + 1) + f (n + 1) = f 0 + (sumTo (fun i => f (i + 1)) n + f (n + 1))
    rw [ih]
    omega
theorem vl_sum (g : Nat → Nat → Int) : ∀ (p : List Nat) (k : Nat), vl g k p = sumTo (fun i => g (p.getD i 0) (k + i)) p.length := by
  intro p
  induction p with
  | nil => intro k; rfl
  | cons c p ih =>
    intro k
    show g c k + vl g (k + 1) p = sumTo _ (p.length + 1)
    rw [sumTo_front, ih (k + 1)]
    show g c k + _ = g c k + _
    congr 1
    exact sumTo_same (fun j hj => by
      show g (p.getD j 0) (k + 1 + j) = g (p.getD j 0) (k + (j + 1))
      rw [show k + 1 + j = k + (j + 1) from by omega])
theorem sumTo_bd {f : Nat → Int} {n : Nat} {B : Int} (h : ∀ j, j < n → 0 ≤ f j ∧ f j ≤ B) : ∀ k, k ≤ n → 0 ≤ sumTo f k ∧ sumTo f k ≤ B * k := by
  intro k
  induction k with
  | zero => intro _; exact ⟨Int.le_refl 0, by show (0 : Int) ≤ B * ((0 : Nat) : Int); simp⟩
  | succ k ih =>
    intro hk
    have a := ih (by omega)
    have b := h k (by omega)
    show 0 ≤ sumTo f k + f k ∧ sumTo f k + f k ≤ B * ((k + 1 : Nat) : Int)
    have e : B * ((k + 1 : Nat) : Int) = B * (k : Int) + B := by
      rw [show ((k + 1 : Nat) : Int) = (k : Int) + 1 from by omega, Int.mul_add, Int.mul_one]
    omega
/-- drops got by the row of the reference -/
def rowS (I : Isl) (l : Lnd) (T : Nat → Int) (n : Nat) : Int := sumTo (fun k => gtC I l (T k) k) n
theorem rowS_in (I : Isl) (l : Lnd) (T : Nat → Int) (n : Nat) : ∀ k, k ≤ n → 0 ≤ rowS I l T k ∧ rowS I l T k ≤ 1188 * k := sumTo_bd (fun j _ => gtC_in I l (T j) j)
/-- what the reference needs to know of a night and its cloths -/
def RK (m : Mem) (b : Nat) (I : Isl) (l : Lnd) : Prop := Refs m ∧ MD m b I ∧ MY m 0 l (nT I) ∧ NM m I l (I 15)
theorem m_gotBy {N : Nat} (hN : 2000 ≤ N) {m : Mem} {b : Nat} {I : Isl} {l : Lnd} (rk : RK m b I l) (z : Sz I) (n : Cn I) (cl : Cl I) (tc : Tc I l) (cm : Cm I) {q : Nat} (hq : q ≤ 10) (hr : ∀ k, k < q → 0 ≤ m 306 k ∧ m 306 k < I 12 0) : X11_gotBy N 264 (q : Int) m = some (rowS I l (m 306) q) := by
  obtain ⟨r, md, my, nm⟩ := rk
  have c3 := cm.2.2.1
  have c4 := cm.2.2.2
  unfold X11_gotBy
  rw [if_pos k264]
  refine lp_2 (fun j => rowS I l (m 306) j) Tr (fun F x i => X11_gotBy_L4 N m F 264 q x i) q _ (tr 0) (fun F j hj _ ih => ?_) (fun F _ => ?_) N (by omega)
  · have hj2 := hr j hj
    have cc := cl_cell n cl tc hj2.1 hj2.2
    have n9 := n.2.2.2.1
    have a := rowS_in I l (m 306) q j (by omega)
    have a2 := rowS_in I l (m 306) q (j + 1) (by omega)
    have e : rowS I l (m 306) (j + 1) = rowS I l (m 306) j + gtC I l (m 306 j) j := rfl
    have d := dpC_in I l (m 306 j)
    have sn := snC_in z l cc.2.1 cc.2.2
    have p0 : 0 ≤ (j : Int) * I 19 0 := Int.mul_nonneg (by omega) (by omega)
    have p1 : (j : Int) * I 19 0 ≤ 20 * 20 := Int.le_trans (Int.mul_le_mul_of_nonneg_right (show (j : Int) ≤ 20 from by omega) (by omega)) (Int.mul_le_mul_of_nonneg_left c4 (by decide))
    refine wp_eq ?_
    show Wp (X11_gotBy_L4_b N m (X11_gotBy_L4 N m F) 264 q (rowS I l (m 306) j) j) _
    unfold X11_gotBy_L4_b
    rw [if_neg (by omega)]
    refine wp_b (gR67 r) ?_
    refine wp_b (arI 10 (by decide +kernel) (by omega) (by omega) m) ?_
    rw [Int.toNat_natCast]
    refine wp_b (m_cloth hN r md n cl hj2.1 hj2.2) ?_
    refine wp_b (gR34 r) ?_
    refine wp_b (md_bank md) ?_
    refine wp_b (md_s34 md) ?_
    refine wp_b (gR52 r) ?_
    refine wp_b (my0_52 my cc.1.1 (by have := n.2.2.1; unfold nT; omega)) ?_
    refine wp_b (m_sun hN r md my z cc.2.1 cc.2.2) ?_
    refine wp_b (m_dawn2 r n nm cc.1.1 cc.1.2) ?_
    rw [show sun I l (l 1 (I 13 (m 306 j))) = snC I l (m 306 j) from rfl, show dwt I l (I 15) (l 1 (I 13 (m 306 j))) (I 10 (I 13 (m 306 j))) 12 = dpC I l (m 306 j) from rfl, wI_of2 (x := (j : Int) * I 19 0) (by omega) (by omega), wI_of2 (x := (j : Int) * I 19 0 - snC I l (m 306 j)) (by omega) (by omega)]
    have J : ∀ s1, s1 = max 0 ((j : Int) * I 19 0 - snC I l (m 306 j)) → Wp (X11_gotBy_J63 N (X11_gotBy_L4 N m F) 264 q (rowS I l (m 306) j) j (dpC I l (m 306 j)) s1 m) (fun r => r = rowS I l (m 306) q) := by
      intro s1 hs
      unfold X11_gotBy_J63 X11_gotBy_J78
      have eg : gtC I l (m 306 j) j = max 0 (dpC I l (m 306 j) - s1) := by rw [hs]; rfl
      rw [wI_of2 (x := dpC I l (m 306 j) - s1) (by omega) (by omega)]
      by_cases y : 0 ≤ dpC I l (m 306 j) - s1
      · rw [if_pos y]
        exact wp_of (ih _ _ (by rw [e, eg, wI_of2 (by omega) (by omega)]; omega) (by first | omega | (simp (disch := omega) only [wI_of2] <;> omega)) (tr _)) rfl
      · rw [if_neg y]
        exact wp_of (ih _ _ (by rw [e, eg, wI_of2 (by omega) (by omega)]; omega) (by first | omega | (simp (disch := omega) only [wI_of2] <;> omega)) (tr _)) rfl
    by_cases y : 0 ≤ (j : Int) * I 19 0 - snC I l (m 306 j)
    · rw [if_pos y]; exact J _ (by omega)
    · rw [if_neg y]; exact J _ (by omega)
  · refine wp_eq ?_
    show Wp (X11_gotBy_L4_b N m (X11_gotBy_L4 N m F) 264 q (rowS I l (m 306) q) q) _
    unfold X11_gotBy_L4_b
    rw [if_pos (Int.le_refl _)]
    exact wp_some rfl
/-- the row holds an order -/
def RowP (m : Mem) (n : Nat) (p : List Nat) : Prop := ∀ j, j < n → m 306 j = ((p.getD j 0 : Nat) : Int)
theorem m_next_last {N : Nat} (hN : 2000 ≤ N) {m : Mem} (r : Refs m) {n : Nat} (hn : n < 7) {p : List Nat} (rp : RowP m n p) (hl : lst1 n p = true) : X11_nextOrder N 264 (n : Int) m = some (0, m) := by
  unfold lst1 at hl
  rw [List.all_eq_true] at hl
  have hl2 : ∀ i, i + 1 < n → p.getD (i + 1) 0 < p.getD i 0 := fun i hi => by
    have y := hl i (List.mem_range.mpr (by omega))
    simp only [Bool.or_eq_true, Bool.not_eq_true', decide_eq_false_iff_not, decide_eq_true_eq] at y
    omega
  refine wp_eq ?_
  unfold X11_nextOrder
  refine wp_k k264 ?_
  rw [wI_of2 (x := (n : Int) - 2) (by omega) (by omega)]
  have go := lw_1 (fun _ mm => mm = m) (fun F i mm => X11_nextOrder_L4 N (fun z7 z8 z9 m10 =>
        if 0 ≤ z9 then (
          X11_nextOrder_L41 N (fun z16 z17 z18 z19 m20 =>
              (getR 11 67 z16 m20).bind fun t21 =>
              (aldI t21 z18 m20).bind fun t22 =>
              (getR 11 67 z16 m20).bind fun t23 =>
              (getR 11 67 z16 m20).bind fun t24 =>
              (aldI t24 z19 m20).bind fun t25 =>
              (astI t23 z18 t25 m20).bind fun m26 =>
              (getR 11 67 z16 m26).bind fun t27 =>
              (astI t27 z19 t22 m26).bind fun m28 =>
              X11_nextOrder_L93 N N z16 z17 z18 1 m28) N z7 z8 z9 (wI (z8 - 1)) m10
        ) else (
          (retZ 0).bind fun r39 => some (r39, m10)
        )) F 264 n ((n : Int) - 2 - i) mm) (n - 1) (fun r => r = ((0 : Int), m)) (fun F j mm hj hI ih => ?_) (fun F mm hI => ?_) N m (by omega) rfl
  · rw [Int.sub_zero] at go
    exact go
  · subst hI
    obtain ⟨k, hk⟩ : ∃ k : Nat, k + j + 2 = n := ⟨n - 2 - j, by omega⟩
    show Wp (X11_nextOrder_L4_b N _ (X11_nextOrder_L4 N _ F) 264 n ((n : Int) - 2 - (j : Int)) mm) _
    rw [show (n : Int) - 2 - (j : Int) = (k : Int) from by omega]
    unfold X11_nextOrder_L4_b
    rw [if_neg (by omega)]
    refine wp_b (gR67 r) ?_
    refine wp_b (arI 10 (by decide +kernel) (by omega) (by omega) mm) ?_
    refine wp_b (gR67 r) ?_
    rw [wI_of2 (x := (k : Int) + 1) (by omega) (by omega)]
    refine wp_b (arI 10 (by decide +kernel) (by omega) (by omega) mm) ?_
    have y := hl2 k (by omega)
    rw [Int.toNat_natCast, show ((k : Int) + 1).toNat = k + 1 from by omega, rp k (by omega), rp (k + 1) (by omega), if_neg (by omega), wI_of2 (x := (k : Int) + (-1)) (by omega) (by omega), show (k : Int) + (-1) = (n : Int) - 2 - ((j : Int) + 1) from by omega]
    exact ih ((j : Int) + 1) mm rfl rfl
  · subst hI
    show Wp (X11_nextOrder_L4_b N _ (X11_nextOrder_L4 N _ F) 264 n ((n : Int) - 2 - ((n - 1 : Nat) : Int)) mm) _
    unfold X11_nextOrder_L4_b
    rw [if_pos (by omega)]
    show Wp (if 0 ≤ (n : Int) - 2 - ((n - 1 : Nat) : Int) then _ else _) _
    rw [if_neg (by omega)]
    exact wp_some rfl
/-- the parts of nextOrder -/
def nxK (N : Nat) : Nat → Int → Int → Int → Mem → Option (Int × Mem) := fun z16 z17 z18 z19 m20 =>
              (getR 11 67 z16 m20).bind fun t21 =>
              (aldI t21 z18 m20).bind fun t22 =>
              (getR 11 67 z16 m20).bind fun t23 =>
              (getR 11 67 z16 m20).bind fun t24 =>
              (aldI t24 z19 m20).bind fun t25 =>
              (astI t23 z18 t25 m20).bind fun m26 =>
              (getR 11 67 z16 m26).bind fun t27 =>
              (astI t27 z19 t22 m26).bind fun m28 =>
              X11_nextOrder_L93 N N z16 z17 z18 1 m28
theorem m_rev {N : Nat} (hN : 2000 ≤ N) {m : Mem} (r : Refs m) {n k : Nat} (hn : n < 7) (hk : k < n) {R : Nat → Nat} (hr : ∀ x, x < n → m 306 x = ((R x : Nat) : Int)) : ∃ g, X11_nextOrder_L93 N N 264 (n : Int) (k : Int) 1 m = some (1, setA m 306 g) ∧ ∀ x, x < n → g x = ((if x ≤ k then R x else R (n + k - x) : Nat) : Int) := by
  have X : Wp (X11_nextOrder_L93 N N 264 (n : Int) (k : Int) 1 m) (fun p => p.1 = 1 ∧ ∃ g, p.2 = setA m 306 g ∧ ∀ x, x < n → g x = ((if x ≤ k then R x else R (n + k - x) : Nat) : Int)) := by
    refine lw_1 (fun s mm => ∃ g, mm = setA m 306 g ∧ ∀ x, x < n → g x = ((if k < x ∧ (x ≤ k + s ∨ n ≤ x + s) then R (n + k - x) else R x : Nat) : Int)) (fun F i mm => X11_nextOrder_L93 N F 264 n k (i + 1) mm) ((n - k - 1) / 2) _ (fun F s mm hs hI ih => ?_) (fun F mm hI => ?_) N m (by omega) ⟨m 306, (setA_self m 306).symm, fun x hx => ?_⟩
    · obtain ⟨g, hm, hg⟩ := hI
      have rm : Refs mm := by rw [hm]; exact refs_set r (by decide +kernel) g
      have row : ∀ x, x < n → mm 306 x = ((if k < x ∧ (x ≤ k + s ∨ n ≤ x + s) then R (n + k - x) else R x : Nat) : Int) := fun x hx => by rw [hm, setA_same]; exact hg x hx
      show Wp (X11_nextOrder_L93_b N (X11_nextOrder_L93 N F) 264 n k ((s : Int) + 1) mm) _
      unfold X11_nextOrder_L93_b
      rw [wI_of2 (x := (n : Int) - ((s : Int) + 1)) (by omega) (by omega), wI_of2 (x := (k : Int) + ((s : Int) + 1)) (by omega) (by omega), if_neg (by omega)]
      refine wp_b (gR67 rm) ?_
      refine wp_b (arI 10 (by decide +kernel) (by omega) (by omega) mm) ?_
      refine wp_b (gR67 rm) ?_
      refine wp_b (gR67 rm) ?_
      refine wp_b (arI 10 (by decide +kernel) (by omega) (by omega) mm) ?_
      rw [show ((k : Int) + ((s : Int) + 1)).toNat = k + s + 1 from by omega, show ((n : Int) - ((s : Int) + 1)).toNat = n - s - 1 from by omega, row (k + s + 1) (by omega), row (n - s - 1) (by omega), if_neg (by omega), if_neg (by omega)]
      obtain ⟨g1, e1, a1, k1⟩ := ar_stE (a := 306) (n := 10) (i := (k : Int) + ((s : Int) + 1)) (by decide +kernel) (by decide +kernel) (by decide) (by omega) (by omega) ((R (n - s - 1) : Nat) : Int) mm
      refine wp_b e1 ?_
      have r1 : Refs (setA mm 306 g1) := refs_set rm (by decide +kernel) g1
      refine wp_b (gR67 r1) ?_
      obtain ⟨g2, e2, a2, k2⟩ := ar_stE (a := 306) (n := 10) (i := (n : Int) - ((s : Int) + 1)) (by decide +kernel) (by decide +kernel) (by decide) (by omega) (by omega) ((R (k + s + 1) : Nat) : Int) (setA mm 306 g1)
      refine wp_b e2 ?_
      rw [show ((k : Int) + ((s : Int) + 1)).toNat = k + s + 1 from by omega] at a1 k1
      rw [show ((n : Int) - ((s : Int) + 1)).toNat = n - s - 1 from by omega, setA_same] at k2
      rw [show ((n : Int) - ((s : Int) + 1)).toNat = n - s - 1 from by omega] at a2
      rw [wI_of2 (x := (s : Int) + 1 + 1) (by omega) (by omega)]
      refine ih ((s : Int) + 1) _ rfl ⟨g2, by rw [hm, setA_setA, setA_setA], fun x hx => ?_⟩
      by_cases y : x = n - s - 1
      · rw [y, a2, if_pos ⟨by omega, Or.inr (by omega)⟩, show n + k - (n - s - 1) = k + s + 1 from by omega]
      · rw [k2 x y]
        by_cases y2 : x = k + s + 1
        · rw [y2, a1, if_pos ⟨by omega, Or.inl (by omega)⟩, show n + k - (k + s + 1) = n - s - 1 from by omega]
        · rw [k1 x y2, row x hx]
          by_cases y3 : k < x ∧ (x ≤ k + s ∨ n ≤ x + s)
          · rw [if_pos y3, if_pos (by omega)]
          · rw [if_neg y3, if_neg (by omega)]
    · obtain ⟨g, hm, hg⟩ := hI
      show Wp (X11_nextOrder_L93_b N (X11_nextOrder_L93 N F) 264 n k ((((n - k - 1) / 2 : Nat) : Int) + 1) mm) _
      unfold X11_nextOrder_L93_b
      rw [wI_of2 (x := (n : Int) - ((((n - k - 1) / 2 : Nat) : Int) + 1)) (by omega) (by omega), wI_of2 (x := (k : Int) + ((((n - k - 1) / 2 : Nat) : Int) + 1)) (by omega) (by omega), if_pos (by omega)]
      refine wp_some ⟨rfl, g, hm, fun x hx => ?_⟩
      rw [hg x hx]
      by_cases y : x ≤ k
      · rw [if_pos y, if_neg (by omega)]
      · rw [if_neg y]
        by_cases y2 : k < x ∧ (x ≤ k + (n - k - 1) / 2 ∨ n ≤ x + (n - k - 1) / 2)
        · rw [if_pos y2]
        · rw [if_neg y2, show n + k - x = x from by omega]
    · rw [hr x hx, if_neg (by omega)]
  obtain ⟨⟨v, m2⟩, e, hv, g, hg, hx⟩ := X
  have hv2 : v = 1 := hv
  have hg2 : m2 = setA m 306 g := hg
  subst hv2
  subst hg2
  exact ⟨g, e, hx⟩
theorem m_next_step {N : Nat} (hN : 2000 ≤ N) {m : Mem} (r : Refs m) {n : Nat} (hn : n < 7) {p q : List Nat} (rp : RowP m n p) (hl : nxt1 n p q = true) : ∃ g, X11_nextOrder N 264 (n : Int) m = some (1, setA m 306 g) ∧ RowP (setA m 306 g) n q := by
  obtain ⟨k, hkd⟩ : ∃ k, k = kOf p (n - 1) - 1 := ⟨_, rfl⟩
  obtain ⟨j, hjd⟩ : ∃ j, j = jOf p (p.getD k 0) n := ⟨_, rfl⟩
  unfold nxt1 at hl
  simp only [← hkd, ← hjd, Bool.and_eq_true, decide_eq_true_eq, List.all_eq_true, Bool.or_eq_true, Bool.not_eq_true', Bool.and_eq_false_iff, decide_eq_false_iff_not, beq_iff_eq] at hl
  obtain ⟨⟨⟨⟨⟨⟨⟨⟨h1, h2⟩, h3⟩, h4⟩, h5⟩, h6⟩, h7⟩, h8⟩, h9⟩ := hl
  have d3 : ∀ i, k < i → i + 1 < n → p.getD (i + 1) 0 < p.getD i 0 := fun i a b => by
    have y := h3 i (List.mem_range.mpr (by omega))
    omega
  have d7 : ∀ i, j < i → i < n → p.getD i 0 < p.getD k 0 := fun i a b => by
    have y := h7 i (List.mem_range.mpr b)
    omega
  have X : Wp (X11_nextOrder N 264 (n : Int) m) (fun w => w.1 = 1 ∧ ∃ g, w.2 = setA m 306 g ∧ RowP w.2 n q) := by
    unfold X11_nextOrder
    refine wp_k k264 ?_
    rw [wI_of2 (x := (n : Int) - 2) (by omega) (by omega)]
    have go := lw_1 (fun _ mm => mm = m) (fun F i mm => X11_nextOrder_L4 N (fun z7 z8 z9 m10 =>
        if 0 ≤ z9 then (
          X11_nextOrder_L41 N (nxK N) N z7 z8 z9 (wI (z8 - 1)) m10
        ) else (
          (retZ 0).bind fun r39 => some (r39, m10)
        )) F 264 n ((n : Int) - 2 - i) mm) (n - 2 - k) (fun w => w.1 = 1 ∧ ∃ g, w.2 = setA m 306 g ∧ RowP w.2 n q) (fun F s mm hs hI ih => ?_) (fun F mm hI => ?_) N m (by omega) rfl
    · rw [Int.sub_zero] at go
      exact go
    · subst hI
      obtain ⟨i, hi⟩ : ∃ i : Nat, i + s + 2 = n := ⟨n - 2 - s, by omega⟩
      show Wp (X11_nextOrder_L4_b N _ (X11_nextOrder_L4 N _ F) 264 n ((n : Int) - 2 - (s : Int)) mm) _
      rw [show (n : Int) - 2 - (s : Int) = (i : Int) from by omega]
      unfold X11_nextOrder_L4_b
      rw [if_neg (by omega)]
      refine wp_b (gR67 r) ?_
      refine wp_b (arI 10 (by decide +kernel) (by omega) (by omega) mm) ?_
      refine wp_b (gR67 r) ?_
      rw [wI_of2 (x := (i : Int) + 1) (by omega) (by omega)]
      refine wp_b (arI 10 (by decide +kernel) (by omega) (by omega) mm) ?_
      have y := d3 i (by omega) (by omega)
      rw [Int.toNat_natCast, show ((i : Int) + 1).toNat = i + 1 from by omega, rp i (by omega), rp (i + 1) (by omega), if_neg (by omega), wI_of2 (x := (i : Int) + (-1)) (by omega) (by omega), show (i : Int) + (-1) = (n : Int) - 2 - ((s : Int) + 1) from by omega]
      exact ih ((s : Int) + 1) mm rfl rfl
    · subst hI
      show Wp (X11_nextOrder_L4_b N _ (X11_nextOrder_L4 N _ F) 264 n ((n : Int) - 2 - ((n - 2 - k : Nat) : Int)) mm) _
      rw [show (n : Int) - 2 - ((n - 2 - k : Nat) : Int) = (k : Int) from by omega]
      unfold X11_nextOrder_L4_b
      rw [if_neg (by omega)]
      refine wp_b (gR67 r) ?_
      refine wp_b (arI 10 (by decide +kernel) (by omega) (by omega) mm) ?_
      refine wp_b (gR67 r) ?_
      rw [wI_of2 (x := (k : Int) + 1) (by omega) (by omega)]
      refine wp_b (arI 10 (by decide +kernel) (by omega) (by omega) mm) ?_
      rw [Int.toNat_natCast, show ((k : Int) + 1).toNat = k + 1 from by omega, rp k (by omega), rp (k + 1) (by omega), if_pos (by omega)]
      show Wp (if 0 ≤ (k : Int) then X11_nextOrder_L41 N (nxK N) N 264 n k (wI ((n : Int) - 1)) mm else _) _
      rw [if_pos (by omega), wI_of2 (x := (n : Int) - 1) (by omega) (by omega)]
      have go2 := lw_1 (fun _ mk => mk = mm) (fun F i mk => X11_nextOrder_L41 N (nxK N) F 264 n k ((n : Int) - 1 - i) mk) (n - 1 - j) (fun w => w.1 = 1 ∧ ∃ g, w.2 = setA mm 306 g ∧ RowP w.2 n q) (fun F2 s mk hs hI2 ih2 => ?_) (fun F2 mk hI2 => ?_) N mm (by omega) rfl
      · rw [Int.sub_zero] at go2
        exact go2
      · subst hI2
        obtain ⟨i, hi⟩ : ∃ i : Nat, i + s + 1 = n := ⟨n - 1 - s, by omega⟩
        show Wp (X11_nextOrder_L41_b N _ (X11_nextOrder_L41 N _ F2) 264 n k ((n : Int) - 1 - (s : Int)) mk) _
        rw [show (n : Int) - 1 - (s : Int) = (i : Int) from by omega]
        unfold X11_nextOrder_L41_b
        refine wp_b (gR67 r) ?_
        refine wp_b (arI 10 (by decide +kernel) (by omega) (by omega) mk) ?_
        refine wp_b (gR67 r) ?_
        refine wp_b (arI 10 (by decide +kernel) (by omega) (by omega) mk) ?_
        have y := d7 i (by omega) (by omega)
        rw [Int.toNat_natCast, Int.toNat_natCast, rp i (by omega), rp k (by omega), if_neg (by omega), wI_of2 (x := (i : Int) + (-1)) (by omega) (by omega), show (i : Int) + (-1) = (n : Int) - 1 - ((s : Int) + 1) from by omega]
        exact ih2 ((s : Int) + 1) mk rfl rfl
      · subst hI2
        show Wp (X11_nextOrder_L41_b N _ (X11_nextOrder_L41 N _ F2) 264 n k ((n : Int) - 1 - ((n - 1 - j : Nat) : Int)) mk) _
        rw [show (n : Int) - 1 - ((n - 1 - j : Nat) : Int) = (j : Int) from by omega]
        unfold X11_nextOrder_L41_b
        refine wp_b (gR67 r) ?_
        refine wp_b (arI 10 (by decide +kernel) (by omega) (by omega) mk) ?_
        refine wp_b (gR67 r) ?_
        refine wp_b (arI 10 (by decide +kernel) (by omega) (by omega) mk) ?_
        rw [Int.toNat_natCast, Int.toNat_natCast, rp j h6, rp k (by omega), if_pos (by omega)]
        unfold nxK
        refine wp_b (gR67 r) ?_
        refine wp_b (arI 10 (by decide +kernel) (by omega) (by omega) mk) ?_
        refine wp_b (gR67 r) ?_
        refine wp_b (gR67 r) ?_
        refine wp_b (arI 10 (by decide +kernel) (by omega) (by omega) mk) ?_
        rw [Int.toNat_natCast, Int.toNat_natCast, rp j h6, rp k (by omega)]
        obtain ⟨g1, e1, a1, k1⟩ := ar_stE (a := 306) (n := 10) (i := (k : Int)) (by decide +kernel) (by decide +kernel) (by decide) (by omega) (by omega) ((p.getD j 0 : Nat) : Int) mk
        refine wp_b e1 ?_
        have r1 : Refs (setA mk 306 g1) := refs_set r (by decide +kernel) g1
        refine wp_b (gR67 r1) ?_
        obtain ⟨g2, e2, a2, k2⟩ := ar_stE (a := 306) (n := 10) (i := (j : Int)) (by decide +kernel) (by decide +kernel) (by decide) (by omega) (by omega) ((p.getD k 0 : Nat) : Int) (setA mk 306 g1)
        refine wp_b e2 ?_
        rw [Int.toNat_natCast] at a1 k1 a2 k2
        rw [setA_same] at k2
        have r2 : Refs (setA (setA mk 306 g1) 306 g2) := refs_set r1 (by decide +kernel) g2
        obtain ⟨g3, e3, h10⟩ := m_rev hN r2 hn (k := k) (by omega) (R := swp p k j) (fun x hx => by
          rw [setA_same]
          unfold swp
          by_cases y : x = j
          · rw [if_pos y, y]; exact a2
          · rw [if_neg y, k2 x y]
            by_cases y2 : x = k
            · rw [if_pos y2, y2]; exact a1
            · rw [if_neg y2, k1 x y2]; exact rp x hx)
        refine wp_of e3 ⟨rfl, g3, by rw [setA_setA, setA_setA], fun x hx => ?_⟩
        show setA (setA (setA mk 306 g1) 306 g2) 306 g3 306 x = _
        rw [setA_same, h10 x hx, h9 x (List.mem_range.mpr hx)]
  obtain ⟨⟨v, m2⟩, e, hv, g, hg, hx⟩ := X
  have hv2 : v = 1 := hv
  have hg2 : m2 = setA m 306 g := hg
  subst hv2
  subst hg2
  exact ⟨g, e, hx⟩
