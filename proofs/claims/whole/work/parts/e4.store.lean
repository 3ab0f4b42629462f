/-! what a statement changes -/
def zI (I : Isl) (k0 : Nat) (i0 v : Int) : Isl := fun k i => if k = k0 ∧ i = i0 then v else I k i
theorem zI_k {I : Isl} {k0 k : Nat} {i0 v : Int} (h : ¬k = k0) : zI I k0 i0 v k = I k := by
  funext i
  unfold zI
  rw [if_neg (fun u => h u.1)]
theorem zI_y (I : Isl) (k0 : Nat) (i0 v : Int) : zI I k0 i0 v k0 i0 = v := if_pos ⟨rfl, rfl⟩
theorem zI_n {I : Isl} {k0 : Nat} {i0 v i : Int} (h : ¬i = i0) : zI I k0 i0 v k0 i = I k0 i := if_neg fun u => h u.2
theorem clTo_c {I I2 : Isl} (e : I2 11 = I 11) : clTo I2 = clTo I := by
  funext t
  induction t with
  | zero => rfl
  | succ t ih =>
    show clTo I2 t + bi (I2 11 t = 0) = clTo I t + bi (I 11 t = 0)
    rw [ih, e]
theorem clTo_s {I : Isl} {k0 : Nat} {i0 v : Int} (h : (k0 != 11) = true) : clTo (zI I k0 i0 v) = clTo I := clTo_c (zI_k (fun u => by rw [← u] at h; exact absurd h (by decide)))
theorem nbr_s {I : Isl} {k0 : Nat} {i0 v : Int} (h0 : ¬k0 = 0) (h1 : ¬k0 = 1) (s c : Int) : nbr (zI I k0 i0 v) s c = nbr I s c := by
  unfold nbr cellAt
  rw [zI_k (k := 0) (fun u => h0 u.symm), zI_k (k := 1) (fun u => h1 u.symm)]
theorem ofs_c : ∀ k0, k0 < 20 → (rln k0 != 0) = true → (k0 != 0 && k0 != 1 && k0 != 21 && !isPS k0 && (ofs k0 == 10 || decide (11 ≤ ofs k0)) && ofs k0 != 12 && ofs k0 != 13 && ofs k0 != 14 && ofs k0 != 15 && ofs k0 != 23 && ofs k0 != 24 && ofs k0 != 26 && ofs k0 != 27 && decide (ofs k0 ≤ 22)) = true := by decide
theorem ofs_i : ∀ k0, k0 < 20 → ∀ k, k < 20 → (rln k0 != 0) = true → (rln k != 0) = true → ofs k = ofs k0 → k = k0 := by decide
theorem rln_lt {k : Nat} (h : ¬rln k = 0) : k < 20 := by
  rcases Nat.lt_or_ge k 20 with q | q
  · exact q
  · exfalso
    refine h ?_
    unfold rln
    repeat rw [if_neg (by omega)]
/-- an entry of a row of the plan is set -/
theorem pd_put {m : Mem} {D k0 : Nat} {I : Isl} (h : PD m D I) (hk : k0 < 20) (hr : (rln k0 != 0) = true) {i : Int} (i0 : 0 ≤ i) (v : Int) {g : Nat → Int} (g1 : g i.toNat = v) (g2 : ∀ j, ¬j = i.toNat → g j = m (D + ofs k0) j) : PD (setA m (D + ofs k0) g) D (zI I k0 i v) := by
  obtain ⟨h1, h2, h3, h4, h5⟩ := h
  have oc := ofs_c k0 hk hr
  simp only [Bool.and_eq_true, bne_iff_ne, ne_eq, Bool.or_eq_true, beq_iff_eq, decide_eq_true_eq, Bool.not_eq_true'] at oc
  refine ⟨h1, fun k c => ?_, fun k j j0 j1 => ?_, fun s c s0 s1 c0 c1 => ?_, fun j j0 j1 => ?_⟩
  · have ne : ¬k = k0 := fun u => by rw [u, oc.1.1.1.1.1.1.1.1.1.1.2] at c; exact absurd c (by decide)
    rw [setA_ne (by omega), zI_k ne]
    exact h2 k c
  · by_cases q : k = k0
    · subst q
      rw [setA_same]
      by_cases y : j = i
      · subst y; rw [zI_y]; exact g1
      · rw [zI_n y, g2 _ (by omega)]
        exact h3 k j j0 j1
    · have lt := rln_lt (k := k) (by omega)
      have ne : ¬D + ofs k = D + ofs k0 := fun u => q (ofs_i k0 hk k lt hr (by rw [bne_iff_ne]; show ¬rln k = 0; omega) (by omega))
      rw [setA_ne ne, zI_k q]
      exact h3 k j j0 j1
  · rw [setA_ne (by omega), nbr_s (by omega) (by omega)]
    refine h4 s c s0 s1 c0 ?_
    have e : nC (zI I k0 i v) = nC I := by
      unfold nC
      rw [zI_k (k := 0) (by omega), zI_k (k := 1) (by omega)]
    rw [← e]; exact c1
  · rw [setA_ne (by omega), zI_k (by omega)]
    exact h5 j j0 j1
/-- a number of the plan is set -/
theorem ps_c : ∀ k, isPS k = true → (k != 0) = true → (k != 1) = true → k < 20 ∧ rln k = 0 ∧ ofs k = 0 := by
  intro k h _ _
  unfold isPS at h
  simp only [Bool.or_eq_true, beq_iff_eq] at h
  have c : k = 0 ∨ k = 1 ∨ k = 6 ∨ k = 9 ∨ k = 12 ∨ k = 17 ∨ k = 18 ∨ k = 19 := by omega
  rcases c with c | c | c | c | c | c | c | c <;> subst c <;> decide
theorem up_ne {m : Mem} {a k b : Nat} {v : Int} (h : ¬b = a) : up m a k v b = m b := by rw [up_setA, setA_ne h]
theorem pd_putS {m : Mem} {D k0 : Nat} {I : Isl} (h : PD m D I) (hk : isPS k0 = true) (n0 : (k0 != 0) = true) (n1 : (k0 != 1) = true) (v : Int) : PD (up m D k0 v) D (zI I k0 0 v) := by
  obtain ⟨h1, h2, h3, h4, h5⟩ := h
  obtain ⟨lt, r0, o0⟩ := ps_c k0 hk n0 n1
  rw [bne_iff_ne] at n0 n1
  refine ⟨h1, fun k c => ?_, fun k j j0 j1 => ?_, fun s c s0 s1 c0 c1 => ?_, fun j j0 j1 => ?_⟩
  · by_cases q : k = k0
    · subst q; rw [up_same, zI_y]
    · rw [up_at, if_neg q, zI_k q]; exact h2 k c
  · have ne : ¬k = k0 := fun u => by rw [u, r0] at j1; omega
    have oc := ofs_c k (rln_lt (by omega)) (by rw [bne_iff_ne]; show ¬rln k = 0; omega)
    simp only [Bool.and_eq_true, bne_iff_ne, ne_eq, Bool.or_eq_true, beq_iff_eq, decide_eq_true_eq, Bool.not_eq_true'] at oc
    rw [up_ne (by omega), zI_k ne]
    exact h3 k j j0 j1
  · rw [up_ne (by omega), nbr_s n0 n1]
    refine h4 s c s0 s1 c0 ?_
    have e : nC (zI I k0 0 v) = nC I := by
      unfold nC
      rw [zI_k (k := 0) (fun u => n0 u.symm), zI_k (k := 1) (fun u => n1 u.symm)]
    rw [← e]; exact c1
  · rw [up_ne (by omega), zI_k (by omega)]
    exact h5 j j0 j1
/-- a spot of the plan is set -/
theorem pd_put21 {m : Mem} {D : Nat} {I : Isl} (h : PD m D I) {i : Int} (i0 : 0 ≤ i) (v : Int) {g : Nat → Int} (g1 : g i.toNat = v) (g2 : ∀ j, ¬j = i.toNat → g j = m (D + 14) j) : PD (setA m (D + 14) g) D (zI I 21 i v) := by
  obtain ⟨h1, h2, h3, h4, h5⟩ := h
  refine ⟨h1, fun k c => ?_, fun k j j0 j1 => ?_, fun s c s0 s1 c0 c1 => ?_, fun j j0 j1 => ?_⟩
  · have ne : ¬k = 21 := fun u => by rw [u] at c; exact absurd c (by decide)
    rw [setA_ne (by omega), zI_k ne]; exact h2 k c
  · have lt := rln_lt (k := k) (by omega)
    have oc := ofs_c k lt (by rw [bne_iff_ne]; show ¬rln k = 0; omega)
    simp only [Bool.and_eq_true, bne_iff_ne, ne_eq, Bool.or_eq_true, beq_iff_eq, decide_eq_true_eq, Bool.not_eq_true'] at oc
    rw [setA_ne (by omega), zI_k (by omega)]
    exact h3 k j j0 j1
  · rw [setA_ne (by omega), nbr_s (by decide) (by decide)]
    exact h4 s c s0 s1 c0 c1
  · by_cases y : j = i
    · subst y; rw [setA_same, zI_y]; exact g1
    · rw [setA_same, zI_n y, g2 _ (by omega)]
      exact h5 j j0 j1
theorem ld_put {m : Mem} {L : Nat} {l : Lnd} (h : LD m L l) {k0 : Nat} (hk : k0 < 3) {i : Int} (i0 : 0 ≤ i) (v : Int) {g : Nat → Int} (g1 : g i.toNat = v) (g2 : ∀ j, ¬j = i.toNat → g j = m (L + 1 + k0) j) : LD (setA m (L + 1 + k0) g) L (zI l k0 i v) := by
  obtain ⟨h1, h2, h3⟩ := h
  refine ⟨h1, fun k j hk2 j0 j1 => ?_, by rw [setA_ne (by omega), zI_k (by omega)]; exact h3⟩
  by_cases q : k = k0
  · subst q
    rw [setA_same]
    by_cases y : j = i
    · subst y; rw [zI_y]; exact g1
    · rw [zI_n y, g2 _ (by omega)]; exact h2 k j hk2 j0 j1
  · rw [setA_ne (by omega), zI_k q]; exact h2 k j hk2 j0 j1
/-- the reference writes into its bank -/
theorem wst {a n K B len : Nat} (c : (shK a == 1 && shN a == n && decide (3 ≤ a)) = true) (hv : K * B + len ≤ n) (hn : n ≤ 20000) {i : Int} (h0 : 0 ≤ i) (h1 : i < len) (v : Int) (m : Mem) : astI a (wI (wI ((K : Int) * (B : Int)) + i)) v m = some (up m a (K * B + i.toNat) v) := by
  have e : (K : Int) * (B : Int) = ((K * B : Nat) : Int) := by rw [Int.natCast_mul]
  rw [e, wI_of2 (x := ((K * B : Nat) : Int)) (by omega) (by omega), wI_of2 (by omega) (by omega), asI n c (by omega) (by omega), show (((K * B : Nat) : Int) + i).toNat = K * B + i.toNat from by omega]
theorem wstL {a n K B len : Nat} (c : (shK a == 2 && shN a == n && decide (3 ≤ a)) = true) (hv : K * B + len ≤ n) (hn : n ≤ 20000) {i : Int} (h0 : 0 ≤ i) (h1 : i < len) (v : Int) (m : Mem) : astL a (wI (wI ((K : Int) * (B : Int)) + i)) v m = some (up m a (K * B + i.toNat) v) := by
  have e : (K : Int) * (B : Int) = ((K * B : Nat) : Int) := by rw [Int.natCast_mul]
  rw [e, wI_of2 (x := ((K * B : Nat) : Int)) (by omega) (by omega), wI_of2 (by omega) (by omega), asL n c (by omega) (by omega), show (((K * B : Nat) : Int) + i).toNat = K * B + i.toNat from by omega]
theorem wst1 {a B : Nat} (c : (shK a == 1 && shN a == 2 && decide (3 ≤ a)) = true) (hB : B = 0 ∨ B = 1) (v : Int) (m : Mem) : astI a (B : Int) v m = some (up m a B v) := by
  rw [asI 2 c (by omega) (by omega), Int.toNat_natCast]
theorem wld1 {a B : Nat} (c : (shK a == 1 && shN a == 2) = true) (hB : B = 0 ∨ B = 1) (m : Mem) : aldI a (B : Int) m = some (m a B) := by
  rw [arI 2 c (by omega) (by omega), Int.toNat_natCast]
theorem cf_set {D : Nat} {m0 m : Mem} (h : CFr D m0 m) {a : Nat} (ha : D ≤ a ∧ a ≤ D + 28) (g : Nat → Int) : CFr D m0 (setA m a g) := cf_up h fun b j _ h2 => by rw [setA_ne (fun u => h2 (by rw [u]; exact ha))]
theorem cf_upD {D : Nat} {m0 m : Mem} (h : CFr D m0 m) (k : Nat) (v : Int) : CFr D m0 (up m D k v) := cf_up h fun b j _ h2 => by rw [up_ne (fun u => h2 (by omega))]
theorem rf_st {B : Nat} {n0 n : Mem} (h : RF B n0 n) {a k : Nat} (hk : inBk B a k) (v : Int) : RF B n0 (up n a k v) := rf_up h fun b j _ _ h3 => by
  by_cases q : b = a
  · subst q
    rw [up_at, if_neg (fun u => h3 (by rw [u]; exact hk))]
  · rw [up_ne q]
theorem rf_264 {B : Nat} {n0 n : Mem} (h : RF B n0 n) {k : Nat} (hk : mayR 264 k) (v : Int) : RF B n0 (up n 264 k v) := rf_up h fun b j h1 _ _ => by
  by_cases q : b = 264
  · subst q
    rw [up_at, if_neg (fun u => h1 (by rw [u]; exact hk))]
  · rw [up_ne q]
/-- the reader and the text stay while a plan, a bank is written -/
theorem rdr_off {m m2 : Mem} {T : Nat → Int} {len K i : Nat} (h : RD m T len K i) (e5 : m2 5 = m 5) (e6 : m2 6 = m 6) (e8 : m2 8 = m 8) (e9 : m2 9 = m 9) (e10 : m2 10 = m 10) : RD m2 T len K i := by
  unfold RD WD WDs at h ⊢
  rw [e5, e6, e8]
  exact h
theorem rp_off {m m2 : Mem} {T : Nat → Int} {len K a : Nat} (h : RP m T len K a) (o : ∀ b, b < 11 → m2 b = m b) : RP m2 T len K a := by
  obtain ⟨i, d, p, k, kz⟩ := h
  exact ⟨i, rdr_off d (o 5 (by decide)) (o 6 (by decide)) (o 8 (by decide)) (o 9 (by decide)) (o 10 (by decide)), p, k, by rw [o 5 (by decide)]; exact kz⟩
theorem rs_off {n n2 : Mem} {T : Nat → Int} {len a : Nat} (h : RS n T len a) (o : ∀ j, j ≤ 12 → n2 264 j = n 264 j) (e : n2 265 = n 265) : RS n2 T len a := by
  unfold RS RT at h ⊢
  rw [o 4 (by decide), o 3 (by decide), o 12 (by decide), o 5 (by decide), o 6 (by decide), o 7 (by decide), o 8 (by decide), o 2 (by decide), o 9 (by decide), e]
  exact h
