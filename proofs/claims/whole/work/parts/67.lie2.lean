/-! the class's night: a thing's dew -/
theorem nt_row0 {m : Mem} (r : Refs m) {T : Nat} (h : isN T) {i : Int} (i0 : 0 ≤ i) (i1 : i < 11) : aldR (T + 6) i m = some (T + 7 + i.toNat) := nt_row r h i0 i1 (q := 0) (by decide)
theorem nt_row1 {m : Mem} (r : Refs m) {T : Nat} (h : isN T) {i : Int} (i0 : 0 ≤ i) (i1 : i < 11) : aldR (T + 18) i m = some (T + 19 + i.toNat) := nt_row r h i0 i1 (q := 1) (by decide)
theorem nt_row2 {m : Mem} (r : Refs m) {T : Nat} (h : isN T) {i : Int} (i0 : 0 ≤ i) (i1 : i < 11) : aldR (T + 30) i m = some (T + 31 + i.toNat) := nt_row r h i0 i1 (q := 2) (by decide)
theorem nt_S0 {T : Nat} (h : isN T) {i : Nat} (hi : i < 11) : shK (T + 7 + i) = 1 ∧ shN (T + 7 + i) = 13 := nt_rowS h hi (q := 0) (by decide)
theorem nt_S1 {T : Nat} (h : isN T) {i : Nat} (hi : i < 11) : shK (T + 19 + i) = 1 ∧ shN (T + 19 + i) = 13 := nt_rowS h hi (q := 1) (by decide)
theorem nt_S2 {T : Nat} (h : isN T) {i : Nat} (hi : i < 11) : shK (T + 31 + i) = 1 ∧ shN (T + 31 + i) = 13 := nt_rowS h hi (q := 2) (by decide)
/-- the skies, clear hours and pools of a night, the sums of the plan -/
def NL (m : Mem) (T P : Nat) (I : Isl) (l : Lnd) (sk : Int → Int) : Prop := Refs m ∧ SD m (P + 23) 0 (I 22) (nD I) ∧ SD m (P + 23) 1 (I 24) (nR I) ∧ (∀ h : Int, 0 ≤ h → h < 13 → m (T + 1) h.toNat = sk h) ∧ (∀ h : Nat, h < 13 → m (T + 2) h = clr sk h) ∧ ∀ c : Int, 0 ≤ c → c < nC I → m (T + 4) c.toNat = flw I l c
theorem nl_set {m : Mem} {T P : Nat} {I : Isl} {l : Lnd} {sk : Int → Int} (h : NL m T P I l sk) {a : Nat} (k : shK a = 1) (q : ¬a = T + 1 ∧ ¬a = T + 2 ∧ ¬a = T + 4 ∧ (a < P + 23 ∨ P + 26 < a)) (g : Nat → Int) : NL (setA m a g) T P I l sk := by
  obtain ⟨h1, h2, h3, h4, h5, h6⟩ := h
  refine ⟨refs_set h1 (Or.inl k) g, sd_set h2 (by omega) g, sd_set h3 (by omega) g, fun x x0 x1 => ?_, fun x x1 => ?_, fun x x0 x1 => ?_⟩
  · rw [setA_ne (by omega)]; exact h4 x x0 x1
  · rw [setA_ne (by omega)]; exact h5 x x1
  · rw [setA_ne (by omega)]; exact h6 x x0 x1
theorem x_coldIn {m : Mem} {T P : Nat} {I : Isl} {l : Lnd} {sk : Int → Int} (hT : isN T) (z : Sz I) (h : NL m T P I l sk) {c : Int} (c0 : 0 ≤ c) (c1 : c < nC I) {x : Int} (x0 : 0 ≤ x) (x1 : x ≤ 12) : X3_coldIn T c x m = some (cold I l sk c x.toNat) := by
  have s := nt_S hT
  have ci := cold_in z l sk c (h := x.toNat) (by omega)
  obtain ⟨z1, z2, z3, z4, z5, z6, z7⟩ := id z
  refine wp_eq ?_
  unfold X3_coldIn; simp only [X3_coldIn_J24, X3_coldIn_J25]
  refine wp_k (nt_K hT) ?_
  rw [if_neg (by omega), if_neg (by omega), if_neg (by omega), if_neg (by omega), if_neg (by decide)]
  refine wp_b (nt_R h.1 hT).2.2.2.1 ?_
  refine wp_b (ar_ld s.2.2.2.1.1 s.2.2.2.1.2 (by omega) (by omega) m) ?_
  refine wp_b (nt_R h.1 hT).2.1 ?_
  refine wp_b (ar_ld s.2.1.1 s.2.1.2 (by omega) (by omega) m) ?_
  rw [h.2.2.2.2.2 c c0 c1, h.2.2.2.2.1 x.toNat (by omega)]
  exact wp_some (wI_of2 (x := cold I l sk c x.toNat) (by omega) (by omega))
theorem pd_R16 {m : Mem} {P : Nat} (r : Refs m) (h : P = 11 ∨ P = 40) : getR 5 16 P m = some (P + 23) := by
  rcases h with e | e <;> subst e
  · exact rc r 34 (by decide +kernel)
  · exact rc r 63 (by decide +kernel)
/-- what is kept of a thing's night in row w -/
def Lay (m : Mem) (T w : Nat) (I : Isl) (l : Lnd) (sk : Int → Int) (c tk : Int) (n : Nat) : Prop := ∀ i : Nat, i < n → m (T + 7 + w) (i + 1) = cam I l sk c tk i ∧ m (T + 19 + w) (i + 1) = dri I l sk c tk i ∧ m (T + 31 + w) (i + 1) = dwt I l sk c tk (i + 1)
def LieS (T P w : Nat) : Nat → Prop := fun a => a = T + 5 ∨ a = T + 7 + w ∨ a = T + 19 + w ∨ a = T + 31 + w ∨ a = P + 27 ∨ a = P + 27
theorem fcs_fa {m : Mem} {T : Nat} (hT : isN T) {I : Isl} {l : Lnd} {sk : Int → Int} {c tk : Int} {h : Nat} {w : Int} {g : Nat → Int} (e : m (T + 5) = g) (e0 : g 0 = opn I l c) (e1 : g 1 = I 3 c) (e2 : g 2 = cold I l sk c h) (e3 : g 3 = h) (e4 : g 4 = bi (sk h = 1)) (e5 : g 5 = bi (sk h = 2)) (e6 : g 6 = bi (sk h = 3)) (e7 : g 7 = hos I c) (e8 : g 8 = w) (e9 : g 9 = tk) : FA m (T + 5) (fcs I l sk c tk h w) := by
  have s := nt_S hT
  refine ⟨s.2.2.2.2.1.1, s.2.2.2.2.1.2, fun k k0 k1 => ?_⟩
  rw [e]
  unfold fcs fac
  have q : k = 0 ∨ k = 1 ∨ k = 2 ∨ k = 3 ∨ k = 4 ∨ k = 5 ∨ k = 6 ∨ k = 7 ∨ k = 8 ∨ k = 9 := by omega
  rcases q with q | q | q | q | q | q | q | q | q | q <;> subst q <;> simp only [Int.reduceEq, if_false, if_true] <;> assumption
theorem x_lieL {N : Nat} (hN : 2000 ≤ N) {m : Mem} {T P : Nat} {I : Isl} {l : Lnd} {sk : Int → Int} (hT : isN T) (hP : P = 11 ∨ P = 40) (z : Sz I) (v : Vl I) (h : NL m T P I l sk) {c tk : Int} (c0 : 0 ≤ c) (c1 : c < nC I) (t0 : 1 ≤ tk) (t1 : tk ≤ 9) {w : Nat} (hw : w < 11) (f0 : m (T + 5) 0 = opn I l c) (f1 : m (T + 5) 1 = I 3 c) (f7 : m (T + 5) 7 = hos I c) (f9 : m (T + 5) 9 = tk) : Wp (X3_lie_L73 N N T P c w 0 1 m) (fun p => p.1 = dwt I l sk c tk 12 ∧ NL p.2 T P I l sk ∧ Off (LieS T P w) m p.2 ∧ Lay p.2 T w I l sk c tk 12) := by
  have s := nt_S hT
  have s0 := nt_S0 hT hw
  have s1 := nt_S1 hT hw
  have s2 := nt_S2 hT hw
  have hT2 := hT
  unfold isN at hT2
  have sc := sd_c h.2.1.1
  refine lw_2 (fun j x mm => x = dwt I l sk c tk j ∧ NL mm T P I l sk ∧ Off (LieS T P w) m mm ∧ Lay mm T w I l sk c tk j ∧ mm (T + 5) 0 = opn I l c ∧ mm (T + 5) 1 = I 3 c ∧ mm (T + 5) 7 = hos I c ∧ mm (T + 5) 9 = tk) (fun F x i mm => X3_lie_L73 N F T P c w x (i + 1) mm) 12 _ (fun F j x mm hj hI ih => ?_) (fun F x mm hI => ?_) N 0 m (by omega) ⟨rfl, h, off_refl m, fun i hi => absurd hi (by omega), f0, f1, f7, f9⟩
  · obtain ⟨hx, n0, off0, lay, b0, b1, b7, b9⟩ := hI
    have dj := dwt_in I l sk c tk j
    have de := dwt_s I l sk c tk j
    show Wp (X3_lie_L73_b N (X3_lie_L73 N F) T P c w x ((j : Int) + 1) mm) _
    unfold X3_lie_L73_b
    rw [if_neg (by omega)]
    refine wp_b (x_coldIn hT z n0 c0 c1 (by omega) (by omega)) ?_
    obtain ⟨g1, e1, u0, u1, u2, u3, u4, u5, u6, u7, u9⟩ := x_lookUp n0.1 hT n0.2.2.2.1 (h := (j : Int) + 1) (by omega) (by omega) (cold I l sk c ((j : Int) + 1).toNat)
    refine wp_b e1 ?_
    have n1 := nl_set n0 (a := T + 5) s.2.2.2.2.1.1 (by omega) g1
    refine wp_b (nt_R n1.1 hT).2.2.2.2.1 ?_
    obtain ⟨g2, e2, a2, k2⟩ := ar_stE s.2.2.2.2.1.1 s.2.2.2.2.1.2 (by omega) (i := 8) (by omega) (by omega) x (setA mm (T + 5) g1)
    rw [setA_setA] at e2
    rw [setA_same] at k2
    refine wp_b e2 ?_
    have n2 := nl_set n0 (a := T + 5) s.2.2.2.2.1.1 (by omega) g2
    refine wp_b (nt_R n2.1 hT).2.2.2.2.2.1 ?_
    refine wp_b (nt_row0 n2.1 hT (by omega) (by omega)) ?_
    refine wp_b (pd_R16 n2.1 hP) ?_
    refine wp_b (nt_R n2.1 hT).2.2.2.2.1 ?_
    have fa2 : FA (setA mm (T + 5) g2) (T + 5) (fcs I l sk c tk (j + 1) x) := by
      refine fcs_fa hT (setA_same _ _ _) ?_ ?_ ?_ ?_ ?_ ?_ ?_ ?_ a2 ?_
      · rw [k2 0 (by decide), u0, b0]
      · rw [k2 1 (by decide), u1, b1]
      · rw [k2 2 (by decide), u2]; congr 1
      · rw [k2 3 (by decide), u3]; omega
      · rw [k2 4 (by decide), u4]; rfl
      · rw [k2 5 (by decide), u5]; rfl
      · rw [k2 6 (by decide), u6]; rfl
      · rw [k2 7 (by decide), u7, b7]
      · rw [k2 9 (by decide), u9, b9]
    obtain ⟨p, ep, ep1, g3, ep2⟩ := x_worth hN n2.1 n2.2.1 fa2 (by omega) v.2.2.1 (fcs_in z v l sk c0 c1 (by omega) t1 (by omega) (by omega) (by omega))
    refine wp_b ep ?_
    rw [ep1, ep2, show P + 23 + 4 = P + 27 from rfl]
    have n3 := nl_set n2 (a := P + 27) sc.2.2.2.2.1 (by omega) g3
    refine wp_b (show X10_within 0 (wrt (fcs I l sk c tk (j + 1) x) (I 22) (nD I)) 99 _ = some (cam I l sk c tk j) from by rw [hx]; rfl) ?_
    rw [Int.toNat_natCast]
    obtain ⟨g4, e4, a4, k4⟩ := ar_stE s0.1 s0.2 (by omega) (i := (j : Int) + 1) (by omega) (by omega) (cam I l sk c tk j) (setA (setA mm (T + 5) g2) (P + 27) g3)
    rw [show ((j : Int) + 1).toNat = j + 1 from by omega] at a4 k4
    simp (disch := omega) only [setA_ne] at k4
    refine wp_b e4 ?_
    have n4 := nl_set n3 (a := T + 7 + w) s0.1 (by omega) g4
    refine wp_b (nt_R n4.1 hT).2.2.2.2.2.1 ?_
    refine wp_b (nt_row0 n4.1 hT (by omega) (by omega)) ?_
    rw [Int.toNat_natCast]
    refine wp_b (ar_ld s0.1 s0.2 (by omega) (by omega) _) ?_
    rw [setA_same, show ((j : Int) + 1).toNat = j + 1 from by omega, a4]
    refine wp_b (nt_R n4.1 hT).2.2.2.2.1 ?_
    rw [wI_of2 (x := x + cam I l sk c tk j) (by omega) (by omega)]
    obtain ⟨g5, e5, a5, k5⟩ := ar_stE s.2.2.2.2.1.1 s.2.2.2.2.1.2 (by omega) (i := 8) (by omega) (by omega) (x + cam I l sk c tk j) (setA (setA (setA mm (T + 5) g2) (P + 27) g3) (T + 7 + w) g4)
    simp (disch := omega) only [setA_ne, setA_same] at k5
    refine wp_b e5 ?_
    have n5 := nl_set n4 (a := T + 5) s.2.2.2.2.1.1 (by omega) g5
    refine wp_b (nt_R n5.1 hT).2.2.2.2.2.2.1 ?_
    refine wp_b (nt_row1 n5.1 hT (by omega) (by omega)) ?_
    refine wp_b (pd_R16 n5.1 hP) ?_
    refine wp_b (nt_R n5.1 hT).2.2.2.2.1 ?_
    have fa5 : FA (setA (setA (setA (setA mm (T + 5) g2) (P + 27) g3) (T + 7 + w) g4) (T + 5) g5) (T + 5) (fcs I l sk c tk (j + 1) (x + cam I l sk c tk j)) := by
      refine fcs_fa hT (setA_same _ _ _) ?_ ?_ ?_ ?_ ?_ ?_ ?_ ?_ a5 ?_
      · rw [k5 0 (by decide), k2 0 (by decide), u0, b0]
      · rw [k5 1 (by decide), k2 1 (by decide), u1, b1]
      · rw [k5 2 (by decide), k2 2 (by decide), u2]; congr 1
      · rw [k5 3 (by decide), k2 3 (by decide), u3]; omega
      · rw [k5 4 (by decide), k2 4 (by decide), u4]; rfl
      · rw [k5 5 (by decide), k2 5 (by decide), u5]; rfl
      · rw [k5 6 (by decide), k2 6 (by decide), u6]; rfl
      · rw [k5 7 (by decide), k2 7 (by decide), u7, b7]
      · rw [k5 9 (by decide), k2 9 (by decide), u9, b9]
    obtain ⟨p6, ep6, ep61, g6, ep62⟩ := x_worth hN n5.1 n5.2.2.1 fa5 (by omega) v.2.2.2.1 (fcs_in z v l sk c0 c1 (by omega) t1 (by omega) (by omega) (by omega))
    refine wp_b ep6 ?_
    rw [ep61, ep62, show P + 23 + 4 = P + 27 from rfl]
    have n6 := nl_set n5 (a := P + 27) sc.2.2.2.2.1 (by omega) g6
    refine wp_b (show X10_within 0 (wrt (fcs I l sk c tk (j + 1) (x + cam I l sk c tk j)) (I 24) (nR I)) (x + cam I l sk c tk j) _ = some (dri I l sk c tk j) from by rw [hx]; rfl) ?_
    rw [Int.toNat_natCast]
    obtain ⟨g7, e7, a7, k7⟩ := ar_stE s1.1 s1.2 (by omega) (i := (j : Int) + 1) (by omega) (by omega) (dri I l sk c tk j) (setA (setA (setA (setA (setA mm (T + 5) g2) (P + 27) g3) (T + 7 + w) g4) (T + 5) g5) (P + 27) g6)
    rw [show ((j : Int) + 1).toNat = j + 1 from by omega] at a7 k7
    simp (disch := omega) only [setA_ne] at k7
    refine wp_b e7 ?_
    have n7 := nl_set n6 (a := T + 19 + w) s1.1 (by omega) g7
    refine wp_b (nt_R n7.1 hT).2.2.2.2.2.2.1 ?_
    refine wp_b (nt_row1 n7.1 hT (by omega) (by omega)) ?_
    rw [Int.toNat_natCast]
    refine wp_b (ar_ld s1.1 s1.2 (by omega) (by omega) _) ?_
    rw [setA_same, show ((j : Int) + 1).toNat = j + 1 from by omega, a7]
    refine wp_b (nt_R n7.1 hT).2.2.2.2.2.2.2.1 ?_
    refine wp_b (nt_row2 n7.1 hT (by omega) (by omega)) ?_
    rw [Int.toNat_natCast, wI_of2 (x := x + cam I l sk c tk j - dri I l sk c tk j) (by omega) (by omega), show x + cam I l sk c tk j - dri I l sk c tk j = dwt I l sk c tk (j + 1) from by omega]
    obtain ⟨g8, e8, a8, k8⟩ := ar_stE s2.1 s2.2 (by omega) (i := (j : Int) + 1) (by omega) (by omega) (dwt I l sk c tk (j + 1)) (setA (setA (setA (setA (setA (setA mm (T + 5) g2) (P + 27) g3) (T + 7 + w) g4) (T + 5) g5) (P + 27) g6) (T + 19 + w) g7)
    rw [show ((j : Int) + 1).toNat = j + 1 from by omega] at a8 k8
    simp (disch := omega) only [setA_ne] at k8
    refine wp_b e8 ?_
    have n8 := nl_set n7 (a := T + 31 + w) s2.1 (by omega) g8
    rw [show wI ((j : Int) + 1 + 1) = ((j : Int) + 1) + 1 from wI_of2 (by omega) (by omega)]
    refine ih _ ((j : Int) + 1) _ rfl ⟨rfl, n8, ?_, fun i hi => ?_, ?_, ?_, ?_, ?_⟩
    · refine off_set (off_set (off_set (off_set (off_set (off_set (off_set off0 ?_ _) ?_ _) ?_ _) ?_ _) ?_ _) ?_ _) ?_ _ <;> (unfold LieS; omega)
    · simp (disch := omega) only [setA_ne, setA_same]
      by_cases q : i = j
      · subst q
        exact ⟨a4, a7, a8⟩
      · have li := lay i (by omega)
        rw [k4 (i + 1) (by omega), k7 (i + 1) (by omega), k8 (i + 1) (by omega)]
        exact li
    · simp (disch := omega) only [setA_ne, setA_same]
      rw [k5 0 (by decide), k2 0 (by decide), u0, b0]
    · simp (disch := omega) only [setA_ne, setA_same]
      rw [k5 1 (by decide), k2 1 (by decide), u1, b1]
    · simp (disch := omega) only [setA_ne, setA_same]
      rw [k5 7 (by decide), k2 7 (by decide), u7, b7]
    · simp (disch := omega) only [setA_ne, setA_same]
      rw [k5 9 (by decide), k2 9 (by decide), u9, b9]
  · obtain ⟨hx, n0, off0, lay, b0, b1, b7, b9⟩ := hI
    show Wp (X3_lie_L73_b N (X3_lie_L73 N F) T P c w x (((12 : Nat) : Int) + 1) mm) _
    unfold X3_lie_L73_b
    rw [if_pos (by decide)]
    exact wp_some ⟨hx, n0, off0, lay⟩
