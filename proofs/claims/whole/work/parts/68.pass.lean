/-! the class's night: cold into pools, all things, what comes -/
theorem isLd_le {L : Nat} (h : isLd L = true) : L ≤ 155 := by
  unfold isLd at h
  simp only [Bool.or_eq_true, Bool.and_eq_true, beq_iff_eq, decide_eq_true_eq] at h
  omega
theorem x_lie {N : Nat} (hN : 2000 ≤ N) {m : Mem} {T P L : Nat} {I : Isl} {l : Lnd} {sk : Int → Int} (hT : isN T) (h : PD m P I) (hl : LD m L l) (z : Sz I) (v : Vl I) (n : NL m T P I l sk) {c tk : Int} (c0 : 0 ≤ c) (c1 : c < nC I) (t0 : 1 ≤ tk) (t1 : tk ≤ 9) {w : Nat} (hw : w < 11) : Wp (X3_lie N T P L c tk w m) (fun p => p.1 = dwt I l sk c tk 12 ∧ NL p.2 T P I l sk ∧ Off (LieS T P w) m p.2 ∧ Lay p.2 T w I l sk c tk 12) := by
  have s := nt_S hT
  have hT2 := hT
  unfold isN at hT2
  have hP := h.1
  have hL := isLd_le hl.1
  have ic : isC I c = 1 := bi_1.mpr ⟨c0, c1⟩
  have r := n.1
  obtain ⟨z1, z2, z3, z4, z5, z6, z7⟩ := id z
  unfold X3_lie
  refine wp_k (nt_K hT) ?_
  refine wp_b (x_isCell h z c) ?_
  rw [if_neg (by omega), if_neg (by omega), if_pos (by omega)]
  refine wp_b (nt_R r hT).2.2.2.2.1 ?_
  obtain ⟨g1, e1, a1, k1⟩ := ar_stE s.2.2.2.2.1.1 s.2.2.2.2.1.2 (by omega) (i := 9) (by omega) (by omega) tk m
  refine wp_b e1 ?_
  have n1 := nl_set n (a := T + 5) s.2.2.2.2.1.1 (by omega) g1
  refine wp_b (nt_R n1.1 hT).2.2.2.2.1 ?_
  refine wp_b (x_open hN n1.1 (pd_set h (by omega) g1) (ld_set hl (by omega) g1) z c0 c1) ?_
  obtain ⟨g2, e2, a2, k2⟩ := ar_stE s.2.2.2.2.1.1 s.2.2.2.2.1.2 (by omega) (i := 0) (by omega) (by omega) (opn I l c) (setA m (T + 5) g1)
  rw [setA_setA] at e2
  rw [setA_same] at k2
  refine wp_b e2 ?_
  have n2 := nl_set n (a := T + 5) s.2.2.2.2.1.1 (by omega) g2
  have h2 := pd_set h (a := T + 5) (by omega) g2
  refine wp_b (nt_R n2.1 hT).2.2.2.2.1 ?_
  refine wp_b (pd_R n2.1 h2 (by decide)) ?_
  refine wp_b (pd_r3 h2 c0 (by omega)) ?_
  obtain ⟨g3, e3, a3, k3⟩ := ar_stE s.2.2.2.2.1.1 s.2.2.2.2.1.2 (by omega) (i := 1) (by omega) (by omega) (I 3 c) (setA m (T + 5) g2)
  rw [setA_setA] at e3
  rw [setA_same] at k3
  refine wp_b e3 ?_
  have n3 := nl_set n (a := T + 5) s.2.2.2.2.1.1 (by omega) g3
  refine wp_b (nt_R n3.1 hT).2.2.2.2.1 ?_
  refine wp_b (x_hos hN n3.1 (pd_set h (a := T + 5) (by omega) g3) z v.2.2.2.2 c0 c1) ?_
  obtain ⟨g4, e4, a4, k4⟩ := ar_stE s.2.2.2.2.1.1 s.2.2.2.2.1.2 (by omega) (i := 7) (by omega) (by omega) (hos I c) (setA m (T + 5) g3)
  rw [setA_setA] at e4
  rw [setA_same] at k4
  refine wp_b e4 ?_
  have n4 := nl_set n (a := T + 5) s.2.2.2.2.1.1 (by omega) g4
  refine wp_c (x_lieL hN hT hP z v n4 c0 c1 t0 t1 hw ?_ ?_ ?_ ?_) ?_
  · rw [setA_same, k4 0 (by decide), k3 0 (by decide)]; exact a2
  · rw [setA_same, k4 1 (by decide)]; exact a3
  · rw [setA_same]; exact a4
  · rw [setA_same, k4 9 (by decide), k3 9 (by decide), k2 9 (by decide)]; exact a1
  · intro p hp
    refine ⟨hp.1, hp.2.1, ?_, hp.2.2.2⟩
    exact off_trans (off_set (off_refl m) (show LieS T P w (T + 5) from Or.inl rfl) g4) hp.2.2.1 (fun _ x => x)
theorem low_in (I : Isl) (l : Lnd) (c : Int) : low I l c = -1 ∨ 0 ≤ low I l c ∧ low I l c < nC I := by
  have g : ∀ s : Nat, lowTo I l c s = -1 ∨ 0 ≤ lowTo I l c s ∧ lowTo I l c s < nC I := by
    intro s
    induction s with
    | zero => exact Or.inl rfl
    | succ s ih =>
      have e : lowTo I l c (s + 1) = if nbr I s c = -1 ∨ hasW l (nbr I s c) = 1 ∨ hof I c (lowTo I l c s) ≤ I 3 (nbr I s c) then lowTo I l c s else nbr I s c := rfl
      rw [e]
      by_cases q : nbr I s c = -1 ∨ hasW l (nbr I s c) = 1 ∨ hof I c (lowTo I l c s) ≤ I 3 (nbr I s c)
      · rw [if_pos q]; exact ih
      · rw [if_neg q]; exact nbr_in I s c
  exact g 4
theorem pol_in {I : Isl} {l : Lnd} {c : Int} (c0 : 0 ≤ c) (c1 : c < nC I) : ∀ k : Nat, 0 ≤ pol I l c k ∧ pol I l c k < nC I := by
  intro k
  induction k with
  | zero => exact ⟨c0, c1⟩
  | succ k ih =>
    have e : pol I l c (k + 1) = if low I l (pol I l c k) = -1 then pol I l c k else low I l (pol I l c k) := rfl
    rw [e]
    have := low_in I l (pol I l c k)
    by_cases q : low I l (pol I l c k) = -1
    · rw [if_pos q]; exact ih
    · rw [if_neg q]; omega
theorem pol_stop {I : Isl} {l : Lnd} {c : Int} {k : Nat} (h : low I l (pol I l c k) = -1) : ∀ d : Nat, pol I l c (k + d) = pol I l c k := by
  intro d
  induction d with
  | zero => rfl
  | succ d ih =>
    have e : pol I l c (k + d + 1) = if low I l (pol I l c (k + d)) = -1 then pol I l c (k + d) else low I l (pol I l c (k + d)) := rfl
    rw [show k + (d + 1) = k + d + 1 from rfl, e, ih, if_pos h]
theorem x_poolOf {N : Nat} (hN : 2000 ≤ N) {m : Mem} {T : Nat} {I : Isl} {l : Lnd} (r : Refs m) (hT : isN T) (z : Sz I) (hl : ∀ c : Int, 0 ≤ c → c < nC I → m (T + 3) c.toNat = low I l c) {c : Int} (c0 : 0 ≤ c) (c1 : c < nC I) : X3_poolOf N T c m = some (pol I l c 9) := by
  have s := nt_S hT
  obtain ⟨z1, z2, z3, z4, z5, z6, z7⟩ := id z
  refine wp_eq ?_
  unfold X3_poolOf
  refine wp_k (nt_K hT) ?_
  refine wp_of (lp_2 (pol I l c) Tr (fun F x i => X3_poolOf_L4 N m F T x i) 9 (pol I l c 9) trivial (fun F j hj _ ih => ?_) (fun F _ => ?_) N (by omega)) rfl
  · show X3_poolOf_L4_b N m (X3_poolOf_L4 N m F) T (pol I l c j) j = _
    have pj := pol_in (l := l) c0 c1 j
    have e : pol I l c (j + 1) = if low I l (pol I l c j) = -1 then pol I l c j else low I l (pol I l c j) := rfl
    have ld : aldI (T + 3) (pol I l c j) m = some (low I l (pol I l c j)) := by
      rw [ar_ld s.2.2.1.1 s.2.2.1.2 (by omega) (by omega), hl _ pj.1 pj.2]
    refine wp_eq ?_
    unfold X3_poolOf_L4_b
    rw [if_neg (by omega)]
    refine wp_b (nt_R r hT).2.2.1 ?_
    refine wp_b ld ?_
    by_cases q : low I l (pol I l c j) = -1
    · rw [if_pos q]
      have := pol_stop q (9 - j)
      rw [show j + (9 - j) = 9 from by omega] at this
      exact wp_some this.symm
    · rw [if_neg q]
      rw [if_neg q] at e
      refine wp_b (nt_R r hT).2.2.1 ?_
      refine wp_b ld ?_
      exact wp_of (ih _ _ e.symm (by first | omega | (simp (disch := omega) only [wI_of2] <;> omega)) trivial) rfl
  · show X3_poolOf_L4_b N m (X3_poolOf_L4 N m F) T (pol I l c 9) (9 : Nat) = _
    refine wp_eq ?_
    unfold X3_poolOf_L4_b
    rw [if_pos (by decide)]
    exact wp_some rfl
def ChS (T : Nat) : Nat → Prop := fun a => a = T + 2 ∨ a = T + 3 ∨ a = T + 4
theorem x_chill {N : Nat} (hN : 2000 ≤ N) {m : Mem} {T P L : Nat} {I : Isl} {l : Lnd} {sk : Int → Int} (hT : isN T) (r : Refs m) (h : PD m P I) (hl : LD m L l) (z : Sz I) (sd1 : SD m (P + 23) 0 (I 22) (nD I)) (sd2 : SD m (P + 23) 1 (I 24) (nR I)) (hs : ∀ x : Int, 0 ≤ x → x < 13 → m (T + 1) x.toNat = sk x) (hc : m (T + 2) 0 = 0) : Wp (X3_chill N T P L m) (fun m2 => NL m2 T P I l sk ∧ Off (ChS T) m m2) := by
  have s := nt_S hT
  have hT2 := hT
  unfold isN at hT2
  have hP := h.1
  have hL := isLd_le hl.1
  obtain ⟨z1, z2, z3, z4, z5, z6, z7⟩ := id z
  have hnc : ((nC I).toNat : Int) = nC I := Int.toNat_of_nonneg z6
  -- the frame, for any row of the three
  have fr : ∀ (mm : Mem), Off (ChS T) m mm → PD mm P I ∧ LD mm L l ∧ SD mm (P + 23) 0 (I 22) (nD I) ∧ SD mm (P + 23) 1 (I 24) (nR I) ∧ (∀ x : Int, 0 ≤ x → x < 13 → mm (T + 1) x.toNat = sk x) := by
    intro mm o
    have oo : ∀ a, ¬(a = T + 2 ∨ a = T + 3 ∨ a = T + 4) → mm a = m a := o
    refine ⟨pd_off h fun a _ _ _ _ _ => oo a (by omega), ld_off hl fun a _ _ => oo a (by omega), sd_off sd1 (fun q _ _ => oo q (by omega)), sd_off sd2 (fun q _ _ => oo q (by omega)), fun x x0 x1 => ?_⟩
    rw [oo (T + 1) (by omega)]
    exact hs x x0 x1
  unfold X3_chill
  refine wp_k (nt_K hT) ?_
  refine wp_b (nt_R r hT).2.2.2.1 ?_
  refine wp_b (x_fill s.2.2.2.1.1 s.2.2.2.1.2 (by omega) (by omega) (by omega) 0 m) ?_
  have r1 := refs_set r (Or.inl s.2.2.2.1.1) (fun j => if j < 42 then 0 else m (T + 4) j)
  refine lw_1 (fun j mm => Refs mm ∧ Off (ChS T) m mm ∧ mm (T + 2) 0 = 0 ∧ (∀ c : Int, 0 ≤ c → c < nC I → mm (T + 4) c.toNat = 0) ∧ ∀ c : Int, 0 ≤ c → c < j → mm (T + 3) c.toNat = low I l c) (fun F i mm => X3_chill_L10 N _ F T P L i mm) (nC I).toNat _ (fun F j mm hj hI ih => ?_) (fun F mm hI => ?_) N _ (by omega) ⟨r1, off_set (off_refl m) (by unfold ChS; omega) _, by rw [setA_ne (by omega)]; exact hc, fun c c0 c1 => by rw [setA_same]; exact if_pos (by omega), fun c c0 c1 => absurd c1 (by omega)⟩
  · obtain ⟨r2, o2, c2, f2, l2⟩ := hI
    obtain ⟨h2, hl2, _, _, _⟩ := fr mm o2
    show Wp (X3_chill_L10_b N _ (X3_chill_L10 N _ F) T P L j mm) _
    unfold X3_chill_L10_b
    refine wp_b (x_cells h2 z) ?_
    rw [if_neg (by omega)]
    refine wp_b (nt_R r2 hT).2.2.1 ?_
    refine wp_b (x_low hN r2 h2 hl2 z (by omega) (by omega)) ?_
    obtain ⟨g, e, a, k⟩ := ar_stE s.2.2.1.1 s.2.2.1.2 (by omega) (i := (j : Int)) (by omega) (by omega) (low I l j) mm
    refine wp_b e ?_
    refine ih _ _ (by first | omega | (simp (disch := omega) only [wI_of2] <;> omega)) ⟨refs_set r2 (Or.inl s.2.2.1.1) g, off_set o2 (by unfold ChS; omega) g, by rw [setA_ne (by omega)]; exact c2, fun c c0 c1 => by rw [setA_ne (by omega)]; exact f2 c c0 c1, fun c c0 c1 => ?_⟩
    rw [setA_same]
    by_cases q : c = j
    · rw [q]; exact a
    · rw [k c.toNat (by omega)]; exact l2 c c0 (by omega)
  obtain ⟨r2, o2, c2, f2, l2⟩ := hI
  show Wp (X3_chill_L10_b N _ (X3_chill_L10 N _ F) T P L (nC I).toNat mm) _
  unfold X3_chill_L10_b
  refine wp_b (x_cells (fr mm o2).1 z) ?_
  rw [if_pos (by omega)]
  refine lw_1 (fun j m3 => Refs m3 ∧ Off (ChS T) m m3 ∧ m3 (T + 2) 0 = 0 ∧ (∀ c : Int, 0 ≤ c → c < nC I → m3 (T + 4) c.toNat = flwTo I l c j) ∧ ∀ c : Int, 0 ≤ c → c < nC I → m3 (T + 3) c.toNat = low I l c) (fun F i m3 => X3_chill_L38 N _ F T P L i m3) (nC I).toNat _ (fun F j m3 hj hI ih => ?_) (fun F m3 hI => ?_) N mm (by omega) ⟨r2, o2, c2, f2, fun c c0 c1 => l2 c c0 (by omega)⟩
  · obtain ⟨r3, o3, c3, f3, l3⟩ := hI
    obtain ⟨h3, hl3, _, _, _⟩ := fr m3 o3
    have pj := pol_in (I := I) (l := l) (c := (j : Int)) (by omega) (by omega) 9
    have hw := hasW_in l j
    show Wp (X3_chill_L38_b N _ (X3_chill_L38 N _ F) T P L j m3) _
    unfold X3_chill_L38_b; simp only [X3_chill_J68]
    refine wp_b (x_cells h3 z) ?_
    rw [if_neg (by omega)]
    refine wp_b (x_hasWall r3 hl3 j) ?_
    have step : ∀ c, flwTo I l c (j + 1) = flwTo I l c j + bi (hasW l j = 0 ∧ pol I l j 9 = c) := fun _ => rfl
    by_cases q : hasW l j = 0
    · rw [if_neg (fun x => x q)]
      refine wp_b (nt_R r3 hT).2.2.2.1 ?_
      refine wp_b (x_poolOf hN r3 hT z l3 (by omega) (by omega)) ?_
      refine wp_b (ar_ld s.2.2.2.1.1 s.2.2.2.1.2 (by omega) (by omega) m3) ?_
      rw [f3 _ pj.1 pj.2]
      have b := flwTo_in I l (pol I l j 9) j
      rw [wI_of2 (x := flwTo I l (pol I l j 9) j + 1) (by omega) (by omega)]
      obtain ⟨g, e, a, k⟩ := ar_stE s.2.2.2.1.1 s.2.2.2.1.2 (by omega) (i := pol I l j 9) (by omega) (by omega) (flwTo I l (pol I l j 9) j + 1) m3
      refine wp_b e ?_
      refine ih _ _ (by first | omega | (simp (disch := omega) only [wI_of2] <;> omega)) ⟨refs_set r3 (Or.inl s.2.2.2.1.1) g, off_set o3 (by unfold ChS; omega) g, by rw [setA_ne (by omega)]; exact c3, fun c c0 c1 => ?_, fun c c0 c1 => by rw [setA_ne (by omega)]; exact l3 c c0 c1⟩
      rw [setA_same, step c]
      by_cases y : pol I l j 9 = c
      · rw [← bi_t ⟨q, y⟩, ← y]; exact a
      · rw [← bi_f (fun x => y x.2), k c.toNat (by omega), f3 c c0 c1]; omega
    · rw [if_pos q]
      refine ih _ _ (by first | omega | (simp (disch := omega) only [wI_of2] <;> omega)) ⟨r3, o3, c3, fun c c0 c1 => ?_, l3⟩
      rw [step c, ← bi_f (fun x => q x.1), f3 c c0 c1]; omega
  obtain ⟨r3, o3, c3, f3, l3⟩ := hI
  show Wp (X3_chill_L38_b N _ (X3_chill_L38 N _ F) T P L (nC I).toNat m3) _
  unfold X3_chill_L38_b
  refine wp_b (x_cells (fr m3 o3).1 z) ?_
  rw [if_pos (by omega)]
  refine lw_1 (fun j m4 => Refs m4 ∧ Off (ChS T) m m4 ∧ (∀ c : Int, 0 ≤ c → c < nC I → m4 (T + 4) c.toNat = flw I l c) ∧ ∀ x : Nat, x ≤ j → m4 (T + 2) x = clr sk x) (fun F i m4 => X3_chill_L76 N F T (i + 1) m4) 12 _ (fun F j m4 hj hI ih => ?_) (fun F m4 hI => ?_) N m3 (by omega) ⟨r3, o3, f3, fun x hx => by rw [show x = 0 from by omega]; exact c3⟩
  · obtain ⟨r4, o4, f4, l4⟩ := hI
    obtain ⟨_, _, _, _, hs4⟩ := fr m4 o4
    show Wp (X3_chill_L76_b N (X3_chill_L76 N F) T ((j : Int) + 1) m4) _
    unfold X3_chill_L76_b
    rw [if_neg (by omega)]
    refine wp_b (nt_R r4 hT).2.1 ?_
    refine wp_b (nt_R r4 hT).2.1 ?_
    rw [wI_of2 (x := (j : Int) + 1 - 1) (by omega) (by omega)]
    refine wp_b (ar_ld s.2.1.1 s.2.1.2 (by omega) (by omega) m4) ?_
    refine wp_b (nt_R r4 hT).1 ?_
    refine wp_b (ar_ld s.1.1 s.1.2 (by omega) (by omega) m4) ?_
    rw [hs4 _ (by omega) (by omega), show ((j : Int) + 1 - 1).toNat = j from by omega, l4 j (by omega)]
    refine wp_ibi (F := fun v => X3_chill_J109 N (X3_chill_L76 N F) T ((j : Int) + 1) (T + 2) ((j : Int) + 1) (clr sk j) v m4) ?_
    show Wp (X3_chill_J109 N (X3_chill_L76 N F) T ((j : Int) + 1) (T + 2) ((j : Int) + 1) (clr sk j) (bi (sk ((j : Int) + 1) = 0)) m4) _
    unfold X3_chill_J109
    have b := clr_in sk (j + 1)
    have e0 : clr sk j + bi (sk ((j : Int) + 1) = 0) = clr sk (j + 1) := rfl
    rw [e0, wI_of2 (x := clr sk (j + 1)) (by omega) (by omega)]
    obtain ⟨g, e, a, k⟩ := ar_stE s.2.1.1 s.2.1.2 (by omega) (i := (j : Int) + 1) (by omega) (by omega) (clr sk (j + 1)) m4
    rw [show ((j : Int) + 1).toNat = j + 1 from by omega] at a k
    refine wp_b e ?_
    rw [show wI ((j : Int) + 1 + 1) = ((j : Int) + 1) + 1 from wI_of2 (by omega) (by omega)]
    refine ih ((j : Int) + 1) _ rfl ⟨refs_set r4 (Or.inl s.2.1.1) g, off_set o4 (by unfold ChS; omega) g, fun c c0 c1 => by rw [setA_ne (by omega)]; exact f4 c c0 c1, fun x hx => ?_⟩
    rw [setA_same]
    by_cases q : x = j + 1
    · rw [q]; exact a
    · rw [k x q]; exact l4 x (by omega)
  · obtain ⟨r4, o4, f4, l4⟩ := hI
    obtain ⟨_, _, sd3, sd4, hs4⟩ := fr m4 o4
    show Wp (X3_chill_L76_b N (X3_chill_L76 N F) T (((12 : Nat) : Int) + 1) m4) _
    unfold X3_chill_L76_b
    rw [if_pos (by decide)]
    exact wp_some ⟨⟨r4, sd3, sd4, hs4, fun x hx => l4 x (by omega), f4⟩, o4⟩
