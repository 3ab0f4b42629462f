/-! all of the night: what came, what is there (the class) -/
/-- what came on the first n things in hour h + 1 -/
def cin (I : Isl) (l : Lnd) (sk : Int → Int) (h : Nat) : Nat → Int
  | 0 => 0
  | t + 1 => cin I l sk h t + cam I l sk (l 1 t) (I 10 t) h
def cinA (I : Isl) (l : Lnd) (sk : Int → Int) (h : Nat) : Int := cin I l sk h (nT I)
/-- what came in the first hours -/
def cmA (I : Isl) (l : Lnd) (sk : Int → Int) : Nat → Int
  | 0 => 0
  | h + 1 => cmA I l sk h + cinA I l sk h
/-- what is there by dawn on the first things -/
def dwA (I : Isl) (l : Lnd) (sk : Int → Int) : Nat → Int
  | 0 => 0
  | t + 1 => dwA I l sk t + dwt I l sk (l 1 t) (I 10 t) 12
theorem cin_in (I : Isl) (l : Lnd) (sk : Int → Int) (h t : Nat) : 0 ≤ cin I l sk h t ∧ cin I l sk h t ≤ 99 * t := by
  induction t with
  | zero => exact ⟨Int.le_refl _, Int.le_refl _⟩
  | succ t ih =>
    have b := (dwt_in I l sk (l 1 t) (I 10 t) h).2.1
    have e : cin I l sk h (t + 1) = cin I l sk h t + cam I l sk (l 1 t) (I 10 t) h := rfl
    omega
theorem cinA_in {I : Isl} (n : Cn I) (l : Lnd) (sk : Int → Int) (h : Nat) : 0 ≤ cinA I l sk h ∧ cinA I l sk h ≤ 990 := by
  have := cin_in I l sk h (nT I)
  obtain ⟨n1, n2, n3, n4, n5, n6⟩ := id n
  unfold cinA
  omega
theorem cmA_in {I : Isl} (n : Cn I) (l : Lnd) (sk : Int → Int) (h : Nat) : 0 ≤ cmA I l sk h ∧ cmA I l sk h ≤ 990 * h := by
  induction h with
  | zero => exact ⟨Int.le_refl _, Int.le_refl _⟩
  | succ h ih =>
    have b := cinA_in n l sk h
    have e : cmA I l sk (h + 1) = cmA I l sk h + cinA I l sk h := rfl
    omega
theorem dwA_in (I : Isl) (l : Lnd) (sk : Int → Int) (t : Nat) : 0 ≤ dwA I l sk t ∧ dwA I l sk t ≤ 1188 * t := by
  induction t with
  | zero => exact ⟨Int.le_refl _, Int.le_refl _⟩
  | succ t ih =>
    have b := (dwt_in I l sk (l 1 t) (I 10 t) 12).1
    have e : dwA I l sk (t + 1) = dwA I l sk t + dwt I l sk (l 1 t) (I 10 t) 12 := rfl
    omega
theorem x_cameIn {N : Nat} (hN : 2000 ≤ N) {m : Mem} {T P : Nat} {I : Isl} {l : Lnd} {sk : Int → Int} (hT : isN T) (hp : PD m P I) (n : Cn I) (nx : NX m T P I l sk) {h : Nat} (hh : h < 12) : X3_cameIn N T P ((h : Int) + 1) m = some (cinA I l sk h) := by
  obtain ⟨n1, n2, n3, n4, n5, n6⟩ := id n
  have r := nx.1.1
  refine wp_eq ?_
  unfold X3_cameIn
  refine wp_k (nt_K hT) ?_
  refine wp_of (lp_2 (cin I l sk h) Tr (fun F x i => X3_cameIn_L5 N m F T P ((h : Int) + 1) x i) (nT I) _ trivial (fun F j hj _ ih => ?_) (fun F _ => ?_) N (by omega)) rfl
  · show X3_cameIn_L5_b N m (X3_cameIn_L5 N m F) T P ((h : Int) + 1) (cin I l sk h j) j = _
    have e : cin I l sk h (j + 1) = cin I l sk h j + cam I l sk (l 1 j) (I 10 j) h := rfl
    have b := cin_in I l sk h (j + 1)
    have s0 := nt_S0 hT (i := j) (by omega)
    have la := (nx.2.1 j hj h hh).1
    refine wp_eq ?_
    unfold X3_cameIn_L5_b
    refine wp_b (pd_I hp (by decide)) ?_
    rw [if_neg (by omega)]
    refine wp_b (nt_R r hT).2.2.2.2.2.1 ?_
    refine wp_b (nt_row0 r hT (by omega) (by omega)) ?_
    rw [Int.toNat_natCast]
    refine wp_b (ar_ld s0.1 s0.2 (by omega) (by omega) m) ?_
    rw [show ((h : Int) + 1).toNat = h + 1 from by omega, la]
    exact wp_of (ih _ _ (by rw [e]; exact wI_of2 (by omega) (by omega)) (by first | omega | (simp (disch := omega) only [wI_of2] <;> omega)) trivial) rfl
  · show X3_cameIn_L5_b N m (X3_cameIn_L5 N m F) T P ((h : Int) + 1) (cin I l sk h (nT I)) (nT I) = _
    refine wp_eq ?_
    unfold X3_cameIn_L5_b
    refine wp_b (pd_I hp (by decide)) ?_
    rw [if_pos (by omega)]
    exact wp_some rfl
theorem x_allCame {N : Nat} (hN : 2000 ≤ N) {m : Mem} {T P : Nat} {I : Isl} {l : Lnd} {sk : Int → Int} (hT : isN T) (hp : PD m P I) (n : Cn I) (nx : NX m T P I l sk) : X3_allCame N T P m = some (cmA I l sk 12) := by
  refine wp_eq ?_
  unfold X3_allCame
  refine wp_k (nt_K hT) ?_
  have s0 : (1 : Int) = (fun j : Nat => (j : Int) + 1) 0 := rfl
  rw [s0]
  refine wp_of (lq_2 (cmA I l sk) (fun j => (j : Int) + 1) Tr (fun F x i => X3_allCame_L4 N m F T P x i) 12 _ trivial (fun F j hj _ ih => ?_) (fun F _ => ?_) N (by omega)) rfl
  · show X3_allCame_L4_b N m (X3_allCame_L4 N m F) T P (cmA I l sk j) ((j : Int) + 1) = _
    have e : cmA I l sk (j + 1) = cmA I l sk j + cinA I l sk j := rfl
    have b := cmA_in n l sk (j + 1)
    refine wp_eq ?_
    unfold X3_allCame_L4_b
    rw [if_neg (by omega)]
    refine wp_b (x_cameIn hN hT hp n nx hj) ?_
    exact wp_of (ih _ _ (by rw [e]; exact wI_of2 (by omega) (by omega)) (by show wI ((j : Int) + 1 + 1) = ((j + 1 : Nat) : Int) + 1; rw [wI_of2 (by omega) (by omega)]; omega) trivial) rfl
  · show X3_allCame_L4_b N m (X3_allCame_L4 N m F) T P (cmA I l sk 12) (((12 : Nat) : Int) + 1) = _
    unfold X3_allCame_L4_b
    rw [if_pos (by decide)]
theorem x_allByDawn {N : Nat} (hN : 2000 ≤ N) {m : Mem} {T P : Nat} {I : Isl} {l : Lnd} {sk : Int → Int} (hT : isN T) (hp : PD m P I) (n : Cn I) (nx : NX m T P I l sk) : X3_allByDawn N T P m = some (dwA I l sk (nT I)) := by
  obtain ⟨n1, n2, n3, n4, n5, n6⟩ := id n
  refine wp_eq ?_
  unfold X3_allByDawn
  refine wp_k (nt_K hT) ?_
  refine wp_of (lp_2 (dwA I l sk) Tr (fun F x i => X3_allByDawn_L4 N m F T P x i) (nT I) _ trivial (fun F j hj _ ih => ?_) (fun F _ => ?_) N (by omega)) rfl
  · show X3_allByDawn_L4_b N m (X3_allByDawn_L4 N m F) T P (dwA I l sk j) j = _
    have e : dwA I l sk (j + 1) = dwA I l sk j + dwt I l sk (l 1 j) (I 10 j) 12 := rfl
    have b := dwA_in I l sk (j + 1)
    refine wp_eq ?_
    unfold X3_allByDawn_L4_b
    refine wp_b (pd_I hp (by decide)) ?_
    rw [if_neg (by omega)]
    refine wp_b (x_dawn nx.1.1 hT n nx (by omega) (by omega)) ?_
    exact wp_of (ih _ _ (by rw [e]; exact wI_of2 (by omega) (by omega)) (by first | omega | (simp (disch := omega) only [wI_of2] <;> omega)) trivial) rfl
  · show X3_allByDawn_L4_b N m (X3_allByDawn_L4 N m F) T P (dwA I l sk (nT I)) (nT I) = _
    refine wp_eq ?_
    unfold X3_allByDawn_L4_b
    refine wp_b (pd_I hp (by decide)) ?_
    rw [if_pos (by omega)]
    exact wp_some rfl
theorem x_allDried {N : Nat} (hN : 2000 ≤ N) {m : Mem} {T P : Nat} {I : Isl} {l : Lnd} {sk : Int → Int} (hT : isN T) (hp : PD m P I) (n : Cn I) (nx : NX m T P I l sk) : X3_allDried N T P m = some (cmA I l sk 12 - dwA I l sk (nT I)) := by
  have a := cmA_in n l sk 12
  have b := dwA_in I l sk (nT I)
  obtain ⟨n1, n2, n3, n4, n5, n6⟩ := id n
  refine wp_eq ?_
  unfold X3_allDried
  refine wp_k (nt_K hT) ?_
  refine wp_b (x_allCame hN hT hp n nx) ?_
  refine wp_b (x_allByDawn hN hT hp n nx) ?_
  exact wp_some (wI_of2 (by omega) (by omega))
