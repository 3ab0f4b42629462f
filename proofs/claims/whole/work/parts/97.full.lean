/-! the fullest hour, the fullest thing -/
/-- the first place of the most above nothing; -1 -/
def fmx (f : Nat → Int) : Nat → Int
  | 0 => -1
  | n + 1 => if (if fmx f n = -1 then 0 else f (fmx f n).toNat) < f n then n else fmx f n
def fmz (f : Nat → Int) (n : Nat) : Int := if fmx f n = -1 then 0 else f (fmx f n).toNat
theorem fmx_s (f : Nat → Int) (n : Nat) : fmx f (n + 1) = if fmz f n < f n then (n : Int) else fmx f n := rfl
theorem fmx_in (f : Nat → Int) (n : Nat) : fmx f n = -1 ∨ 0 ≤ fmx f n ∧ fmx f n < n := by
  induction n with
  | zero => exact Or.inl rfl
  | succ n ih =>
    rw [fmx_s]
    by_cases q : fmz f n < f n
    · rw [if_pos q]; omega
    · rw [if_neg q]; omega
theorem fmz_s (f : Nat → Int) (n : Nat) : fmz f (n + 1) = if fmz f n < f n then f n else fmz f n := by
  by_cases q : fmz f n < f n
  · have e : fmx f (n + 1) = n := by rw [fmx_s, if_pos q]
    rw [if_pos q]
    unfold fmz
    rw [e, if_neg (by omega), Int.toNat_natCast]
  · have e : fmx f (n + 1) = fmx f n := by rw [fmx_s, if_neg q]
    rw [if_neg q]
    unfold fmz
    rw [e]
/-- an hour by its place -/
def hrO (x : Int) : Int := if x = -1 then -1 else x + 1
theorem x_fullestHour {N : Nat} (hN : 2000 ≤ N) {m : Mem} {T P : Nat} {I : Isl} {l : Lnd} {sk : Int → Int} (hT : isN T) (hp : PD m P I) (n : Cn I) (nx : NX m T P I l sk) : X3_fullestHour N T P m = some (hrO (fmx (cinA I l sk) 12)) := by
  refine wp_eq ?_
  unfold X3_fullestHour
  refine wp_k (nt_K hT) ?_
  have a0 : fmz (cinA I l sk) 0 = 0 := by unfold fmz; exact if_pos rfl
  have b0 : hrO (fmx (cinA I l sk) 0) = -1 := by unfold hrO; exact if_pos rfl
  have c0 : (1 : Int) = 0 + 1 := by decide
  have d0 : X3_fullestHour_L7 N m N T P 0 (-1) 1 = X3_fullestHour_L7 N m N T P (fmz (cinA I l sk) 0) (hrO (fmx (cinA I l sk) 0)) (0 + 1) := by rw [a0, b0]; rfl
  rw [d0]
  refine wp_of (lp_3 (fun j => fmz (cinA I l sk) j) (fun j => hrO (fmx (cinA I l sk) j)) Tr (fun F x y i => X3_fullestHour_L7 N m F T P x y (i + 1)) 12 _ trivial (fun F j hj _ ih => ?_) (fun F _ => ?_) N (by omega)) rfl
  · show X3_fullestHour_L7_b N m (X3_fullestHour_L7 N m F) T P (fmz (cinA I l sk) j) (hrO (fmx (cinA I l sk) j)) ((j : Int) + 1) = _
    refine wp_eq ?_
    unfold X3_fullestHour_L7_b; simp only [X3_fullestHour_J35]
    rw [if_neg (by omega)]
    refine wp_b (x_cameIn hN hT hp n nx hj) ?_
    rw [show wI ((j : Int) + 1 + 1) = ((j : Int) + 1) + 1 from wI_of2 (by omega) (by omega)]
    by_cases q : fmz (cinA I l sk) j < cinA I l sk j
    · rw [if_neg (by omega)]
      refine wp_of (ih _ _ ((j : Int) + 1) (by show _ = fmz _ (j + 1); rw [fmz_s, if_pos q]) (by show _ = hrO (fmx _ (j + 1)); rw [fmx_s, if_pos q]; unfold hrO; rw [if_neg (by omega)]) rfl trivial) rfl
    · rw [if_pos (by omega)]
      refine wp_of (ih _ _ ((j : Int) + 1) (by show _ = fmz _ (j + 1); rw [fmz_s, if_neg q]) (by show _ = hrO (fmx _ (j + 1)); rw [fmx_s, if_neg q]) rfl trivial) rfl
  · show X3_fullestHour_L7_b N m (X3_fullestHour_L7 N m F) T P _ (hrO (fmx (cinA I l sk) 12)) (((12 : Nat) : Int) + 1) = _
    unfold X3_fullestHour_L7_b
    rw [if_pos (by decide)]
def dwF (I : Isl) (l : Lnd) (sk : Int → Int) (t : Nat) : Int := dwt I l sk (l 1 t) (I 10 t) 12
theorem x_fullestThing {N : Nat} (hN : 2000 ≤ N) {m : Mem} {T P : Nat} {I : Isl} {l : Lnd} {sk : Int → Int} (hT : isN T) (hp : PD m P I) (n : Cn I) (nx : NX m T P I l sk) : X3_fullestThing N T P m = some (fmx (dwF I l sk) (nT I)) := by
  obtain ⟨n1, n2, n3, n4, n5, n6⟩ := id n
  refine wp_eq ?_
  unfold X3_fullestThing
  refine wp_k (nt_K hT) ?_
  refine wp_of (lp_3 (fun j => fmz (dwF I l sk) j) (fun j => fmx (dwF I l sk) j) Tr (fun F x y i => X3_fullestThing_L7 N m F T P x y i) (nT I) _ trivial (fun F j hj _ ih => ?_) (fun F _ => ?_) N (by omega)) rfl
  · show X3_fullestThing_L7_b N m (X3_fullestThing_L7 N m F) T P (fmz (dwF I l sk) j) (fmx (dwF I l sk) j) j = _
    have hd : X3_dawn T j m = some (dwF I l sk j) := x_dawn nx.1.1 hT n nx (by omega) (by omega)
    refine wp_eq ?_
    unfold X3_fullestThing_L7_b; simp only [X3_fullestThing_J36]
    refine wp_b (pd_I hp (by decide)) ?_
    rw [if_neg (by omega)]
    refine wp_b hd ?_
    by_cases q : fmz (dwF I l sk) j < dwF I l sk j
    · rw [if_neg (by omega)]
      refine wp_b hd ?_
      refine wp_of (ih _ _ _ (by show _ = fmz _ (j + 1); rw [fmz_s, if_pos q]) (by show _ = fmx _ (j + 1); rw [fmx_s, if_pos q]) (by first | omega | (simp (disch := omega) only [wI_of2] <;> omega)) trivial) rfl
    · rw [if_pos (by omega)]
      refine wp_of (ih _ _ _ (by show _ = fmz _ (j + 1); rw [fmz_s, if_neg q]) (by show _ = fmx _ (j + 1); rw [fmx_s, if_neg q]) (by first | omega | (simp (disch := omega) only [wI_of2] <;> omega)) trivial) rfl
  · show X3_fullestThing_L7_b N m (X3_fullestThing_L7 N m F) T P _ (fmx (dwF I l sk) (nT I)) (nT I) = _
    refine wp_eq ?_
    unfold X3_fullestThing_L7_b
    refine wp_b (pd_I hp (by decide)) ?_
    rw [if_pos (by omega)]
    exact wp_some rfl
theorem m_cameIn {N : Nat} (hN : 2000 ≤ N) {m : Mem} {b : Nat} {I : Isl} {l : Lnd} {sk : Int → Int} (r : Refs m) (md : MD m b I) (n : Cn I) (nm : NM m I l sk) {h : Nat} (hh : h < 12) : X11_cameIn N 264 ((h : Int) + 1) m = some (cinA I l sk h) := by
  obtain ⟨n1, n2, n3, n4, n5, n6⟩ := id n
  refine wp_eq ?_
  unfold X11_cameIn
  refine wp_k k264 ?_
  refine wp_of (lp_2 (cin I l sk h) Tr (fun F x i => X11_cameIn_L4 N m F 264 ((h : Int) + 1) x i) (nT I) _ trivial (fun F j hj _ ih => ?_) (fun F _ => ?_) N (by omega)) rfl
  · show X11_cameIn_L4_b N m (X11_cameIn_L4 N m F) 264 ((h : Int) + 1) (cin I l sk h j) j = _
    have e : cin I l sk h (j + 1) = cin I l sk h j + cam I l sk (l 1 j) (I 10 j) h := rfl
    have b2 := cin_in I l sk h (j + 1)
    have la := (nm.2.2 h j hh hj).1
    refine wp_eq ?_
    unfold X11_cameIn_L4_b
    refine wp_b (gR23 r) ?_
    refine wp_b (md_bank md) ?_
    refine wp_b (md_s23 md) ?_
    rw [if_neg (by omega)]
    refine wp_b (gR64 r) ?_
    rw [wI_of2 (x := 10 * ((h : Int) + 1)) (by omega) (by omega), wI_of2 (x := 10 * ((h : Int) + 1) + j) (by omega) (by omega)]
    refine wp_b (arI 130 (by decide +kernel) (by omega) (by omega) m) ?_
    rw [show (10 * ((h : Int) + 1) + (j : Int)).toNat = 10 * (h + 1) + j from by omega, la]
    exact wp_of (ih _ _ (by rw [e]; exact wI_of2 (by omega) (by omega)) (by first | omega | (simp (disch := omega) only [wI_of2] <;> omega)) trivial) rfl
  · show X11_cameIn_L4_b N m (X11_cameIn_L4 N m F) 264 ((h : Int) + 1) (cin I l sk h (nT I)) (nT I) = _
    refine wp_eq ?_
    unfold X11_cameIn_L4_b
    refine wp_b (gR23 r) ?_
    refine wp_b (md_bank md) ?_
    refine wp_b (md_s23 md) ?_
    rw [if_pos (by omega)]
    exact wp_some rfl
