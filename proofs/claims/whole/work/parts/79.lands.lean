/-! lands: copies of the reference, what a night pours -/
/-- only layer v of the reference has changed -/
def LyF (v : Nat) (m m2 : Mem) : Prop := (∀ a, ¬(296 ≤ a ∧ a ≤ 299) → m2 a = m a) ∧ (∀ x, ¬(42 * v ≤ x ∧ x < 42 * v + 42) → m2 297 x = m 297 x) ∧ (∀ x, ¬(10 * v ≤ x ∧ x < 10 * v + 10) → m2 298 x = m 298 x) ∧ (∀ x, ¬(5 * v ≤ x ∧ x < 5 * v + 5) → m2 299 x = m 299 x) ∧ ∀ x, ¬x = v → m2 296 x = m 296 x
theorem lyf_refl (v : Nat) (m : Mem) : LyF v m m := ⟨fun _ _ => rfl, fun _ _ => rfl, fun _ _ => rfl, fun _ _ => rfl, fun _ _ => rfl⟩
theorem lyf_trans {v : Nat} {m m2 m3 : Mem} (h : LyF v m m2) (g : LyF v m2 m3) : LyF v m m3 := ⟨fun a q => by rw [g.1 a q, h.1 a q], fun x q => by rw [g.2.1 x q, h.2.1 x q], fun x q => by rw [g.2.2.1 x q, h.2.2.1 x q], fun x q => by rw [g.2.2.2.1 x q, h.2.2.2.1 x q], fun x q => by rw [g.2.2.2.2 x q, h.2.2.2.2 x q]⟩
theorem lyf_c : ∀ a, a < 300 → 296 ≤ a → (shK a == 1) = true := by decide +kernel
theorem lyf_refs {v : Nat} {m m2 : Mem} (h : LyF v m m2) (r : Refs m) : Refs m2 := refs_of r fun a k hk => by
  rw [h.1 a (fun y => ?_)]
  have c := lyf_c a (by omega) y.1
  unfold isRef at hk
  simp only [beq_iff_eq] at c
  rw [c] at hk
  cases hk
theorem lyf_md {v : Nat} {m m2 : Mem} {b : Nat} {I : Isl} (h : LyF v m m2) (d : MD m b I) : MD m2 b I := md_off d (by rw [h.1 264 (by omega)]) (fun a _ _ => h.1 a (by omega))
theorem lyf_my {v u n : Nat} {m m2 : Mem} {l : Lnd} (h : LyF v m m2) (q : ¬u = v) (d : MY m u l n) : MY m2 u l n := by
  obtain ⟨h1, h2, h3, h4, h5, h6⟩ := d
  refine ⟨h1, fun i i0 i1 => ?_, fun i i0 i1 => ?_, fun i i0 i1 => ?_, ?_, h6⟩
  · rw [h.2.1 _ (by omega)]; exact h2 i i0 i1
  · rw [h.2.2.1 _ (by omega)]; exact h3 i i0 i1
  · rw [h.2.2.2.1 _ (by omega)]; exact h4 i i0 i1
  · rw [h.2.2.2.2 u q]; exact h5
theorem lyf_297 {v : Nat} {m m2 : Mem} (h : LyF v m m2) {g : Nat → Int} (q : ∀ x, ¬(42 * v ≤ x ∧ x < 42 * v + 42) → g x = m2 297 x) : LyF v m (setA m2 297 g) := by
  refine ⟨fun a ha => by rw [setA_ne (by omega)]; exact h.1 a ha, fun x hx => by rw [setA_same, q x hx]; exact h.2.1 x hx, fun x hx => by rw [setA_ne (by decide)]; exact h.2.2.1 x hx, fun x hx => by rw [setA_ne (by decide)]; exact h.2.2.2.1 x hx, fun x hx => by rw [setA_ne (by decide)]; exact h.2.2.2.2 x hx⟩
theorem lyf_298 {v : Nat} {m m2 : Mem} (h : LyF v m m2) {g : Nat → Int} (q : ∀ x, ¬(10 * v ≤ x ∧ x < 10 * v + 10) → g x = m2 298 x) : LyF v m (setA m2 298 g) := by
  refine ⟨fun a ha => by rw [setA_ne (by omega)]; exact h.1 a ha, fun x hx => by rw [setA_ne (by decide)]; exact h.2.1 x hx, fun x hx => by rw [setA_same, q x hx]; exact h.2.2.1 x hx, fun x hx => by rw [setA_ne (by decide)]; exact h.2.2.2.1 x hx, fun x hx => by rw [setA_ne (by decide)]; exact h.2.2.2.2 x hx⟩
theorem lyf_299 {v : Nat} {m m2 : Mem} (h : LyF v m m2) {g : Nat → Int} (q : ∀ x, ¬(5 * v ≤ x ∧ x < 5 * v + 5) → g x = m2 299 x) : LyF v m (setA m2 299 g) := by
  refine ⟨fun a ha => by rw [setA_ne (by omega)]; exact h.1 a ha, fun x hx => by rw [setA_ne (by decide)]; exact h.2.1 x hx, fun x hx => by rw [setA_ne (by decide)]; exact h.2.2.1 x hx, fun x hx => by rw [setA_same, q x hx]; exact h.2.2.2.1 x hx, fun x hx => by rw [setA_ne (by decide)]; exact h.2.2.2.2 x hx⟩
theorem lyf_296 {v : Nat} {m m2 : Mem} (h : LyF v m m2) {g : Nat → Int} (q : ∀ x, ¬x = v → g x = m2 296 x) : LyF v m (setA m2 296 g) := by
  refine ⟨fun a ha => by rw [setA_ne (by omega)]; exact h.1 a ha, fun x hx => by rw [setA_ne (by decide)]; exact h.2.1 x hx, fun x hx => by rw [setA_ne (by decide)]; exact h.2.2.1 x hx, fun x hx => by rw [setA_ne (by decide)]; exact h.2.2.2.1 x hx, fun x hx => by rw [setA_same, q x hx]; exact h.2.2.2.2 x hx⟩
/-- the index of a layer's place -/
theorem wI_ix {K v : Nat} {i : Int} (hK : K * v ≤ 2000) (h0 : 0 ≤ i) (h1 : i ≤ 100) : wI (wI ((K : Int) * (v : Int)) + i) = ((K * v : Nat) : Int) + i := by
  have e : (K : Int) * (v : Int) = ((K * v : Nat) : Int) := by rw [Int.natCast_mul]
  rw [e, wI_of2 (x := ((K * v : Nat) : Int)) (by omega) (by omega), wI_of2 (by omega) (by omega)]
theorem wI_42 {v : Nat} {i : Int} (hK : v < 22) (h0 : 0 ≤ i) (h1 : i ≤ 100) : wI (wI (42 * (v : Int)) + i) = ((42 * v : Nat) : Int) + i := wI_ix (K := 42) (by omega) h0 h1
theorem wI_10 {v : Nat} {i : Int} (hK : v < 22) (h0 : 0 ≤ i) (h1 : i ≤ 100) : wI (wI (10 * (v : Int)) + i) = ((10 * v : Nat) : Int) + i := wI_ix (K := 10) (by omega) h0 h1
theorem wI_5 {v : Nat} {i : Int} (hK : v < 22) (h0 : 0 ≤ i) (h1 : i ≤ 100) : wI (wI (5 * (v : Int)) + i) = ((5 * v : Nat) : Int) + i := wI_ix (K := 5) (by omega) h0 h1
theorem m_copies {N : Nat} (hN : 2000 ≤ N) {m : Mem} {to fr n : Nat} {l : Lnd} (r : Refs m) (h : MY m fr l n) (ht : to < 22) (hne : ¬fr = to) : Wp (X11_copies N 264 to fr m) (fun m2 => MY m2 to l n ∧ LyF to m m2) := by
  obtain ⟨h1, h2, h3, h4, h5, h6⟩ := id h
  unfold X11_copies
  refine wp_k k264 ?_
  refine wp_b (gR50 r) ?_
  refine wp_b (gR50 r) ?_
  refine wp_b (arI 22 (by decide +kernel) (by omega) (by omega) m) ?_
  rw [Int.toNat_natCast]
  obtain ⟨g, e, a, k⟩ := ar_stE (a := 296) (n := 22) (i := (to : Int)) (by decide +kernel) (by decide +kernel) (by decide) (by omega) (by omega) (m 296 fr) m
  rw [Int.toNat_natCast] at a k
  refine wp_b e ?_
  refine lw_1 (fun j mm => LyF to m mm ∧ mm 296 to = l 3 0 ∧ ∀ i : Int, 0 ≤ i → i < j → mm 297 (42 * to + i.toNat) = l 0 i) (fun F i mm => X11_copies_L14 N _ F 264 to fr i mm) 42 _ (fun F j mm hj hI ih => ?_) (fun F mm hI => ?_) N _ (by omega) ⟨lyf_296 (lyf_refl to m) k, by rw [setA_same, a]; exact h5, fun i i0 i1 => absurd i1 (by omega)⟩
  · obtain ⟨f, e1, e2⟩ := hI
    show Wp (X11_copies_L14_b N _ (X11_copies_L14 N _ F) 264 to fr j mm) _
    unfold X11_copies_L14_b
    rw [if_neg (by omega)]
    refine wp_b (gR51 (lyf_refs f r)) ?_
    refine wp_b (gR51 (lyf_refs f r)) ?_
    refine wp_b (ml_r51 (lyf_my f hne h) (by omega) (by omega)) ?_
    rw [wI_42 (v := to) (by omega) (by omega) (by omega)]
    obtain ⟨g, e, a, k⟩ := ar_stE (a := 297) (n := 924) (i := ((42 * to : Nat) : Int) + (j : Int)) (by decide +kernel) (by decide +kernel) (by decide) (by omega) (by omega) (l 0 j) mm
    rw [show (((42 * to : Nat) : Int) + (j : Int)).toNat = 42 * to + j from by omega] at a k
    refine wp_b e ?_
    refine ih _ _ (by first | omega | (simp (disch := omega) only [wI_of2] <;> omega)) ⟨lyf_297 f (fun x hx => k x (by omega)), by rw [setA_ne (by decide)]; exact e1, fun i i0 i1 => ?_⟩
    rw [setA_same]
    by_cases q : i = j
    · rw [q, Int.toNat_natCast]; exact a
    · rw [k _ (by omega)]; exact e2 i i0 (by omega)
  obtain ⟨f, e1, e2⟩ := hI
  show Wp (X11_copies_L14_b N _ (X11_copies_L14 N _ F) 264 to fr (42 : Nat) mm) _
  unfold X11_copies_L14_b
  rw [if_pos (by decide)]
  refine lw_1 (fun j m2 => LyF to m m2 ∧ m2 296 to = l 3 0 ∧ (∀ i : Int, 0 ≤ i → i < 42 → m2 297 (42 * to + i.toNat) = l 0 i) ∧ ∀ i : Int, 0 ≤ i → i < j → m2 298 (10 * to + i.toNat) = m 298 (10 * fr + i.toNat)) (fun F i m2 => X11_copies_L50 N _ F 264 to fr i m2) 10 _ (fun F j m2 hj hI ih => ?_) (fun F m2 hI => ?_) N mm (by omega) ⟨f, e1, e2, fun i i0 i1 => absurd i1 (by omega)⟩
  · obtain ⟨f, e1, e2, e3⟩ := hI
    show Wp (X11_copies_L50_b N _ (X11_copies_L50 N _ F) 264 to fr j m2) _
    unfold X11_copies_L50_b
    rw [if_neg (by omega)]
    refine wp_b (gR52 (lyf_refs f r)) ?_
    refine wp_b (gR52 (lyf_refs f r)) ?_
    rw [wI_10 (v := fr) (by omega) (by omega) (by omega), wI_10 (v := to) (by omega) (by omega) (by omega)]
    refine wp_b (arI 220 (by decide +kernel) (by omega) (by omega) m2) ?_
    rw [show (((10 * fr : Nat) : Int) + (j : Int)).toNat = 10 * fr + j from by omega, f.2.2.1 (10 * fr + j) (by omega)]
    obtain ⟨g, e, a, k⟩ := ar_stE (a := 298) (n := 220) (i := ((10 * to : Nat) : Int) + (j : Int)) (by decide +kernel) (by decide +kernel) (by decide) (by omega) (by omega) (m 298 (10 * fr + j)) m2
    rw [show (((10 * to : Nat) : Int) + (j : Int)).toNat = 10 * to + j from by omega] at a k
    refine wp_b e ?_
    refine ih _ _ (by first | omega | (simp (disch := omega) only [wI_of2] <;> omega)) ⟨lyf_298 f (fun x hx => k x (by omega)), by rw [setA_ne (by decide)]; exact e1, fun i i0 i1 => by rw [setA_ne (by decide)]; exact e2 i i0 i1, fun i i0 i1 => ?_⟩
    rw [setA_same]
    by_cases q : i = j
    · rw [q, Int.toNat_natCast]; exact a
    · rw [k _ (by omega)]; exact e3 i i0 (by omega)
  obtain ⟨f, e1, e2, e3⟩ := hI
  show Wp (X11_copies_L50_b N _ (X11_copies_L50 N _ F) 264 to fr (10 : Nat) m2) _
  unfold X11_copies_L50_b
  rw [if_pos (by decide)]
  refine lw_1 (fun j m3 => LyF to m m3 ∧ m3 296 to = l 3 0 ∧ (∀ i : Int, 0 ≤ i → i < 42 → m3 297 (42 * to + i.toNat) = l 0 i) ∧ (∀ i : Int, 0 ≤ i → i < 10 → m3 298 (10 * to + i.toNat) = m 298 (10 * fr + i.toNat)) ∧ ∀ i : Int, 0 ≤ i → i < j → m3 299 (5 * to + i.toNat) = l 2 i) (fun F i m3 => X11_copies_L86 N F 264 to fr i m3) 5 _ (fun F j m3 hj hI ih => ?_) (fun F m3 hI => ?_) N m2 (by omega) ⟨f, e1, e2, e3, fun i i0 i1 => absurd i1 (by omega)⟩
  · obtain ⟨f, e1, e2, e3, e4⟩ := hI
    show Wp (X11_copies_L86_b N (X11_copies_L86 N F) 264 to fr j m3) _
    unfold X11_copies_L86_b
    rw [if_neg (by omega)]
    refine wp_b (gR53 (lyf_refs f r)) ?_
    refine wp_b (gR53 (lyf_refs f r)) ?_
    refine wp_b (ml_r53 (lyf_my f hne h) (by omega) (by omega)) ?_
    rw [wI_5 (v := to) (by omega) (by omega) (by omega)]
    obtain ⟨g, e, a, k⟩ := ar_stE (a := 299) (n := 110) (i := ((5 * to : Nat) : Int) + (j : Int)) (by decide +kernel) (by decide +kernel) (by decide) (by omega) (by omega) (l 2 j) m3
    rw [show (((5 * to : Nat) : Int) + (j : Int)).toNat = 5 * to + j from by omega] at a k
    refine wp_b e ?_
    refine ih _ _ (by first | omega | (simp (disch := omega) only [wI_of2] <;> omega)) ⟨lyf_299 f (fun x hx => k x (by omega)), by rw [setA_ne (by decide)]; exact e1, fun i i0 i1 => by rw [setA_ne (by decide)]; exact e2 i i0 i1, fun i i0 i1 => by rw [setA_ne (by decide)]; exact e3 i i0 i1, fun i i0 i1 => ?_⟩
    rw [setA_same]
    by_cases q : i = j
    · rw [q, Int.toNat_natCast]; exact a
    · rw [k _ (by omega)]; exact e4 i i0 (by omega)
  · obtain ⟨f, e1, e2, e3, e4⟩ := hI
    show Wp (X11_copies_L86_b N (X11_copies_L86 N F) 264 to fr (5 : Nat) m3) _
    unfold X11_copies_L86_b
    rw [if_pos (by decide)]
    exact wp_some ⟨⟨ht, e2, fun i i0 i1 => by rw [e3 i i0 (by omega)]; exact h3 i i0 i1, e4, e1, h6⟩, f⟩
/-- what is in a cistern behind a night -/
def pou (I : Isl) (d cm : Int) : Int := max 0 (min 9999 (d + cm) - I 17 0)
/-- the first n cisterns have had their night -/
def pouN (I : Isl) (l : Lnd) (cm : Int → Int) (n : Int) : Lnd := fun k i => if k = 2 then (if i < n then pou I (l 2 i) (cm i) else l 2 i) else l k i
def pouL (I : Isl) (l : Lnd) (cm : Int → Int) : Lnd := fun k i => if k = 3 then l 3 i + 1 else pouN I l cm (I 6 0) k i
def pouS (cm : Int → Int) (n : Nat) : Int := sumTo (fun k => cm k) n
theorem pouS_in {cm : Int → Int} (h : ∀ k, 0 ≤ cm k ∧ cm k ≤ 20000) (n : Nat) : 0 ≤ pouS cm n ∧ pouS cm n ≤ 20000 * n := by
  induction n with
  | zero => exact ⟨Int.le_refl _, Int.le_refl _⟩
  | succ n ih =>
    have := h n
    have e : pouS cm (n + 1) = pouS cm n + cm n := rfl
    omega
/-- drops and drinks -/
def Dr (I : Isl) (l : Lnd) : Prop := (∀ k : Int, 0 ≤ k → k < 5 → 0 ≤ l 2 k ∧ l 2 k ≤ 9999) ∧ 0 ≤ I 17 0 ∧ I 17 0 ≤ 999 ∧ 0 ≤ l 3 0 ∧ l 3 0 ≤ 9999
theorem x_filled {m : Mem} {L T : Nat} {l : Lnd} (r : Refs m) (hT : isN T) (h : LD m L l) {k : Int} (k0 : 0 ≤ k) (k1 : k < 5) (d : 0 ≤ l 2 k ∧ l 2 k ≤ 9999) {c : Int} (hc : m (T + 42) k.toNat = c) (c0 : 0 ≤ c) (c1 : c ≤ 20000) : X1_filled L T k m = some (min 9999 (l 2 k + c)) := by
  have s := nt_S hT
  unfold X1_filled
  rw [if_pos (ld_K h), ld_R r h (by decide), Option.bind_some, ld_r2 h k0 k1, Option.bind_some, (nt_R r hT).2.2.2.2.2.2.2.2, Option.bind_some, ar_ld s.2.2.2.2.2.1 s.2.2.2.2.2.2 k0 (by omega), Option.bind_some, hc, wI_of2 (by omega) (by omega)]
theorem ld_same {m : Mem} {L : Nat} {l l2 : Lnd} (h : LD m L l) (e : ∀ k (i : Int), k < 3 → 0 ≤ i → i < lln k → l2 k i = l k i) (e3 : l2 3 0 = l 3 0) : LD m L l2 := ⟨h.1, fun k i hk i0 i1 => by rw [e k i hk i0 i1]; exact h.2.1 k i hk i0 i1, by rw [e3]; exact h.2.2⟩
def DrW (I : Isl) (l : Lnd) : Prop := (∀ k : Int, 0 ≤ k → k < 5 → 0 ≤ l 2 k ∧ l 2 k ≤ 9999) ∧ 0 ≤ I 17 0 ∧ I 17 0 ≤ 999 ∧ 0 ≤ l 3 0 ∧ l 3 0 ≤ 100000
theorem x_pour2 {N : Nat} (hN : 2000 ≤ N) {m : Mem} {P L T : Nat} {I : Isl} {l : Lnd} {cm : Int → Int} (r : Refs m) (hT : isN T) (hP : PD m P I) (h : LD m L l) (n : Cn I) (dr : DrW I l) (hc : ∀ k : Nat, k < 5 → m (T + 42) k = cm k) (cb : ∀ k, 0 ≤ cm k ∧ cm k ≤ 20000) (far : L + 3 < P ∨ P + 22 < L ∨ P + 12 = L) : Wp (X1_pour N L P T m) (fun p => p.1 = pouS cm (nK I) ∧ LD p.2 L (pouL I l cm) ∧ Refs p.2 ∧ Off (fun a => a = L ∨ a = L + 3) m p.2) := by
  have s := nt_S hT
  have hT2 := hT
  unfold isN at hT2
  have hL := isLd_le h.1
  have hL3 := ld_3 h.1 (k := 2) (by decide)
  obtain ⟨n1, n2, n3, n4, n5, n6⟩ := id n
  unfold X1_pour
  refine wp_k (ld_K h) ?_
  refine lw_2 (fun j x mm => x = pouS cm j ∧ LD mm L (pouN I l cm j) ∧ Refs mm ∧ Off (fun a => a = L ∨ a = L + 3) m mm) (fun F x i mm => X1_pour_L5 N _ F L P T x i mm) (nK I) _ (fun F j x mm hj hI ih => ?_) (fun F x mm hI => ?_) N 0 m (by omega) ⟨rfl, ld_same h (fun k i hk i0 i1 => ?_) rfl, r, off_refl m⟩
  · obtain ⟨hx, hl, rr, o⟩ := hI
    have oo : ∀ a, ¬(a = L ∨ a = L + 3) → mm a = m a := o
    have hp : PD mm P I := pd_off hP (fun a a1 a2 a3 a4 a5 => oo a (by omega))
    have sL := ld_S (L := L) h.1 (k := 2) (by decide)
    have e0 : pouN I l cm j 2 j = l 2 j := by
      show (if (j : Int) < (j : Int) then _ else l 2 j) = l 2 j
      exact if_neg (by omega)
    have dj := dr.1 j (by omega) (by omega)
    have b1 := pouS_in cb j
    have b2 := pouS_in cb (j + 1)
    have b3 := cb j
    have e1 : pouS cm (j + 1) = pouS cm j + cm j := rfl
    show Wp (X1_pour_L5_b N _ (X1_pour_L5 N _ F) L P T x j mm) _
    unfold X1_pour_L5_b
    refine wp_b (pd_I hp (by decide)) ?_
    rw [if_neg (by omega)]
    refine wp_b (nt_R rr hT).2.2.2.2.2.2.2.2 ?_
    refine wp_b (ar_ld s.2.2.2.2.2.1 s.2.2.2.2.2.2 (by omega) (by omega) mm) ?_
    rw [oo (T + 42) (by omega), Int.toNat_natCast, hc j (by omega)]
    refine wp_b (ld_R rr hl (by decide)) ?_
    refine wp_b (x_filled rr hT hl (by omega) (by omega) (by rw [e0]; exact dj) (c := cm j) (by rw [oo (T + 42) (by omega), Int.toNat_natCast]; exact hc j (by omega)) b3.1 b3.2) ?_
    refine wp_b (pd_I hp (by decide)) ?_
    rw [e0, wI_of2 (x := min 9999 (l 2 j + cm j) - I 17 0) (by have := dr.2; omega) (by have := dr.2; omega)]
    obtain ⟨g, e, a, k⟩ := ar_stE sL.1 sL.2 hL3 (i := (j : Int)) (by omega) (by show (j : Int) < ((5 : Nat) : Int); omega) (max 0 (min 9999 (l 2 j + cm j) - I 17 0)) mm
    refine wp_b e ?_
    refine ih _ _ _ (by first | omega | (simp (disch := omega) only [wI_of2] <;> omega)) ⟨by rw [hx, e1]; exact wI_of2 (by omega) (by omega), ⟨h.1, fun k2 i hk i0 i1 => ?_, ?_⟩, refs_set rr (Or.inl sL.1) g, off_set o (Or.inr rfl) g⟩
    · have ol := hl.2.1 k2 i hk i0 i1
      by_cases q : k2 = 2
      · subst q
        show setA mm (L + 1 + 2) g (L + 1 + 2) i.toNat = if i < ((j + 1 : Nat) : Int) then pou I (l 2 i) (cm i) else l 2 i
        rw [setA_same]
        by_cases y : i = j
        · rw [y, if_pos (by omega)]; exact a
        · rw [k _ (by omega), ol]
          show (if i < (j : Int) then pou I (l 2 i) (cm i) else l 2 i) = _
          by_cases w : i < j
          · rw [if_pos w, if_pos (by omega)]
          · rw [if_neg w, if_neg (by omega)]
      · rw [setA_ne (by omega), ol]
        show (if k2 = 2 then _ else l k2 i) = if k2 = 2 then _ else l k2 i
        rw [if_neg q, if_neg q]
    · rw [setA_ne (by omega)]; exact hl.2.2
  · obtain ⟨hx, hl, rr, o⟩ := hI
    have oo : ∀ a, ¬(a = L ∨ a = L + 3) → mm a = m a := o
    have hp : PD mm P I := pd_off hP (fun a a1 a2 a3 a4 a5 => oo a (by omega))
    have hK := ld_K h
    show Wp (X1_pour_L5_b N _ (X1_pour_L5 N _ F) L P T x (nK I) mm) _
    unfold X1_pour_L5_b
    refine wp_b (pd_I hp (by decide)) ?_
    rw [if_pos (by omega)]
    show Wp ((getI 1 3 L mm).bind _) _
    refine wp_b (ld_I hl) ?_
    have e3 : pouN I l cm (nK I) 3 0 = l 3 0 := if_neg (by decide)
    rw [e3, wI_of2 (x := l 3 0 + 1) (by have := dr.2; omega) (by have := dr.2; omega)]
    refine wp_b (ld_P h.1 _ _) ?_
    refine wp_some ⟨hx, ⟨h.1, fun k2 i hk i0 i1 => ?_, up_same _ _ _ _⟩, refs_up rr ?_ _, fun a ha => ?_⟩
    · show up mm L 3 (l 3 0 + 1) (L + 1 + k2) i.toNat = _
      rw [up_setA, setA_ne (by omega), hl.2.1 k2 i hk i0 i1]
      show _ = if k2 = 3 then l 3 i + 1 else pouN I l cm (I 6 0) k2 i
      rw [if_neg (by omega), n1]
    · unfold isRef
      rw [hK]
      rfl
    · show up mm L 3 (l 3 0 + 1) a = _
      rw [up_setA, setA_ne (fun e => ha (Or.inl e))]
      exact o a ha
  · show (if k = 2 then (if i < ((0 : Nat) : Int) then pou I (l 2 i) (cm i) else l 2 i) else l k i) = l k i
    by_cases q : k = 2
    · rw [if_pos q, if_neg (by omega), q]
    · rw [if_neg q]
theorem x_pour {N : Nat} (hN : 2000 ≤ N) {m : Mem} {P L T : Nat} {I : Isl} {l : Lnd} {cm : Int → Int} (r : Refs m) (hT : isN T) (hP : PD m P I) (h : LD m L l) (n : Cn I) (dr : Dr I l) (hc : ∀ k : Nat, k < 5 → m (T + 42) k = cm k) (cb : ∀ k, 0 ≤ cm k ∧ cm k ≤ 20000) (far : L + 3 < P ∨ P + 22 < L ∨ P + 12 = L) : Wp (X1_pour N L P T m) (fun p => p.1 = pouS cm (nK I) ∧ LD p.2 L (pouL I l cm) ∧ Refs p.2 ∧ Off (fun a => a = L ∨ a = L + 3) m p.2) := x_pour2 hN r hT hP h n ⟨dr.1, dr.2.1, dr.2.2.1, dr.2.2.2.1, by have := dr.2.2.2.2; omega⟩ hc cb far
theorem m_fills {N : Nat} (hN : 2000 ≤ N) {m : Mem} {b : Nat} {I : Isl} {l : Lnd} {sk : Int → Int} (r : Refs m) (md : MD m b I) (my : MY m 0 l (nT I)) (z : Sz I) (n : Cn I) (kc : Kc I) (tc : Tc I l) (dr : Dr I l) (nm : NM m I l sk) : Wp (X11_fills N 264 m) (fun p => p.1 = pouS (cms I l sk) (nK I) ∧ MY p.2 0 (pouL I l (cms I l sk)) (nT I) ∧ LyF 0 m p.2) := by
  obtain ⟨n1, n2, n3, n4, n5, n6⟩ := id n
  have cb : ∀ k, 0 ≤ cms I l sk k ∧ cms I l sk k ≤ 20000 := fun k => by
    have := cmsTo_in I l sk k (nT I)
    unfold cms
    omega
  unfold X11_fills
  refine wp_k k264 ?_
  refine lw_2 (fun j x mm => x = pouS (cms I l sk) j ∧ LyF 0 m mm ∧ mm 297 = m 297 ∧ mm 298 = m 298 ∧ mm 296 = m 296 ∧ ∀ i : Int, 0 ≤ i → i < 5 → mm 299 i.toNat = pouN I l (cms I l sk) j 2 i) (fun F x i mm => X11_fills_L4 N _ F 264 x i mm) (nK I) _ (fun F j x mm hj hI ih => ?_) (fun F x mm hI => ?_) N 0 m (by omega) ⟨rfl, lyf_refl 0 m, rfl, rfl, rfl, fun i i0 i1 => ?_⟩
  · obtain ⟨hx, f, e7, e8, e6, e9⟩ := hI
    have rr := lyf_refs f r
    have mdm := lyf_md f md
    have ne : ∀ a, ¬(296 ≤ a ∧ a ≤ 299) → mm a = m a := f.1
    have nm2 : ∀ t : Nat, t < nT I → mm 305 (120 + t) = dwt I l sk (l 1 t) (I 10 t) 12 := fun t ht => by
      rw [ne 305 (by omega)]; exact (nm.2.2 11 t (by omega) ht).2.2
    have e0 : pouN I l (cms I l sk) j 2 j = l 2 j := by
      show (if (j : Int) < (j : Int) then _ else l 2 j) = l 2 j
      exact if_neg (by omega)
    have dj := dr.1 j (by omega) (by omega)
    have b1 := pouS_in cb j
    have b2 := pouS_in cb (j + 1)
    have b3 := cb j
    have e1 : pouS (cms I l sk) (j + 1) = pouS (cms I l sk) j + cms I l sk j := rfl
    have e9j := e9 j (by omega) (by omega)
    rw [Int.toNat_natCast, e0] at e9j
    -- the layer with walls and spots as before, for comes
    have cj : X11_comes N 264 ((0 : Nat) : Int) j mm = some (cms I l sk j) := by
      have my2 : MY mm 0 (fun k i => if k = 2 then mm 299 i.toNat else l k i) (nT I) := by
        obtain ⟨h1, h2, h3, h4, h5, h6⟩ := my
        refine ⟨h1, fun i i0 i1 => by rw [e7]; exact h2 i i0 i1, fun i i0 i1 => by rw [e8]; exact h3 i i0 i1, fun i i0 i1 => ?_, by rw [e6]; exact h5, h6⟩
        show mm 299 (5 * 0 + i.toNat) = mm 299 i.toNat
        rw [show 5 * 0 + i.toNat = i.toNat from by omega]
      refine wp_eq ?_
      unfold X11_comes
      refine wp_k k264 ?_
      have l1 : ∀ t : Int, (fun k i => if k = 2 then mm 299 i.toNat else l k i : Lnd) 1 t = l 1 t := fun t => rfl
      refine wp_of (lp_2 (cmsTo I l sk j) Tr (fun F x i => X11_comes_L5 N mm F 264 ((0 : Nat) : Int) j x i) (nT I) _ trivial (fun F t ht _ ih2 => ?_) (fun F _ => ?_) N (by omega)) rfl
      · show X11_comes_L5_b N mm (X11_comes_L5 N mm F) 264 ((0 : Nat) : Int) j (cmsTo I l sk j t) t = _
        have e : cmsTo I l sk j (t + 1) = cmsTo I l sk j t + if ner I (l 1 t) = j then dwt I l sk (l 1 t) (I 10 t) 12 else 0 := rfl
        have c1 := cmsTo_in I l sk j t
        have tj := tc t (by omega) (by omega)
        have dj2 := (dwt_in I l sk (l 1 t) (I 10 t) 12).1
        refine wp_eq ?_
        unfold X11_comes_L5_b; simp only [X11_comes_J41]
        refine wp_b (gR23 rr) ?_
        refine wp_b (md_bank mdm) ?_
        refine wp_b (md_s23 mdm) ?_
        rw [if_neg (by omega)]
        refine wp_b (m_ner hN rr mdm my2 z n kc (by omega) (by omega) tj.1 tj.2) ?_
        show Wp (if ¬ner I (l 1 t) = j then _ else _) _
        by_cases q : ner I (l 1 t) = j
        · rw [if_neg (fun x => x q)]
          rw [if_pos q] at e
          refine wp_b (m_dawn rr (by omega) (by omega)) ?_
          rw [Int.toNat_natCast, nm2 t ht]
          exact wp_of (ih2 _ _ (by rw [e]; exact wI_of2 (by omega) (by omega)) (by first | omega | (simp (disch := omega) only [wI_of2] <;> omega)) trivial) rfl
        · rw [if_pos q]
          rw [if_neg q] at e
          exact wp_of (ih2 _ _ (by rw [e]; exact wI_of2 (by omega) (by omega)) (by first | omega | (simp (disch := omega) only [wI_of2] <;> omega)) trivial) rfl
      · show X11_comes_L5_b N mm (X11_comes_L5 N mm F) 264 ((0 : Nat) : Int) j (cmsTo I l sk j (nT I)) (nT I) = _
        refine wp_eq ?_
        unfold X11_comes_L5_b
        refine wp_b (gR23 rr) ?_
        refine wp_b (md_bank mdm) ?_
        refine wp_b (md_s23 mdm) ?_
        rw [if_pos (by omega)]
        exact wp_some rfl
    show Wp (X11_fills_L4_b N _ (X11_fills_L4 N _ F) 264 x j mm) _
    unfold X11_fills_L4_b
    refine wp_b (gR21 rr) ?_
    refine wp_b (md_bank mdm) ?_
    refine wp_b (md_s21 mdm) ?_
    rw [if_neg (by omega)]
    refine wp_b cj ?_
    refine wp_b (gR53 rr) ?_
    refine wp_b (gR53 rr) ?_
    refine wp_b (arI 110 (by decide +kernel) (by omega) (by omega) mm) ?_
    rw [Int.toNat_natCast, e9j, wI_of2 (x := l 2 j + cms I l sk j) (by omega) (by omega), show wI (x + cms I l sk j) = pouS (cms I l sk) (j + 1) from by rw [hx, e1]; exact wI_of2 (by omega) (by omega)]
    have J61 : ∀ s : Int, s = min 9999 (l 2 j + cms I l sk j) → Wp (X11_fills_J61 N (X11_fills_L4 N (fun z26 z27 m28 => (getR 11 50 z26 m28).bind fun t29 => (aldI t29 0 m28).bind fun t30 => (astI t29 0 (wI (t30 + 1)) m28).bind fun m31 => some (z27, m31)) F) 264 (pouS (cms I l sk) (j + 1)) j 299 j s mm) (fun p => p.1 = pouS (cms I l sk) (nK I) ∧ MY p.2 0 (pouL I l (cms I l sk)) (nT I) ∧ LyF 0 m p.2) := by
      intro s hs
      unfold X11_fills_J61
      obtain ⟨g, e, a, k⟩ := ar_stE (a := 299) (n := 110) (i := (j : Int)) (by decide +kernel) (by decide +kernel) (by decide) (by omega) (by omega) s mm
      rw [Int.toNat_natCast] at a k
      refine wp_b e ?_
      have f2 := lyf_299 f (g := g) (fun x hx => k x (by omega))
      have r2 := lyf_refs f2 r
      have md2 := lyf_md f2 md
      refine wp_b (gR53 r2) ?_
      refine wp_b (gR53 r2) ?_
      refine wp_b (arI 110 (by decide +kernel) (by omega) (by omega) _) ?_
      rw [Int.toNat_natCast, setA_same, a]
      refine wp_b (gR32 r2) ?_
      refine wp_b (md_bank md2) ?_
      refine wp_b (md_s32 md2) ?_
      have J105 : ∀ u : Int, u = pou I (l 2 j) (cms I l sk j) → Wp (X11_fills_J105 N (X11_fills_L4 N (fun z26 z27 m28 => (getR 11 50 z26 m28).bind fun t29 => (aldI t29 0 m28).bind fun t30 => (astI t29 0 (wI (t30 + 1)) m28).bind fun m31 => some (z27, m31)) F) 264 (pouS (cms I l sk) (j + 1)) j 299 j u (setA mm 299 g)) (fun p => p.1 = pouS (cms I l sk) (nK I) ∧ MY p.2 0 (pouL I l (cms I l sk)) (nT I) ∧ LyF 0 m p.2) := by
        intro u hu
        unfold X11_fills_J105
        obtain ⟨g3, e3, a3, k3⟩ := ar_stE (a := 299) (n := 110) (i := (j : Int)) (by decide +kernel) (by decide +kernel) (by decide) (by omega) (by omega) u (setA mm 299 g)
        rw [Int.toNat_natCast] at a3 k3
        refine wp_b e3 ?_
        have f3 := lyf_299 f2 (g := g3) (fun x hx => k3 x (by omega))
        refine ih _ _ _ (by first | omega | (simp (disch := omega) only [wI_of2] <;> omega)) ⟨rfl, f3, ?_, ?_, ?_, fun i i0 i1 => ?_⟩
        · rw [setA_ne (by decide), setA_ne (by decide)]; exact e7
        · rw [setA_ne (by decide), setA_ne (by decide)]; exact e8
        · rw [setA_ne (by decide), setA_ne (by decide)]; exact e6
        · rw [setA_same]
          show _ = if i < ((j + 1 : Nat) : Int) then pou I (l 2 i) (cms I l sk i) else l 2 i
          by_cases y : i = j
          · rw [y, Int.toNat_natCast, a3, if_pos (by omega)]; exact hu
          · rw [k3 _ (by omega), setA_same, k _ (by omega), e9 i i0 i1]
            show (if i < (j : Int) then pou I (l 2 i) (cms I l sk i) else l 2 i) = _
            by_cases w : i < j
            · rw [if_pos w, if_pos (by omega)]
            · rw [if_neg w, if_neg (by omega)]
      have d2 := dr.2
      by_cases q : I 17 0 ≤ s
      · rw [if_pos q]
        refine wp_b (gR53 r2) ?_
        refine wp_b (arI 110 (by decide +kernel) (by omega) (by omega) _) ?_
        rw [Int.toNat_natCast, setA_same, a]
        refine wp_b (gR32 r2) ?_
        refine wp_b (md_bank md2) ?_
        refine wp_b (md_s32 md2) ?_
        rw [wI_of2 (x := s - I 17 0) (by omega) (by omega)]
        exact J105 _ (by unfold pou; omega)
      · rw [if_neg q]
        exact J105 _ (by unfold pou; omega)
    by_cases q : l 2 j + cms I l sk j ≤ 9999
    · rw [if_pos q]
      refine wp_b (gR53 rr) ?_
      refine wp_b (arI 110 (by decide +kernel) (by omega) (by omega) mm) ?_
      rw [Int.toNat_natCast, e9j, wI_of2 (x := l 2 j + cms I l sk j) (by omega) (by omega)]
      exact J61 _ (by omega)
    · rw [if_neg q]
      exact J61 _ (by omega)
  · obtain ⟨hx, f, e7, e8, e6, e9⟩ := hI
    obtain ⟨h1, h2, h3, h4, h5, h6⟩ := my
    show Wp (X11_fills_L4_b N _ (X11_fills_L4 N _ F) 264 x (nK I) mm) _
    unfold X11_fills_L4_b
    refine wp_b (gR21 (lyf_refs f r)) ?_
    refine wp_b (md_bank (lyf_md f md)) ?_
    refine wp_b (md_s21 (lyf_md f md)) ?_
    rw [if_pos (by omega)]
    show Wp ((getR 11 50 264 mm).bind _) _
    refine wp_b (gR50 (lyf_refs f r)) ?_
    refine wp_b (arI 22 (by decide +kernel) (by decide) (by decide) mm) ?_
    rw [show (0 : Int).toNat = 0 from rfl, e6, h5, wI_of2 (x := l 3 0 + 1) (by have := dr.2; omega) (by have := dr.2; omega)]
    obtain ⟨g, e, a, k⟩ := ar_stE (a := 296) (n := 22) (i := 0) (by decide +kernel) (by decide +kernel) (by decide) (by decide) (by decide) (l 3 0 + 1) mm
    refine wp_b e ?_
    refine wp_some ⟨hx, ⟨by decide, fun i i0 i1 => ?_, fun i i0 i1 => ?_, fun i i0 i1 => ?_, ?_, h6⟩, lyf_296 f (fun x hx => k x hx)⟩
    · show setA mm 296 g 297 _ = _
      rw [setA_ne (by decide), e7]; exact h2 i i0 i1
    · show setA mm 296 g 298 _ = _
      rw [setA_ne (by decide), e8]; exact h3 i i0 i1
    · show setA mm 296 g 299 (5 * 0 + i.toNat) = _
      rw [setA_ne (by decide), show 5 * 0 + i.toNat = i.toNat from by omega, e9 i i0 i1, ← n1]; rfl
    · show setA mm 296 g 296 0 = _
      rw [setA_same]; exact a
  · rw [show i.toNat = 5 * 0 + i.toNat from by omega, my.2.2.2.1 i i0 i1]
    show l 2 i = if i < ((0 : Nat) : Int) then _ else l 2 i
    rw [if_neg (by omega)]
