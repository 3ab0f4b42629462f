/-! alike: the law of it -/
/-- so much more at one place -/
def ad (c : Int → Int) (k0 d : Int) : Int → Int := fun k => c k + if k = k0 then d else 0
/-- what a thing brings from a cell -/
def dq (I : Isl) (l : Lnd) (t c : Int) : Int := dwt I l (I 15) c (I 10 t) 12
theorem cms_sum (I : Isl) (l : Lnd) (k : Int) (n : Nat) : cmsTo I l (I 15) k n = sumTo (fun t => if ner I (l 1 t) = k then dq I l t (l 1 t) else 0) n := by
  induction n with
  | zero => rfl
  | succ n ih =>
    show cmsTo I l (I 15) k n + (if ner I (l 1 n) = k then dwt I l (I 15) (l 1 n) (I 10 n) 12 else 0) = _
    rw [ih]
    rfl
theorem mv_0 (l : Lnd) (t c : Int) (x : Int) : mvL l t c 0 x = l 0 x := by
  unfold mvL
  exact if_neg (fun u => by omega)
theorem mv_1 (l : Lnd) (t c : Int) (x : Int) : mvL l t c 1 x = if x = t then c else l 1 x := by
  unfold mvL
  by_cases q : x = t
  · rw [if_pos ⟨rfl, q⟩, if_pos q]
  · rw [if_neg (fun u => q u.2), if_neg q]
theorem dq_mv (I : Isl) (l : Lnd) (t c u x : Int) : dq I (mvL l t c) u x = dq I l u x := by
  unfold dq
  exact (dwt_c (l := mvL l t c) (k := l) (fun y => mv_0 l t c y) I (I 15) x (I 10 u) 12)
/-- a thing put elsewhere: its drops go elsewhere -/
theorem cms_mv {I : Isl} {l : Lnd} {t c : Int} (t0 : 0 ≤ t) (t1 : t < nT I) (k : Int) : cms I (mvL l t c) (I 15) k = ad (ad (cms I l (I 15)) (ner I (l 1 t)) (-dq I l t (l 1 t))) (ner I c) (dq I l t c) k := by
  show cmsTo I (mvL l t c) (I 15) k (nT I) = _
  rw [cms_sum]
  have h := sumTo_one (f := fun u : Nat => if ner I (l 1 u) = k then dq I l u (l 1 u) else 0) (g := fun u : Nat => if ner I (mvL l t c 1 u) = k then dq I (mvL l t c) u (mvL l t c 1 u) else 0) (n := nT I) (i := t.toNat) (by omega) (fun j hj hne => by
    have e : mvL l t c 1 (j : Int) = l 1 j := by rw [mv_1, if_neg (by omega)]
    show (if ner I (mvL l t c 1 j) = k then dq I (mvL l t c) j (mvL l t c 1 j) else 0) = _
    rw [e, dq_mv])
  rw [h]
  have et : ((t.toNat : Nat) : Int) = t := Int.toNat_of_nonneg t0
  rw [et, mv_1, if_pos rfl, dq_mv]
  unfold ad cms
  rw [cms_sum]
  generalize sumTo (fun u : Nat => if ner I (l 1 u) = k then dq I l u (l 1 u) else 0) (nT I) = S
  have sw : ∀ p q : Int, ∀ v : Int, (if p = q then v else 0) = if q = p then v else 0 := fun p q v => by
    by_cases u : p = q
    · rw [if_pos u, if_pos u.symm]
    · rw [if_neg u, if_neg (fun w => u w.symm)]
  rw [sw (ner I (l 1 t)) k, sw (ner I c) k]
  by_cases a : k = ner I (l 1 t)
  · simp only [if_pos a]; omega
  · simp only [if_neg a]; omega
theorem ad_sum (c : Int → Int) (k0 d : Int) : ∀ n : Nat, pouS (ad c k0 d) n = pouS c n + if 0 ≤ k0 ∧ k0 < n then d else 0 := by
  intro n
  induction n with
  | zero =>
    rw [if_neg (by omega)]
    rfl
  | succ n ih =>
    show pouS (ad c k0 d) n + ad c k0 d n = pouS c n + c n + _
    rw [ih]
    show pouS c n + _ + (c n + if (n : Int) = k0 then d else 0) = _
    by_cases q : (n : Int) = k0
    · rw [if_pos q, if_neg (by omega), if_pos (by omega)]; omega
    · rw [if_neg q]
      by_cases y : 0 ≤ k0 ∧ k0 < n
      · rw [if_pos y, if_pos (by omega)]; omega
      · rw [if_neg y, if_neg (by omega)]; omega
/-- all that is on things goes into cisterns, where there are some -/
theorem ner_ok {I : Isl} (n : Cn I) (h : 0 < I 6 0) (c : Int) : 0 ≤ ner I c ∧ ner I c < I 6 0 := by
  have e : ((nK I : Nat) : Int) = I 6 0 := n.1.symm
  have y := nerTo_in I c (nK I)
  unfold ner
  rcases y with y | y
  · omega
  · omega
theorem all_eq {I : Isl} (n : Cn I) (h : 0 < I 6 0) (l : Lnd) : ∀ t : Nat, pouS (fun k => cmsTo I l (I 15) k t) (nK I) = dwA I l (I 15) t := by
  have e : ((nK I : Nat) : Int) = I 6 0 := n.1.symm
  intro t
  induction t with
  | zero =>
    show sumTo (fun _ => (0 : Int)) (nK I) = 0
    exact sumTo_zero (fun _ _ => rfl)
  | succ t ih =>
    have y := ner_ok n h (l 1 t)
    have e1 : (fun k => cmsTo I l (I 15) k (t + 1)) = ad (fun k => cmsTo I l (I 15) k t) (ner I (l 1 t)) (dwt I l (I 15) (l 1 t) (I 10 t) 12) := by
      funext k
      show cmsTo I l (I 15) k t + (if ner I (l 1 t) = k then _ else 0) = cmsTo I l (I 15) k t + (if k = ner I (l 1 t) then _ else 0)
      by_cases q : ner I (l 1 t) = k
      · rw [if_pos q, if_pos q.symm]
      · rw [if_neg q, if_neg (fun u => q u.symm)]
    rw [e1, ad_sum, if_pos (by omega), ih]
    rfl
theorem allC_eq {I : Isl} (n : Cn I) (h : 0 < I 6 0) (l : Lnd) : allC I l = dwA I l (I 15) (nT I) := all_eq n h l (nT I)
theorem mx_in (f : Int → Int) {B : Int} (h : ∀ k, 0 ≤ f k ∧ f k ≤ B) : ∀ n, (0 ≤ mxTo f n ∧ mxTo f n ≤ B) ∧ (0 ≤ mnTo f n ∧ mnTo f n ≤ B) ∧ mnTo f n ≤ mxTo f n := by
  intro n
  induction n with
  | zero => exact ⟨h 0, h 0, Int.le_refl _⟩
  | succ n ih =>
    have a := h ((n : Int) + 1)
    show (0 ≤ max (mxTo f n) (f ((n : Int) + 1)) ∧ max (mxTo f n) (f ((n : Int) + 1)) ≤ B) ∧ (0 ≤ min (mnTo f n) (f ((n : Int) + 1)) ∧ min (mnTo f n) (f ((n : Int) + 1)) ≤ B) ∧ min (mnTo f n) (f ((n : Int) + 1)) ≤ max (mxTo f n) (f ((n : Int) + 1))
    omega
theorem sprd_in {I : Isl} (n : Cn I) (l : Lnd) : 0 ≤ sprd I l ∧ sprd I l ≤ 20000 := by
  have y := mx_in (fun k => cms I l (I 15) k) (fun k => cms_in n l (I 15) k) (nK I - 1)
  unfold sprd
  omega
theorem allC_in {I : Isl} (n : Cn I) (l : Lnd) : 0 ≤ allC I l ∧ allC I l ≤ 20000 * nK I := pouS_in (fun k => cms_in n l (I 15) k) (nK I)
theorem cmpB_in {I : Isl} (n : Cn I) (l : Lnd) (a b : Int) {z : Bst} (h : -1 ≤ z.1) : -1 ≤ (cmpB I l a b z).1 ∧ (¬z.1 = -1 → ¬(cmpB I l a b z).1 = -1) ∧ ¬(cmpB I l a b z).1 = -1 := by
  have s := sprd_in n l
  unfold cmpB
  by_cases q : z.1 = -1 ∨ sprd I l < z.1 ∨ sprd I l = z.1 ∧ z.2.1 < allC I l
  · rw [if_pos q]
    show -1 ≤ sprd I l ∧ (¬z.1 = -1 → ¬sprd I l = -1) ∧ ¬sprd I l = -1
    omega
  · rw [if_neg q]
    omega
theorem al2_in {I : Isl} (n : Cn I) (l : Lnd) (x : Int) {z : Bst} (h : -1 ≤ z.1) : ∀ y, -1 ≤ (al2 I l x z y).1 ∧ (¬z.1 = -1 → ¬(al2 I l x z y).1 = -1) ∧ ((∃ c : Nat, c < y ∧ ¬(c : Int) = x ∧ (l 1 (I 13 1) = (c : Int) ∨ isF I l c = 1)) → ¬(al2 I l x z y).1 = -1) := by
  intro y
  induction y with
  | zero => exact ⟨h, fun u => u, fun ⟨c, hc, _⟩ => by omega⟩
  | succ y ih =>
    show -1 ≤ (if _ then _ else _ : Bst).1 ∧ (¬z.1 = -1 → ¬(if _ then _ else _ : Bst).1 = -1) ∧ (_ → ¬(if _ then _ else _ : Bst).1 = -1)
    by_cases q : ¬(y : Int) = x ∧ (l 1 (I 13 1) = (y : Int) ∨ isF I l y = 1)
    · rw [if_pos q]
      have w := cmpB_in n (mvL (mvL l (I 13 0) x) (I 13 1) y) x y ih.1
      exact ⟨w.1, fun _ => w.2.2, fun _ => w.2.2⟩
    · rw [if_neg q]
      refine ⟨ih.1, ih.2.1, fun ⟨c, hc, hq⟩ => ih.2.2 ⟨c, ?_, hq⟩⟩
      by_cases e : c = y
      · rw [e] at hq; exact absurd hq q
      · omega
theorem al1_in {I : Isl} (n : Cn I) (l : Lnd) (k : Int) : ∀ x, -1 ≤ (al1 I l k x).1 ∧ ((∃ c : Nat, c < x ∧ (l 1 (I 13 0) = (c : Int) ∨ isF I l c = 1) ∧ (k = 1 ∨ ∃ d : Nat, d < (nC I).toNat ∧ ¬(d : Int) = c ∧ (l 1 (I 13 1) = (d : Int) ∨ isF I l d = 1))) → ¬(al1 I l k x).1 = -1) := by
  intro x
  induction x with
  | zero => exact ⟨Int.le_refl _, fun ⟨c, hc, _⟩ => by omega⟩
  | succ x ih =>
    show -1 ≤ (if l 1 (I 13 0) = (x : Int) ∨ isF I l x = 1 then (if k = 1 then cmpB I (mvL l (I 13 0) x) x 0 (al1 I l k x) else al2 I l x (al1 I l k x) (nC I).toNat) else al1 I l k x).1 ∧ (_ → ¬(if l 1 (I 13 0) = (x : Int) ∨ isF I l x = 1 then (if k = 1 then cmpB I (mvL l (I 13 0) x) x 0 (al1 I l k x) else al2 I l x (al1 I l k x) (nC I).toNat) else al1 I l k x).1 = -1)
    by_cases q : l 1 (I 13 0) = (x : Int) ∨ isF I l x = 1
    · rw [if_pos q]
      by_cases y : k = 1
      · rw [if_pos y]
        have w := cmpB_in n (mvL l (I 13 0) x) x 0 ih.1
        exact ⟨w.1, fun _ => w.2.2⟩
      · rw [if_neg y]
        have w := al2_in n l x ih.1 (nC I).toNat
        refine ⟨w.1, fun ⟨c, hc, hq, hr⟩ => ?_⟩
        by_cases e : c = x
        · rcases hr with hr | ⟨d, hd, hne, hd2⟩
          · exact absurd hr y
          · exact w.2.2 ⟨d, hd, by rw [← e]; exact hne, hd2⟩
        · exact w.2.1 (ih.2 ⟨c, by omega, hq, hr⟩)
    · rw [if_neg q]
      refine ⟨ih.1, fun ⟨c, hc, hq, hr⟩ => ih.2 ⟨c, ?_, hq, hr⟩⟩
      by_cases e : c = x
      · rw [e] at hq; exact absurd hq q
      · omega
theorem cl_inj {I : Isl} (n : Cn I) (cl : Cl I) {i j : Int} (i0 : 0 ≤ i) (i1 : i < I 12 0) (j0 : 0 ≤ j) (j1 : j < I 12 0) (e : I 13 i = I 13 j) : i = j := by
  obtain ⟨t, _, _, h3, h4⟩ := cl_ok n cl i0 i1
  obtain ⟨u, _, _, g3, g4⟩ := cl_ok n cl j0 j1
  have : t = u := by omega
  rw [this] at h3
  omega
/-- there is always a way to hang them -/
theorem alk_ok {I : Isl} {l : Lnd} (n : Cn I) (z : Sz I) (cl : Cl I) (gl : GL I l) {k : Int} (k0 : 1 ≤ k) (k1 : k ≤ 2) (k2 : k ≤ I 12 0) : ¬(alk I l k).1 = -1 := by
  have tc := gl.1
  have c0 := cl_cell n cl tc (i := 0) (by omega) (by omega)
  have ec : (((nC I).toNat : Nat) : Int) = nC I := Int.toNat_of_nonneg z.2.2.2.2.2.1
  have e0 : (((l 1 (I 13 0)).toNat : Nat) : Int) = l 1 (I 13 0) := Int.toNat_of_nonneg c0.2.1
  refine (al1_in n l k (nC I).toNat).2 ⟨(l 1 (I 13 0)).toNat, by omega, Or.inl e0.symm, ?_⟩
  by_cases y : k = 1
  · exact Or.inl y
  · have c1 := cl_cell n cl tc (i := 1) (by omega) (by omega)
    have e1 : (((l 1 (I 13 1)).toNat : Nat) : Int) = l 1 (I 13 1) := Int.toNat_of_nonneg c1.2.1
    refine Or.inr ⟨(l 1 (I 13 1)).toNat, by omega, ?_, Or.inl e1.symm⟩
    rw [e0, e1]
    intro e
    have w := gl.2.2.2.2.2 (I 13 1) (I 13 0) c1.1.1 c1.1.2 c0.1.1 c0.1.2 e
    have := cl_inj n cl (i := 1) (j := 0) (by omega) (by omega) (by omega) (by omega) w
    omega
