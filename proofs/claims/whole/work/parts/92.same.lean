/-! what walls and spots alone decide -/
/-- two lands with the same walls and spots -/
def Sm (l k : Lnd) : Prop := (∀ c, l 0 c = k 0 c) ∧ ∀ t, l 1 t = k 1 t
theorem sm_pou (I : Isl) (l : Lnd) (cm : Int → Int) : Sm l (pouL I l cm) := ⟨fun _ => rfl, fun _ => rfl⟩
theorem hasW_c {l k : Lnd} (h : ∀ c, l 0 c = k 0 c) (c : Int) : hasW l c = hasW k c := by
  unfold hasW
  exact bi_c (by rw [h c])
theorem opnTo_c {l k : Lnd} (h : ∀ c, l 0 c = k 0 c) (I : Isl) (c : Int) (n : Nat) : opnTo I l c n = opnTo I k c n := by
  induction n with
  | zero => rfl
  | succ n ih =>
    show opnTo I l c n - hasW l (nbr I n c) = opnTo I k c n - hasW k (nbr I n c)
    rw [ih, hasW_c h]
theorem lowTo_c {l k : Lnd} (h : ∀ c, l 0 c = k 0 c) (I : Isl) (c : Int) (n : Nat) : lowTo I l c n = lowTo I k c n := by
  induction n with
  | zero => rfl
  | succ n ih =>
    show (if nbr I n c = -1 ∨ hasW l (nbr I n c) = 1 ∨ hof I c (lowTo I l c n) ≤ I 3 (nbr I n c) then lowTo I l c n else nbr I n c) = if nbr I n c = -1 ∨ hasW k (nbr I n c) = 1 ∨ hof I c (lowTo I k c n) ≤ I 3 (nbr I n c) then lowTo I k c n else nbr I n c
    rw [ih, hasW_c h]
theorem low_c {l k : Lnd} (h : ∀ c, l 0 c = k 0 c) (I : Isl) (c : Int) : low I l c = low I k c := lowTo_c h I c 4
theorem pol_c {l k : Lnd} (h : ∀ c, l 0 c = k 0 c) (I : Isl) (c : Int) (n : Nat) : pol I l c n = pol I k c n := by
  induction n with
  | zero => rfl
  | succ n ih =>
    show (if low I l (pol I l c n) = -1 then pol I l c n else low I l (pol I l c n)) = if low I k (pol I k c n) = -1 then pol I k c n else low I k (pol I k c n)
    rw [ih, low_c h]
theorem flwTo_c {l k : Lnd} (h : ∀ c, l 0 c = k 0 c) (I : Isl) (p : Int) (n : Nat) : flwTo I l p n = flwTo I k p n := by
  induction n with
  | zero => rfl
  | succ n ih =>
    show flwTo I l p n + bi (hasW l n = 0 ∧ pol I l n 9 = p) = flwTo I k p n + bi (hasW k n = 0 ∧ pol I k n 9 = p)
    rw [ih, bi_c (p := hasW l n = 0 ∧ pol I l n 9 = p) (q := hasW k n = 0 ∧ pol I k n 9 = p) (by rw [hasW_c h, pol_c h])]
theorem flw_c {l k : Lnd} (h : ∀ c, l 0 c = k 0 c) (I : Isl) (p : Int) : flw I l p = flw I k p := flwTo_c h I p _
theorem fcs_c {l k : Lnd} (h : ∀ c, l 0 c = k 0 c) (I : Isl) (sk : Int → Int) (c tk : Int) (x : Nat) (w : Int) : fcs I l sk c tk x w = fcs I k sk c tk x w := by
  unfold fcs cold opn
  rw [opnTo_c h, flw_c h]
theorem dwt_c {l k : Lnd} (h : ∀ c, l 0 c = k 0 c) (I : Isl) (sk : Int → Int) (c tk : Int) (x : Nat) : dwt I l sk c tk x = dwt I k sk c tk x := by
  induction x with
  | zero => rfl
  | succ x ih =>
    show dwt I l sk c tk x + lim (wrt (fcs I l sk c tk (x + 1) (dwt I l sk c tk x)) (I 22) (nD I)) 99 - lim (wrt (fcs I l sk c tk (x + 1) (dwt I l sk c tk x + lim (wrt (fcs I l sk c tk (x + 1) (dwt I l sk c tk x)) (I 22) (nD I)) 99)) (I 24) (nR I)) (dwt I l sk c tk x + lim (wrt (fcs I l sk c tk (x + 1) (dwt I l sk c tk x)) (I 22) (nD I)) 99) = dwt I k sk c tk x + lim (wrt (fcs I k sk c tk (x + 1) (dwt I k sk c tk x)) (I 22) (nD I)) 99 - lim (wrt (fcs I k sk c tk (x + 1) (dwt I k sk c tk x + lim (wrt (fcs I k sk c tk (x + 1) (dwt I k sk c tk x)) (I 22) (nD I)) 99)) (I 24) (nR I)) (dwt I k sk c tk x + lim (wrt (fcs I k sk c tk (x + 1) (dwt I k sk c tk x)) (I 22) (nD I)) 99)
    rw [ih, fcs_c h, fcs_c h]
theorem cam_c {l k : Lnd} (h : ∀ c, l 0 c = k 0 c) (I : Isl) (sk : Int → Int) (c tk : Int) (x : Nat) : cam I l sk c tk x = cam I k sk c tk x := by
  unfold cam
  rw [dwt_c h, fcs_c h]
theorem dri_c {l k : Lnd} (h : ∀ c, l 0 c = k 0 c) (I : Isl) (sk : Int → Int) (c tk : Int) (x : Nat) : dri I l sk c tk x = dri I k sk c tk x := by
  unfold dri
  rw [dwt_c h, cam_c h, fcs_c h]
theorem cmsTo_c {l k : Lnd} (h : Sm l k) (I : Isl) (sk : Int → Int) (j : Int) (n : Nat) : cmsTo I l sk j n = cmsTo I k sk j n := by
  induction n with
  | zero => rfl
  | succ n ih =>
    show cmsTo I l sk j n + (if ner I (l 1 n) = j then dwt I l sk (l 1 n) (I 10 n) 12 else 0) = cmsTo I k sk j n + if ner I (k 1 n) = j then dwt I k sk (k 1 n) (I 10 n) 12 else 0
    rw [ih, h.2 n, dwt_c h.1]
theorem cms_c {l k : Lnd} (h : Sm l k) (I : Isl) (sk : Int → Int) (j : Int) : cms I l sk j = cms I k sk j := cmsTo_c h I sk j _
theorem nx_c {m : Mem} {T P : Nat} {I : Isl} {l k : Lnd} {sk : Int → Int} (h : Sm l k) (n : NX m T P I l sk) : NX m T P I k sk := by
  obtain ⟨⟨n1, n2, n3, n4, n5, n6⟩, n7, n8⟩ := n
  refine ⟨⟨n1, n2, n3, n4, n5, fun c c0 c1 => by rw [← flw_c h.1]; exact n6 c c0 c1⟩, fun t ht i hi => ?_, fun j hj => by rw [← cms_c h]; exact n8 j hj⟩
  rw [← h.2 t, ← cam_c h.1, ← dri_c h.1, ← dwt_c h.1]
  exact n7 t ht i hi
theorem sprd_c {l k : Lnd} (h : Sm l k) (I : Isl) : sprd I l = sprd I k ∧ allC I l = allC I k := by
  have e : (fun j => cms I l (I 15) j) = fun j => cms I k (I 15) j := funext fun j => cms_c h I (I 15) j
  unfold sprd allC
  rw [e]
  exact ⟨rfl, rfl⟩
theorem sm_mv {l k : Lnd} (h : Sm l k) (t c : Int) : Sm (mvL l t c) (mvL k t c) := by
  refine ⟨fun x => ?_, fun x => ?_⟩
  · unfold mvL
    rw [if_neg (fun y => by cases y.1), if_neg (fun y => by cases y.1)]; exact h.1 x
  · unfold mvL
    by_cases q : x = t
    · rw [if_pos ⟨rfl, q⟩, if_pos ⟨rfl, q⟩]
    · rw [if_neg (fun y => q y.2), if_neg (fun y => q y.2)]; exact h.2 x
theorem fnd_c {f g : Int → Int} (h : ∀ t, f t = g t) (c : Int) (n : Nat) : fnd f c n = fnd g c n := by
  rw [show f = g from funext h]
theorem isF_c {l k : Lnd} (h : Sm l k) (I : Isl) (c : Int) : isF I l c = isF I k c := by
  have e : cont I l c = cont I k c := by
    unfold cont
    rw [hasW_c h.1, show l 1 = k 1 from funext h.2]
  unfold isF
  exact bi_c (by rw [e])
theorem cmpB_c {l k : Lnd} (h : Sm l k) (I : Isl) (a b : Int) (z : Bst) : cmpB I l a b z = cmpB I k a b z := by
  unfold cmpB
  rw [(sprd_c h I).1, (sprd_c h I).2]
theorem al2_c {l k : Lnd} (h : Sm l k) (I : Isl) (x : Int) (z : Bst) (n : Nat) : al2 I l x z n = al2 I k x z n := by
  induction n with
  | zero => rfl
  | succ n ih =>
    show (if ¬(n : Int) = x ∧ (l 1 (I 13 1) = (n : Int) ∨ isF I l n = 1) then cmpB I (mvL (mvL l (I 13 0) x) (I 13 1) n) x n (al2 I l x z n) else al2 I l x z n) = if ¬(n : Int) = x ∧ (k 1 (I 13 1) = (n : Int) ∨ isF I k n = 1) then cmpB I (mvL (mvL k (I 13 0) x) (I 13 1) n) x n (al2 I k x z n) else al2 I k x z n
    rw [ih, h.2, isF_c h, cmpB_c (sm_mv (sm_mv h _ _) _ _)]
theorem al1_c {l k : Lnd} (h : Sm l k) (I : Isl) (n : Int) (x : Nat) : al1 I l n x = al1 I k n x := by
  induction x with
  | zero => rfl
  | succ x ih =>
    show (if l 1 (I 13 0) = (x : Int) ∨ isF I l x = 1 then (if n = 1 then cmpB I (mvL l (I 13 0) x) x 0 (al1 I l n x) else al2 I l x (al1 I l n x) (nC I).toNat) else al1 I l n x) = if k 1 (I 13 0) = (x : Int) ∨ isF I k x = 1 then (if n = 1 then cmpB I (mvL k (I 13 0) x) x 0 (al1 I k n x) else al2 I k x (al1 I k n x) (nC I).toNat) else al1 I k n x
    rw [ih, h.2, isF_c h, cmpB_c (sm_mv h _ _), al2_c h]
theorem hg_c {m : Mem} {I : Isl} {l k : Lnd} (h : Sm l k) (g : HG m I l) : HG m I k := by
  unfold HG alk at *
  rw [← al1_c h]
  exact g
theorem to_same {m m2 : Mem} {P : Nat} {I : Isl} {l : Lnd} (n : Cn I) (hP : P = 11 ∨ P = 40) (t : TO m P I l) (r2 : Refs m2) (fa : ∀ a, a = 3 ∨ (160 ≤ a ∧ a ≤ 201) ∨ (P ≤ a ∧ a ≤ P + 28) → m2 a = m a) : TO m2 P I l := by
  have n9 := n.2.2.2.1
  obtain ⟨t1, t2, t3⟩ := t
  refine ⟨by rw [fa 161 (by omega)]; exact t1, by rw [fa 3 (by omega)]; exact t2, fun q => ?_⟩
  rw [fa 3 (by omega)] at q
  obtain ⟨⟨n1, n2, n3, n4, n5, n6⟩, n7, n8⟩ := t3 q
  refine ⟨⟨r2, sd_off n2 (fun q q1 q2 => fa q (by omega)), sd_off n3 (fun q q1 q2 => fa q (by omega)), ?_, ?_, ?_⟩, fun t ht => lay_off (n7 t ht) ⟨fa (159 + 7 + t) (by omega), fa (159 + 19 + t) (by omega), fa (159 + 31 + t) (by omega)⟩, ?_⟩
  · rw [fa (159 + 1) (by omega)]; exact n4
  · rw [fa (159 + 2) (by omega)]; exact n5
  · rw [fa (159 + 4) (by omega)]; exact n6
  · rw [fa (159 + 42) (by omega)]; exact n8
theorem nC_pos {I : Isl} (z : Sz I) : 0 < nC I ↔ 0 < I 0 0 := by
  obtain ⟨z1, z2, z3, z4, z5, z6, z7⟩ := id z
  have hn : nC I = I 0 0 * I 1 0 := rfl
  rcases z5 with ⟨e, f⟩ | ⟨e, f⟩
  · rw [hn, e]; omega
  · have := Int.mul_pos (a := I 0 0) (b := I 1 0) (by omega) (by omega)
    omega
theorem x_land {m : Mem} {P : Nat} {I : Isl} (b3 : B3 m P) (h : PD m P I) (z : Sz I) : X10_hasIsland 3 m = some (bi (0 < I 0 0)) := by
  have q := nC_pos z
  refine wp_eq ?_
  (unfold X10_hasIsland; repeat' ((with_reducible show Wp _ _); first | with_reducible exact wp_some rfl | with_reducible refine wp_some ?_ | with_reducible refine wp_z0 ?_ | with_reducible refine wp_z1 ?_ | with_reducible refine wp_k k3 ?_ | with_reducible refine wp_b (b3_R (by assumption)) ?_ | with_reducible refine wp_b (x_cells (by assumption) (by assumption)) ?_ | (with_reducible refine wp_if (fun hc => ?_) (fun hc => ?_) <;> (try simp (disch := omega) only [isC, bi_0, bi_1, wI_of2, Decidable.not_not, not_true_eq_false, not_false_eq_true] at hc) <;> (try (exfalso; omega)))))
  all_goals first | exact bi_t (by omega) | exact bi_f (by omega)
theorem x_canPass {m : Mem} {P : Nat} {I : Isl} {l : Lnd} (r : Refs m) (b3 : B3 m P) (h : PD m P I) (hl : LD m 69 l) (z : Sz I) (d : Dr I l) {k : Int} (k0 : 0 ≤ k) (k1 : k ≤ 100) : X10_canPass 3 k m = some (bi (0 < I 0 0 ∧ l 3 0 + k ≤ 9999)) := by
  obtain ⟨d1, d2, d3, d4, d5⟩ := d
  refine wp_eq ?_
  (unfold X10_canPass; repeat' ((with_reducible show Wp _ _); first | with_reducible exact wp_some rfl | with_reducible refine wp_some ?_ | with_reducible refine wp_z0 ?_ | with_reducible refine wp_z1 ?_ | with_reducible refine wp_k k3 ?_ | with_reducible refine wp_b (ld_I (by assumption)) ?_ | with_reducible refine wp_b (gX5 (by assumption)) ?_ | with_reducible refine wp_b (x_land (by assumption) (by assumption) (by assumption)) ?_ | (with_reducible refine wp_if (fun hc => ?_) (fun hc => ?_) <;> (try simp (disch := omega) only [isC, bi_0, bi_1, wI_of2, Decidable.not_not, not_true_eq_false, not_false_eq_true] at hc) <;> (try (exfalso; omega)))))
  all_goals first | exact bi_t (by omega) | exact bi_f (by omega)
theorem m_island {m : Mem} {b : Nat} {I : Isl} (r : Refs m) (md : MD m b I) : X11_isIsland 264 m = some (bi (0 < I 0 0)) := by
  refine wp_eq ?_
  (unfold X11_isIsland; repeat' ((with_reducible show Wp _ _); first | with_reducible exact wp_some rfl | with_reducible refine wp_some ?_ | with_reducible refine wp_z0 ?_ | with_reducible refine wp_z1 ?_ | with_reducible refine wp_k k264 ?_ | with_reducible refine wp_b (md_bank (by assumption)) ?_ | with_reducible refine wp_b (g264 (by decide)) ?_ | with_reducible refine wp_b (gR14 (by assumption)) ?_ | with_reducible refine wp_b (md_s14 (by assumption)) ?_ | (with_reducible refine wp_if (fun hc => ?_) (fun hc => ?_) <;> (try simp (disch := omega) only [isC, bi_0, bi_1, wI_of2, Decidable.not_not, not_true_eq_false, not_false_eq_true] at hc) <;> (try (exfalso; omega)))))
  all_goals first | exact bi_t (by omega) | exact bi_f (by omega)
