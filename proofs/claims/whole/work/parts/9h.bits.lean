/-! bits of small sets -/
def tbt (w c : Nat) : Int := if w.testBit c then 1 else 0
def bcT : Nat → Nat → Nat
  | 0, _ => 0
  | f + 1, w => w % 2 + bcT f (w / 2)
/-- how many are in a set -/
def pop (w : Nat) : Nat := bcT 10 w
theorem bit_c : ∀ w : Nat, w < 1024 → ∀ c : Nat, c < 10 → iand (ishr (w : Int) (c : Int)) 1 = tbt w c := by decide +kernel
theorem or_c : ∀ w : Nat, w < 1024 → ∀ c : Nat, c < 10 → ior (w : Int) (ishl 1 (c : Int)) = ((w ||| 2 ^ c : Nat) : Int) := by decide +kernel
theorem shl_c : ∀ c : Nat, c < 11 → ishl 1 (c : Int) = ((2 ^ c : Nat) : Int) := by decide +kernel
theorem bc_c : ∀ w : Nat, w < 1024 → J6_bitCount_0f7a4 (w : Int) (fun _ _ => 0) = some ((pop w : Nat) : Int) := by decide +kernel
theorem x_bc {w : Nat} (h : w < 1024) (m : Mem) : J6_bitCount_0f7a4 (w : Int) m = some ((pop w : Nat) : Int) := bc_c w h
def btF : Nat → Int → Int → Option Int
  | 0, _, _ => none
  | f + 1, a, x => if x = 0 then some a else btF f (wI (a + 1)) (iand x (wI (x - 1)))
theorem bt_c : ∀ w : Nat, w < 1024 → btF 12 0 (w : Int) = some ((pop w : Nat) : Int) := by decide +kernel
theorem bt_more : ∀ (f d : Nat) (a x v : Int), btF f a x = some v → btF (f + d) a x = some v := by
  intro f
  induction f with
  | zero => intro d a x v h; cases h
  | succ f ih =>
    intro d a x v h
    rw [show f + 1 + d = (f + d) + 1 from by omega]
    show (if x = 0 then some a else btF (f + d) (wI (a + 1)) (iand x (wI (x - 1)))) = some v
    have h2 : (if x = 0 then some a else btF f (wI (a + 1)) (iand x (wI (x - 1)))) = some v := h
    by_cases q : x = 0
    · rw [if_pos q] at h2 ⊢
      exact h2
    · rw [if_neg q] at h2 ⊢
      exact ih d _ _ v h2
theorem m_btL (N : Nat) (m : Mem) : ∀ (f : Nat) (a x : Int), X11_bits_L4 N m f a x = btF f a x := by
  intro f
  induction f with
  | zero => intro a x; rfl
  | succ f ih =>
    intro a x
    show X11_bits_L4_b N m (X11_bits_L4 N m f) a x = (if x = 0 then some a else btF f (wI (a + 1)) (iand x (wI (x - 1))))
    unfold X11_bits_L4_b
    rw [ih]
theorem m_bits {N : Nat} (hN : 2000 ≤ N) {w : Nat} (h : w < 1024) (m : Mem) : X11_bits N (w : Int) m = some ((pop w : Nat) : Int) := by
  unfold X11_bits
  rw [m_btL]
  have e := bt_more 12 (N - 12) 0 (w : Int) _ (bt_c w h)
  rw [show 12 + (N - 12) = N from by omega] at e
  exact e
theorem pop_c : ∀ w : Nat, w < 1024 → pop w ≤ 10 := by decide +kernel
/-! wringing: drops and sun of the cloths -/
/-- drops of a cloth by dawn; its sun -/
def dpC (I : Isl) (l : Lnd) (i : Int) : Int := dwt I l (I 15) (l 1 (I 13 i)) (I 10 (I 13 i)) 12
def snC (I : Isl) (l : Lnd) (i : Int) : Int := sun I l (l 1 (I 13 i))
/-- what is got from a cloth behind so many others -/
def gtC (I : Isl) (l : Lnd) (i k : Int) : Int := max 0 (dpC I l i - max 0 (k * I 19 0 - snC I l i))
theorem dpC_in (I : Isl) (l : Lnd) (i : Int) : 0 ≤ dpC I l i ∧ dpC I l i ≤ 1188 := by
  have y := (dwt_in I l (I 15) (l 1 (I 13 i)) (I 10 (I 13 i)) 12).1
  unfold dpC
  omega
theorem snC_in {I : Isl} (z : Sz I) (l : Lnd) {i : Int} (c0 : 0 ≤ l 1 (I 13 i)) (c1 : l 1 (I 13 i) < nC I) : 0 ≤ snC I l i ∧ snC I l i ≤ 70 := by
  have y := sunTo_in I l (l 1 (I 13 i)) (I 0 0 - 1 - l 1 (I 13 i) % I 0 0).toNat
  have y2 := xy_of z c0 c1
  have z2 := z.2.1
  unfold snC sun
  omega
theorem gtC_in (I : Isl) (l : Lnd) (i k : Int) : 0 ≤ gtC I l i k ∧ gtC I l i k ≤ 1188 := by
  have y := dpC_in I l i
  unfold gtC
  omega
theorem cl_cell {I : Isl} {l : Lnd} (n : Cn I) (cl : Cl I) (tc : Tc I l) {i : Int} (i0 : 0 ≤ i) (i1 : i < I 12 0) : (0 ≤ I 13 i ∧ I 13 i < I 9 0) ∧ 0 ≤ l 1 (I 13 i) ∧ l 1 (I 13 i) < nC I := by
  obtain ⟨n1, n2, n3, n4, n5, n6⟩ := id n
  obtain ⟨t, ht, _, _, hv⟩ := cl_ok n cl i0 i1
  have e : ((nT I : Nat) : Int) = I 9 0 := n3.symm
  have y : 0 ≤ I 13 i ∧ I 13 i < I 9 0 := by omega
  exact ⟨y, tc _ y.1 y.2⟩
/-- the class's rows of cloths -/
def WR (m : Mem) (I : Isl) (l : Lnd) : Prop := m 246 2 = I 12 0 ∧ m 246 3 = I 19 0 ∧ ∀ i : Int, 0 ≤ i → i < I 12 0 → m 247 i.toNat = dpC I l i ∧ m 248 i.toNat = snC I l i
theorem nx_off {m m2 : Mem} {T P : Nat} {I : Isl} {l : Lnd} {sk : Int → Int} (n : Cn I) (h : NX m T P I l sk) (r2 : Refs m2) (fa : ∀ a, (T + 1 ≤ a ∧ a ≤ T + 42) ∨ (P ≤ a ∧ a ≤ P + 28 ∧ ¬a = P + 27 ∧ ¬a = P + 27) → m2 a = m a) : NX m2 T P I l sk := by
  have n9 := n.2.2.2.1
  obtain ⟨⟨n1, n2, n3, n4, n5, n6⟩, n7, n8⟩ := h
  refine ⟨⟨r2, sd_off n2 (fun q q1 q2 => fa q (by omega)), sd_off n3 (fun q q1 q2 => fa q (by omega)), ?_, ?_, ?_⟩, fun t ht => lay_off (n7 t ht) ⟨fa (T + 7 + t) (by omega), fa (T + 19 + t) (by omega), fa (T + 31 + t) (by omega)⟩, ?_⟩
  · rw [fa (T + 1) (by omega)]; exact n4
  · rw [fa (T + 2) (by omega)]; exact n5
  · rw [fa (T + 4) (by omega)]; exact n6
  · rw [fa (T + 42) (by omega)]; exact n8
/-- what the class changes beside the night as told -/
theorem inv_x {m m2 : Mem} {P b : Nat} {I : Isl} {l : Lnd} {s : Int} (h : InvP m P b I l s) (f : ∀ a k, ¬Scr P a k → m2 a k = m a k) (e : ∀ a, a = 3 ∨ (160 ≤ a ∧ a ≤ 201) ∨ (P ≤ a ∧ a ≤ P + 28 ∧ ¬a = P + 27 ∧ ¬a = P + 27) → m2 a = m a) (e1 : m2 250 = m 250) (e2 : m2 257 = m 257) : InvP m2 P b I l s := by
  obtain ⟨r, ⟨b3, bb, b4, ps, md, mn⟩, ⟨z, n, kc, vl, cl, fx, cm⟩, ⟨hl, my, gl⟩, pa, to, zz, hg, wk, se, rd, te, fe, oe, kst⟩ := id h; have h1 := ps.1; have tc := gl.1; have hs := vl.2.2.2.2
  have hP := b3.1
  have r2 : Refs m2 := refs_of r (fun a k hk => f a k (fun y => by rw [scr_ref hP y] at hk; exact absurd hk (by decide)))
  exact inv_fr h f (to_off n hP to r2 e) (hg_off hg e1 e2)
theorem k246 : shK 246 = 9 + 10 := by decide +kernel
theorem g246_c : ∀ k, k < 5 → (k == 2 || k == 3) = true → (shK 246 == 9 + 10 && decide (k < shN 246)) = true := by decide +kernel
theorem w2I (m : Mem) : getI 9 2 246 m = some (m 246 2) := gtI (by decide +kernel) m
theorem w3I (m : Mem) : getI 9 3 246 m = some (m 246 3) := gtI (by decide +kernel) m
theorem w0R {m : Mem} (r : Refs m) : getR 9 0 246 m = some 247 := rc r 247 (by decide +kernel)
theorem w1R {m : Mem} (r : Refs m) : getR 9 1 246 m = some 248 := rc r 248 (by decide +kernel)
theorem w4R {m : Mem} (r : Refs m) : getR 9 4 246 m = some 249 := rc r 249 (by decide +kernel)
/-- what prepare changes -/
def PrS (a k : Nat) : Prop := (a = 246 ∧ (k = 2 ∨ k = 3)) ∨ a = 247 ∨ a = 248
theorem prs_scr {P a k : Nat} (h : PrS a k) : Scr P a k := by
  rcases h with h | h | h
  · exact scr_7 h
  · exact scr_8 (by omega)
  · exact scr_8 (by omega)
theorem x_prep0 {N : Nat} (hN : 2000 ≤ N) {m : Mem} {P : Nat} {I : Isl} {l : Lnd} (r : Refs m) (h1 : PD m P I) (hl : LD m 69 l) (z : Sz I) (n : Cn I) (cl : Cl I) (tc : Tc I l) (nx : NX m 159 P I l (I 15)) : ∃ m2, X9_prepare N 246 P 69 159 m = some m2 ∧ WR m2 I l ∧ Refs m2 ∧ ∀ a k, ¬PrS a k → m2 a k = m a k := by
  obtain ⟨n1, n2, n3, n4, n5, n6⟩ := id n
  have ek : ((nH I : Nat) : Int) = I 12 0 := Int.toNat_of_nonneg (by omega)
  have hP := h1.1
  have inv : ∀ mm : Mem, (∀ a k, ¬PrS a k → mm a k = m a k) → Refs mm ∧ PD mm P I ∧ LD mm 69 l ∧ NX mm 159 P I l (I 15) := by
    intro mm f
    have ro : ∀ a, ¬(246 ≤ a ∧ a ≤ 248) → mm a = m a := fun a ha => funext fun k => f a k (fun u => ha (by unfold PrS at u; omega))
    have r2 : Refs mm := refs_of r (fun a k hk => f a k (fun y => by rw [scr_ref hP (prs_scr y)] at hk; exact absurd hk (by decide)))
    exact ⟨r2, pd_off h1 (fun a _ _ _ _ _ => ro a (by omega)), ld_off hl (fun a _ _ => ro a (by omega)), nx_off n nx r2 (fun a ha => ro a (by omega))⟩
  have X : Wp (X9_prepare N 246 P 69 159 m) (fun m2 => WR m2 I l ∧ ∀ a k, ¬PrS a k → m2 a k = m a k) := by
    unfold X9_prepare
    refine wp_k k246 ?_
    refine wp_b (pd_I h1 (by decide)) ?_
    refine wp_b (ptI (by decide +kernel) (I 12 0) m) ?_
    have h2 : PD (up m 246 2 (I 12 0)) P I := pd_off h1 fun a _ _ _ _ _ => by rw [up_setA, setA_ne (by omega)]
    refine wp_b (pd_I h2 (by decide)) ?_
    refine wp_b (ptI (by decide +kernel) (I 19 0) _) ?_
    refine lw_1 (fun j mm => mm 246 2 = I 12 0 ∧ mm 246 3 = I 19 0 ∧ (∀ i : Int, 0 ≤ i → i < j → mm 247 i.toNat = dpC I l i ∧ mm 248 i.toNat = snC I l i) ∧ ∀ a k, ¬PrS a k → mm a k = m a k) (fun F i mm => X9_prepare_L19 N F 246 P 69 159 i mm) (nH I) _ (fun F j mm hj hI ih => ?_) (fun F mm hI => ?_) N _ (by omega) ⟨?_, up_same _ _ _ _, fun i i0 i1 => by omega, fun a k hk => ?_⟩
    · obtain ⟨w2, w3, wr, f⟩ := hI
      obtain ⟨r, h1, hl, nx⟩ := inv mm f
      have cc := cl_cell n cl tc (i := (j : Int)) (by omega) (by omega)
      show Wp (X9_prepare_L19_b N (X9_prepare_L19 N F) 246 P 69 159 j mm) _
      unfold X9_prepare_L19_b
      refine wp_b (w2I mm) ?_
      rw [w2, if_neg (by omega)]
      refine wp_b (pd_R r h1 (by decide)) ?_
      refine wp_b (pd_r13 h1 (by omega) (by omega)) ?_
      refine wp_b (w0R r) ?_
      refine wp_b (x_dawn r (Or.inl rfl) n nx cc.1.1 cc.1.2) ?_
      obtain ⟨g, e, a4, k4⟩ := ar_stE (a := 247) (n := 10) (i := (j : Int)) (by decide +kernel) (by decide +kernel) (by decide) (by omega) (by omega) (dpC I l j) mm
      refine wp_b e ?_
      have f2 : ∀ a k, ¬PrS a k → setA mm 247 g a k = m a k := fun a k hk => by
        rw [setA_ne (fun u => hk (Or.inr (Or.inl u)))]; exact f a k hk
      obtain ⟨r, h1, hl, nx⟩ := inv _ f2
      refine wp_b (w1R r) ?_
      refine wp_b (ld_R r hl (by decide)) ?_
      refine wp_b (ld_r1 hl cc.1.1 (by omega)) ?_
      refine wp_b (x_sun hN r h1 hl z cc.2.1 cc.2.2) ?_
      obtain ⟨g2, e2, a5, k5⟩ := ar_stE (a := 248) (n := 10) (i := (j : Int)) (by decide +kernel) (by decide +kernel) (by decide) (by omega) (by omega) (snC I l j) (setA mm 247 g)
      refine wp_b e2 ?_
      refine ih _ _ (by first | omega | (simp (disch := omega) only [wI_of2] <;> omega)) ⟨?_, ?_, fun i i0 i1 => ?_, fun a k hk => ?_⟩
      · rw [setA_ne (by decide), setA_ne (by decide)]; exact w2
      · rw [setA_ne (by decide), setA_ne (by decide)]; exact w3
      · rw [setA_same, setA_ne (by decide), setA_same]
        by_cases u : i = j
        · rw [u]; exact ⟨a4, a5⟩
        · have y := wr i i0 (by omega)
          rw [k4 _ (by omega), k5 _ (by omega), setA_ne (by decide)]
          exact y
      · rw [setA_ne (fun u => hk (Or.inr (Or.inr u)))]; exact f2 a k hk
    · obtain ⟨w2, w3, wr, f⟩ := hI
      show Wp (X9_prepare_L19_b N (X9_prepare_L19 N F) 246 P 69 159 (nH I) mm) _
      unfold X9_prepare_L19_b
      refine wp_b (w2I mm) ?_
      rw [w2, if_pos (by omega)]
      exact wp_some ⟨⟨w2, w3, fun i i0 i1 => wr i i0 (by omega)⟩, f⟩
    · rw [up_slot (by decide), up_same]
    · by_cases u : a = 246
      · subst u
        rw [up_at, if_neg (fun y => hk (Or.inl ⟨rfl, Or.inr y⟩)), up_at, if_neg (fun y => hk (Or.inl ⟨rfl, Or.inl y⟩))]
      · rw [up_setA, setA_ne u, up_setA, setA_ne u]
  obtain ⟨m2, e2, wr, f⟩ := X
  exact ⟨m2, e2, wr, (inv m2 f).1, f⟩
theorem x_prepare {N : Nat} (hN : 2000 ≤ N) {m : Mem} {P b : Nat} {I : Isl} {l : Lnd} {s : Int} (h : InvP m P b I l s) (nx : NX m 159 P I l (I 15)) : ∃ m2, X9_prepare N 246 P 69 159 m = some m2 ∧ WR m2 I l ∧ InvP m2 P b I l s ∧ NX m2 159 P I l (I 15) ∧ ∀ a, a < 246 → m2 a = m a := by
  obtain ⟨r, ⟨b3, bb, b4, ps, md, mn⟩, ⟨z, n, kc, vl, cl, fx, cm⟩, ⟨hl, my, gl⟩, pa, to, zz, hg, wk, se, rd, te, fe, oe, kst⟩ := id h; have h1 := ps.1; have tc := gl.1; have hs := vl.2.2.2.2
  have hP := b3.1
  obtain ⟨m2, e2, wr, r2, f⟩ := x_prep0 hN r h1 hl z n cl tc nx
  have ro : ∀ a, ¬(246 ≤ a ∧ a ≤ 248) → m2 a = m a := fun a ha => funext fun k => f a k (fun u => ha (by unfold PrS at u; omega))
  exact ⟨m2, e2, wr, inv_x h (fun a k hk => f a k (fun u => hk (prs_scr u))) (fun a ha => ro a (by omega)) (ro 250 (by decide)) (ro 257 (by decide)), nx_off n nx r2 (fun a ha => ro a (by omega)), fun a ha => ro a (by omega)⟩
theorem x_gotFrom {m : Mem} {I : Isl} {l : Lnd} (r : Refs m) (w : WR m I l) (z : Sz I) (n : Cn I) (cl : Cl I) (tc : Tc I l) (cm : Cm I) {i k : Int} (i0 : 0 ≤ i) (i1 : i < I 12 0) (k0 : 0 ≤ k) (k1 : k ≤ 20) : X9_gotFrom 246 i k m = some (gtC I l i k) := by
  obtain ⟨n1, n2, n3, n4, n5, n6⟩ := id n
  obtain ⟨w2, w3, wr⟩ := w
  have y := wr i i0 i1
  have cc := cl_cell n cl tc i0 i1
  have d := dpC_in I l i
  have q := snC_in z l cc.2.1 cc.2.2
  have c3 := cm.2.2.1
  have c4 := cm.2.2.2
  have p0 : 0 ≤ k * I 19 0 := Int.mul_nonneg k0 (by omega)
  have p1 : k * I 19 0 ≤ 20 * 20 := Int.le_trans (Int.mul_le_mul_of_nonneg_right k1 (by omega)) (Int.mul_le_mul_of_nonneg_left c4 (by decide))
  refine wp_eq ?_
  unfold X9_gotFrom
  refine wp_k k246 ?_
  rw [if_neg (by omega)]
  refine wp_b (w2I m) ?_
  rw [w2, if_pos i1]
  refine wp_b (w3I m) ?_
  refine wp_b (w1R r) ?_
  refine wp_b (arI 10 (by decide +kernel) i0 (by omega) m) ?_
  refine wp_b (w0R r) ?_
  refine wp_b (arI 10 (by decide +kernel) i0 (by omega) m) ?_
  rw [w3, y.1, y.2, wI_of2 (x := k * I 19 0) (by omega) (by omega), wI_of2 (x := k * I 19 0 - snC I l i) (by omega) (by omega), wI_of2 (x := dpC I l i - max 0 (k * I 19 0 - snC I l i)) (by omega) (by omega)]
  exact wp_some rfl
