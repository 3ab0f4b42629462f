/-! image -/
/-- the bytes of an image, but for the last -/
def imB (I : Isl) (l : Lnd) (j : Nat) : Int :=
  if j = 0 then l 3 0 / 256 else if j = 1 then l 3 0 % 256 else if (j : Int) < 2 + nC I then l 0 ((j : Int) - 2) else if (j : Int) < 2 + nC I + I 12 0 then l 1 (I 13 ((j : Int) - 2 - nC I)) else if ((j : Int) - 2 - nC I - I 12 0) % 2 = 0 then l 2 (((j : Int) - 2 - nC I - I 12 0) / 2) / 256 else l 2 (((j : Int) - 2 - nC I - I 12 0) / 2) % 256
/-- how many they are -/
def imN (I : Isl) : Nat := (2 + nC I + I 12 0 + 2 * I 6 0).toNat
def chk (f : Nat → Int) : Nat → Int
  | 0 => 79
  | k + 1 => (5 * chk f k + f k) % 251
theorem chk_in (f : Nat → Int) (k : Nat) : 0 ≤ chk f k ∧ chk f k ≤ 250 := by
  cases k with
  | zero => show (0 : Int) ≤ 79 ∧ (79 : Int) ≤ 250; decide
  | succ k =>
    show 0 ≤ (5 * chk f k + f k) % 251 ∧ (5 * chk f k + f k) % 251 ≤ 250
    omega
theorem chk_c {f g : Nat → Int} : ∀ n, (∀ j, j < n → f j = g j) → chk f n = chk g n := by
  intro n
  induction n with
  | zero => intro _; rfl
  | succ n ih =>
    intro h
    show (5 * chk f n + f n) % 251 = (5 * chk g n + g n) % 251
    rw [ih (fun j hj => h j (by omega)), h n (by omega)]
def imA (I : Isl) (l : Lnd) : Nat → Int := fun j => if j < imN I then imB I l j else chk (imB I l) (imN I)
theorem im_n {I : Isl} (z : Sz I) (n : Cn I) : ((imN I : Nat) : Int) = 2 + nC I + I 12 0 + 2 * I 6 0 ∧ imN I ≤ 64 := by
  obtain ⟨n1, n2, n3, n4, n5, n6⟩ := id n
  have z6 := z.2.2.2.2.2.1
  have z7 := z.2.2.2.2.2.2
  unfold imN
  omega
theorem sh8 (x : Int) : ishr x 8 = x / 256 := rfl
theorem and8 (x : Int) : iand x 255 = x % 256 := iand_low x 8 (by decide)
theorem imB_in {I : Isl} {l : Lnd} (z : Sz I) (n : Cn I) (cl : Cl I) (gl : GL I l) {j : Nat} (hj : j < imN I) : 0 ≤ imB I l j ∧ imB I l j ≤ 255 := by
  have e := im_n z n
  obtain ⟨n1, n2, n3, n4, n5, n6⟩ := id n
  have z7 := z.2.2.2.2.2.2
  obtain ⟨g1, g2, g3, ⟨d1, _, _, d2, d3⟩, _⟩ := gl
  unfold imB
  by_cases q0 : j = 0
  · rw [if_pos q0]; omega
  rw [if_neg q0]
  by_cases q1 : j = 1
  · rw [if_pos q1]; omega
  rw [if_neg q1]
  by_cases q2 : (j : Int) < 2 + nC I
  · rw [if_pos q2]
    have := g2 ((j : Int) - 2) (by omega) (by omega)
    omega
  rw [if_neg q2]
  by_cases q3 : (j : Int) < 2 + nC I + I 12 0
  · rw [if_pos q3]
    have cc := cl_cell n cl g1 (i := (j : Int) - 2 - nC I) (by omega) (by omega)
    omega
  rw [if_neg q3]
  have dd := d1 (((j : Int) - 2 - nC I - I 12 0) / 2) (by omega) (by omega)
  split <;> omega
/-- the class has written so many -/
def XW (m0 m : Mem) (I : Isl) (l : Lnd) (k : Nat) : Prop := m 3 17 = (k : Int) ∧ (∀ j, j < k → m 262 j = imA I l j) ∧ ∀ a j, ¬((a = 3 ∧ j = 17) ∨ a = 262) → m a j = m0 a j
theorem xw_refs {m0 m : Mem} {I : Isl} {l : Lnd} {k : Nat} (w : XW m0 m I l k) (r : Refs m0) : Refs m := refs_of r fun a j hk => w.2.2 a j fun u => by
  rcases u with u | u
  · rw [u.1, u.2, show isRef 3 17 = false from by decide +kernel] at hk
    exact absurd hk (by decide)
  · rw [u, arr_ref (by decide +kernel)] at hk
    exact absurd hk (by decide)
theorem x_write {m0 m : Mem} {I : Isl} {l : Lnd} {k : Nat} (r : Refs m0) (w : XW m0 m I l k) (hk : k < 65) {v : Int} (hv : v = imA I l k) : ∃ m2, X10_write 3 v m = some m2 ∧ XW m0 m2 I l (k + 1) := by
  obtain ⟨w1, w2, w3⟩ := id w
  have rm := xw_refs w r
  obtain ⟨g, e, a, q⟩ := ar_stE (a := 262) (n := 65) (i := (k : Int)) (by decide +kernel) (by decide +kernel) (by decide) (by omega) (by omega) v m
  rw [Int.toNat_natCast] at a q
  have gi : ∀ mm : Mem, getI 10 17 3 mm = some (mm 3 17) := fun mm => gtI (by decide +kernel) mm
  refine ⟨up (setA m 262 g) 3 17 ((k : Int) + 1), ?_, ?_, fun j hj => ?_, fun x j hx => ?_⟩
  · refine wp_eq ?_
    unfold X10_write
    refine wp_k k3 ?_
    refine wp_b (gi m) ?_
    refine wp_b (gX16 rm) ?_
    refine wp_b (ar_len (a := 262) (n := 65) (by decide +kernel) (by decide +kernel)) ?_
    rw [w1, if_neg (by omega)]
    refine wp_b (gX16 rm) ?_
    refine wp_b (gi m) ?_
    rw [w1]
    refine wp_b e ?_
    refine wp_b (gi _) ?_
    rw [setA_ne (show ¬3 = 262 from by decide), w1, wI_of2 (x := (k : Int) + 1) (by omega) (by omega)]
    refine wp_b (ptI (by decide +kernel) _ _) ?_
    exact wp_some rfl
  · rw [up_same]; omega
  · rw [up_obj (by decide), setA_same]
    by_cases u : j = k
    · rw [u, a, hv]
    · rw [q j u]; exact w2 j (by omega)
  · unfold up
    rw [if_neg (fun u => hx (Or.inl u)), setA_ne (fun u => hx (Or.inr u))]
    exact w3 x j hx
/-- the reference has -/
def MW (m0 m : Mem) (I : Isl) (l : Lnd) (k : Nat) : Prop := m 264 77 = (k : Int) ∧ (∀ j, j < k → m 312 j = imA I l j) ∧ ∀ a j, ¬((a = 264 ∧ j = 77) ∨ a = 312) → m a j = m0 a j
theorem mw_refs {m0 m : Mem} {I : Isl} {l : Lnd} {k : Nat} (w : MW m0 m I l k) (r : Refs m0) : Refs m := refs_of r fun a j hk => w.2.2 a j fun u => by
  rcases u with u | u
  · rw [u.1, u.2, show isRef 264 77 = false from by decide +kernel] at hk
    exact absurd hk (by decide)
  · rw [u, arr_ref (by decide +kernel)] at hk
    exact absurd hk (by decide)
theorem m_writes {m0 m : Mem} {I : Isl} {l : Lnd} {k : Nat} (r : Refs m0) (w : MW m0 m I l k) (hk : k < 65) {v : Int} (hv : v % 256 = imA I l k) : ∃ m2, X11_writes 264 v m = some m2 ∧ MW m0 m2 I l (k + 1) := by
  obtain ⟨w1, w2, w3⟩ := id w
  have rm := mw_refs w r
  obtain ⟨g, e, a, q⟩ := ar_stE (a := 312) (n := 70) (i := (k : Int)) (by decide +kernel) (by decide +kernel) (by decide) (by omega) (by omega) (v % 256) m
  rw [Int.toNat_natCast] at a q
  refine ⟨up (setA m 312 g) 264 77 ((k : Int) + 1), ?_, ?_, fun j hj => ?_, fun x j hx => ?_⟩
  · refine wp_eq ?_
    unfold X11_writes
    refine wp_k k264 ?_
    refine wp_b (gR76 rm) ?_
    refine wp_b (g264 (by decide)) ?_
    rw [w1, and8]
    refine wp_b e ?_
    refine wp_b (g264 (by decide)) ?_
    rw [setA_ne (show ¬264 = 312 from by decide), w1, wI_of2 (x := (k : Int) + 1) (by omega) (by omega)]
    refine wp_b (p264 (by decide) _ _) ?_
    exact wp_some rfl
  · rw [up_same]; omega
  · rw [up_obj (by decide), setA_same]
    by_cases u : j = k
    · rw [u, a, hv]
    · rw [q j u]; exact w2 j (by omega)
  · unfold up
    rw [if_neg (fun u => hx (Or.inl u)), setA_ne (fun u => hx (Or.inr u))]
    exact w3 x j hx
theorem x_checkOf {N : Nat} (hN : 2000 ≤ N) {m : Mem} {a n : Nat} (k : shK a = 1) (hn : shN a = n) {q : Nat} (hq : q ≤ n) (hq2 : q ≤ 1000) (hb : ∀ j, j < q → 0 ≤ m a j ∧ m a j ≤ 255) : X10_checkOf N a (q : Int) m = some (chk (m a) q) := by
  unfold X10_checkOf
  refine lp_2 (fun j => chk (m a) j) Tr (fun F x i => X10_checkOf_L5 N m F a q x i) q _ (tr 0) (fun F j hj _ ih => ?_) (fun F _ => ?_) N (by omega)
  · have c := chk_in (m a) j
    have b := hb j hj
    have e : chk (m a) (j + 1) = (5 * chk (m a) j + m a j) % 251 := rfl
    refine wp_eq ?_
    show Wp (X10_checkOf_L5_b N m (X10_checkOf_L5 N m F) a q (chk (m a) j) j) _
    unfold X10_checkOf_L5_b
    rw [if_neg (by omega)]
    refine wp_b (ar_len k hn) ?_
    rw [if_neg (by omega)]
    refine wp_b (ar_ld k hn (by omega) (by omega) m) ?_
    rw [Int.toNat_natCast, wI_of2 (x := 5 * chk (m a) j) (by omega) (by omega), wI_of2 (x := 5 * chk (m a) j + m a j) (by omega) (by omega), Int.tmod_eq_emod_of_nonneg (by omega), wI_of2 (x := (5 * chk (m a) j + m a j) % 251) (by omega) (by omega)]
    exact wp_of (ih _ _ e.symm (by first | omega | (simp (disch := omega) only [wI_of2] <;> omega)) (tr _)) rfl
  · refine wp_eq ?_
    show Wp (X10_checkOf_L5_b N m (X10_checkOf_L5 N m F) a q (chk (m a) q) q) _
    unfold X10_checkOf_L5_b
    rw [if_pos (Int.le_refl _)]
    exact wp_some rfl
theorem imA_lt {I : Isl} {l : Lnd} {j : Nat} (h : j < imN I) : imA I l j = imB I l j := if_pos h
theorem imA_at {I : Isl} {l : Lnd} (z : Sz I) (n : Cn I) : imA I l 0 = l 3 0 / 256 ∧ imA I l 1 = l 3 0 % 256 ∧ (∀ c : Nat, (c : Int) < nC I → imA I l (2 + c) = l 0 c) ∧ (∀ k : Nat, (k : Int) < I 12 0 → imA I l (2 + (nC I).toNat + k) = l 1 (I 13 k)) ∧ (∀ c : Nat, (c : Int) < I 6 0 → imA I l (2 + (nC I).toNat + nH I + 2 * c) = l 2 c / 256 ∧ imA I l (2 + (nC I).toNat + nH I + 2 * c + 1) = l 2 c % 256) ∧ imA I l (imN I) = chk (imB I l) (imN I) := by
  have e := im_n z n
  obtain ⟨n1, n2, n3, n4, n5, n6⟩ := id n
  have z6 := z.2.2.2.2.2.1
  have z7 := z.2.2.2.2.2.2
  have ec : (((nC I).toNat : Nat) : Int) = nC I := Int.toNat_of_nonneg z6
  refine ⟨?_, ?_, fun c hc => ?_, fun k hk => ?_, fun c hc => ⟨?_, ?_⟩, if_neg (Nat.lt_irrefl _)⟩
  · rw [imA_lt (by omega)]; rfl
  · rw [imA_lt (by omega)]; rfl
  · rw [imA_lt (by omega)]
    unfold imB
    rw [if_neg (by omega), if_neg (by omega), if_pos (by omega), show ((2 + c : Nat) : Int) - 2 = c from by omega]
  · rw [imA_lt (by omega)]
    unfold imB
    rw [if_neg (by omega), if_neg (by omega), if_neg (by omega), if_pos (by omega), show ((2 + (nC I).toNat + k : Nat) : Int) - 2 - nC I = k from by omega]
  · rw [imA_lt (by omega)]
    unfold imB
    rw [if_neg (by omega), if_neg (by omega), if_neg (by omega), if_neg (by omega), if_pos (by omega), show (((2 + (nC I).toNat + nH I + 2 * c : Nat) : Int) - 2 - nC I - I 12 0) / 2 = c from by omega]
  · rw [imA_lt (by omega)]
    unfold imB
    rw [if_neg (by omega), if_neg (by omega), if_neg (by omega), if_neg (by omega), if_neg (by omega), show (((2 + (nC I).toNat + nH I + 2 * c + 1 : Nat) : Int) - 2 - nC I - I 12 0) / 2 = c from by omega]
theorem x_image {N : Nat} (hN : 2000 ≤ N) {m : Mem} {P b : Nat} {I : Isl} {l : Lnd} {s : Int} (h : InvP m P b I l s) : ∃ m2, X10_image N 3 m = some (((imN I + 1 : Nat) : Int), m2) ∧ XW m m2 I l (imN I + 1) := by
  obtain ⟨r, ⟨b3, bb, b4, ps, md, mn⟩, ⟨z, n, kc, vl, cl, fx, cm⟩, ⟨hl, my, gl⟩, pa, to, zz, hg, wk, se, rd, te, fe, oe, kst⟩ := id h; have h1 := ps.1; have tc := gl.1; have hs := vl.2.2.2.2
  obtain ⟨n1, n2, n3, n4, n5, n6⟩ := id n
  have hP := b3.1
  have z6 := z.2.2.2.2.2.1
  have z7 := z.2.2.2.2.2.2
  have ec : (((nC I).toNat : Nat) : Int) = nC I := Int.toNat_of_nonneg z6
  have ek : ((nH I : Nat) : Int) = I 12 0 := n5.symm
  have en := im_n z n
  have at' := imA_at (l := l) z n
  obtain ⟨d1, _, _, d2, d3⟩ := gl.2.2.2.1
  have gi : ∀ mm : Mem, getI 10 17 3 mm = some (mm 3 17) := fun mm => gtI (by decide +kernel) mm
  -- what the class knows while it writes
  have kn : ∀ {mm : Mem} {k : Nat}, XW m mm I l k → Refs mm ∧ B3 mm P ∧ PD mm P I ∧ LD mm 69 l := fun {mm k} w => by
    have ro : ∀ a, ¬a = 3 → ¬a = 262 → mm a = m a := fun a q1 q2 => funext fun j => w.2.2 a j (by omega)
    exact ⟨xw_refs w r, ⟨hP, by rw [w.2.2 3 3 (by decide)]; exact b3.2⟩, pd_off h1 fun a _ _ _ _ _ => ro a (by omega) (by omega), ld_off hl fun a _ _ => ro a (by omega) (by omega)⟩
  have two : ∀ {mm : Mem} {k : Nat} {x : Int}, XW m mm I l k → k + 1 < 65 → 0 ≤ x ∧ x ≤ 9999 → imA I l k = x / 256 → imA I l (k + 1) = x % 256 → ∃ m2, X10_writeTwo 3 x mm = some m2 ∧ XW m m2 I l (k + 2) := fun {mm k x} w hk hx e1 e2 => by
    obtain ⟨m2, a1, a2⟩ := x_write r w (by omega) (v := iand (ishr x 8) 255) (by rw [and8, sh8, e1]; omega)
    obtain ⟨m3, a3, a4⟩ := x_write r a2 (by omega) (v := iand x 255) (by rw [and8, e2])
    refine ⟨m3, ?_, a4⟩
    refine wp_eq ?_
    unfold X10_writeTwo
    refine wp_k k3 ?_
    refine wp_b a1 ?_
    refine wp_b a3 ?_
    exact wp_some rfl
  have X : Wp (X10_image N 3 m) (fun p => p.1 = ((imN I + 1 : Nat) : Int) ∧ XW m p.2 I l (imN I + 1)) := by
    unfold X10_image
    refine wp_k k3 ?_
    refine wp_b (ptI (by decide +kernel) 0 m) ?_
    have w0 : XW m (up m 3 17 0) I l 0 := ⟨up_same _ _ _ _, fun j hj => absurd hj (Nat.not_lt_zero j), fun a j hj => by unfold up; rw [if_neg (fun u => hj (Or.inl u))]⟩
    have k0 := kn w0
    refine wp_b (gX5 k0.1) ?_
    refine wp_b (ld_I k0.2.2.2) ?_
    obtain ⟨m4, e4, w4⟩ := two w0 (by omega) ⟨d2, d3⟩ at'.1 at'.2.1
    refine wp_b e4 ?_
    refine lw_1 (fun c mm => XW m mm I l (2 + c)) (fun F c mm => X10_image_L18 N _ F 3 c mm) (nC I).toNat _ (fun F c mm hc hI ih => ?_) (fun F mm hI => ?_) N m4 (by omega) w4
    · have kk := kn hI
      show Wp (X10_image_L18_b N _ (X10_image_L18 N _ F) 3 c mm) _
      unfold X10_image_L18_b
      refine wp_b (b3_R kk.2.1) ?_
      refine wp_b (x_cells kk.2.2.1 z) ?_
      rw [if_neg (by omega)]
      refine wp_b (gX5 kk.1) ?_
      refine wp_b (ld_R kk.1 kk.2.2.2 (by decide)) ?_
      refine wp_b (ld_r0 kk.2.2.2 (by omega) (by omega)) ?_
      obtain ⟨m5, e5, w5⟩ := x_write r hI (by omega) (v := l 0 c) (at'.2.2.1 c (by omega)).symm
      refine wp_b e5 ?_
      exact ih _ m5 (by first | omega | (simp (disch := omega) only [wI_of2] <;> omega)) w5
    · have kk := kn hI
      show Wp (X10_image_L18_b N _ (X10_image_L18 N _ F) 3 (nC I).toNat mm) _
      unfold X10_image_L18_b
      refine wp_b (b3_R kk.2.1) ?_
      refine wp_b (x_cells kk.2.2.1 z) ?_
      rw [if_pos (by omega)]
      refine lw_1 (fun c mm => XW m mm I l (2 + (nC I).toNat + c)) (fun F c mm => X10_image_L50 N _ F 3 c mm) (nH I) _ (fun F c mm hc hI ih => ?_) (fun F mm hI => ?_) N mm (by omega) hI
      · have kk := kn hI
        have cc := cl_cell n cl tc (i := (c : Int)) (by omega) (by omega)
        show Wp (X10_image_L50_b N _ (X10_image_L50 N _ F) 3 c mm) _
        unfold X10_image_L50_b
        refine wp_b (b3_R kk.2.1) ?_
        refine wp_b (pd_I kk.2.2.1 (by decide)) ?_
        rw [if_neg (by omega)]
        refine wp_b (gX5 kk.1) ?_
        refine wp_b (ld_R kk.1 kk.2.2.2 (by decide)) ?_
        refine wp_b (b3_R kk.2.1) ?_
        refine wp_b (pd_R kk.1 kk.2.2.1 (by decide)) ?_
        refine wp_b (pd_r13 kk.2.2.1 (by omega) (by omega)) ?_
        refine wp_b (ld_r1 kk.2.2.2 cc.1.1 (by omega)) ?_
        obtain ⟨m5, e5, w5⟩ := x_write r hI (by omega) (v := l 1 (I 13 c)) (at'.2.2.2.1 c (by omega)).symm
        refine wp_b e5 ?_
        exact ih _ m5 (by first | omega | (simp (disch := omega) only [wI_of2] <;> omega)) w5
      · have kk := kn hI
        show Wp (X10_image_L50_b N _ (X10_image_L50 N _ F) 3 (nH I) mm) _
        unfold X10_image_L50_b
        refine wp_b (b3_R kk.2.1) ?_
        refine wp_b (pd_I kk.2.2.1 (by decide)) ?_
        rw [if_pos (by omega)]
        refine lw_1 (fun c mm => XW m mm I l (2 + (nC I).toNat + nH I + 2 * c)) (fun F c mm => X10_image_L90 N _ F 3 c mm) (nK I) _ (fun F c mm hc hI ih => ?_) (fun F mm hI => ?_) N mm (by omega) hI
        · have kk := kn hI
          have dd := d1 (c : Int) (by omega) (by omega)
          have ac := at'.2.2.2.2.1 c (by omega)
          show Wp (X10_image_L90_b N _ (X10_image_L90 N _ F) 3 c mm) _
          unfold X10_image_L90_b
          refine wp_b (b3_R kk.2.1) ?_
          refine wp_b (pd_I kk.2.2.1 (by decide)) ?_
          rw [if_neg (by omega)]
          refine wp_b (gX5 kk.1) ?_
          refine wp_b (ld_R kk.1 kk.2.2.2 (by decide)) ?_
          refine wp_b (ld_r2 kk.2.2.2 (by omega) (by omega)) ?_
          obtain ⟨m5, e5, w5⟩ := two hI (by omega) dd ac.1 ac.2
          refine wp_b e5 ?_
          exact ih _ m5 (by first | omega | (simp (disch := omega) only [wI_of2] <;> omega)) w5
        · have kk := kn hI
          have eN : 2 + (nC I).toNat + nH I + 2 * nK I = imN I := by omega
          have hI2 : XW m mm I l (imN I) := by rw [← eN]; exact hI
          show Wp (X10_image_L90_b N _ (X10_image_L90 N _ F) 3 (nK I) mm) _
          unfold X10_image_L90_b
          refine wp_b (b3_R kk.2.1) ?_
          refine wp_b (pd_I kk.2.2.1 (by decide)) ?_
          rw [if_pos (by omega)]
          show Wp ((getR 10 16 3 mm).bind fun t35 => (getI 10 17 3 mm).bind fun t36 => (X10_checkOf N t35 t36 mm).bind fun p37 => (X10_write 3 p37 mm).bind fun p38 => (getI 10 17 3 p38).bind fun t39 => some (t39, p38)) _
          refine wp_b (gX16 kk.1) ?_
          refine wp_b (gi mm) ?_
          rw [hI2.1]
          refine wp_b (x_checkOf hN (a := 262) (n := 65) (q := imN I) (by decide +kernel) (by decide +kernel) (by omega) (by omega) (fun j hj => by
            rw [hI2.2.1 j hj, imA_lt hj]
            exact imB_in z n cl gl hj)) ?_
          have ecq : chk (mm 262) (imN I) = imA I l (imN I) := by
            rw [at'.2.2.2.2.2]
            exact chk_c (imN I) (fun j hj => by rw [hI2.2.1 j hj, imA_lt hj])
          obtain ⟨m5, e5, w5⟩ := x_write r hI2 (by omega) ecq
          refine wp_b e5 ?_
          refine wp_b (gi m5) ?_
          exact wp_some ⟨w5.1, w5⟩
  obtain ⟨⟨v, m2⟩, e, hv, hw⟩ := X
  have hv2 : v = ((imN I + 1 : Nat) : Int) := hv
  subst hv2
  exact ⟨m2, e, hw⟩
theorem m_image {N : Nat} (hN : 2000 ≤ N) {m : Mem} {b : Nat} {I : Isl} {l : Lnd} (r : Refs m) (md : MD m b I) (my : MY m 0 l (nT I)) (z : Sz I) (n : Cn I) (cl : Cl I) (gl : GL I l) : ∃ m2, X11_image N 264 m = some (((imN I + 1 : Nat) : Int), m2) ∧ MW m m2 I l (imN I + 1) := by
  have tc := gl.1
  obtain ⟨n1, n2, n3, n4, n5, n6⟩ := id n
  have z6 := z.2.2.2.2.2.1
  have z7 := z.2.2.2.2.2.2
  have ec : (((nC I).toNat : Nat) : Int) = nC I := Int.toNat_of_nonneg z6
  have ek : ((nH I : Nat) : Int) = I 12 0 := n5.symm
  have en := im_n z n
  have at' := imA_at (l := l) z n
  have g2 := gl.2.1
  obtain ⟨d1, _, _, d2, d3⟩ := gl.2.2.2.1
  have kn : ∀ {mm : Mem} {k : Nat}, MW m mm I l k → Refs mm ∧ MD mm b I ∧ MY mm 0 l (nT I) := fun {mm k} w => by
    have ro : ∀ a, ¬a = 264 → ¬a = 312 → mm a = m a := fun a q1 q2 => funext fun j => w.2.2 a j (by omega)
    exact ⟨mw_refs w r, md_off md (w.2.2 264 13 (by decide)) (fun a _ _ => ro a (by omega) (by omega)), ml_off my (fun a _ _ => ro a (by omega) (by omega))⟩
  have X : Wp (X11_image N 264 m) (fun p => p.1 = ((imN I + 1 : Nat) : Int) ∧ MW m p.2 I l (imN I + 1)) := by
    unfold X11_image
    refine wp_k k264 ?_
    refine wp_b (p264 (by decide) 0 m) ?_
    have w0 : MW m (up m 264 77 0) I l 0 := ⟨up_same _ _ _ _, fun j hj => absurd hj (Nat.not_lt_zero j), fun a j hj => by unfold up; rw [if_neg (fun u => hj (Or.inl u))]⟩
    have k0 := kn w0
    refine wp_b (gR50 k0.1) ?_
    refine wp_b (arI 22 (by decide +kernel) (by decide) (by decide) _) ?_
    rw [show (0 : Int).toNat = 0 from rfl, k0.2.2.2.2.2.2.1, sh8]
    obtain ⟨m4, e4, w4⟩ := m_writes r w0 (by omega) (v := l 3 0 / 256) (by rw [at'.1]; omega)
    refine wp_b e4 ?_
    have k4 := kn w4
    refine wp_b (gR50 k4.1) ?_
    refine wp_b (arI 22 (by decide +kernel) (by decide) (by decide) _) ?_
    rw [show (0 : Int).toNat = 0 from rfl, k4.2.2.2.2.2.2.1]
    obtain ⟨m5, e5, w5⟩ := m_writes r w4 (by omega) (v := l 3 0) at'.2.1.symm
    refine wp_b e5 ?_
    refine lw_1 (fun c mm => MW m mm I l (2 + c)) (fun F c mm => X11_image_L30 N _ F 264 c mm) (nC I).toNat _ (fun F c mm hc hI ih => ?_) (fun F mm hI => ?_) N m5 (by omega) w5
    · have kk := kn hI
      have gc := g2 (c : Int) (by omega) (by omega)
      have ac := at'.2.2.1 c (by omega)
      show Wp (X11_image_L30_b N _ (X11_image_L30 N _ F) 264 c mm) _
      unfold X11_image_L30_b
      refine wp_b (m_cells kk.1 kk.2.1 z) ?_
      rw [if_neg (by omega)]
      refine wp_b (gR51 kk.1) ?_
      refine wp_b (my0_51 kk.2.2 (by omega) (by omega)) ?_
      obtain ⟨m6, e6, w6⟩ := m_writes r hI (by omega) (v := l 0 c) (by rw [ac]; omega)
      refine wp_b e6 ?_
      exact ih _ m6 (by first | omega | (simp (disch := omega) only [wI_of2] <;> omega)) w6
    · have kk := kn hI
      show Wp (X11_image_L30_b N _ (X11_image_L30 N _ F) 264 (nC I).toNat mm) _
      unfold X11_image_L30_b
      refine wp_b (m_cells kk.1 kk.2.1 z) ?_
      rw [if_pos (by omega)]
      refine lw_1 (fun c mm => MW m mm I l (2 + (nC I).toNat + c)) (fun F c mm => X11_image_L56 N _ F 264 c mm) (nH I) _ (fun F c mm hc hI ih => ?_) (fun F mm hI => ?_) N mm (by omega) hI
      · have kk := kn hI
        have cc := cl_cell n cl tc (i := (c : Int)) (by omega) (by omega)
        have ac := at'.2.2.2.1 c (by omega)
        show Wp (X11_image_L56_b N _ (X11_image_L56 N _ F) 264 c mm) _
        unfold X11_image_L56_b
        refine wp_b (m_cloths hN kk.1 kk.2.1 n cl) ?_
        rw [if_neg (by omega)]
        refine wp_b (gR52 kk.1) ?_
        refine wp_b (m_cloth hN kk.1 kk.2.1 n cl (by omega) (by omega)) ?_
        refine wp_b (my0_52 kk.2.2 cc.1.1 (by omega)) ?_
        obtain ⟨m6, e6, w6⟩ := m_writes r hI (by omega) (v := l 1 (I 13 c)) (by rw [ac]; omega)
        refine wp_b e6 ?_
        exact ih _ m6 (by first | omega | (simp (disch := omega) only [wI_of2] <;> omega)) w6
      · have kk := kn hI
        show Wp (X11_image_L56_b N _ (X11_image_L56 N _ F) 264 (nH I) mm) _
        unfold X11_image_L56_b
        refine wp_b (m_cloths hN kk.1 kk.2.1 n cl) ?_
        rw [if_pos (by omega)]
        refine lw_1 (fun c mm => MW m mm I l (2 + (nC I).toNat + nH I + 2 * c)) (fun F c mm => X11_image_L86 N _ F 264 c mm) (nK I) _ (fun F c mm hc hI ih => ?_) (fun F mm hI => ?_) N mm (by omega) hI
        · have kk := kn hI
          have dd := d1 (c : Int) (by omega) (by omega)
          have ac := at'.2.2.2.2.1 c (by omega)
          show Wp (X11_image_L86_b N _ (X11_image_L86 N _ F) 264 c mm) _
          unfold X11_image_L86_b
          refine wp_b (gR21 kk.1) ?_
          refine wp_b (md_bank kk.2.1) ?_
          refine wp_b (md_s21 kk.2.1) ?_
          rw [if_neg (by omega)]
          refine wp_b (gR53 kk.1) ?_
          refine wp_b (my0_53 kk.2.2 (by omega) (by omega)) ?_
          rw [sh8]
          obtain ⟨m6, e6, w6⟩ := m_writes r hI (by omega) (v := l 2 c / 256) (by rw [ac.1]; omega)
          refine wp_b e6 ?_
          have k6 := kn w6
          refine wp_b (gR53 k6.1) ?_
          refine wp_b (my0_53 k6.2.2 (by omega) (by omega)) ?_
          obtain ⟨m7, e7, w7⟩ := m_writes r w6 (by omega) (v := l 2 c) ac.2.symm
          refine wp_b e7 ?_
          exact ih _ m7 (by first | omega | (simp (disch := omega) only [wI_of2] <;> omega)) w7
        · have kk := kn hI
          have eN : 2 + (nC I).toNat + nH I + 2 * nK I = imN I := by omega
          have hI2 : MW m mm I l (imN I) := by rw [← eN]; exact hI
          show Wp (X11_image_L86_b N _ (X11_image_L86 N _ F) 264 (nK I) mm) _
          unfold X11_image_L86_b
          refine wp_b (gR21 kk.1) ?_
          refine wp_b (md_bank kk.2.1) ?_
          refine wp_b (md_s21 kk.2.1) ?_
          rw [if_pos (by omega)]
          refine lw_2 (fun j x mk => mk = mm ∧ x = chk (imB I l) j) (fun F x j mk => X11_image_L133 N _ F 264 x j mk) (imN I) _ (fun F j x mk hj hI3 ih => ?_) (fun F x mk hI3 => ?_) N 79 mm (by omega) ⟨rfl, rfl⟩
          · obtain ⟨hm, hx⟩ := hI3
            subst hm
            subst hx
            have c := chk_in (imB I l) j
            have b := imB_in (l := l) z n cl gl hj
            have e : chk (imB I l) (j + 1) = (5 * chk (imB I l) j + imB I l j) % 251 := rfl
            show Wp (X11_image_L133_b N _ (X11_image_L133 N _ F) 264 (chk (imB I l) j) j mk) _
            unfold X11_image_L133_b
            refine wp_b (g264 (by decide)) ?_
            rw [hI2.1, if_neg (by omega)]
            refine wp_b (gR76 kk.1) ?_
            refine wp_b (arI 70 (by decide +kernel) (by omega) (by omega) mk) ?_
            rw [Int.toNat_natCast, hI2.2.1 j hj, imA_lt hj, wI_of2 (x := 5 * chk (imB I l) j) (by omega) (by omega), wI_of2 (x := 5 * chk (imB I l) j + imB I l j) (by omega) (by omega), Int.tmod_eq_emod_of_nonneg (by omega), wI_of2 (x := (5 * chk (imB I l) j + imB I l j) % 251) (by omega) (by omega)]
            exact ih _ _ mk (by first | omega | (simp (disch := omega) only [wI_of2] <;> omega)) ⟨rfl, e.symm⟩
          · obtain ⟨hm, hx⟩ := hI3
            subst hm
            subst hx
            have c := chk_in (imB I l) (imN I)
            show Wp (X11_image_L133_b N _ (X11_image_L133 N _ F) 264 (chk (imB I l) (imN I)) (imN I) mk) _
            unfold X11_image_L133_b
            refine wp_b (g264 (by decide)) ?_
            rw [hI2.1, if_pos (Int.le_refl _)]
            show Wp ((X11_writes 264 (chk (imB I l) (imN I)) mk).bind fun p42 => (getI 11 77 264 p42).bind fun t43 => some (t43, p42)) _
            obtain ⟨m7, e7, w7⟩ := m_writes r hI2 (by omega) (v := chk (imB I l) (imN I)) (by rw [at'.2.2.2.2.2]; omega)
            refine wp_b e7 ?_
            refine wp_b (g264 (by decide)) ?_
            exact wp_some ⟨w7.1, w7⟩
  obtain ⟨⟨v, m2⟩, e, hv, hw⟩ := X
  have hv2 : v = ((imN I + 1 : Nat) : Int) := hv
  subst hv2
  exact ⟨m2, e, hw⟩
theorem image_ok {N : Nat} (hN : 2000 ≤ N) {m : Mem} (h : Inv m) : ∃ v m1 m2, X10_image N 3 m = some (v, m1) ∧ X11_image N 264 m1 = some (v, m2) ∧ Inv m2 := by
  obtain ⟨P, b, I, l, s, h⟩ := h
  obtain ⟨m1, e1, w1⟩ := x_image hN h
  obtain ⟨r, ⟨b3, bb, b4, ps, md, mn⟩, ⟨z, n, kc, vl, cl, fx, cm⟩, ⟨hl, my, gl⟩, pa, to, zz, hg, wk, se, rd, te, fe, oe, kst⟩ := id h; have h1 := ps.1; have tc := gl.1; have hs := vl.2.2.2.2
  have hP := b3.1
  have en := im_n z n
  have ro1 : ∀ a, ¬a = 3 → ¬a = 262 → m1 a = m a := fun a q1 q2 => funext fun j => w1.2.2 a j (by omega)
  have r1 := xw_refs w1 r
  obtain ⟨m2, e2, w2⟩ := m_image hN r1 (md_off md (by rw [ro1 264 (by decide) (by decide)]) (fun a _ _ => ro1 a (by omega) (by omega))) (ml_off my (fun a _ _ => ro1 a (by omega) (by omega))) z n cl gl
  have r2 := mw_refs w2 r1
  have f : ∀ a k, ¬(a = 3 ∧ k = 17 ∨ a = 262 ∨ a = 264 ∧ k = 77 ∨ a = 312) → m2 a k = m a k := fun a k hk => by rw [w2.2.2 a k (by omega), w1.2.2 a k (by omega)]
  have ro : ∀ a, ¬(a = 3 ∨ a = 262 ∨ a = 264 ∨ a = 312) → m2 a = m a := fun a ha => funext fun k => f a k (by omega)
  refine ⟨_, m1, m2, e1, e2, P, b, I, l, s, inv_g h r2 (fun a k hk => f a k (fun u => hk ?_)) ?_ (hg_off hg (ro 250 (by decide)) (ro 257 (by decide))) (wk_off wk (f _ _ (by decide)) (f _ _ (by decide)) (f _ _ (by decide)) (ro _ (by decide)) (ro _ (by decide))) (se_off se (f _ _ (by decide)) (f _ _ (by decide))) (rd_off rd (ro _ (by decide)) (ro _ (by decide))) (te_off te (f _ _ (by decide)) (f _ _ (by decide)) (ro _ (by decide)) (ro _ (by decide))) ⟨?_, ?_, ?_, fun j hj => ?_⟩⟩
  · unfold ScG
    rcases u with u | u | u | u
    · exact Or.inr (Or.inr (Or.inr (Or.inr (Or.inl ⟨u.1, Or.inr (Or.inr u.2)⟩))))
    · exact Or.inr (Or.inr (Or.inr (Or.inr (Or.inr (Or.inr (Or.inr (Or.inr (Or.inr (Or.inl u)))))))))
    · exact Or.inr (Or.inr (Or.inr (Or.inr (Or.inr (Or.inl ⟨u.1, Or.inr (Or.inr (Or.inr u.2))⟩)))))
    · exact Or.inr (Or.inr (Or.inr (Or.inr (Or.inr (Or.inr (Or.inr (Or.inr (Or.inr (Or.inr (Or.inl u))))))))))
  · have n9 := n.2.2.2.1
    have e12 : m2 3 12 = m 3 12 := f 3 12 (by decide)
    obtain ⟨t1, t2, t3⟩ := to
    refine ⟨by rw [ro 161 (by decide)]; exact t1, by rw [e12]; exact t2, fun q => ?_⟩
    rw [e12] at q
    exact nx_off n (t3 q) r2 (fun a ha => ro a (by omega))
  · rw [w2.1, w2.2.2 3 17 (by decide), w1.1]
  · rw [w2.2.2 3 17 (by decide), w1.1]; omega
  · rw [w2.2.2 3 17 (by decide), w1.1]; omega
  · rw [w2.2.2 3 17 (by decide), w1.1] at hj
    have e262 : m2 262 j = m1 262 j := w2.2.2 262 j (by omega)
    rw [e262, w1.2.1 j (by omega), w2.2.1 j (by omega)]
