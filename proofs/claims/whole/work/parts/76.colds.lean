/-! the reference's cold, an hour -/
/-- the reference's row of cold from an hour's place on -/
def Rw (m mm : Mem) (h : Nat) (I : Isl) (a : Int → Int) (n : Int) : Prop := ∃ g, mm = setA m 302 g ∧ (∀ x, x < 42 * (h + 1) → g x = m 302 x) ∧ ∀ c : Int, 0 ≤ c → c < n → g (42 * (h + 1) + c.toNat) = a c
def InvC (I : Isl) (l : Lnd) (sk : Int → Int) (h : Nat) (a : Int → Int) : Prop := (∀ q : Int, 0 ≤ q → q < nC I → low I l q = -1 → inP I l a q = cold I l sk q (h + 1)) ∧ ∀ c : Int, 0 ≤ c → c < nC I → 0 ≤ a c
theorem invC_le {I : Isl} (z : Sz I) (ht : Ht I) {l : Lnd} {sk : Int → Int} {h : Nat} (hh : h < 12) {a : Int → Int} (k : InvC I l sk h a) {c : Int} (c0 : 0 ≤ c) (c1 : c < nC I) : 0 ≤ a c ∧ a c ≤ 504 := by
  have p := pol_in (l := l) c0 c1 9
  have e := k.1 _ p.1 p.2 (pol_fix ht l c0 c1)
  have b := cold_in z l sk (pol I l c 9) (h := h + 1) (by omega)
  have hc : ((c.toNat : Nat) : Int) = c := Int.toNat_of_nonneg c0
  have s := sumTo_at (f := fun x => if pol I l x 9 = pol I l c 9 then a x else 0) (n := (nC I).toNat) (i := c.toNat) (by omega) (fun j hj => by
    by_cases y : pol I l j 9 = pol I l c 9
    · rw [if_pos y]; exact k.2 j (by omega) (by omega)
    · rw [if_neg y]; exact Int.le_refl _)
  rw [hc, if_pos rfl] at s
  have e2 : sumTo (fun x => if pol I l x 9 = pol I l c 9 then a x else 0) (nC I).toNat = inP I l a (pol I l c 9) := rfl
  have := k.2 c c0 c1
  omega
theorem invC_mov {I : Isl} (ht : Ht I) {l : Lnd} {sk : Int → Int} {h : Nat} {a : Int → Int} (k : InvC I l sk h a) {c : Int} (c0 : 0 ≤ c) (c1 : c < nC I) (hl : ¬low I l c = -1) : InvC I l sk h (mov I l a c) := by
  have li := low_in I l c
  refine ⟨fun q q0 q1 hq => by rw [inP_mov ht l a c0 c1 hl]; exact k.1 q q0 q1 hq, fun x x0 x1 => ?_⟩
  unfold mov adv
  by_cases e : x = c
  · rw [if_pos e]; exact Int.le_refl _
  · rw [if_neg e]
    by_cases f : x = low I l c
    · rw [if_pos f]
      have := k.2 c c0 c1
      have := k.2 (low I l c) (by omega) (by omega)
      omega
    · rw [if_neg f]; exact k.2 x x0 x1
def Zr (I : Isl) (l : Lnd) (a : Int → Int) (H j : Int) : Prop := ∀ c : Int, 0 ≤ c → c < nC I → ¬low I l c = -1 → (H < I 3 c ∨ I 3 c = H ∧ c < j) → a c = 0
def ColdPost (m : Mem) (h : Nat) (I : Isl) (l : Lnd) (sk : Int → Int) : Mem → Prop := fun m2 => ∃ a, Rw m m2 h I a (nC I) ∧ InvC I l sk h a ∧ ∀ c : Int, 0 ≤ c → c < nC I → ¬low I l c = -1 → a c = 0
theorem m_coldsH {N : Nat} (hN : 2000 ≤ N) {m : Mem} {b v n : Nat} {I : Isl} {l : Lnd} {sk : Int → Int} (r : Refs m) (md : MD m b I) (my : MY m v l n) (z : Sz I) (ht : Ht I) {h : Nat} (hh : h < 12) : ∀ (H F : Nat) (mm : Mem) (a : Int → Int), H + 1 ≤ F → H ≤ 9 → Rw m mm h I a (nC I) → InvC I l sk h a → Zr I l a H 0 → Wp (X11_colds_L75 N F 264 v (42 * ((h : Int) + 1)) H mm) (ColdPost m h I l sk) := by
  obtain ⟨z1, z2, z3, z4, z5, z6, z7⟩ := id z
  have hnc : ((nC I).toNat : Int) = nC I := Int.toNat_of_nonneg z6
  intro H
  induction H with
  | zero =>
    intro F mm a hF hH rw0 k zr
    obtain ⟨F, rfl⟩ : ∃ G, F = G + 1 := ⟨F - 1, by omega⟩
    show Wp (X11_colds_L75_b N (X11_colds_L75 N F) 264 v (42 * ((h : Int) + 1)) ((0 : Nat) : Int) mm) _
    unfold X11_colds_L75_b
    rw [if_pos (by decide)]
    refine wp_some ⟨a, rw0, k, fun c c0 c1 hl => zr c c0 c1 hl (Or.inl ?_)⟩
    have := low_lt I l c hl
    have li := low_in I l c
    have := (ht (low I l c) (by omega) (by omega)).1
    show (0 : Int) < I 3 c
    omega
  | succ H ihH =>
    intro F mm a hF hH rw0 k zr
    obtain ⟨F, rfl⟩ : ∃ G, F = G + 1 := ⟨F - 1, by omega⟩
    show Wp (X11_colds_L75_b N (X11_colds_L75 N F) 264 v (42 * ((h : Int) + 1)) ((H + 1 : Nat) : Int) mm) _
    unfold X11_colds_L75_b
    rw [if_neg (by omega)]
    refine lw_1 (fun j m2 => ∃ a, Rw m m2 h I a (nC I) ∧ InvC I l sk h a ∧ Zr I l a ((H + 1 : Nat) : Int) j) (fun FF i m2 => X11_colds_L83 N _ FF 264 v (42 * ((h : Int) + 1)) ((H + 1 : Nat) : Int) i m2) (nC I).toNat _ (fun FF j m2 hj hI ih => ?_) (fun FF m2 hI => ?_) N mm (by omega) ⟨a, rw0, k, fun c c0 c1 hl q => zr c c0 c1 hl (by omega)⟩
    · obtain ⟨a, ⟨g, hm, g0, ga⟩, k, zr⟩ := hI
      have r2 : Refs m2 := by rw [hm]; exact refs_set r (Or.inl (by decide +kernel)) g
      have ne : ∀ x, ¬x = 302 → m2 x = m x := fun x hx => by rw [hm]; exact setA_ne hx m g
      have md2 : MD m2 b I := md_off md (by rw [ne 264 (by decide)]) (fun x _ _ => ne x (by omega))
      have my2 : MY m2 v l n := ml_off my (fun x _ _ => ne x (by omega))
      have e302 : m2 302 = g := by rw [hm]; exact setA_same _ _ _
      have gj := ga j (by omega) (by omega)
      have bj := invC_le z ht hh k (c := (j : Int)) (by omega) (by omega)
      show Wp (X11_colds_L83_b N _ (X11_colds_L83 N _ FF) 264 v (42 * ((h : Int) + 1)) ((H + 1 : Nat) : Int) j m2) _
      unfold X11_colds_L83_b; simp only [X11_colds_J167]
      refine wp_b (m_cells r2 md2 z) ?_
      rw [if_neg (by omega)]
      refine wp_b (m_height r2 md2 (by omega) (by omega)) ?_
      by_cases q : I 3 j = ((H + 1 : Nat) : Int)
      · rw [if_neg (fun x => x q)]
        refine wp_b (gR63 r2) ?_
        rw [wI_of2 (x := 42 * ((h : Int) + 1) + j) (by omega) (by omega)]
        refine wp_b (arI 546 (by decide +kernel) (by omega) (by omega) m2) ?_
        rw [e302, show (42 * ((h : Int) + 1) + (j : Int)).toNat = 42 * (h + 1) + (j : Int).toNat from by omega, gj]
        by_cases q2 : a j = 0
        · rw [if_neg (fun x => x q2)]
          refine ih _ _ (by first | omega | (simp (disch := omega) only [wI_of2] <;> omega)) ⟨a, ⟨g, hm, g0, ga⟩, k, fun c c0 c1 hl y => ?_⟩
          by_cases e : c = j
          · rw [e]; exact q2
          · exact zr c c0 c1 hl (by omega)
        · rw [if_pos q2]
          refine wp_b (m_low hN r2 md2 my2 z (by omega) (by omega)) ?_
          have li := low_in I l j
          by_cases q3 : low I l j = -1
          · rw [if_neg (fun x => x q3)]
            refine ih _ _ (by first | omega | (simp (disch := omega) only [wI_of2] <;> omega)) ⟨a, ⟨g, hm, g0, ga⟩, k, fun c c0 c1 hl y => ?_⟩
            by_cases e : c = j
            · rw [e] at hl; exact absurd q3 hl
            · exact zr c c0 c1 hl (by omega)
          · rw [if_pos q3]
            have lt := low_lt I l j q3
            have gl := ga (low I l j) (by omega) (by omega)
            have bl := invC_le z ht hh k (c := low I l j) (by omega) (by omega)
            refine wp_b (gR63 r2) ?_
            rw [wI_of2 (x := 42 * ((h : Int) + 1) + low I l j) (by omega) (by omega)]
            refine wp_b (arI 546 (by decide +kernel) (by omega) (by omega) m2) ?_
            refine wp_b (gR63 r2) ?_
            refine wp_b (arI 546 (by decide +kernel) (by omega) (by omega) m2) ?_
            rw [e302, show (42 * ((h : Int) + 1) + (j : Int)).toNat = 42 * (h + 1) + (j : Int).toNat from by omega, gj, show (42 * ((h : Int) + 1) + low I l j).toNat = 42 * (h + 1) + (low I l j).toNat from by omega, gl, wI_of2 (x := a (low I l j) + a j) (by omega) (by omega)]
            obtain ⟨g1, e1, a1, b1⟩ := ar_stE (a := 302) (n := 546) (i := 42 * ((h : Int) + 1) + low I l j) (by decide +kernel) (by decide +kernel) (by decide) (by omega) (by omega) (a (low I l j) + a j) m2
            rw [show (42 * ((h : Int) + 1) + low I l j).toNat = 42 * (h + 1) + (low I l j).toNat from by omega] at a1 b1
            refine wp_b e1 ?_
            refine wp_b (gR63 (refs_set r2 (Or.inl (by decide +kernel)) g1)) ?_
            obtain ⟨g2, e2, a2, b2⟩ := ar_stE (a := 302) (n := 546) (i := 42 * ((h : Int) + 1) + j) (by decide +kernel) (by decide +kernel) (by decide) (by omega) (by omega) 0 (setA m2 302 g1)
            rw [show (42 * ((h : Int) + 1) + (j : Int)).toNat = 42 * (h + 1) + (j : Int).toNat from by omega] at a2 b2
            rw [setA_setA] at e2
            rw [setA_same] at b2
            rw [e302] at b1
            refine wp_b e2 ?_
            refine ih _ _ (by first | omega | (simp (disch := omega) only [wI_of2] <;> omega)) ⟨mov I l a j, ⟨g2, by rw [hm, setA_setA], fun x hx => ?_, fun c c0 c1 => ?_⟩, invC_mov ht k (by omega) (by omega) q3, fun c c0 c1 hl y => ?_⟩
            · rw [b2 x (by omega), b1 x (by omega)]; exact g0 x hx
            · unfold mov adv
              by_cases e : c = j
              · rw [if_pos e, e]; exact a2
              · rw [if_neg e, b2 _ (by omega)]
                by_cases f : c = low I l j
                · rw [if_pos f, f]; exact a1
                · rw [if_neg f, b1 _ (by omega)]; exact ga c c0 c1
            · unfold mov adv
              by_cases e : c = j
              · rw [if_pos e]
              · rw [if_neg e]
                by_cases f : c = low I l j
                · rw [f] at y; omega
                · rw [if_neg f]; exact zr c c0 c1 hl (by omega)
      · rw [if_pos q]
        refine ih _ _ (by first | omega | (simp (disch := omega) only [wI_of2] <;> omega)) ⟨a, ⟨g, hm, g0, ga⟩, k, fun c c0 c1 hl y => ?_⟩
        by_cases e : c = j
        · rw [e] at y; exact zr c c0 c1 hl (by rw [e]; omega)
        · exact zr c c0 c1 hl (by omega)
    · obtain ⟨a, ⟨g, hm, g0, ga⟩, k, zr⟩ := hI
      have r2 : Refs m2 := by rw [hm]; exact refs_set r (Or.inl (by decide +kernel)) g
      have ne : ∀ x, ¬x = 302 → m2 x = m x := fun x hx => by rw [hm]; exact setA_ne hx m g
      have md2 : MD m2 b I := md_off md (by rw [ne 264 (by decide)]) (fun x _ _ => ne x (by omega))
      show Wp (X11_colds_L83_b N _ (X11_colds_L83 N _ FF) 264 v (42 * ((h : Int) + 1)) ((H + 1 : Nat) : Int) (nC I).toNat m2) _
      unfold X11_colds_L83_b
      refine wp_b (m_cells r2 md2 z) ?_
      rw [if_pos (by omega)]
      have e1 : wI (((H + 1 : Nat) : Int) + -1) = (H : Int) := by rw [wI_of2 (by omega) (by omega)]; omega
      show Wp (X11_colds_L75 N F 264 v (42 * ((h : Int) + 1)) (wI (((H + 1 : Nat) : Int) + -1)) m2) _
      rw [e1]
      exact ihH F m2 a (by omega) (by omega) ⟨g, hm, g0, ga⟩ k (fun c c0 c1 hl y => zr c c0 c1 hl (by omega))
theorem m_colds {N : Nat} (hN : 2000 ≤ N) {m : Mem} {b v n : Nat} {I : Isl} {l : Lnd} {sk : Int → Int} (r : Refs m) (md : MD m b I) (my : MY m v l n) (z : Sz I) (ht : Ht I) {h : Nat} (hh : h < 12) (hs : m 301 h = sk ((h : Int) + 1)) (hc : ∀ c : Int, 0 ≤ c → c < nC I → m 302 (42 * h + c.toNat) = cold I l sk c h) : Wp (X11_colds N 264 v ((h : Int) + 1) m) (fun m2 => ∃ g, m2 = setA m 302 g ∧ (∀ x, x < 42 * (h + 1) → g x = m 302 x) ∧ ∀ c : Int, 0 ≤ c → c < nC I → g (42 * (h + 1) + c.toNat) = cold I l sk c (h + 1)) := by
  obtain ⟨z1, z2, z3, z4, z5, z6, z7⟩ := id z
  have hnc : ((nC I).toNat : Int) = nC I := Int.toNat_of_nonneg z6
  refine wp_c (P := ColdPost m h I l sk) ?_ ?_
  · unfold X11_colds
    refine wp_k k264 ?_
    rw [wI_of2 (x := 42 * ((h : Int) + 1)) (by omega) (by omega)]
    refine lw_1 (fun j m2 => Rw m m2 h I (fun c => cold I l sk c h + bi (sk ((h : Int) + 1) = 0 ∧ hasW l c = 0)) j) (fun FF i m2 => X11_colds_L8 N _ FF 264 v ((h : Int) + 1) (42 * ((h : Int) + 1)) i m2) (nC I).toNat _ (fun FF j m2 hj hI ih => ?_) (fun FF m2 hI => ?_) N m (by omega) ⟨m 302, (setA_self _ _).symm, fun _ _ => rfl, fun c c0 c1 => absurd c1 (by omega)⟩
    · obtain ⟨g, hm, g0, ga⟩ := hI
      have r2 : Refs m2 := by rw [hm]; exact refs_set r (Or.inl (by decide +kernel)) g
      have ne : ∀ x, ¬x = 302 → m2 x = m x := fun x hx => by rw [hm]; exact setA_ne hx m g
      have md2 : MD m2 b I := md_off md (by rw [ne 264 (by decide)]) (fun x _ _ => ne x (by omega))
      have my2 : MY m2 v l n := ml_off my (fun x _ _ => ne x (by omega))
      have e302 : m2 302 = g := by rw [hm]; exact setA_same _ _ _
      have cj := hc j (by omega) (by omega)
      have bj := cold_in z l sk j (h := h) (by omega)
      have hw := hasW_in l j
      show Wp (X11_colds_L8_b N _ (X11_colds_L8 N _ FF) 264 v ((h : Int) + 1) (42 * ((h : Int) + 1)) j m2) _
      unfold X11_colds_L8_b; simp only [X11_colds_J62, X11_colds_J63]
      refine wp_b (m_cells r2 md2 z) ?_
      rw [if_neg (by omega)]
      refine wp_b (gR63 r2) ?_
      refine wp_b (gR63 r2) ?_
      rw [wI_of2 (x := 42 * ((h : Int) + 1) - 42) (by omega) (by omega), wI_of2 (x := 42 * ((h : Int) + 1) - 42 + j) (by omega) (by omega)]
      refine wp_b (arI 546 (by decide +kernel) (by omega) (by omega) m2) ?_
      refine wp_b (gR62 r2) ?_
      rw [wI_of2 (x := (h : Int) + 1 - 1) (by omega) (by omega)]
      refine wp_b (arI 12 (by decide +kernel) (by omega) (by omega) m2) ?_
      rw [ne 301 (by decide), show ((h : Int) + 1 - 1).toNat = h from by omega, hs, e302, show (42 * ((h : Int) + 1) - 42 + (j : Int)).toNat = 42 * h + (j : Int).toNat from by omega, g0 _ (by omega), cj]
      have fin : ∀ s : Int, s = bi (sk ((h : Int) + 1) = 0 ∧ hasW l j = 0) → Wp ((astI 302 (wI (42 * ((h : Int) + 1) + (j : Int))) (wI (cold I l sk j h + s)) m2).bind fun m7 => X11_colds_L8 N (fun z12 z13 z14 m15 => X11_colds_L75 N N z12 z13 z14 9 m15) FF 264 v ((h : Int) + 1) (42 * ((h : Int) + 1)) (wI ((j : Int) + 1)) m7) (ColdPost m h I l sk) := by
        intro s hs2
        have bs := bi_in (sk ((h : Int) + 1) = 0 ∧ hasW l j = 0)
        rw [wI_of2 (x := 42 * ((h : Int) + 1) + (j : Int)) (by omega) (by omega), wI_of2 (x := cold I l sk j h + s) (by omega) (by omega)]
        obtain ⟨g1, e1, a1, b1⟩ := ar_stE (a := 302) (n := 546) (i := 42 * ((h : Int) + 1) + j) (by decide +kernel) (by decide +kernel) (by decide) (by omega) (by omega) (cold I l sk j h + s) m2
        rw [show (42 * ((h : Int) + 1) + (j : Int)).toNat = 42 * (h + 1) + (j : Int).toNat from by omega] at a1 b1
        rw [e302] at b1
        refine wp_b e1 ?_
        refine ih _ _ (by first | omega | (simp (disch := omega) only [wI_of2] <;> omega)) ⟨g1, by rw [hm, setA_setA], fun x hx => by rw [b1 x (by omega)]; exact g0 x hx, fun c c0 c1 => ?_⟩
        by_cases e : c = j
        · rw [e, a1, hs2]
        · rw [b1 _ (by omega)]; exact ga c c0 (by omega)
      by_cases q : sk ((h : Int) + 1) = 0
      · rw [if_neg (fun x => x q)]
        refine wp_b (m_isWall r2 my2 (by omega) (by omega)) ?_
        by_cases q2 : hasW l j = 0
        · rw [if_neg (fun x => x q2)]
          exact fin 1 (bi_t ⟨q, q2⟩)
        · rw [if_pos q2]
          exact fin 0 (bi_f (fun x => q2 x.2))
      · rw [if_pos q]
        exact fin 0 (bi_f (fun x => q x.1))
    · obtain ⟨g, hm, g0, ga⟩ := id hI
      have r2 : Refs m2 := by rw [hm]; exact refs_set r (Or.inl (by decide +kernel)) g
      have ne : ∀ x, ¬x = 302 → m2 x = m x := fun x hx => by rw [hm]; exact setA_ne hx m g
      have md2 : MD m2 b I := md_off md (by rw [ne 264 (by decide)]) (fun x _ _ => ne x (by omega))
      show Wp (X11_colds_L8_b N _ (X11_colds_L8 N _ FF) 264 v ((h : Int) + 1) (42 * ((h : Int) + 1)) (nC I).toNat m2) _
      unfold X11_colds_L8_b
      refine wp_b (m_cells r2 md2 z) ?_
      rw [if_pos (by omega)]
      rw [hnc] at hI
      refine m_coldsH hN r md my z ht hh 9 N m2 _ (by omega) (by omega) hI ⟨fun q q0 q1 hq => inP_start ht l sk q0 q1 hq h, fun c c0 c1 => ?_⟩ (fun c c0 c1 hl y => ?_)
      · have := cold_in z l sk c (h := h) (by omega)
        have := bi_in (sk ((h : Int) + 1) = 0 ∧ hasW l c = 0)
        show 0 ≤ cold I l sk c h + bi (sk ((h : Int) + 1) = 0 ∧ hasW l c = 0)
        omega
      · have := (ht c c0 c1).2
        omega
  · intro m2 hp
    obtain ⟨a, ⟨g, hm, g0, ga⟩, k, zr⟩ := hp
    refine ⟨g, hm, g0, fun c c0 c1 => ?_⟩
    rw [ga c c0 c1]
    by_cases q : low I l c = -1
    · rw [← inP_end l c0 c1 q zr]
      exact k.1 c c0 c1 q
    · rw [zr c c0 c1 q]
      unfold cold
      rw [flw_zero ht l q, Int.zero_mul]
