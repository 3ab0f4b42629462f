/-! on: the reference's whole question -/
theorem my1_s0 {m : Mem} {n : Nat} {l : Lnd} (h : MY m 1 l n) {j : Nat} (hj : j < 42) (v : Int) : ∃ g, astI 297 (42 + (j : Int)) v m = some (setA m 297 g) ∧ MY (setA m 297 g) 1 (updL l 0 j v) n ∧ ∀ x, ¬(42 * 1 ≤ x ∧ x < 42 * 1 + 42) → g x = m 297 x := by
  obtain ⟨h1, h2, h3, h4, h5, h6⟩ := h
  obtain ⟨g, e, a, q⟩ := ar_stE (a := 297) (n := 924) (i := 42 + (j : Int)) (by decide +kernel) (by decide +kernel) (by decide) (by omega) (by omega) v m
  rw [show (42 + (j : Int)).toNat = 42 + j from by omega] at a q
  refine ⟨g, e, ⟨h1, fun i i0 i1 => ?_, fun i i0 i1 => ?_, fun i i0 i1 => ?_, ?_, h6⟩, fun x hx => q x (by omega)⟩
  · rw [setA_same]
    unfold updL
    by_cases y : i = j
    · rw [if_pos ⟨rfl, y⟩, show 42 * 1 + i.toNat = 42 + j from by omega]; exact a
    · rw [if_neg (fun u => y u.2), q _ (by omega)]; exact h2 i i0 i1
  · rw [setA_ne (by decide), h3 i i0 i1]; unfold updL; rw [if_neg (by omega)]
  · rw [setA_ne (by decide), h4 i i0 i1]; unfold updL; rw [if_neg (by omega)]
  · rw [setA_ne (by decide), h5]; unfold updL; rw [if_neg (by omega)]
theorem my1_s1 {m : Mem} {n : Nat} {l : Lnd} (h : MY m 1 l n) {i : Int} (i0 : 0 ≤ i) (i1 : i < n) (v : Int) : ∃ g, astI 298 (10 + i) v m = some (setA m 298 g) ∧ MY (setA m 298 g) 1 (updL l 1 i v) n ∧ ∀ x, ¬(10 * 1 ≤ x ∧ x < 10 * 1 + 10) → g x = m 298 x := by
  obtain ⟨h1, h2, h3, h4, h5, h6⟩ := h
  obtain ⟨g, e, a, q⟩ := ar_stE (a := 298) (n := 220) (i := 10 + i) (by decide +kernel) (by decide +kernel) (by decide) (by omega) (by omega) v m
  refine ⟨g, e, ⟨h1, fun i' i0' i1' => ?_, fun i' i0' i1' => ?_, fun i' i0' i1' => ?_, ?_, h6⟩, fun x hx => q x (by omega)⟩
  · rw [setA_ne (by decide), h2 i' i0' i1']; unfold updL; rw [if_neg (by omega)]
  · rw [setA_same]
    unfold updL
    by_cases y : i' = i
    · rw [if_pos ⟨rfl, y⟩, y, show 10 * 1 + i.toNat = (10 + i).toNat from by omega]; exact a
    · rw [if_neg (fun u => y u.2), q _ (by omega)]; exact h3 i' i0' i1'
  · rw [setA_ne (by decide), h4 i' i0' i1']; unfold updL; rw [if_neg (by omega)]
  · rw [setA_ne (by decide), h5]; unfold updL; rw [if_neg (by omega)]
theorem my1_s2 {m : Mem} {n : Nat} {l : Lnd} (h : MY m 1 l n) {j : Nat} (hj : j < 5) (v : Int) : ∃ g, astI 299 (5 + (j : Int)) v m = some (setA m 299 g) ∧ g (5 + j) = v ∧ MY (setA m 299 g) 1 (updL l 2 j v) n ∧ ∀ x, ¬(5 * 1 ≤ x ∧ x < 5 * 1 + 5) → g x = m 299 x := by
  obtain ⟨h1, h2, h3, h4, h5, h6⟩ := h
  obtain ⟨g, e, a, q⟩ := ar_stE (a := 299) (n := 110) (i := 5 + (j : Int)) (by decide +kernel) (by decide +kernel) (by decide) (by omega) (by omega) v m
  rw [show (5 + (j : Int)).toNat = 5 + j from by omega] at a q
  refine ⟨g, e, a, ⟨h1, fun i i0 i1 => ?_, fun i i0 i1 => ?_, fun i i0 i1 => ?_, ?_, h6⟩, fun x hx => q x (by omega)⟩
  · rw [setA_ne (by decide), h2 i i0 i1]; unfold updL; rw [if_neg (by omega)]
  · rw [setA_ne (by decide), h3 i i0 i1]; unfold updL; rw [if_neg (by omega)]
  · rw [setA_same]
    unfold updL
    by_cases y : i = j
    · rw [if_pos ⟨rfl, y⟩, show 5 * 1 + i.toNat = 5 + j from by omega]; exact a
    · rw [if_neg (fun u => y u.2), q _ (by omega)]; exact h4 i i0 i1
  · rw [setA_ne (by decide), h5]; unfold updL; rw [if_neg (by omega)]
theorem my_eq {m : Mem} {v n : Nat} {l l2 : Lnd} (h : MY m v l n) (e : ∀ k i, (k = 0 → 0 ≤ i) → (k = 3 → i = 0) → l k i = l2 k i) : MY m v l2 n := by
  obtain ⟨h1, h2, h3, h4, h5, h6⟩ := h
  exact ⟨h1, fun i i0 i1 => by rw [h2 i i0 i1]; exact e 0 i (fun _ => i0) (by omega), fun i i0 i1 => by rw [h3 i i0 i1]; exact e 1 i (by omega) (by omega), fun i i0 i1 => by rw [h4 i i0 i1]; exact e 2 i (by omega) (by omega), by rw [h5]; exact e 3 0 (by omega) (by omega), h6⟩
theorem oS_p (I : Isl) (l : Lnd) (T : Nat → Int) (p p2 : Int) (k : Nat) (hk : ¬k = 3) (i : Int) : ∀ j, oSl I l T p j k i = oSl I l T p2 j k i := by
  intro j
  induction j with
  | zero =>
    show oWl l T p _ k i = oWl l T p2 _ k i
    unfold oWl
    rw [if_neg hk, if_neg hk]
  | succ j ih =>
    show updL (oSl I l T p j) 1 (I 13 j) (hgC I T j) k i = updL (oSl I l T p2 j) 1 (I 13 j) (hgC I T j) k i
    unfold updL
    rw [ih]
theorem on_p (I : Isl) (l : Lnd) (T : Nat → Int) (p p2 : Int) (k : Nat) (hk : ¬k = 3) (i : Int) : onL I l T p k i = onL I l T p2 k i := by
  unfold onL oDl
  rw [oS_p I l T p p2 k hk i]
theorem m_comesOn {N : Nat} (hN : 2000 ≤ N) {m : Mem} {b : Nat} {I : Isl} {l : Lnd} (r : Refs m) (md : MD m b I) (my : MY m 0 l (nT I)) (z : Sz I) (n : Cn I) (cl : Cl I) {len : Int} (lb : 0 ≤ len ∧ len ≤ 1600) (hb : ∀ j : Nat, (j : Int) < len → 0 ≤ m 265 j ∧ m 265 j ≤ 255) : Wp (X11_comesOn N 264 len m) (fun p => LyF 1 m p.2 ∧ (p.1 = 1 ∧ GoM I l (m 265) len (tw (m 265) 0) ∧ MY p.2 1 (onL I l (m 265) (tw (m 265) 0)) (nT I) ∨ p.1 = 0 ∧ ¬GoM I l (m 265) len (tw (m 265) 0))) := by
  have z6 := z.2.2.2.2.2.1
  have z7 := z.2.2.2.2.2.2
  have ec : (((nC I).toNat : Nat) : Int) = nC I := Int.toNat_of_nonneg z6
  obtain ⟨n1, n2, n3, n4, n5, n6⟩ := id n
  obtain ⟨oa, ob, oc, od⟩ := on_n z n
  obtain ⟨T, hT⟩ : ∃ T, T = m 265 := ⟨_, rfl⟩
  rw [← hT] at hb ⊢
  obtain ⟨Q, hQ⟩ : ∃ Q : Int × Mem → Prop, Q = (fun p => LyF 1 m p.2 ∧ (p.1 = 1 ∧ GoM I l T len (tw T 0) ∧ MY p.2 1 (onL I l T (tw T 0)) (nT I) ∨ p.1 = 0 ∧ ¬GoM I l T len (tw T 0))) := ⟨_, rfl⟩
  rw [← hQ]
  have bad : ∀ mm, LyF 1 m mm → ¬GoM I l T len (tw T 0) → Wp ((retZ 0).bind fun r4 => some (r4, mm)) Q := fun mm f u => by
    refine wp_b (v := 0) rfl ?_
    rw [hQ]
    exact wp_some ⟨f, Or.inr ⟨rfl, u⟩⟩
  have kn : ∀ {mm : Mem}, LyF 1 m mm → Refs mm ∧ MD mm b I ∧ mm 265 = T := fun {mm} f => ⟨lyf_refs f r, lyf_md f md, by rw [f.1 265 (by omega)]; exact hT.symm⟩
  unfold X11_comesOn
  refine wp_k k264 ?_
  refine wp_b (m_cells r md z) ?_
  refine wp_b (m_cloths hN r md n cl) ?_
  refine wp_b (m_island r md) ?_
  by_cases q0 : 0 < I 0 0
  rotate_left
  · rw [← bi_f q0, if_pos rfl]
    exact bad m (lyf_refl 1 m) fun u => q0 u.1.1
  rw [← bi_t q0, if_neg (by decide)]
  refine wp_b (gR21 r) ?_
  refine wp_b (md_bank md) ?_
  refine wp_b (md_s21 md) ?_
  rw [wI_of2 (x := 2 + nC I) (by omega) (by omega), wI_of2 (x := 2 + nC I + I 12 0) (by omega) (by omega), wI_of2 (x := 2 * I 6 0) (by omega) (by omega), wI_of2 (x := 2 + nC I + I 12 0 + 2 * I 6 0) (by omega) (by omega), wI_of2 (x := 2 + nC I + I 12 0 + 2 * I 6 0 + 1) (by omega) (by omega)]
  by_cases q1 : len = ((imN I + 1 : Nat) : Int)
  rotate_left
  · rw [if_pos (fun u => q1 (by omega))]
    exact bad m (lyf_refl 1 m) fun u => q1 u.1.2.1
  rw [if_neg (fun u => u (by omega))]
  have bb : ∀ j : Nat, j ≤ imN I → 0 ≤ T j ∧ T j ≤ 255 := fun j hj => hb j (by omega)
  have t2 : ∀ {mm : Mem} {i : Int} {j : Nat}, LyF 1 m mm → i = j → j + 1 ≤ imN I → X11_twoBytes 264 i mm = some (tw T j) := fun {mm i j} f hi hj => by
    obtain ⟨rr, _, e5⟩ := kn f
    have := m_twoB rr hi (by omega) (by rw [e5]; exact bb j (by omega)) (by rw [e5]; exact bb (j + 1) (by omega))
    rw [e5] at this
    exact this
  have i2 : 1 ≤ imN I := by omega
  refine wp_b (t2 (j := 0) (lyf_refl 1 m) rfl (by omega)) ?_
  by_cases q2 : tw T 0 ≤ 9999
  rotate_left
  · rw [if_neg q2]
    exact bad m (lyf_refl 1 m) fun u => q2 u.1.2.2.2.1
  rw [if_pos q2]
  refine lw_2 (fun j x mm => mm = m ∧ x = chk T j) (fun F x j mm => X11_comesOn_L60 N _ F 264 len (2 + nC I) (2 + nC I + I 12 0) x j mm) (imN I) Q (fun F j x mm hj hI ih => ?_) (fun F x mm hI => ?_) N 79 m (by omega) ⟨rfl, rfl⟩
  · obtain ⟨hm, hx⟩ := hI
    subst hm
    subst hx
    have c := chk_in T j
    have bj := bb j (by omega)
    have e : chk T (j + 1) = (5 * chk T j + T j) % 251 := rfl
    show Wp (X11_comesOn_L60_b N _ (X11_comesOn_L60 N _ F) 264 len (2 + nC I) (2 + nC I + I 12 0) (chk T j) j mm) Q
    unfold X11_comesOn_L60_b
    rw [wI_of2 (x := len - 1) (by omega) (by omega), if_neg (by omega)]
    refine wp_b (gR0 r) ?_
    refine wp_b (arI 1800 (by decide +kernel) (by omega) (by omega) mm) ?_
    rw [Int.toNat_natCast, ← hT, wI_of2 (x := 5 * chk T j) (by omega) (by omega), wI_of2 (x := 5 * chk T j + T j) (by omega) (by omega), Int.tmod_eq_emod_of_nonneg (by omega), wI_of2 (x := (5 * chk T j + T j) % 251) (by omega) (by omega)]
    exact ih _ _ mm (by first | omega | (simp (disch := omega) only [wI_of2] <;> omega)) ⟨rfl, e.symm⟩
  · obtain ⟨hm, hx⟩ := hI
    subst hm
    subst hx
    show Wp (X11_comesOn_L60_b N _ (X11_comesOn_L60 N _ F) 264 len (2 + nC I) (2 + nC I + I 12 0) (chk T (imN I)) (imN I) mm) Q
    unfold X11_comesOn_L60_b
    rw [wI_of2 (x := len - 1) (by omega) (by omega), if_pos (by omega)]
    show Wp ((getR 11 0 264 mm).bind fun t19 => (aldI t19 (wI (len - 1)) mm).bind fun t20 => if t20 = chk T (imN I) then _ else _) Q
    refine wp_b (gR0 r) ?_
    rw [wI_of2 (x := len - 1) (by omega) (by omega)]
    refine wp_b (arI 1800 (by decide +kernel) (by omega) (by omega) mm) ?_
    rw [show (len - 1).toNat = imN I from by omega, ← hT]
    by_cases q3 : T (imN I) = chk T (imN I)
    rotate_left
    · rw [if_neg q3]
      exact bad mm (lyf_refl 1 mm) fun u => q3 u.1.2.2.1.symm
    rw [if_pos q3]
    refine wp_bw (m_copies10 hN r my) (fun m2 hm2 => ?_)
    obtain ⟨my2, f2⟩ := hm2
    refine lw_1 (fun j mk => LyF 1 mm mk ∧ MY mk 1 (oWl l T (l 3 0) j) (nT I) ∧ ∀ c : Nat, c < j → T (2 + c) ≤ 1) (fun F i mk => X11_comesOn_L116 N _ F 264 (2 + nC I) (2 + nC I + I 12 0) i mk) (nC I).toNat Q (fun F j mk hj hI ih => ?_) (fun F mk hI => ?_) N m2 (by omega) ⟨f2, my_eq my2 (fun k i hk hk3 => ?_), fun c hc => absurd hc (Nat.not_lt_zero c)⟩
    · obtain ⟨f, hy, hw⟩ := hI
      obtain ⟨rr, mdk, e5⟩ := kn f
      show Wp (X11_comesOn_L116_b N _ (X11_comesOn_L116 N _ F) 264 (2 + nC I) (2 + nC I + I 12 0) j mk) Q
      unfold X11_comesOn_L116_b
      refine wp_b (m_cells rr mdk z) ?_
      rw [if_neg (by omega)]
      refine wp_b (gR0 rr) ?_
      rw [wI_of2 (x := 2 + (j : Int)) (by omega) (by omega)]
      refine wp_b (arI 1800 (by decide +kernel) (by omega) (by omega) mk) ?_
      rw [show (2 + (j : Int)).toNat = 2 + j from by omega, e5]
      by_cases q4 : T (2 + j) ≤ 1
      · rw [if_pos q4]
        refine wp_b (gR51 rr) ?_
        refine wp_b (gR0 rr) ?_
        refine wp_b (arI 1800 (by decide +kernel) (by omega) (by omega) mk) ?_
        rw [show (2 + (j : Int)).toNat = 2 + j from by omega, e5, wI_of2 (x := 42 + (j : Int)) (by omega) (by omega)]
        obtain ⟨g, e, hy2, k2⟩ := my1_s0 hy (j := j) (by omega) (T (2 + j))
        refine wp_b e ?_
        refine ih _ _ (by first | omega | (simp (disch := omega) only [wI_of2] <;> omega)) ⟨lyf_297 f k2, ?_, fun c hc => ?_⟩
        · rw [← oW_s]; exact hy2
        · by_cases e : c = j
          · rw [e]; exact q4
          · exact hw c (by omega)
      · rw [if_neg q4]
        exact bad mk f fun u => q4 (u.2.1 j (by omega))
    · obtain ⟨f, hy, hw⟩ := hI
      obtain ⟨rr, mdk, e5⟩ := kn f
      have gw : ∀ c : Nat, (c : Int) < nC I → T (2 + c) ≤ 1 := fun c hc => hw c (by omega)
      show Wp (X11_comesOn_L116_b N _ (X11_comesOn_L116 N _ F) 264 (2 + nC I) (2 + nC I + I 12 0) (nC I).toNat mk) Q
      unfold X11_comesOn_L116_b
      refine wp_b (m_cells rr mdk z) ?_
      rw [if_pos (by omega)]
      refine lw_1 (fun j mk => LyF 1 mm mk ∧ MY mk 1 (oSl I l T (l 3 0) j) (nT I)) (fun F i mk => X11_comesOn_L168 N _ F 264 (2 + nC I) (2 + nC I + I 12 0) i mk) (nH I) Q (fun F j mk hj hI ih => ?_) (fun F mk hI => ?_) N mk (by omega) ⟨f, hy⟩
      · obtain ⟨f, hy⟩ := hI
        obtain ⟨rr, mdk, e5⟩ := kn f
        obtain ⟨t, ht, hs, hk1, hv⟩ := cl_ok n cl (k := (j : Int)) (by omega) (by omega)
        show Wp (X11_comesOn_L168_b N _ (X11_comesOn_L168 N _ F) 264 (2 + nC I) (2 + nC I + I 12 0) j mk) Q
        unfold X11_comesOn_L168_b
        refine wp_b (m_cloths hN rr mdk n cl) ?_
        rw [if_neg (by omega)]
        refine wp_b (gR52 rr) ?_
        refine wp_b (m_cloth hN rr mdk n cl (k := (j : Int)) (by omega) (by omega)) ?_
        refine wp_b (gR0 rr) ?_
        rw [wI_of2 (x := 2 + nC I + (j : Int)) (by omega) (by omega), wI_of2 (x := 10 + I 13 j) (by omega) (by omega)]
        refine wp_b (arI 1800 (by decide +kernel) (by omega) (by omega) mk) ?_
        rw [show (2 + nC I + (j : Int)).toNat = o1 I + j from by omega, e5]
        obtain ⟨g, e, hy2, k2⟩ := my1_s1 hy (i := I 13 j) (by omega) (by omega) (T (o1 I + j))
        refine wp_b e ?_
        exact ih _ _ (by first | omega | (simp (disch := omega) only [wI_of2] <;> omega)) ⟨lyf_298 f k2, hy2⟩
      · obtain ⟨f, hy⟩ := hI
        obtain ⟨rr, mdk, e5⟩ := kn f
        show Wp (X11_comesOn_L168_b N _ (X11_comesOn_L168 N _ F) 264 (2 + nC I) (2 + nC I + I 12 0) (nH I) mk) Q
        unfold X11_comesOn_L168_b
        refine wp_b (m_cloths hN rr mdk n cl) ?_
        rw [if_pos (by omega)]
        refine lw_1 (fun j mk => LyF 1 mm mk ∧ MY mk 1 (oDl I l T (l 3 0) j) (nT I) ∧ ∀ c : Nat, c < j → tw T (o2 I + 2 * c) ≤ 9999) (fun F i mk => X11_comesOn_L209 N _ F 264 (2 + nC I + I 12 0) i mk) (nK I) Q (fun F j mk hj hI ih => ?_) (fun F mk hI => ?_) N mk (by omega) ⟨f, by rw [oD_0]; exact hy, fun c hc => absurd hc (Nat.not_lt_zero c)⟩
        · obtain ⟨f, hy, hw⟩ := hI
          obtain ⟨rr, mdk, e5⟩ := kn f
          show Wp (X11_comesOn_L209_b N _ (X11_comesOn_L209 N _ F) 264 (2 + nC I + I 12 0) j mk) Q
          unfold X11_comesOn_L209_b
          refine wp_b (gR21 rr) ?_
          refine wp_b (md_bank mdk) ?_
          refine wp_b (md_s21 mdk) ?_
          rw [if_neg (by omega)]
          refine wp_b (gR53 rr) ?_
          rw [wI_of2 (x := 2 * (j : Int)) (by omega) (by omega), wI_of2 (x := 2 + nC I + I 12 0 + 2 * (j : Int)) (by omega) (by omega), wI_of2 (x := 5 + (j : Int)) (by omega) (by omega)]
          refine wp_b (t2 (j := o2 I + 2 * j) f (by omega) (by omega)) ?_
          obtain ⟨g, e, ga, hy2, k2⟩ := my1_s2 hy (j := j) (by omega) (tw T (o2 I + 2 * j))
          refine wp_b e ?_
          have f3 := lyf_299 f k2
          have rr3 := lyf_refs f3 r
          refine wp_b (gR53 rr3) ?_
          refine wp_b (arI 110 (by decide +kernel) (by omega) (by omega) _) ?_
          rw [setA_same, show (5 + (j : Int)).toNat = 5 + j from by omega, ga]
          by_cases q4 : tw T (o2 I + 2 * j) ≤ 9999
          · rw [if_pos q4]
            refine ih _ _ (by first | omega | (simp (disch := omega) only [wI_of2] <;> omega)) ⟨f3, ?_, fun c hc => ?_⟩
            · rw [← oD_s]; exact hy2
            · by_cases e : c = j
              · rw [e]; exact q4
              · exact hw c (by omega)
          · rw [if_neg q4]
            exact bad _ f3 fun u => q4 (u.1.2.2.2.2 j hj)
        · obtain ⟨f, hy, hw⟩ := hI
          obtain ⟨rr, mdk, e5⟩ := kn f
          show Wp (X11_comesOn_L209_b N _ (X11_comesOn_L209 N _ F) 264 (2 + nC I + I 12 0) (nK I) mk) Q
          unfold X11_comesOn_L209_b
          refine wp_b (gR21 rr) ?_
          refine wp_b (md_bank mdk) ?_
          refine wp_b (md_s21 mdk) ?_
          rw [if_pos (by omega)]
          show Wp ((getR 11 50 264 mk).bind fun t59 => (X11_twoBytes 264 0 mk).bind fun p60 => (astI t59 1 p60 mk).bind fun m61 => (X11_canBe N 264 m61).bind fun p62 => (retZ p62).bind fun r63 => some (r63, m61)) Q
          refine wp_b (gR50 rr) ?_
          refine wp_b (t2 (j := 0) f rfl (by omega)) ?_
          obtain ⟨g, e, ga, k2⟩ := ar_stE (a := 296) (n := 22) (i := 1) (by decide +kernel) (by decide +kernel) (by decide) (by decide) (by decide) (tw T 0) mk
          refine wp_b e ?_
          have f4 := lyf_296 (g := g) f (fun x hx => k2 x hx)
          obtain ⟨rr4, md4, e54⟩ := kn f4
          have my4 : MY (setA mk 296 g) 1 (onL I l T (tw T 0)) (nT I) := by
            obtain ⟨y1, y2, y3, y4, y5, y6⟩ := hy
            refine ⟨y1, fun i i0 i1 => ?_, fun i i0 i1 => ?_, fun i i0 i1 => ?_, ?_, y6⟩
            · rw [setA_ne (by decide), y2 i i0 i1]; exact on_p I l T _ _ 0 (by decide) i
            · rw [setA_ne (by decide), y3 i i0 i1]; exact on_p I l T _ _ 1 (by decide) i
            · rw [setA_ne (by decide), y4 i i0 i1]; exact on_p I l T _ _ 2 (by decide) i
            · rw [setA_same, on_row3]; exact ga
          refine wp_bw (m_canBe hN rr4 md4 my4 z n (Q := fun v => v = 1 ∧ okBl I (onL I l T (tw T 0)) ∨ v = 0 ∧ ¬okBl I (onL I l T (tw T 0))) (fun u => Or.inl ⟨rfl, u⟩) (fun u => Or.inr ⟨rfl, u⟩)) (fun v hv => ?_)
          rcases hv with ⟨hv, u⟩ | ⟨hv, u⟩
          · rw [hv]
            refine wp_b (v := 1) rfl ?_
            rw [hQ]
            exact wp_some ⟨f4, Or.inl ⟨rfl, ⟨⟨q0, q1, q3.symm, q2, hw⟩, gw, u⟩, my4⟩⟩
          · rw [hv]
            exact bad _ f4 fun w => u w.2.2
    · rw [oW_0 l T (l 3 0) k i hk]
      by_cases y : k = 3
      · rw [if_pos y, y, hk3 y]
      · rw [if_neg y]
