/-! walked: both -/
theorem walked_ok {N : Nat} (hN : 2000 ≤ N) {m : Mem} (h : Inv m) : ∃ v m1 m2, X10_walked N 3 m = some (v, m1) ∧ X11_walked N 264 m1 = some (v, m2) ∧ Inv m2 := by
  obtain ⟨P, b, I, l, s, h⟩ := h
  obtain ⟨rx, b3x, psx, hlx, tox⟩ := x_emp h
  obtain ⟨r, ⟨b3, bb, b4, ps, md, mn⟩, ⟨z, n, kc, vl, cl, fx, cm⟩, ⟨hl, my, gl⟩, pa, to, zz, hg, wk, se, rd, te, fe, oe, kst⟩ := id h; have h1 := ps.1; have tc := gl.1; have hs := vl.2.2.2.2
  have hP := b3.1
  have hCn : Cn I := n
  have z7 := z.2.2.2.2.2.2
  obtain ⟨t1, t2, t3, t4⟩ := id te
  obtain ⟨n, hn⟩ : ∃ n : Nat, m 3 1 = (n : Int) := ⟨(m 3 1).toNat, (Int.toNat_of_nonneg t2).symm⟩
  have hnl : n ≤ 1600 := by omega
  have g1 : getI 10 1 3 m = some (m 3 1) := gtI (by decide +kernel) m
  have p1 : putI 10 1 3 0 m = some (up m 3 1 0) := ptI (by decide +kernel) 0 m
  have x4 : (up m 3 1 0) 4 = m 4 := by rw [up_setA, setA_ne (by decide)]
  have T0 : ∀ i : Nat, i < n → m 265 i = m 4 i ∧ 0 ≤ m 4 i := fun i hi => ⟨(t4 i (by omega)).1.symm, (t4 i (by omega)).2.1⟩
  by_cases q : mdw (m 4) n (nC I)
  · obtain ⟨⟨q1, q2⟩, q3⟩ := id q
    have un : ∀ i, i < n → ∀ j, j < i → ¬m 4 j = m 4 i := fun i hi j hj => (q3 i hi).2 j hj
    -- the class
    have X : Wp (X10_walked N 3 m) (fun p => p.1 = sumTo (bgW I l (p.2 259) n) n ∧ Srt (p.2 259) (m 4) n ∧ Refs p.2 ∧ p.2 258 1 = (n : Int) ∧ p.2 258 4 = sumTo (bgW I l (p.2 259) n) n ∧ (0 < sumTo (bgW I l (p.2 259) n) n → ∀ j, j < n → p.2 261 j = p.2 259 ((fz (bgW I l (p.2 259) n) n :: FW (okW I l (p.2 259)) n (n - 1) (0 ||| 2 ^ fz (bgW I l (p.2 259) n) n) (fz (bgW I l (p.2 259) n) n)).getD j 0)) ∧ ∀ a k, ¬(a = 258 ∨ a = 259 ∨ a = 260 ∨ a = 261) → p.2 a k = up m 3 1 0 a k) := by
      unfold X10_walked
      refine wp_k k3 ?_
      refine wp_b g1 ?_
      refine wp_b p1 ?_
      rw [hn, if_neg (by omega), if_neg (by omega)]
      refine wp_b (b3_R b3x) ?_
      refine wp_b (x_cells psx.1 z) ?_
      have xu := x_unlike hN rx (len := n) hnl (nC I)
      rw [x4, ← bi_t q3] at xu
      refine wp_b xu ?_
      rw [if_pos (by decide)]
      refine wp_b (gX15 rx) ?_
      refine wp_b (gX0 rx) ?_
      obtain ⟨m3, e3, c1, srt, r3, f3⟩ := x_tell hN rx (n := n) (by omega) (by rw [x4]; exact un)
      rw [x4] at srt
      refine wp_b e3 ?_
      have ro3 : ∀ a, ¬a = 258 → ¬a = 259 → m3 a = up m 3 1 0 a := fun a h1 h2 => funext fun k => f3 a k (by omega)
      have b33 : B3 m3 P := ⟨hP, by rw [ro3 3 (by decide) (by decide)]; exact b3x.2⟩
      have h13 : PD m3 P I := pd_off psx.1 fun a _ _ _ _ _ => ro3 a (by omega) (by omega)
      have hl3 : LD m3 69 l := ld_off hlx fun a _ _ => ro3 a (by omega) (by omega)
      refine wp_b (gX15 r3) ?_
      refine wp_b (b3_R b33) ?_
      refine wp_b (gX5 r3) ?_
      have td : TD m3 I (m3 259) n := by
        refine ⟨c1, q2, fun j _ => rfl, fun j hj => ?_⟩
        obtain ⟨k, hk, ek⟩ := srt.2.2 j hj
        rw [ek]
        exact ⟨(T0 k hk).2, (q3 k hk).1⟩
      obtain ⟨m5, e5, f5, w1, w2⟩ := x_findWalks hN z q1 r3 h13 hl3 td
      refine wp_b e5 ?_
      have r5 := trf_refs f5 r3
      refine wp_b (gX15 r5) ?_
      refine wp_b (d4I m5) ?_
      have e259 : m5 259 = m3 259 := trf_ro f5 (by decide)
      have eW : m5 258 4 = sumTo (bgW I l (m5 259) n) n ∧ (0 < sumTo (bgW I l (m5 259) n) n → ∀ j, j < n → m5 261 j = m5 259 ((fz (bgW I l (m5 259) n) n :: FW (okW I l (m5 259)) n (n - 1) (0 ||| 2 ^ fz (bgW I l (m5 259) n) n) (fz (bgW I l (m5 259) n) n)).getD j 0)) := by
        rw [e259]
        by_cases wl : ∃ j, j < n ∧ hasW l (m3 259 j) = 1
        · obtain ⟨j, hj, hw⟩ := id wl
          have e0 : sumTo (bgW I l (m3 259) n) n = 0 := sumTo_zero (bgW_wall (by omega) hj hw)
          rw [e0]
          exact ⟨w1 wl, fun u => absurd u (by decide)⟩
        · have nw : ∀ j, j < n → ¬hasW l (m3 259 j) = 1 := fun j hj u => wl ⟨j, hj, u⟩
          obtain ⟨w3, w4⟩ := w2 nw
          have es : sumTo (bgW I l (m3 259) n) n = sumTo (bgT I (m3 259) n) n := sumTo_same (bgW_c nw)
          have ef : fz (bgW I l (m3 259) n) n = fz (bgT I (m3 259) n) n := fz_c n (bgW_c nw)
          rw [es, ef]
          refine ⟨w3, fun u j hj => ?_⟩
          rw [w4 u j hj]
          have szn := sum_fz (bgT_0 I (m3 259) n) n
          have ln := fz_le (bgT I (m3 259) n) n
          have fl : fz (bgT I (m3 259) n) n < n := by
            rcases Nat.lt_or_ge (fz (bgT I (m3 259) n) n) n with v | v
            · exact v
            · have := szn.1.mp (by omega)
              omega
          have nf := fz_at fl
          have wpos : 0 < WY (okW I l (m3 259)) n (n - 1) (0 ||| 2 ^ fz (bgT I (m3 259) n) n) (fz (bgT I (m3 259) n) n) := by
            rw [← bgW_c nw _ fl] at nf
            have a := WY_0 (okW I l (m3 259)) n (n - 1) (0 ||| 2 ^ fz (bgT I (m3 259) n) n) (fz (bgT I (m3 259) n) n)
            have nf2 : ¬(if edB I (m3 259 (fz (bgT I (m3 259) n) n)) = true ∧ ¬hasW l (m3 259 (fz (bgT I (m3 259) n) n)) = 1 then WY (okW I l (m3 259)) n (n - 1) (0 ||| 2 ^ fz (bgT I (m3 259) n) n) (fz (bgT I (m3 259) n) n) else 0) = 0 := nf
            by_cases v : edB I (m3 259 (fz (bgT I (m3 259) n) n)) = true ∧ ¬hasW l (m3 259 (fz (bgT I (m3 259) n) n)) = 1
            · rw [if_pos v] at nf2; omega
            · rw [if_neg v] at nf2; exact absurd rfl nf2
          rw [FW_c (okW_c nw) (n - 1) (0 ||| 2 ^ fz (bgT I (m3 259) n) n) (fz (bgT I (m3 259) n) n) fl wpos]
      refine wp_some ⟨eW.1, by show Srt (m5 259) (m 4) n; rw [e259]; exact srt, r5, ?_, eW.1, eW.2, fun a k hk => ?_⟩
      · show m5 258 1 = _
        rw [f5 258 1 (by decide)]; exact c1
      · show m5 a k = _
        rw [f5 a k (by omega), f3 a k (by omega)]
    obtain ⟨⟨v1, m1⟩, ex, x1, srt, r1, c1, c4, fr, f1⟩ := X
    have x1' : v1 = sumTo (bgW I l (m1 259) n) n := x1
    subst x1'
    replace f1 : ∀ a k, ¬(a = 258 ∨ a = 259 ∨ a = 260 ∨ a = 261) → m1 a k = up m 3 1 0 a k := f1
    replace srt : Srt (m1 259) (m 4) n := srt
    replace c1 : m1 258 1 = (n : Int) := c1
    replace c4 : m1 258 4 = sumTo (bgW I l (m1 259) n) n := c4
    replace fr : 0 < sumTo (bgW I l (m1 259) n) n → ∀ j, j < n → m1 261 j = m1 259 ((fz (bgW I l (m1 259) n) n :: FW (okW I l (m1 259)) n (n - 1) (0 ||| 2 ^ fz (bgW I l (m1 259) n) n) (fz (bgW I l (m1 259) n) n)).getD j 0) := fr
    obtain ⟨A, hA⟩ : ∃ A, A = m1 259 := ⟨_, rfl⟩
    rw [← hA] at ex srt c4 fr
    have ro : ∀ a, ¬(a = 3 ∨ a = 258 ∨ a = 259 ∨ a = 260 ∨ a = 261) → m1 a = m a := fun a ha => funext fun k => by
      rw [f1 a k (by omega), up_setA, setA_ne (by omega)]
    -- the memory between, both tapes empty
    obtain ⟨mb, hmb⟩ : ∃ mb, mb = up m1 264 1 0 := ⟨_, rfl⟩
    have rb : Refs mb := by rw [hmb]; exact refs_up r1 (by decide +kernel) 0
    have lb : ∀ a, ¬a = 264 → mb a = m1 a := fun a ha => by rw [hmb, up_setA, setA_ne ha]
    have lb4 : ∀ k, ¬k = 1 → mb 264 k = m 264 k := fun k hk => by rw [hmb, up_at, if_neg hk, ro 264 (by decide)]
    have mdb : MD mb b I := md_off md (lb4 13 (by decide)) (fun a _ _ => by rw [lb a (by omega), ro a (by omega)])
    have myb : MY mb 0 l (nT I) := ml_off my (fun a _ _ => by rw [lb a (by omega), ro a (by omega)])
    have e265 : mb 265 = m 265 := by rw [lb 265 (by decide), ro 265 (by decide)]
    have S : sumTo (bgW I l A n) n = sumTo (bgW I l A n) n := rfl
    have Mm : Wp (X11_walked N 264 m1) (fun p => p.1 = sumTo (bgW I l A n) n ∧ Refs p.2 ∧ (∀ a, ¬(a = 264 ∨ a = 309 ∨ a = 310 ∨ a = 311) → p.2 a = mb a) ∧ (∀ k, ¬k = 72 → p.2 264 k = mb 264 k) ∧ (sumTo (bgW I l A n) n = 0 → p.2 264 72 = 0) ∧ (¬sumTo (bgW I l A n) n = 0 → p.2 264 72 = (n : Int) ∧ ∀ j, j < n → p.2 309 j = A ((fz (bgW I l A n) n :: FW (okW I l A) n (n - 1) (0 ||| 2 ^ fz (bgW I l A n) n) (fz (bgW I l A n) n)).getD j 0))) := by
      unfold X11_walked
      refine wp_k k264 ?_
      refine wp_b (g264 (by decide)) ?_
      refine wp_b (p264 (by decide) 0 m1) ?_
      rw [← hmb, ro 264 (by decide), ← t1, hn]
      refine wp_b (m_is _ _ _ _) ?_
      refine m_canL hN rb mdb z hnl (T := m 4) (fun i hi => by rw [e265]; exact T0 i hi) (fun _ => ?_) (fun u => absurd q u)
      show Wp (if ¬(1 : Int) = 0 then _ else _) _
      rw [if_pos (by decide)]
      refine m_rankL hN rb q2 (T := m 4) (fun i hi => by rw [e265]; exact (T0 i hi).1) un (fun g hg => ?_)
      have rg : Refs (setA mb 310 g) := refs_set rb (by decide +kernel) g
      have gA : ∀ j, j < n → g j = A j := fun j hj => by
        obtain ⟨k, hk, ek⟩ := srt.2.2 j hj
        have e := hg k hk
        rw [← ek, srt_at srt hj, Int.toNat_natCast] at e
        exact e
      have mk : MK (setA mb 310 g) b I l A n := by
        refine ⟨rg, md_off mdb (by rw [setA_ne (by decide)]) (fun a _ _ => setA_ne (by omega) _ _), ml_off myb (fun a _ _ => setA_ne (by omega) _ _), q2, fun j hj => by rw [setA_same]; exact gA j hj, fun j hj => ?_⟩
        obtain ⟨k, hk, ek⟩ := srt.2.2 j hj
        rw [ek]
        exact ⟨(T0 k hk).2, (q3 k hk).1⟩
      obtain ⟨g2, e2, tb⟩ := m_countsWays hN z q1 mk
      have mk2 := wyf_mk (wyf_set (fun _ _ => rfl) (Or.inr rfl) g2) mk
      show Wp ((X11_countsWays N 264 (n : Int) (setA mb 310 g)).bind fun p44 => X11_walked_L177 N (fun z50 z51 z52 m53 => if ¬ z52 = 0 then (X11_walked_J230 N z50 z51 z52 z50 z51 m53) else (X11_walked_J230 N z50 z51 z52 z50 0 m53)) N 264 (n : Int) 0 0 p44) _
      refine wp_b e2 ?_
      refine lw_2 (fun c x mm => mm = setA (setA mb 310 g) 311 g2 ∧ x = sumTo (bgW I l A n) c) (fun F x c mm => X11_walked_L177 N _ F 264 (n : Int) x c mm) n _ (fun F c x mm hc hI ih => ?_) (fun F x mm hI => ?_) N 0 _ (by omega) ⟨rfl, rfl⟩
      · obtain ⟨hm, hx⟩ := hI
        subst hm
        subst hx
        have b1 := sumTo_bd (f := bgW I l A n) (n := n) (B := 362880) (fun j hj => bgW_in I l A (by omega) j hj) c (by omega)
        have bc := bgW_in I l A (n := n) (by omega) c hc
        have es : sumTo (bgW I l A n) (c + 1) = sumTo (bgW I l A n) c + bgW I l A n c := rfl
        show Wp (X11_walked_L177_b N _ (X11_walked_L177 N _ F) 264 (n : Int) (sumTo (bgW I l A n) c) c (setA (setA mb 310 g) 311 g2)) _
        unfold X11_walked_L177_b X11_walked_J212
        rw [if_neg (by omega)]
        refine wp_b (m_canBegin z mk2 tb hc) ?_
        by_cases y : bgW I l A n c = 0
        · rw [if_pos y, if_pos rfl]
          exact ih _ _ _ (by first | omega | (simp (disch := omega) only [wI_of2] <;> omega)) ⟨rfl, by rw [es, y]; exact wI_of2 (by omega) (by omega)⟩
        · rw [if_neg y, if_neg (by decide)]
          have o := one_c (n := n) (by omega) hc
          have e0 : 0 ||| 2 ^ c = 2 ^ c := Nat.zero_or _
          have p := p2_10 n (by omega)
          have bl : 2 ^ c < 1024 := by have := o.2; rw [e0] at this; omega
          have w := tb (2 ^ c) c Nat.one_le_two_pow (by rw [← e0]; exact o.2) hc
          rw [← e0, o.1] at w
          have eb : bgW I l A n c = WY (okW I l A) n (n - 1) (0 ||| 2 ^ c) c := by
            unfold bgW at y ⊢
            by_cases u : edB I (A c) = true ∧ ¬hasW l (A c) = 1
            · rw [if_pos u]
            · rw [if_neg u] at y; exact absurd rfl y
          refine wp_b (gR75 mk2.1) ?_
          rw [shl_c c (by omega), wI_of2 (x := 10 * ((2 ^ c : Nat) : Int)) (by omega) (by omega), wI_of2 (x := 10 * ((2 ^ c : Nat) : Int) + (c : Int)) (by omega) (by omega)]
          refine wp_b (arI 10240 (by decide +kernel) (by omega) (by omega) _) ?_
          rw [show (10 * ((2 ^ c : Nat) : Int) + (c : Int)).toNat = 10 * (0 ||| 2 ^ c) + c from by rw [e0]; omega, w, ← eb]
          exact ih _ _ _ (by first | omega | (simp (disch := omega) only [wI_of2] <;> omega)) ⟨rfl, by rw [es]; exact wI_of2 (by omega) (by omega)⟩
      · obtain ⟨hm, hx⟩ := hI
        subst hm
        subst hx
        have b1 := sumTo_bd (f := bgW I l A n) (n := n) (B := 362880) (fun j hj => bgW_in I l A (by omega) j hj) n (Nat.le_refl n)
        show Wp (X11_walked_L177_b N _ (X11_walked_L177 N _ F) 264 (n : Int) (sumTo (bgW I l A n) n) n (setA (setA mb 310 g) 311 g2)) _
        unfold X11_walked_L177_b
        rw [if_pos (Int.le_refl _)]
        show Wp (if ¬sumTo (bgW I l A n) n = 0 then X11_walked_J230 N 264 (n : Int) (sumTo (bgW I l A n) n) 264 (n : Int) (setA (setA mb 310 g) 311 g2) else X11_walked_J230 N 264 (n : Int) (sumTo (bgW I l A n) n) 264 0 (setA (setA mb 310 g) 311 g2)) _
        have loF : ∀ a, ¬(a = 264 ∨ a = 309 ∨ a = 310 ∨ a = 311) → ∀ v, up (setA (setA mb 310 g) 311 g2) 264 72 v a = mb a := fun a ha v => by
          rw [up_setA, setA_ne (by omega), setA_ne (by omega), setA_ne (by omega)]
        have loK : ∀ k, ¬k = 72 → ∀ v, up (setA (setA mb 310 g) 311 g2) 264 72 v 264 k = mb 264 k := fun k hk v => by
          rw [up_at, if_neg hk, setA_ne (by decide), setA_ne (by decide)]
        by_cases y : sumTo (bgW I l A n) n = 0
        · rw [if_neg (fun u => u y)]
          unfold X11_walked_J230
          refine wp_b (p264 (by decide) 0 _) ?_
          rw [if_pos (by omega)]
          exact wp_some ⟨rfl, refs_up mk2.1 (by decide +kernel) _, fun a ha => loF a ha 0, fun k hk => loK k hk 0, fun _ => up_same (setA (setA mb 310 g) 311 g2) 264 72 0, fun u => absurd y u⟩
        · rw [if_pos y]
          unfold X11_walked_J230
          refine wp_b (p264 (by decide) (n : Int) _) ?_
          rw [if_neg (by omega)]
          have mk3 : MK (up (setA (setA mb 310 g) 311 g2) 264 72 (n : Int)) b I l A n := by
            obtain ⟨a1, a2, a3, a4, a5, a6⟩ := mk2
            exact ⟨refs_up a1 (by decide +kernel) _, md_off a2 (up_slot (by decide) _ _ _ _) (fun a _ _ => by rw [up_setA, setA_ne (by omega)]), ml_off a3 (fun a _ _ => by rw [up_setA, setA_ne (by omega)]), a4, fun j hj => by rw [up_obj (by decide)]; exact a5 j hj, a6⟩
          have tb3 : Wtb (up (setA (setA mb 310 g) 311 g2) 264 72 (n : Int)) (okW I l A) n 1 := fun s2 c h1 h2 h3 => by rw [up_obj (by decide)]; exact tb s2 c h1 h2 h3
          obtain ⟨g5, e5, w5⟩ := m_findsFirst hN z q1 mk3 tb3 (by omega)
          refine wp_b e5 ?_
          refine wp_some ⟨rfl, refs_set mk3.1 (by decide +kernel) _, fun a ha => ?_, fun k hk => ?_, fun u => absurd u y, fun _ => ⟨?_, fun j hj => ?_⟩⟩
          · show setA (up (setA (setA mb 310 g) 311 g2) 264 72 (n : Int)) 309 g5 a = mb a
            rw [setA_ne (by omega)]; exact loF a ha _
          · show setA (up (setA (setA mb 310 g) 311 g2) 264 72 (n : Int)) 309 g5 264 k = mb 264 k
            rw [setA_ne (by decide)]; exact loK k hk _
          · show setA (up (setA (setA mb 310 g) 311 g2) 264 72 (n : Int)) 309 g5 264 72 = (n : Int)
            rw [setA_ne (by decide), up_same]
          · show setA (up (setA (setA mb 310 g) 311 g2) 264 72 (n : Int)) 309 g5 309 j = _
            rw [setA_same]; exact w5 j hj
    obtain ⟨⟨v2, m2⟩, ey, y1, r2, fa, fc, s0, s1⟩ := Mm
    have y1' : v2 = sumTo (bgW I l A n) n := y1
    subst y1'
    replace fa : ∀ a, ¬(a = 264 ∨ a = 309 ∨ a = 310 ∨ a = 311) → m2 a = mb a := fa
    replace fc : ∀ k, ¬k = 72 → m2 264 k = mb 264 k := fc
    replace s0 : sumTo (bgW I l A n) n = 0 → m2 264 72 = 0 := s0
    replace s1 : ¬sumTo (bgW I l A n) n = 0 → m2 264 72 = (n : Int) ∧ ∀ j, j < n → m2 309 j = A ((fz (bgW I l A n) n :: FW (okW I l A) n (n - 1) (0 ||| 2 ^ fz (bgW I l A n) n) (fz (bgW I l A n) n)).getD j 0) := s1
    have sp := sum_pos (bgW_0 I l A n) n
    have f2 : ∀ a, ¬(a = 3 ∨ 258 ≤ a ∧ a ≤ 261 ∨ a = 264 ∨ 309 ≤ a ∧ a ≤ 311) → m2 a = m a := fun a ha => by rw [fa a (by omega), lb a (by omega), ro a (by omega)]
    have e3 : ∀ k, m2 3 k = up m 3 1 0 3 k := fun k => by rw [fa 3 (by decide), lb 3 (by decide), f1 3 k (by decide)]
    have e3' : ∀ k, ¬k = 1 → m2 3 k = m 3 k := fun k hk => by rw [e3 k, up_at, if_neg hk]
    have e258 : ∀ k, m2 258 k = m1 258 k := fun k => by rw [fa 258 (by decide), lb 258 (by decide)]
    have e264 : ∀ k, ¬k = 1 → ¬k = 72 → m2 264 k = m 264 k := fun k h1 h2 => by rw [fc k h2, lb4 k h1]
    have e41 : m2 264 1 = 0 := by rw [fc 1 (by decide), hmb, up_same]
    refine ⟨_, m1, m2, ex, ey, P, b, I, l, s, inv_g h r2 (fun a k hk => ?_) (to_off hCn hP tox r2 (fun a ha => ?_)) (hg_off hg (f2 250 (by decide)) (f2 257 (by decide))) ?_ (se_off se (e3' 8 (by decide)) (e264 56 (by decide) (by decide))) (rd_off rd (f2 263 (by decide)) (f2 295 (by decide))) (te_0 (by rw [e3 1, up_same]) e41) (oe_off oe (e3' 17 (by decide)) (e264 77 (by decide) (by decide)) (f2 262 (by decide)) (f2 312 (by decide)))⟩
    · unfold ScG at hk
      by_cases y : a = 264
      · subst y
        exact e264 k (fun u => hk (Or.inr (Or.inr (Or.inr (Or.inr (Or.inr (Or.inl ⟨rfl, Or.inl u⟩))))))) (fun u => hk (Or.inr (Or.inr (Or.inr (Or.inr (Or.inr (Or.inl ⟨rfl, Or.inr (Or.inr (Or.inl u))⟩)))))))
      · by_cases y2 : a = 3
        · subst y2
          exact e3' k (fun u => hk (Or.inr (Or.inr (Or.inr (Or.inr (Or.inl ⟨rfl, Or.inl u⟩))))))
        · rw [f2 a (fun u => ?_)]
          have c : a = 258 ∨ a = 259 ∨ a = 260 ∨ a = 261 ∨ a = 309 ∨ a = 310 ∨ a = 311 := by omega
          rcases c with c | c | c | c | c | c | c
          · exact hk (Or.inr (Or.inr (Or.inr (Or.inr (Or.inr (Or.inr (Or.inl c)))))))
          · exact hk (Or.inl (scr_11 c))
          · exact hk (Or.inl (scr_12 c))
          · exact hk (Or.inr (Or.inr (Or.inr (Or.inr (Or.inr (Or.inr (Or.inr (Or.inl c))))))))
          · exact hk (Or.inr (Or.inr (Or.inr (Or.inr (Or.inr (Or.inr (Or.inr (Or.inr (Or.inl c)))))))))
          · exact hk (Or.inl (scr_17 c))
          · exact hk (Or.inl (scr_18 c))
    · by_cases y : a = 3
      · subst y
        exact funext e3
      · rw [f2 a (by omega), up_setA, setA_ne y]
    · refine ⟨by rw [e258, c1]; omega, by rw [e258, c1]; omega, ?_⟩
      rw [e258, e258, c1, c4]
      by_cases y : sumTo (bgW I l A n) n = 0
      · exact Or.inl ⟨by omega, s0 y⟩
      · obtain ⟨s2, s3⟩ := s1 y
        refine Or.inr ⟨by omega, s2, fun k hk => ?_⟩
        rw [fa 261 (by decide), lb 261 (by decide), fr (by omega) k (by omega), s3 k (by omega)]
  · obtain ⟨m1, m2, e1, e2, e3, hi, r1, i2⟩ := ref_emp h
    refine ⟨-1, m1, m2, ?_, ?_, i2⟩
    · have tail : Wp (X10_walked_J36 N 3 (up m 3 1 0)) (fun r => r = ((-1 : Int), m1)) := by
        unfold X10_walked_J36
        refine wp_b e1 ?_
        exact wp_some rfl
      refine wp_eq ?_
      unfold X10_walked
      refine wp_k k3 ?_
      refine wp_b g1 ?_
      refine wp_b p1 ?_
      rw [hn]
      by_cases y1 : (n : Int) < 2
      · rw [if_pos y1]; exact tail
      rw [if_neg y1]
      by_cases y2 : 10 < (n : Int)
      · rw [if_pos y2]; exact tail
      rw [if_neg y2]
      refine wp_b (b3_R b3x) ?_
      refine wp_b (x_cells psx.1 z) ?_
      have xu := x_unlike hN rx (len := n) hnl (nC I)
      rw [x4, ← bi_f (fun u => q ⟨by omega, u⟩)] at xu
      refine wp_b xu ?_
      rw [if_neg (by decide)]
      exact tail
    · have rb : Refs (up m1 264 1 0) := refs_up r1 (by decide +kernel) 0
      have mdb : MD (up m1 264 1 0) b I := md_off md (by rw [up_slot (by decide), hi 264 (by decide)]) (fun a _ _ => by rw [up_setA, setA_ne (by omega), hi a (by omega)])
      refine wp_eq ?_
      unfold X11_walked
      refine wp_k k264 ?_
      refine wp_b (g264 (by decide)) ?_
      refine wp_b (p264 (by decide) 0 m1) ?_
      rw [e3, ← t1, hn]
      refine wp_b (m_is _ _ _ _) ?_
      refine m_canL hN rb mdb z hnl (T := m 4) (fun i hi2 => by rw [up_setA, setA_ne (by decide), hi 265 (by decide)]; exact T0 i hi2) (fun u => absurd u q) (fun _ => ?_)
      show Wp (if ¬(0 : Int) = 0 then _ else _) _
      rw [if_neg (by decide)]
      refine wp_b e2 ?_
      exact wp_some rfl
