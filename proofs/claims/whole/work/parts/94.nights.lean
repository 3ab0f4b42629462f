/-! nights -/
theorem nLd_sm (I : Isl) (s : Int) (l : Lnd) (j : Nat) : Sm l (nLd I s l j) := by
  induction j with
  | zero => exact ⟨fun _ => rfl, fun _ => rfl⟩
  | succ j ih => exact ⟨fun c => (ih.1 c).trans ((sm_pou I (nLd I s l j) _).1 c), fun t => (ih.2 t).trans ((sm_pou I (nLd I s l j) _).2 t)⟩
theorem nights_ok {N : Nat} (hN : 2000 ≤ N) {m : Mem} (h : Inv m) (k : Int) : ∃ v m1 m2, X10_nights N 3 k m = some (v, m1) ∧ X11_nights N 264 k m1 = some (v, m2) ∧ Inv m2 := by
  obtain ⟨P, b, I, l, s, h⟩ := h
  obtain ⟨r, ⟨b3, bb, b4, ps, md, mn⟩, ⟨z, n, kc, vl, cl, fx, cm⟩, ⟨hl, my, gl⟩, pa, to, zz, hg, wk, se, rd, te, fe, oe, kst⟩ := id h; have h1 := ps.1; have tc := gl.1; have hs := vl.2.2.2.2
  obtain ⟨n1, n2, n3, n4, n5, n6⟩ := id n
  have hP := b3.1
  have dr := gl.2.2.2.1
  obtain ⟨e1, e2, e3⟩ := ref_x h (k := 3) (by decide)
  by_cases q : (1 ≤ k ∧ k ≤ 40) ∧ 0 < I 0 0 ∧ l 3 0 + k ≤ 9999
  · obtain ⟨cn, nx, uf, ls, pa1, pa2, pa3⟩ := pa
    obtain ⟨kn, rfl⟩ : ∃ d : Nat, k = (d : Int) := ⟨k.toNat, (Int.toNat_of_nonneg (by omega)).symm⟩
    have X : Wp (X10_nights N 3 kn m) (fun p => p.1 = nSm I s l kn ∧ (∃ nx2, PX p.2 (min (cn + 1) 20) nx2 (psh ls cn l)) ∧ LD p.2 69 (nLd I s l kn) ∧ TO p.2 P I (nLd I s l kn) ∧ Refs p.2 ∧ (p.2 245 0 = 0 ∧ p.2 204 0 = 0 ∧ p.2 3 8 = sdN s (12 * kn)) ∧ (∀ j, ¬j = 8 → p.2 3 j = m 3 j) ∧ ∀ a, ¬a = 3 → ¬(a = 77 ∨ 79 ≤ a ∧ a ≤ 158 ∨ a = 69 ∨ a = 72 ∨ 203 ≤ a ∧ a ≤ 245 ∨ a = P + 27 ∨ a = P + 27) → p.2 a = m a) := by
      unfold X10_nights
      refine wp_k k3 ?_
      rw [if_neg (by omega), if_neg (by omega)]
      refine wp_b (x_canPass r b3 h1 hl z dr (by omega) (by omega)) ?_
      rw [← bi_t q.2, if_pos (by decide)]
      refine wp_b (gX7 r) ?_
      refine wp_b (gX5 r) ?_
      refine wp_bw (x_remember r hl pa1) (fun m2 hm2 => ?_)
      obtain ⟨c2, nx2, ec, px, r2, o⟩ := hm2
      subst ec
      have oo : ∀ a, ¬(a = 77 ∨ 79 ≤ a ∧ a ≤ 158) → m2 a = m a := o
      have b32 : B3 m2 P := ⟨hP, by rw [oo 3 (by decide)]; exact b3.2⟩
      have ps2 : PS m2 P I := ⟨pd_off h1 fun a _ _ _ _ _ => oo a (by omega), sd_off ps.2.1 (fun q q1 q2 => oo q (by omega)), sd_off ps.2.2 (fun q q1 q2 => oo q (by omega))⟩
      have hl2 : LD m2 69 l := ld_off hl fun a _ _ => oo a (by omega)
      have to2 : TO m2 P I l := to_same n hP to r2 fun a ha => oo a (by omega)
      refine wp_c (x_nightsL hN r2 b32 ps2 hl2 z n vl kc gl (by rw [oo 3 (by decide)]; exact se.1) se.2.2.1 se.2.2.2 (by rw [oo 245 (by decide)]; exact zz.2) (by rw [oo 204 (by decide)]; exact zz.1) (by omega) (by omega)) (fun p hp => ?_)
      obtain ⟨p1, p2, p3, p4, p5, p6, f⟩ := hp
      have f1 : ∀ a, ¬a = 3 → ¬(a = 245 ∨ (203 ≤ a ∧ a ≤ 244 ∧ ¬a = 208 ∧ ¬a = 220 ∧ ¬a = 232) ∨ a = P + 27 ∨ a = P + 27 ∨ a = 69 ∨ a = 72) → p.2 a = m2 a := f.1
      have e3' : p.2 3 12 = m2 3 12 := f.2 12 (by decide)
      refine ⟨p1, ⟨nx2, px_same px fun a ha => f1 a (by omega) (by omega)⟩, p3, ?_, p2, ⟨p5, p6, p4⟩, fun j hj => ?_, fun a a3 ha => ?_⟩
      · obtain ⟨t1, t2, t3⟩ := to2
        refine ⟨by rw [f1 161 (by decide) (by omega)]; exact t1, by rw [e3']; exact t2, fun u => ?_⟩
        rw [e3'] at u
        obtain ⟨⟨k1, k2, k3, k4, k5, k6⟩, k7, k8⟩ := t3 u
        have g1 : ∀ a, (160 ≤ a ∧ a ≤ 201) ∨ (P ≤ a ∧ a ≤ P + 28 ∧ ¬a = P + 27 ∧ ¬a = P + 27) → p.2 a = m2 a := fun a ha => f1 a (by omega) (by omega)
        refine nx_c (nLd_sm I s l kn) ⟨⟨p2, sd_off k2 (fun q q1 q2 => g1 q (by omega)), sd_off k3 (fun q q1 q2 => g1 q (by omega)), ?_, ?_, ?_⟩, fun t ht => lay_off (k7 t ht) ⟨g1 (159 + 7 + t) (by omega), g1 (159 + 19 + t) (by omega), g1 (159 + 31 + t) (by omega)⟩, ?_⟩
        · rw [g1 (159 + 1) (by omega)]; exact k4
        · rw [g1 (159 + 2) (by omega)]; exact k5
        · rw [g1 (159 + 4) (by omega)]; exact k6
        · rw [g1 (159 + 42) (by omega)]; exact k8
      · rw [f.2 j hj, oo 3 (by decide)]
      · rw [f1 a a3 (by omega), oo a (by omega)]
    obtain ⟨⟨v1, m1⟩, ex, x1, ⟨nx2, px⟩, hl1, t1, r1, zs, s1, f1⟩ := X
    replace x1 : v1 = nSm I s l kn := x1
    replace zs : m1 245 0 = 0 ∧ m1 204 0 = 0 ∧ m1 3 8 = sdN s (12 * kn) := zs
    replace s1 : ∀ j, ¬j = 8 → m1 3 j = m 3 j := s1
    replace f1 : ∀ a, ¬a = 3 → ¬(a = 77 ∨ 79 ≤ a ∧ a ≤ 158 ∨ a = 69 ∨ a = 72 ∨ 203 ≤ a ∧ a ≤ 245 ∨ a = P + 27 ∨ a = P + 27) → m1 a = m a := f1
    have ro : ∀ a, 246 ≤ a → m1 a = m a := fun a ha => f1 a (by omega) (by omega)
    have my1 : MY m1 0 l (nT I) := ml_off my fun a _ _ => ro a (by omega)
    have md1 : MD m1 b I := md_off md (by rw [ro 264 (by decide)]) (fun a _ _ => ro a (by omega))
    have pm1 : PM m1 cn uf (nT I) ls := by
      obtain ⟨p1, p2, p3, p4, p5⟩ := pa2
      exact ⟨by rw [ro 264 (by decide)]; exact p1, by rw [ro 264 (by decide)]; exact p2, p3, p4, fun i hi => ml_off (p5 i hi) fun a _ _ => ro a (by omega)⟩
    have Mm : Wp (X11_nights N 264 kn m1) (fun p => p.1 = nSm I s l kn ∧ (∃ uf2, PM p.2 (min (cn + 1) 20) uf2 (nT I) (psh ls cn l)) ∧ MY p.2 0 (nLd I s l kn) (nT I) ∧ Refs p.2 ∧ (∀ a, ¬(a = 264 ∨ 296 ≤ a ∧ a ≤ 305) → p.2 a = m1 a) ∧ (∀ j, ¬(j = 54 ∨ j = 55 ∨ j = 56 ∨ 58 ≤ j ∧ j ≤ 61) → p.2 264 j = m1 264 j) ∧ p.2 264 56 = sdN s (12 * kn)) := by
      unfold X11_nights
      refine wp_k k264 ?_
      refine wp_b (m_island r1 md1) ?_
      rw [← bi_t q.2.1, if_neg (by decide)]
      refine wp_b (m_is _ _ _ _) ?_
      rw [← bi_t q.1, if_neg (by decide)]
      refine wp_b (gR50 r1) ?_
      refine wp_b (arI 22 (by decide +kernel) (by decide) (by decide) _) ?_
      rw [show (0 : Int).toNat = 0 from rfl, my1.2.2.2.2.1, wI_of2 (x := l 3 0 + (kn : Int)) (by have := dr.2.2.2; omega) (by omega), if_pos q.2.2]
      refine wp_bw (m_keeps hN r1 my1 pm1) (fun m2 hm2 => ?_)
      obtain ⟨c2, uf2, ec, pm2, my2, r2, f2⟩ := hm2
      subst ec
      have md2 : MD m2 b I := md_off md1 (f2.2 13 (by decide)) (fun a _ _ => f2.1 a (by omega))
      refine wp_c (m_nightsL hN r2 md2 my2 z n vl kc gl (s := s) (by rw [f2.2 56 (by decide), ro 264 (by decide)]; exact se.2.1) se.2.2.1 se.2.2.2 (by omega) (by omega)) (fun w hw => ?_)
      obtain ⟨w1, w2, w3, w4⟩ := hw
      exact ⟨w1, ⟨uf2, pm_ng pm2 w4⟩, w2, ngf_refs w4 r2, fun a ha => by rw [w4.1 a (by omega), f2.1 a (by omega)], fun j hj => by rw [w4.2.1 j (by omega), f2.2 j (by omega)], w3⟩
    obtain ⟨⟨v2, m2⟩, ey, y1, ⟨uf2, pm2⟩, my2, r2, fa, fc, f56⟩ := Mm
    replace y1 : v2 = nSm I s l kn := y1
    subst x1
    subst y1
    replace fa : ∀ a, ¬(a = 264 ∨ 296 ≤ a ∧ a ≤ 305) → m2 a = m1 a := fa
    refine ⟨_, m1, m2, ex, ey, act_end (m1 := m1) (m2 := m2) h px hl1 (fun a k hk => ?_) t1 ⟨zs.2.1, zs.1⟩ (hg_c (nLd_sm I s l kn) ?_) zs.2.2 pm2 my2 r2 (fun a ha => fa a (by omega)) (fun a ha hb => fa a (by omega)) fc f56 (sdN_in se.2.2.1 se.2.2.2 _) (gl_nLd n s gl kn q.2.2) (psh_gl pa1.2.2.1 gl pa3)⟩
    · by_cases y : a = 3
      · subst y
        exact s1 k fun u => hk (by unfold XA; omega)
      · rw [f1 a y fun u => hk (by unfold XA; omega)]
    · unfold HG
      rw [ro 250 (by decide), ro 257 (by decide)]
      exact hg
  · refine ⟨-1, up m 263 3 (wI (m 263 3 + 1)), both m 3, ?_, ?_, e3⟩
    · have tail : Wp (X10_nights_J19 N 3 m) (fun r => r = (-1, up m 263 3 (wI (m 263 3 + 1)))) := by
        unfold X10_nights_J19
        refine wp_b e1 ?_
        exact wp_some rfl
      refine wp_eq ?_
      unfold X10_nights
      refine wp_k k3 ?_
      by_cases y : 1 ≤ k ∧ k ≤ 40
      · rw [if_neg (by omega), if_neg (by omega)]
        refine wp_b (x_canPass r b3 h1 hl z dr (by omega) (by omega)) ?_
        rw [← bi_f (fun u => q ⟨y, u⟩), if_neg (fun u => u rfl)]
        exact tail
      · by_cases y2 : k < 1
        · rw [if_pos y2]; exact tail
        · rw [if_neg y2, if_pos (by omega)]; exact tail
    · have r1 : Refs (up m 263 3 (wI (m 263 3 + 1))) := refs_arr r (by decide +kernel) _ _
      have md1 := md_263 md 3 (wI (m 263 3 + 1))
      have my1 := my_263 my 3 (wI (m 263 3 + 1))
      have tail : Wp (X11_nights_J31 N 264 (up m 263 3 (wI (m 263 3 + 1)))) (fun r => r = (-1, both m 3)) := by
        unfold X11_nights_J31
        refine wp_b e2 ?_
        exact wp_some rfl
      refine wp_eq ?_
      unfold X11_nights
      refine wp_k k264 ?_
      refine wp_b (m_island r1 md1) ?_
      by_cases y : 0 < I 0 0
      · rw [← bi_t y, if_neg (by decide)]
        refine wp_b (m_is _ _ _ _) ?_
        by_cases y2 : 1 ≤ k ∧ k ≤ 40
        · rw [← bi_t y2, if_neg (by decide)]
          refine wp_b (gR50 r1) ?_
          refine wp_b (arI 22 (by decide +kernel) (by decide) (by decide) _) ?_
          have e5 := my1.2.2.2.2.1
          rw [show (0 : Int).toNat = 0 from rfl, e5, wI_of2 (x := l 3 0 + k) (by have := dr.2.2.2; omega) (by have := dr.2.2.2; omega), if_neg (fun u => q ⟨y2, y, u⟩)]
          exact tail
        · rw [← bi_f y2, if_pos rfl]
          exact tail
      · rw [← bi_f y, if_pos rfl]
        exact tail
