/-! night -/
theorem px_same {m m2 : Mem} {c nx : Nat} {ls : Nat → Lnd} (p : PX m c nx ls) (e : ∀ a, a = 77 ∨ 79 ≤ a ∧ a ≤ 158 → m2 a = m a) : PX m2 c nx ls := by
  obtain ⟨p1, p2, p3, p4, p5⟩ := p
  exact ⟨by rw [e 77 (by omega)]; exact p1, by rw [e 77 (by omega)]; exact p2, p3, p4, fun i hi => ld_off (p5 i hi) fun a _ _ => e a (by omega)⟩
theorem pm_ng {m m2 : Mem} {c uf n : Nat} {ls : Nat → Lnd} (p : PM m c uf n ls) (f : NgF m m2) : PM m2 c uf n ls := by
  obtain ⟨p1, p2, p3, p4, p5⟩ := p
  exact ⟨by rw [f.2.1 55 (by decide)]; exact p1, by rw [f.2.1 54 (by decide)]; exact p2, p3, p4, fun i hi => f.2.2 _ _ _ (by omega) (p5 i hi)⟩
theorem night_ok {N : Nat} (hN : 2000 ≤ N) {m : Mem} (h : Inv m) : ∃ v m1 m2, X10_night N 3 m = some (v, m1) ∧ X11_night N 264 m1 = some (v, m2) ∧ Inv m2 := by
  obtain ⟨P, b, I, l, s, h⟩ := h
  obtain ⟨r, ⟨b3, bb, b4, ps, md, mn⟩, ⟨z, n, kc, vl, cl, fx, cm⟩, ⟨hl, my, gl⟩, pa, to, zz, hg, wk, se, rd, te, fe, oe, kst⟩ := id h; have h1 := ps.1; have tc := gl.1; have hs := vl.2.2.2.2
  obtain ⟨n1, n2, n3, n4, n5, n6⟩ := id n
  have hP := b3.1
  have dr := gl.2.2.2.1
  obtain ⟨e1, e2, e3⟩ := ref_x h (k := 3) (by decide)
  by_cases q : 0 < I 0 0 ∧ l 3 0 + 1 ≤ 9999
  · obtain ⟨cn, nx, uf, ls, pa1, pa2, pa3⟩ := pa
    have X : Wp (X10_night N 3 m) (fun p => p.1 = pouS (cms I l (I 15)) (nK I) ∧ (∃ nx2, PX p.2 (min (cn + 1) 20) nx2 (psh ls cn l)) ∧ LD p.2 69 (pouL I l (cms I l (I 15))) ∧ TO p.2 P I (pouL I l (cms I l (I 15))) ∧ Refs p.2 ∧ (∀ j, ¬j = 12 → p.2 3 j = m 3 j) ∧ ∀ a, ¬a = 3 → ¬(a = 77 ∨ 79 ≤ a ∧ a ≤ 158 ∨ a = 69 ∨ a = 72 ∨ 160 ≤ a ∧ a ≤ 201 ∨ a = P + 27 ∨ a = P + 27) → p.2 a = m a) := by
      unfold X10_night
      refine wp_k k3 ?_
      refine wp_b (x_canPass r b3 h1 hl z dr (by decide) (by decide)) ?_
      rw [← bi_t q, if_pos (by decide)]
      refine wp_b (gX7 r) ?_
      refine wp_b (gX5 r) ?_
      refine wp_bw (x_remember r hl pa1) (fun m2 hm2 => ?_)
      obtain ⟨c2, nx2, ec, px, r2, o⟩ := hm2
      subst ec
      have oo : ∀ a, ¬(a = 77 ∨ 79 ≤ a ∧ a ≤ 158) → m2 a = m a := o
      have b32 : B3 m2 P := ⟨hP, by rw [oo 3 (by decide)]; exact b3.2⟩
      have ps2 : PS m2 P I := ⟨pd_off h1 fun a _ _ _ _ _ => oo a (by omega), sd_off ps.2.1 (fun q q1 q2 => oo q (by omega)), sd_off ps.2.2 (fun q q1 q2 => oo q (by omega))⟩
      have hl2 : LD m2 69 l := ld_off hl fun a _ _ => oo a (by omega)
      have to2 : TO m2 P I l := to_same n hP to r2 fun a ha => oo a (by omega)
      refine wp_b (gX5 r2) ?_
      refine wp_b (b3_R b32) ?_
      refine wp_bw (x_told hN r2 b32 ps2 hl2 z n vl kc tc to2) (fun p hp => ?_)
      obtain ⟨p1, p2, p3, f⟩ := hp
      have f1 : ∀ a, ¬a = 3 → ¬((159 + 1 ≤ a ∧ a ≤ 159 + 42 ∧ ¬a = 159 + 6 ∧ ¬a = 159 + 18 ∧ ¬a = 159 + 30) ∨ a = P + 27 ∨ a = P + 27) → p.2 a = m2 a := f.1
      have r3 := p2.1.1
      rw [p1]
      have hp3 : PD p.2 P I := pd_off ps2.1 fun a _ _ _ _ _ => f1 a (by omega) (by omega)
      have hl3 : LD p.2 69 l := ld_off hl2 fun a _ _ => f1 a (by omega) (by omega)
      refine wp_bw (x_pour hN (T := 159) r3 (Or.inl rfl) hp3 hl3 n dr p2.2.2 (cms_in n _ _) (by omega)) (fun w hw => ?_)
      obtain ⟨w1, w2, w3, w4⟩ := hw
      have o4 : ∀ a, ¬(a = 69 ∨ a = 69 + 3) → w.2 a = p.2 a := w4
      have to3 : TO p.2 P I l := ⟨p2.1.2.2.2.2.1 0 (by decide), Or.inl p3, fun _ => p2⟩
      have to4 : TO w.2 P I l := to_same n hP to3 w3 fun a ha => o4 a (by omega)
      refine wp_some ⟨w1, ⟨nx2, px_same px fun a ha => ?_⟩, w2, ⟨to4.1, to4.2.1, fun u => nx_c (sm_pou I l _) (to4.2.2 u)⟩, w3, fun j hj => ?_, fun a a3 ha => ?_⟩
      · show w.2 a = m2 a
        rw [o4 a (by omega), f1 a (by omega) (by omega)]
      · show w.2 3 j = m 3 j
        rw [o4 3 (by decide), f.2 j hj, oo 3 (by decide)]
      · show w.2 a = m a
        rw [o4 a (by omega), f1 a a3 (by omega), oo a (by omega)]
    obtain ⟨⟨v1, m1⟩, ex, x1, ⟨nx2, px⟩, hl1, t1, r1, s1, f1⟩ := X
    replace x1 : v1 = pouS (cms I l (I 15)) (nK I) := x1
    replace f1 : ∀ a, ¬a = 3 → ¬(a = 77 ∨ 79 ≤ a ∧ a ≤ 158 ∨ a = 69 ∨ a = 72 ∨ 160 ≤ a ∧ a ≤ 201 ∨ a = P + 27 ∨ a = P + 27) → m1 a = m a := f1
    replace s1 : ∀ j, ¬j = 12 → m1 3 j = m 3 j := s1
    have ro : ∀ a, 246 ≤ a → m1 a = m a := fun a ha => f1 a (by omega) (by omega)
    have my1 : MY m1 0 l (nT I) := ml_off my fun a _ _ => ro a (by omega)
    have md1 : MD m1 b I := md_off md (by rw [ro 264 (by decide)]) (fun a _ _ => ro a (by omega))
    have pm1 : PM m1 cn uf (nT I) ls := by
      obtain ⟨p1, p2, p3, p4, p5⟩ := pa2
      exact ⟨by rw [ro 264 (by decide)]; exact p1, by rw [ro 264 (by decide)]; exact p2, p3, p4, fun i hi => ml_off (p5 i hi) fun a _ _ => ro a (by omega)⟩
    have Mm : Wp (X11_night N 264 m1) (fun p => p.1 = pouS (cms I l (I 15)) (nK I) ∧ (∃ uf2, PM p.2 (min (cn + 1) 20) uf2 (nT I) (psh ls cn l)) ∧ MY p.2 0 (pouL I l (cms I l (I 15))) (nT I) ∧ Refs p.2 ∧ (∀ a, ¬(a = 264 ∨ 296 ≤ a ∧ a ≤ 305) → p.2 a = m1 a) ∧ (∀ j, ¬(j = 54 ∨ j = 55 ∨ j = 56 ∨ 58 ≤ j ∧ j ≤ 61) → p.2 264 j = m1 264 j) ∧ p.2 264 56 = m1 264 56) := by
      unfold X11_night
      refine wp_k k264 ?_
      refine wp_b (m_island r1 md1) ?_
      rw [← bi_t q.1, if_neg (by decide)]
      refine wp_b (gR50 r1) ?_
      refine wp_b (arI 22 (by decide +kernel) (by decide) (by decide) _) ?_
      rw [show (0 : Int).toNat = 0 from rfl, my1.2.2.2.2.1, if_pos (by omega)]
      refine wp_bw (m_keeps hN r1 my1 pm1) (fun m2 hm2 => ?_)
      obtain ⟨c2, uf2, ec, pm2, my2, r2, f2⟩ := hm2
      subst ec
      have md2 : MD m2 b I := md_off md1 (f2.2 13 (by decide)) (fun a _ _ => f2.1 a (by omega))
      refine wp_bw (m_told (v := 0) hN r2 md2 my2 z n vl tc) (fun m3 hm3 => ?_)
      obtain ⟨f3, nm⟩ := hm3
      have r3 := ntf_refs f3 r2
      refine wp_bw (m_fills hN r3 (ntf_md f3 md2) (ntf_my f3 my2) z n kc tc dr nm) (fun w hw => ?_)
      obtain ⟨w1, w2, w3⟩ := hw
      have e264 : w.2 264 = m3 264 := lyf_264 w3
      refine wp_some ⟨w1, ⟨uf2, pm_ng pm2 (ngf_trans (ngf_ntf f3) (ngf_lyf w3))⟩, w2, lyf_refs w3 r3, fun a ha => ?_, fun j hj => ?_, ?_⟩
      · show w.2 a = m1 a
        rw [w3.1 a (by omega), f3.1 a (by omega), f2.1 a (by omega)]
      · show w.2 264 j = m1 264 j
        rw [e264, f3.2 j (by omega), f2.2 j (by omega)]
      · show w.2 264 56 = m1 264 56
        rw [e264, f3.2 56 (by decide), f2.2 56 (by decide)]
    obtain ⟨⟨v2, m2⟩, ey, y1, ⟨uf2, pm2⟩, my2, r2, fa, fc, f56⟩ := Mm
    replace y1 : v2 = pouS (cms I l (I 15)) (nK I) := y1
    subst x1
    subst y1
    replace fa : ∀ a, ¬(a = 264 ∨ 296 ≤ a ∧ a ≤ 305) → m2 a = m1 a := fa
    replace fc : ∀ j, ¬(j = 54 ∨ j = 55 ∨ j = 56 ∨ 58 ≤ j ∧ j ≤ 61) → m2 264 j = m1 264 j := fc
    replace f56 : m2 264 56 = m1 264 56 := f56
    refine ⟨_, m1, m2, ex, ey, act_end (m1 := m1) (m2 := m2) h px hl1 (fun a k hk => ?_) t1 ?_ (hg_c (sm_pou I l _) ?_) ((s1 8 (by decide)).trans se.1) pm2 my2 r2 (fun a ha => fa a (by omega)) (fun a ha hb => fa a (by omega)) fc ?_ se.2.2 (gl_pou n gl _ q.2) (psh_gl pa1.2.2.1 gl pa3)⟩
    · by_cases y : a = 3
      · subst y
        exact s1 k fun u => hk (by unfold XA; omega)
      · rw [f1 a y fun u => hk (by unfold XA; omega)]
    · rw [f1 204 (by decide) (by omega), f1 245 (by decide) (by omega)]; exact zz
    · unfold HG
      rw [ro 250 (by decide), ro 257 (by decide)]
      exact hg
    · rw [f56, ro 264 (by decide)]; exact se.2.1
  · refine ⟨-1, up m 263 3 (wI (m 263 3 + 1)), both m 3, ?_, ?_, e3⟩
    · refine wp_eq ?_
      unfold X10_night
      refine wp_k k3 ?_
      refine wp_b (x_canPass r b3 h1 hl z dr (by decide) (by decide)) ?_
      rw [← bi_f q, if_neg (fun u => u rfl)]
      refine wp_b e1 ?_
      exact wp_some rfl
    · have r1 : Refs (up m 263 3 (wI (m 263 3 + 1))) := refs_arr r (by decide +kernel) _ _
      have md1 := md_263 md 3 (wI (m 263 3 + 1))
      have my1 := my_263 my 3 (wI (m 263 3 + 1))
      have tail : Wp (X11_night_J19 N 264 (up m 263 3 (wI (m 263 3 + 1)))) (fun r => r = (-1, both m 3)) := by
        unfold X11_night_J19
        refine wp_b e2 ?_
        exact wp_some rfl
      refine wp_eq ?_
      unfold X11_night
      refine wp_k k264 ?_
      refine wp_b (m_island r1 md1) ?_
      by_cases y : 0 < I 0 0
      · rw [← bi_t y, if_neg (by decide)]
        refine wp_b (gR50 r1) ?_
        refine wp_b (arI 22 (by decide +kernel) (by decide) (by decide) _) ?_
        have e5 := my1.2.2.2.2.1
        rw [show (0 : Int).toNat = 0 from rfl, e5, if_neg (fun u => u (by have := dr.2.2.2.2; omega))]
        exact tail
      · rw [← bi_f y, if_pos rfl]
        exact tail
