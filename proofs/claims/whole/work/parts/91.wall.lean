/-! wall -/
def wlL (l : Lnd) (c v : Int) : Lnd := fun k i => if k = 0 ∧ i = c then v else l k i
theorem gl_wl {I : Isl} {l : Lnd} (g : GL I l) {c v : Int} (c1 : c < nC I) (hv : v = 0 ∨ v = 1) : GL I (wlL l c v) := by
  obtain ⟨g1, g2, g3, g4, g5⟩ := g
  refine ⟨g1, fun u u0 u1 => ?_, fun u u0 u1 => ?_, g4, g5⟩
  · unfold wlL
    by_cases q : u = c
    · rw [if_pos ⟨rfl, q⟩]; exact hv
    · rw [if_neg (fun x => q x.2)]; exact g2 u u0 u1
  · unfold wlL
    rw [if_neg (fun x => by have := x.2; omega)]; exact g3 u u0 u1
theorem wall_ok {N : Nat} (hN : 2000 ≤ N) {m : Mem} (h : Inv m) (c w : Int) (hw : w = 0 ∨ w = 1) : ∃ v m1 m2, X10_wall N 3 c w m = some (v, m1) ∧ X11_wall N 264 c w m1 = some (v, m2) ∧ Inv m2 := by
  obtain ⟨P, b, I, l, s, h⟩ := h
  obtain ⟨r, ⟨b3, bb, b4, ps, md, mn⟩, ⟨z, n, kc, vl, cl, fx, cm⟩, ⟨hl, my, gl⟩, pa, to, zz, hg, wk, se, rd, te, fe, oe, kst⟩ := id h; have h1 := ps.1; have tc := gl.1; have hs := vl.2.2.2.2
  obtain ⟨n1, n2, n3, n4, n5, n6⟩ := id n
  have hP := b3.1
  obtain ⟨e1, e2, e3⟩ := ref_x h (k := 2) (by decide)
  have fin := bi_in ((0 ≤ c ∧ c < nC I) ∧ cont I l c = 0)
  have wi := hasW_in l c
  by_cases q : (w = 1 ∧ isF I l c = 1) ∨ (w = 0 ∧ hasW l c = 1)
  · have cc : 0 ≤ c ∧ c < nC I := by
      rcases q with ⟨_, q2⟩ | ⟨_, q2⟩
      · unfold isF at q2
        exact (bi_1.mp q2).1
      · unfold hasW at q2
        have y := bi_1.mp q2
        refine ⟨y.1, ?_⟩
        rcases Int.lt_or_le c (nC I) with u | u
        · exact u
        · have := gl.2.2.1 c u y.2.1
          omega
    have ic : isC I c = 1 := bi_1.mpr cc
    have z7 := z.2.2.2.2.2.2
    obtain ⟨cn, nx, uf, ls, pa1, pa2, pa3⟩ := pa
    have X : Wp (X10_wall N 3 c w m) (fun p => p.1 = 1 ∧ (∃ nx2, PX p.2 (min (cn + 1) 20) nx2 (psh ls cn l)) ∧ LD p.2 69 (wlL l c w) ∧ Refs p.2 ∧ p.2 3 12 = 1 ∧ p.2 250 0 = 0 ∧ ∀ a k, ¬(a = 77 ∨ 79 ≤ a ∧ a ≤ 158 ∨ a = 70 ∨ (a = 3 ∧ k = 12) ∨ (a = 250 ∧ k = 0)) → p.2 a k = m a k) := by
      have go : Wp (X10_wall_J27 N 3 c w 1 m) (fun p => p.1 = 1 ∧ (∃ nx2, PX p.2 (min (cn + 1) 20) nx2 (psh ls cn l)) ∧ LD p.2 69 (wlL l c w) ∧ Refs p.2 ∧ p.2 3 12 = 1 ∧ p.2 250 0 = 0 ∧ ∀ a k, ¬(a = 77 ∨ 79 ≤ a ∧ a ≤ 158 ∨ a = 70 ∨ (a = 3 ∧ k = 12) ∨ (a = 250 ∧ k = 0)) → p.2 a k = m a k) := by
        unfold X10_wall_J27
        rw [if_neg (by decide)]
        refine wp_b (b3_R b3) ?_
        refine wp_b (x_isCell h1 z c) ?_
        rw [ic, if_pos (by decide)]
        refine wp_b (gX7 r) ?_
        refine wp_b (gX5 r) ?_
        refine wp_bw (x_remember r hl pa1) (fun m2 hm2 => ?_)
        obtain ⟨c2, nx2, ec, px, r2, o⟩ := hm2
        subst ec
        have oo : ∀ a, ¬(a = 77 ∨ 79 ≤ a ∧ a ≤ 158) → m2 a = m a := o
        have b32 : B3 m2 P := ⟨hP, by rw [oo 3 (by decide)]; exact b3.2⟩
        have h12 : PD m2 P I := pd_off h1 fun a _ _ _ _ _ => oo a (by omega)
        have hl2 : LD m2 69 l := ld_off hl fun a _ _ => oo a (by omega)
        refine wp_b (gX5 r2) ?_
        refine wp_b (ld_R r2 hl2 (by decide)) ?_
        have sL := ld_S (L := 69) (by decide) (k := 0) (by decide)
        obtain ⟨g, e, a4, k4⟩ := ar_stE sL.1 sL.2 (by decide) (i := c) (by omega) (by show c < ((42 : Nat) : Int); omega) w m2
        have jj : Wp (X10_wall_J79 N 3 (69 + 1 + 0) c w m2) (fun p => p.1 = 1 ∧ (∃ nx2, PX p.2 (min (cn + 1) 20) nx2 (psh ls cn l)) ∧ LD p.2 69 (wlL l c w) ∧ Refs p.2 ∧ p.2 3 12 = 1 ∧ p.2 250 0 = 0 ∧ ∀ a k, ¬(a = 77 ∨ 79 ≤ a ∧ a ≤ 158 ∨ a = 70 ∨ (a = 3 ∧ k = 12) ∨ (a = 250 ∧ k = 0)) → p.2 a k = m a k) := by
          unfold X10_wall_J79
          refine wp_b e ?_
          have r3 := refs_set r2 (Or.inl sL.1) g
          refine wp_b (x_changed r3) ?_
          have ee : ∀ a, ¬a = 3 → ¬a = 250 → up (up (setA m2 (69 + 1 + 0) g) 3 12 1) 250 0 0 a = setA m2 (69 + 1 + 0) g a := fun a q1 q2 => by
            rw [up_setA, setA_ne q2, up_setA, setA_ne q1]
          obtain ⟨p1, p2, p3, p4, p5⟩ := px
          refine wp_some ⟨rfl, ⟨nx2, ?_, ?_, by omega, p4, fun i hi => ld_off (p5 i hi) fun a _ _ => by
            show up (up (setA m2 (69 + 1 + 0) g) 3 12 1) 250 0 0 a = m2 a
            rw [ee a (by omega) (by omega), setA_ne (by omega)]⟩, ⟨by decide, fun k2 i hk i0 i1 => ?_, ?_⟩, refs_up (refs_up r3 (by decide +kernel) 1) (by decide +kernel) 0, ?_, ?_, fun a k hk => ?_⟩
          · show up (up (setA m2 (69 + 1 + 0) g) 3 12 1) 250 0 0 77 2 = _
            rw [ee 77 (by decide) (by decide), setA_ne (by decide), p1]
          · show up (up (setA m2 (69 + 1 + 0) g) 3 12 1) 250 0 0 77 1 = _
            rw [ee 77 (by decide) (by decide), setA_ne (by decide)]; exact p2
          · show up (up (setA m2 (69 + 1 + 0) g) 3 12 1) 250 0 0 (69 + 1 + k2) i.toNat = _
            rw [ee (69 + 1 + k2) (by omega) (by omega)]
            have o2 := hl2.2.1 k2 i hk i0 i1
            unfold wlL
            by_cases y : k2 = 0
            · subst y
              rw [setA_same]
              by_cases y2 : i = c
              · rw [if_pos ⟨rfl, y2⟩, y2]; exact a4
              · rw [if_neg (fun x => y2 x.2), k4 _ (by omega)]; exact o2
            · rw [if_neg (fun x => y x.1), setA_ne (by omega)]; exact o2
          · show up (up (setA m2 (69 + 1 + 0) g) 3 12 1) 250 0 0 69 3 = wlL l c w 3 0
            rw [ee 69 (by decide) (by decide), setA_ne (by decide)]
            exact hl2.2.2
          · show up (up (setA m2 (69 + 1 + 0) g) 3 12 1) 250 0 0 3 12 = 1
            rw [up_obj (by decide), up_same]
          · show up (up (setA m2 (69 + 1 + 0) g) 3 12 1) 250 0 0 250 0 = 0
            rw [up_same]
          · show up (up (setA m2 (69 + 1 + 0) g) 3 12 1) 250 0 0 a k = _
            by_cases y : a = 3
            · rw [y, up_obj (by decide), up_at, if_neg (fun u => hk (Or.inr (Or.inr (Or.inr (Or.inl ⟨y, u⟩))))), setA_ne (by decide), oo 3 (by decide)]
            · by_cases y2 : a = 250
              · rw [y2, up_at, if_neg (fun u => hk (Or.inr (Or.inr (Or.inr (Or.inr ⟨y2, u⟩))))), up_obj (by decide), setA_ne (by decide), oo 250 (by decide)]
              · rw [ee a y y2, setA_ne (fun u => hk (Or.inr (Or.inr (Or.inl u)))), oo a (fun u => hk (by omega))]
        rcases hw with w0 | w0
        · rw [if_pos w0]
          rw [w0] at jj
          rw [w0]
          exact jj
        · rw [if_neg (by omega)]
          rw [w0] at jj
          rw [w0]
          exact jj
      unfold X10_wall
      refine wp_k k3 ?_
      rcases q with ⟨q1, q2⟩ | ⟨q1, q2⟩
      · rw [if_neg (by omega)]
        refine wp_b (b3_R b3) ?_
        refine wp_b (gX5 r) ?_
        refine wp_b (x_isFree hN r h1 hl z n c) ?_
        rw [q2]
        exact go
      · rw [if_pos q1]
        refine wp_b (gX5 r) ?_
        refine wp_b (x_hasWall r hl c) ?_
        rw [q2]
        exact go
    obtain ⟨⟨v1, m1⟩, ex, x1, ⟨nx2, px⟩, hl1, r1, t1, g1, f1⟩ := X
    have x1' : v1 = 1 := x1
    subst x1'
    replace f1 : ∀ a k, ¬(a = 77 ∨ 79 ≤ a ∧ a ≤ 158 ∨ a = 70 ∨ (a = 3 ∧ k = 12) ∨ (a = 250 ∧ k = 0)) → m1 a k = m a k := f1
    replace t1 : m1 3 12 = 1 := t1
    have ro : ∀ a, 263 ≤ a → m1 a = m a := fun a ha => funext fun k => f1 a k (by omega)
    have my1 : MY m1 0 l (nT I) := ml_off my fun a _ _ => ro a (by omega)
    have md1 : MD m1 b I := md_off md (by rw [ro 264 (by decide)]) (fun a _ _ => ro a (by omega))
    have pm1 : PM m1 cn uf (nT I) ls := by
      obtain ⟨p1, p2, p3, p4, p5⟩ := pa2
      exact ⟨by rw [ro 264 (by decide)]; exact p1, by rw [ro 264 (by decide)]; exact p2, p3, p4, fun i hi => ml_off (p5 i hi) fun a _ _ => ro a (by omega)⟩
    have Mm : Wp (X11_wall N 264 c w m1) (fun p => p.1 = 1 ∧ (∃ uf2, PM p.2 (min (cn + 1) 20) uf2 (nT I) (psh ls cn l)) ∧ MY p.2 0 (wlL l c w) (nT I) ∧ Refs p.2 ∧ RiF m1 p.2) := by
      have go : Wp (X11_wall_J37 N 264 c w 1 m1) (fun p => p.1 = 1 ∧ (∃ uf2, PM p.2 (min (cn + 1) 20) uf2 (nT I) (psh ls cn l)) ∧ MY p.2 0 (wlL l c w) (nT I) ∧ Refs p.2 ∧ RiF m1 p.2) := by
        unfold X11_wall_J37
        rw [if_pos (by decide)]
        refine wp_bw (m_keeps hN r1 my1 pm1) (fun m2 hm2 => ?_)
        obtain ⟨c2, uf2, ec, pm2, my2, r2, f2⟩ := hm2
        have md2 : MD m2 b I := md_off md1 (f2.2 13 (by decide)) (fun a _ _ => f2.1 a (by omega))
        refine wp_b (gR51 r2) ?_
        obtain ⟨g, e, a4, k4⟩ := ar_stE (a := 297) (n := 924) (i := c) (by decide +kernel) (by decide +kernel) (by decide) (by omega) (by omega) w m2
        have jj : Wp (X11_wall_J74 N 297 c w m2) (fun p => p.1 = 1 ∧ (∃ uf2, PM p.2 (min (cn + 1) 20) uf2 (nT I) (psh ls cn l)) ∧ MY p.2 0 (wlL l c w) (nT I) ∧ Refs p.2 ∧ RiF m1 p.2) := by
          unfold X11_wall_J74
          refine wp_b e ?_
          have ly : LyF 0 m2 (setA m2 297 g) := lyf_297 (lyf_refl 0 m2) (fun x hx => k4 x (by omega))
          obtain ⟨p1, p2, p3, p4, p5⟩ := pm2
          refine wp_some ⟨rfl, ⟨uf2, ?_, ?_, by omega, p4, fun i hi => lyf_my ly (by omega) (p5 i (by omega))⟩, ?_, lyf_refs ly r2, ⟨fun a ha => ?_, fun j hj => ?_⟩⟩
          · show setA m2 297 g 264 55 = _
            rw [setA_ne (by decide), p1, ec]
          · show setA m2 297 g 264 54 = _
            rw [setA_ne (by decide)]; exact p2
          · obtain ⟨y1, y2, y3, y4, y5, y6⟩ := my2
            refine ⟨by decide, fun i i0 i1 => ?_, fun i i0 i1 => ?_, fun i i0 i1 => ?_, ?_, y6⟩
            · show setA m2 297 g 297 (42 * 0 + i.toNat) = wlL l c w 0 i
              rw [setA_same]
              unfold wlL
              by_cases u : i = c
              · rw [if_pos ⟨rfl, u⟩, u, show 42 * 0 + c.toNat = c.toNat from by omega]; exact a4
              · rw [if_neg (fun x => u x.2), k4 _ (by omega)]; exact y2 i i0 i1
            · show setA m2 297 g 298 _ = _
              rw [setA_ne (by decide)]; exact y3 i i0 i1
            · show setA m2 297 g 299 _ = _
              rw [setA_ne (by decide)]; exact y4 i i0 i1
            · show setA m2 297 g 296 0 = _
              rw [setA_ne (by decide)]; exact y5
          · show setA m2 297 g a = _
            rw [setA_ne (by omega)]; exact f2.1 a ha
          · show setA m2 297 g 264 j = _
            rw [setA_ne (by decide)]; exact f2.2 j hj
        rcases hw with w0 | w0
        · rw [if_pos w0]
          rw [w0] at jj
          rw [w0]
          exact jj
        · rw [if_neg (by omega)]
          rw [w0] at jj
          rw [w0]
          exact jj
      unfold X11_wall
      refine wp_k k264 ?_
      refine wp_b (m_isCell r1 md1 z c) ?_
      rw [ic, if_neg (by decide)]
      rcases q with ⟨q1, q2⟩ | ⟨q1, q2⟩
      · rw [if_neg (by omega)]
        refine wp_b (m_isFree hN r1 md1 my1 z n cc.1 cc.2) ?_
        rw [q2, if_neg (by decide)]
        exact go
      · rw [if_pos q1]
        refine wp_b (m_isWall0 r1 my1 cc.1 (by omega)) ?_
        rw [q2, if_neg (by decide)]
        exact go
    obtain ⟨⟨v2, m2⟩, ey, y1, ⟨uf2, pm2⟩, my2, r2, f2⟩ := Mm
    have y1' : v2 = 1 := y1
    subst y1'
    replace f2 : RiF m1 m2 := f2
    refine ⟨1, m1, m2, ex, ey, act_end h px hl1 (fun a k hk => f1 a k fun u => hk ?_) ⟨(f1 161 0 (by decide)).trans to.1, Or.inr t1, fun u => absurd (t1.symm.trans u) (by decide)⟩ ⟨(f1 204 0 (by decide)).trans zz.1, (f1 245 0 (by decide)).trans zz.2⟩ (Or.inl g1) ((f1 3 8 (by decide)).trans se.1) pm2 my2 r2 (fun a ha => f2.1 a (by omega)) (fun a ha hb => f2.1 a (by omega)) (fun j hj => f2.2 j (by omega)) ((f2.2 56 (by decide)).trans ((f1 264 56 (by decide)).trans se.2.1)) se.2.2 (gl_wl gl cc.2 hw) (psh_gl pa1.2.2.1 gl pa3)⟩
    unfold XA
    omega
  · have nf : w = 1 → isF I l c = 0 := fun y => by
      rcases fin with u | u
      · exact u
      · exact absurd (Or.inl ⟨y, u⟩) q
    have nw : w = 0 → hasW l c = 0 := fun y => by
      rcases wi with u | u
      · exact u
      · exact absurd (Or.inr ⟨y, u⟩) q
    have z7 := z.2.2.2.2.2.2
    refine ⟨0, up m 263 2 (wI (m 263 2 + 1)), both m 2, ?_, ?_, e3⟩
    · refine wp_eq ?_
      have tail : Wp (X10_wall_J27 N 3 c w 0 m) (fun r => r = (0, up m 263 2 (wI (m 263 2 + 1)))) := by
        unfold X10_wall_J27 X10_wall_J43
        rw [if_pos rfl]
        refine wp_b e1 ?_
        exact wp_some rfl
      unfold X10_wall
      refine wp_k k3 ?_
      rcases hw with w0 | w0
      · rw [if_pos w0]
        refine wp_b (gX5 r) ?_
        refine wp_b (x_hasWall r hl c) ?_
        rw [nw w0]
        exact tail
      · rw [if_neg (by omega)]
        refine wp_b (b3_R b3) ?_
        refine wp_b (gX5 r) ?_
        refine wp_b (x_isFree hN r h1 hl z n c) ?_
        rw [nf w0]
        exact tail
    · have r1 : Refs (up m 263 2 (wI (m 263 2 + 1))) := refs_arr r (by decide +kernel) _ _
      have md1 := md_263 md 2 (wI (m 263 2 + 1))
      have my1 := my_263 my 2 (wI (m 263 2 + 1))
      refine wp_eq ?_
      have tail : Wp (X11_wall_J36 N 264 c w (up m 263 2 (wI (m 263 2 + 1)))) (fun r => r = (0, both m 2)) := by
        unfold X11_wall_J36 X11_wall_J37
        rw [if_neg (fun u => u rfl)]
        refine wp_b e2 ?_
        exact wp_some rfl
      unfold X11_wall
      refine wp_k k264 ?_
      refine wp_b (m_isCell r1 md1 z c) ?_
      by_cases y : 0 ≤ c ∧ c < nC I
      · rw [show isC I c = 1 from bi_1.mpr y, if_neg (by decide)]
        rcases hw with w0 | w0
        · rw [if_pos w0]
          refine wp_b (m_isWall0 r1 my1 y.1 (by omega)) ?_
          rw [nw w0, if_pos rfl]
          exact tail
        · rw [if_neg (by omega)]
          refine wp_b (m_isFree hN r1 md1 my1 z n y.1 y.2) ?_
          rw [nf w0, if_pos rfl]
          exact tail
      · rw [show isC I c = 0 from bi_0.mpr y, if_pos rfl]
        exact tail
