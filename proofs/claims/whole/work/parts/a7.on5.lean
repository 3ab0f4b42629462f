/-! on -/
theorem inv_ly {m m2 : Mem} {P b : Nat} {I : Isl} {l : Lnd} {s : Int} (h : InvP m P b I l s) (f : LyF 1 m m2) : InvP m2 P b I l s := by
  obtain ⟨r, ⟨b3, bb, b4, ps, md, mn⟩, ⟨z, n, kc, vl, cl, fx, cm⟩, ⟨hl, my, gl⟩, pa, to, zz, hg, wk, se, rd, te, fe, oe, kst⟩ := id h; have h1 := ps.1; have tc := gl.1; have hs := vl.2.2.2.2
  have hP := b3.1
  have n9 := n.2.2.2.1
  have e : ∀ a, a < 264 → m2 a = m a := fun a ha => f.1 a (by omega)
  refine inv_fr h (fun a k hk => ?_) ?_ ?_
  · by_cases q : 296 ≤ a ∧ a ≤ 299
    · have c : a = 296 ∨ a = 297 ∨ a = 298 ∨ a = 299 := by omega
      rcases c with c | c | c | c <;> subst c
      · exact f.2.2.2.2 k (fun u => hk (scr_19 ⟨rfl, u⟩))
      · exact f.2.1 k (fun u => hk (scr_20 ⟨rfl, by omega⟩))
      · exact f.2.2.1 k (fun u => hk (scr_21 ⟨rfl, by omega⟩))
      · exact f.2.2.2.1 k (fun u => hk (scr_22 ⟨rfl, by omega⟩))
    · rw [f.1 a q]
  · obtain ⟨t1, t2, t3⟩ := to
    refine ⟨by rw [e 161 (by decide)]; exact t1, by rw [e 3 (by decide)]; exact t2, fun q => ?_⟩
    rw [e 3 (by decide)] at q
    exact nx_off n (t3 q) (lyf_refs f r) (fun a ha => f.1 a (by omega))
  · unfold HG
    rw [e 250 (by decide), e 257 (by decide)]
    exact hg
theorem lyf_up {v : Nat} {m m2 : Mem} (h : LyF v m m2) {a : Nat} (ha : ¬(296 ≤ a ∧ a ≤ 299)) (k : Nat) (x : Int) : LyF v (up m a k x) (up m2 a k x) := by
  have e : ∀ c j, m2 c j = m c j → up m2 a k x c j = up m a k x c j := fun c j q => by
    unfold up
    by_cases y : c = a ∧ j = k
    · rw [if_pos y, if_pos y]
    · rw [if_neg y, if_neg y]; exact q
  refine ⟨fun c hc => funext fun j => e c j (by rw [h.1 c hc]), fun j hj => e 297 j (h.2.1 j hj), fun j hj => e 298 j (h.2.2.1 j hj), fun j hj => e 299 j (h.2.2.2.1 j hj), fun j hj => e 296 j (h.2.2.2.2 j hj)⟩
/-- the told alone counts -/
theorem onL_c {I : Isl} {l : Lnd} {T U : Nat → Int} {p : Int} (z : Sz I) (n : Cn I) (h : ∀ j, j ≤ imN I → T j = U j) : onL I l T p = onL I l U p := by
  have z6 := z.2.2.2.2.2.1
  have z7 := z.2.2.2.2.2.2
  have ec : (((nC I).toNat : Nat) : Int) = nC I := Int.toNat_of_nonneg z6
  obtain ⟨n1, n2, n3, n4, n5, n6⟩ := id n
  obtain ⟨oa, ob, oc, od⟩ := on_n z n
  have e0 : oWl l T p (nC I).toNat = oWl l U p (nC I).toNat := by
    funext k i
    unfold oWl
    by_cases q : k = 0
    · rw [if_pos q, if_pos q]
      by_cases y : i < ((nC I).toNat : Int)
      · rw [if_pos y, if_pos y]; exact h _ (by omega)
      · rw [if_neg y, if_neg y]
    · rw [if_neg q, if_neg q]
  have e1 : ∀ j, j ≤ nH I → oSl I l T p j = oSl I l U p j := by
    intro j
    induction j with
    | zero => intro _; exact e0
    | succ j ih =>
      intro hj
      show updL (oSl I l T p j) 1 (I 13 j) (T (o1 I + j)) = updL (oSl I l U p j) 1 (I 13 j) (U (o1 I + j))
      rw [ih (by omega), h (o1 I + j) (by omega)]
  funext k i
  unfold onL oDl
  rw [e1 (nH I) (Nat.le_refl _)]
  by_cases q : k = 2 ∧ 0 ≤ i ∧ i < nK I
  · rw [if_pos q, if_pos q]
    unfold tw
    rw [h (o2 I + 2 * i.toNat) (by omega), h (o2 I + 2 * i.toNat + 1) (by omega)]
  · rw [if_neg q, if_neg q]
theorem goM_c {I : Isl} {l : Lnd} {T U : Nat → Int} {len p : Int} (z : Sz I) (n : Cn I) (h : ∀ j, j ≤ imN I → T j = U j) (g : GoM I l T len p) : GoM I l U len p := by
  have z6 := z.2.2.2.2.2.1
  have z7 := z.2.2.2.2.2.2
  obtain ⟨n1, n2, n3, n4, n5, n6⟩ := id n
  obtain ⟨oa, ob, oc, od⟩ := on_n z n
  obtain ⟨⟨g1, g2, g3, g4, g5⟩, g6, g7⟩ := g
  refine ⟨⟨g1, g2, ?_, ?_, fun c hc => ?_⟩, fun c hc => ?_, ?_⟩
  · rw [← h (imN I) (Nat.le_refl _), ← g3]
    exact (chk_c (imN I) fun j hj => h j (by omega)).symm
  · unfold tw at g4 ⊢
    rw [← h 0 (by omega), ← h (0 + 1) (by omega)]
    exact g4
  · have w := g5 c hc
    unfold tw at w ⊢
    rw [← h (o2 I + 2 * c) (by omega), ← h (o2 I + 2 * c + 1) (by omega)]
    exact w
  · rw [← h (2 + c) (by omega)]; exact g6 c hc
  · rw [← onL_c z n h]; exact g7
theorem on_ok {N : Nat} (hN : 2000 ≤ N) {m : Mem} (h : Inv m) : ∃ v m1 m2, X10_on N 3 m = some (v, m1) ∧ X11_on N 264 m1 = some (v, m2) ∧ Inv m2 := by
  obtain ⟨P, b, I, l, s, h⟩ := h
  obtain ⟨rx, b3x, psx, hlx, tox⟩ := x_emp h
  have he := inv_emp h
  obtain ⟨r, ⟨b3, bb, b4, ps, md, mn⟩, ⟨z, n, kc, vl, cl, fx, cm⟩, ⟨hl, my, gl⟩, pa, to, zz, hg, wk, se, rd, te, fe, oe, kst⟩ := id h; have h1 := ps.1; have tc := gl.1; have hs := vl.2.2.2.2
  obtain ⟨n1, n2, n3, n4, n5, n6⟩ := id n
  have hP := b3.1
  have z6 := z.2.2.2.2.2.1
  have z7 := z.2.2.2.2.2.2
  obtain ⟨t1, t2, t3, t4⟩ := id te
  obtain ⟨oa, ob, oc, od⟩ := on_n z n
  have g1 : getI 10 1 3 m = some (m 3 1) := gtI (by decide +kernel) m
  have p1 : putI 10 1 3 0 m = some (up m 3 1 0) := ptI (by decide +kernel) 0 m
  have x4 : up m 3 1 0 4 = m 4 := by rw [up_setA, setA_ne (by decide)]
  have hbx : ∀ j : Nat, (j : Int) < m 3 1 → 0 ≤ up m 3 1 0 4 j ∧ up m 3 1 0 4 j ≤ 255 := fun j hj => by rw [x4]; exact (t4 j hj).2
  -- both tapes tell the same
  have same : ∀ p, GoM I l (m 4) (m 3 1) p ↔ GoX I (m 4) (m 3 1) := fun p => (go_same z n cl fx gl).symm
  by_cases q : GoX I (m 4) (m 3 1)
  · have qp := q.1
    obtain ⟨c0, nx0, uf0, ls0, pa1, pa2, pa3⟩ := pa
    have hb4 : ∀ j : Nat, j < imN I → 0 ≤ m 4 j ∧ m 4 j ≤ 255 := fun j hj => (t4 j (by have := qp.2.1; omega)).2
    have b0 := hb4 0 (by omega)
    have b1 := hb4 1 (by omega)
    have tp : 0 ≤ tw (m 4) 0 ∧ tw (m 4) 0 ≤ 9999 := ⟨by show 0 ≤ m 4 0 * 256 + m 4 1; omega, qp.2.2.2.1⟩
    have X : Wp (X10_on N 3 m) (fun p => p.1 = 1 ∧ Refs p.2 ∧ LD p.2 69 (onL I l (m 4) (tw (m 4) 0)) ∧ p.2 77 2 = 0 ∧ p.2 3 12 = 1 ∧ p.2 250 0 = 0 ∧ ∀ a k, ¬(69 ≤ a ∧ a ≤ 72 ∨ a = 77 ∧ k = 2 ∨ a = 3 ∧ k = 12 ∨ a = 250 ∧ k = 0) → p.2 a k = up m 3 1 0 a k) := by
      unfold X10_on
      refine wp_k k3 ?_
      refine wp_b g1 ?_
      refine wp_b p1 ?_
      refine wp_bw (x_isImage hN rx b3x psx.1 z n (len := m 3 1) hbx (Q := fun v => v = 1) (fun _ => rfl) (fun u => absurd (by rw [x4]; exact q) u)) (fun v hv => ?_)
      rw [hv, if_pos (by decide)]
      refine wp_b (gX5 rx) ?_
      refine wp_b (x_twoAt rx (j := 0) rfl (by decide) (by rw [x4]; exact b0) (by rw [x4]; exact b1)) ?_
      refine wp_b (ld_P hlx.1 _ _) ?_
      rw [x4]
      refine x_lays hN rx b3x psx.1 hlx z n cl gl.1 (fun j hj => by rw [x4]; exact hb4 j hj) (fun m2 r2 hl2 f => ?_)
      rw [x4] at hl2
      refine wp_b (gX7 r2) ?_
      refine wp_b (v := up m2 77 2 0) ?_ ?_
      · unfold X4_forget
        rw [if_pos k77.1, p77 (by decide)]
        rfl
      have r3 : Refs (up m2 77 2 0) := refs_up r2 i77.2 0
      refine wp_b (x_changed r3) ?_
      have ee : ∀ a, ¬a = 3 → ¬a = 250 → ¬a = 77 → up (up (up m2 77 2 0) 3 12 1) 250 0 0 a = m2 a := fun a q1 q2 q3 => by
        rw [up_setA, setA_ne q2, up_setA, setA_ne q1, up_setA, setA_ne q3]
      refine wp_b (v := 1) rfl ?_
      refine wp_some ⟨rfl, refs_up (refs_up r3 (by decide +kernel) 1) (by decide +kernel) 0, ld_off hl2 fun a a1 a2 => ee a (by omega) (by omega) (by omega), ?_, ?_, ?_, fun a k hk => ?_⟩
      · show up (up (up m2 77 2 0) 3 12 1) 250 0 0 77 2 = 0
        rw [up_obj (by decide), up_obj (by decide), up_same]
      · show up (up (up m2 77 2 0) 3 12 1) 250 0 0 3 12 = 1
        rw [up_obj (by decide), up_same]
      · show up (up (up m2 77 2 0) 3 12 1) 250 0 0 250 0 = 0
        exact up_same _ _ _ _
      · show up (up (up m2 77 2 0) 3 12 1) 250 0 0 a k = _
        rw [← f a (fun u => hk (Or.inl u))]
        unfold up
        rw [if_neg (fun u => hk (Or.inr (Or.inr (Or.inr u)))), if_neg (fun u => hk (Or.inr (Or.inr (Or.inl u)))), if_neg (fun u => hk (Or.inr (Or.inl u)))]
    obtain ⟨⟨v1, m1⟩, ex, x1, r1, hl1, e77, e12, e250, f1⟩ := X
    have x1' : v1 = 1 := x1
    subst x1'
    replace f1 : ∀ a k, ¬(69 ≤ a ∧ a ≤ 72 ∨ a = 77 ∧ k = 2 ∨ a = 3 ∧ k = 12 ∨ a = 250 ∧ k = 0) → m1 a k = up m 3 1 0 a k := f1
    replace hl1 : LD m1 69 (onL I l (m 4) (tw (m 4) 0)) := hl1
    replace e77 : m1 77 2 = 0 := e77
    replace e12 : m1 3 12 = 1 := e12
    replace e250 : m1 250 0 = 0 := e250
    have hi : ∀ a, 263 ≤ a → m1 a = m a := fun a ha => funext fun k => by rw [f1 a k (by omega), up_setA, setA_ne (show ¬a = 3 from by omega)]
    obtain ⟨mb, hmb⟩ : ∃ mb, mb = up m1 264 1 0 := ⟨_, rfl⟩
    have rb : Refs mb := by rw [hmb]; exact refs_up r1 (by decide +kernel) 0
    have lb : ∀ a, ¬a = 264 → mb a = m1 a := fun a ha => by rw [hmb, up_setA, setA_ne ha]
    have lb4 : ∀ k, ¬k = 1 → mb 264 k = m 264 k := fun k hk => by rw [hmb, up_at, if_neg hk, hi 264 (by decide)]
    have lbh : ∀ a, 264 < a → mb a = m a := fun a ha => by rw [lb a (by omega), hi a (by omega)]
    have mdb : MD mb b I := md_off md (lb4 13 (by decide)) (fun a _ _ => lbh a (by omega))
    have myb : MY mb 0 l (nT I) := ml_off my (fun a _ _ => lbh a (by omega))
    have eT : ∀ j : Nat, (j : Int) < m 3 1 → mb 265 j = m 4 j := fun j hj => by rw [lbh 265 (by decide)]; exact (t4 j hj).1.symm
    have eU : ∀ j, j ≤ imN I → m 4 j = mb 265 j := fun j hj => (eT j (by have := qp.2.1; omega)).symm
    have etw : tw (mb 265) 0 = tw (m 4) 0 := by unfold tw; rw [eU 0 (by omega), eU (0 + 1) (by omega)]
    have eL : onL I l (mb 265) (tw (m 4) 0) = onL I l (m 4) (tw (m 4) 0) := (onL_c z n eU).symm
    have gm : GoM I l (m 4) (m 3 1) (tw (m 4) 0) := (same _).mpr q
    have gl2 : GL I (onL I l (m 4) (tw (m 4) 0)) := on_gl z n cl gl hb4 tp gm
    have Mm : Wp (X11_on N 264 m1) (fun p => p.1 = 1 ∧ Refs p.2 ∧ MY p.2 0 (onL I l (m 4) (tw (m 4) 0)) (nT I) ∧ p.2 264 55 = 0 ∧ p.2 264 1 = 0 ∧ (∀ a, ¬(a = 264 ∨ 296 ≤ a ∧ a ≤ 299) → p.2 a = m1 a) ∧ ∀ k, ¬(k = 1 ∨ k = 55) → p.2 264 k = m 264 k) := by
      unfold X11_on
      refine wp_k k264 ?_
      refine wp_b (g264 (by decide)) ?_
      refine wp_b (p264 (by decide) 0 m1) ?_
      rw [← hmb, hi 264 (by decide), ← t1]
      refine wp_bw (m_comesOn hN rb mdb myb z n cl ⟨t2, t3⟩ (fun j hj => by rw [eT j hj]; exact (t4 j hj).2)) (fun v hv => ?_)
      obtain ⟨f, hv⟩ := hv
      rw [etw, eL] at hv
      rcases hv with ⟨v1, _, my1⟩ | ⟨_, u⟩
      · rw [v1, if_pos (by decide)]
        refine wp_bw (m_copies01 hN (lyf_refs f rb) my1) (fun m2 hm2 => ?_)
        obtain ⟨my2, f2⟩ := hm2
        refine wp_b (p264 (by decide) 0 m2) ?_
        refine wp_b (v := 1) rfl ?_
        refine wp_some ⟨rfl, refs_up (lyf_refs f2 (lyf_refs f rb)) rif_c.2.1 0, up_my my2, ?_, ?_, fun a ha => ?_, fun k hk => ?_⟩
        · show up m2 264 55 0 264 55 = 0
          exact up_same _ _ _ _
        · show up m2 264 55 0 264 1 = 0
          rw [up_slot (by decide), f2.1 264 (by decide), f.1 264 (by decide), hmb]
          exact up_same _ _ _ _
        · show up m2 264 55 0 a = m1 a
          rw [up_setA, setA_ne (by omega), f2.1 a (by omega), f.1 a (by omega), lb a (by omega)]
        · show up m2 264 55 0 264 k = m 264 k
          rw [up_at, if_neg (by omega), f2.1 264 (by decide), f.1 264 (by decide), lb4 k (by omega)]
      · exact absurd (goM_c z n eU gm) u
    obtain ⟨⟨v2, m2⟩, ey, y1, r2, my2, e55, e264, fa, fb⟩ := Mm
    have y1' : v2 = 1 := y1
    subst y1'
    replace my2 : MY m2 0 (onL I l (m 4) (tw (m 4) 0)) (nT I) := my2
    replace e55 : m2 264 55 = 0 := e55
    replace fa : ∀ a, ¬(a = 264 ∨ 296 ≤ a ∧ a ≤ 299) → m2 a = m1 a := fa
    replace fb : ∀ k, ¬(k = 1 ∨ k = 55) → m2 264 k = m 264 k := fb
    have fa2 : ∀ a, a < 264 → m2 a = m1 a := fun a ha => fa a (by omega)
    replace e264 : m2 264 1 = 0 := e264
    refine ⟨1, m1, m2, ex, ey, P, b, I, _, s, inv_act he r2 (fun a k hk => ?_) (ld_off hl1 fun a _ _ => fa2 a (by omega)) my2 gl2 ⟨0, nx0, uf0, ls0, ?_, ?_, fun i hi => absurd hi (Nat.not_lt_zero i)⟩ ⟨?_, Or.inr ?_, fun u => ?_⟩ ?_ (Or.inl ?_) ?_⟩
    · by_cases y : a = 264
      · subst y
        by_cases y2 : k = 1
        · rw [y2, e264]; exact (up_same _ _ _ _).symm
        · rw [fb k (fun u => hk (by unfold ActS; omega)), emp_at m 264 k (by omega)]
      · rw [fa a (fun u => hk (by unfold ActS; omega)), f1 a k (fun u => hk (by unfold ActS; omega))]
        unfold emp
        rw [up_setA (up m 3 1 0), setA_ne y]
    · obtain ⟨p1, p2, p3, p4, p5⟩ := pa1
      exact ⟨by rw [fa2 77 (by decide)]; exact e77, by rw [fa2 77 (by decide), f1 77 1 (by decide), up_obj (by decide)]; exact p2, by decide, p4, fun i hi => absurd hi (Nat.not_lt_zero i)⟩
    · obtain ⟨p1, p2, p3, p4, p5⟩ := pa2
      exact ⟨e55, by rw [fb 54 (by decide)]; exact p2, by decide, p4, fun i hi => absurd hi (Nat.not_lt_zero i)⟩
    · rw [fa2 161 (by decide), f1 161 0 (by decide), up_obj (by decide)]; exact to.1
    · rw [fa2 3 (by decide)]; exact e12
    · rw [fa2 3 (by decide), e12] at u
      exact absurd u (by decide)
    · rw [fa2 204 (by decide), fa2 245 (by decide), f1 204 0 (by decide), f1 245 0 (by decide), up_obj (by decide), up_obj (by decide)]; exact zz
    · rw [fa2 250 (by decide)]; exact e250
    · refine ⟨by rw [fa2 3 (by decide), f1 3 8 (by decide), up_slot (by decide)]; exact se.1, by rw [fb 56 (by decide)]; exact se.2.1, se.2.2⟩
  · obtain ⟨m1, mr, e1, e2, e3, hi, r1, i2⟩ := ref_emp h
    obtain ⟨mb, hmb⟩ : ∃ mb, mb = up m1 264 1 0 := ⟨_, rfl⟩
    have rb : Refs mb := by rw [hmb]; exact refs_up r1 (by decide +kernel) 0
    have lb4 : ∀ k, ¬k = 1 → mb 264 k = m 264 k := fun k hk => by rw [hmb, up_at, if_neg hk, hi 264 (by decide)]
    have lbh : ∀ a, 264 < a → mb a = m a := fun a ha => by rw [hmb, up_setA, setA_ne (by omega), hi a (by omega)]
    have mdb : MD mb b I := md_off md (lb4 13 (by decide)) (fun a _ _ => lbh a (by omega))
    have myb : MY mb 0 l (nT I) := ml_off my (fun a _ _ => lbh a (by omega))
    have eT : ∀ j : Nat, (j : Int) < m 3 1 → mb 265 j = m 4 j := fun j hj => by rw [lbh 265 (by decide)]; exact (t4 j hj).1.symm
    have X : X10_on N 3 m = some (0, m1) := by
      refine wp_eq ?_
      unfold X10_on
      refine wp_k k3 ?_
      refine wp_b g1 ?_
      refine wp_b p1 ?_
      refine wp_bw (x_isImage hN rx b3x psx.1 z n (len := m 3 1) hbx (Q := fun v => v = 0) (fun u => absurd (by rw [x4] at u; exact u) q) (fun _ => rfl)) (fun v hv => ?_)
      rw [hv, if_neg (fun u => u rfl)]
      refine wp_b e1 ?_
      refine wp_b (v := 0) rfl ?_
      exact wp_some rfl
    have Mm : Wp (X11_on N 264 m1) (fun p => p.1 = 0 ∧ Inv p.2) := by
      unfold X11_on
      refine wp_k k264 ?_
      refine wp_b (g264 (by decide)) ?_
      refine wp_b (p264 (by decide) 0 m1) ?_
      rw [← hmb, e3, ← t1]
      refine wp_bw (m_comesOn hN rb mdb myb z n cl ⟨t2, t3⟩ (fun j hj => by rw [eT j hj]; exact (t4 j hj).2)) (fun v hv => ?_)
      obtain ⟨f, hv⟩ := hv
      rcases hv with ⟨_, g, _⟩ | ⟨v0, _⟩
      · have qp := g.1
        exact absurd ((same (tw (mb 265) 0)).mp (goM_c z n (fun j hj => eT j (by have := qp.2.1; omega)) g)) q
      · rw [v0, if_neg (fun u => u rfl)]
        have a1 := refuse_m (lyf_refs f rb) (s := 5) (by decide) (by decide)
        have a2 := refuse_m rb (s := 5) (by decide) (by decide)
        rw [← hmb, a2] at e2
        have e4 : mr = up mb 295 5 (wI (mb 295 5 + 1)) := by
          have := Option.some.inj e2
          exact (congrArg Prod.snd this).symm
        rw [e4] at i2
        refine wp_b a1 ?_
        rw [if_pos (show (-1 : Int) < 0 from by decide)]
        refine wp_b (v := 0) rfl ?_
        obtain ⟨P2, b2, I2, l2, s2, i2⟩ := i2
        refine wp_some ⟨rfl, P2, b2, I2, l2, s2, inv_ly i2 ?_⟩
        show LyF 1 _ (up v.2 295 5 (wI (v.2 295 5 + 1)))
        rw [f.1 295 (by decide)]
        exact lyf_up f (by decide) _ _
    obtain ⟨⟨v2, m2⟩, ey, y1, iy⟩ := Mm
    have y1' : v2 = 0 := y1
    subst y1'
    exact ⟨0, m1, m2, X, ey, iy⟩
