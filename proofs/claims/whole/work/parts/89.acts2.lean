/-! what an act changes -/
def ActS (P a k : Nat) : Prop := (a = 3 ∧ (k = 8 ∨ k = 12)) ∨ (69 ≤ a ∧ a ≤ 72) ∨ a = 77 ∨ (79 ≤ a ∧ a ≤ 158) ∨ (160 ≤ a ∧ a ≤ 201) ∨ (203 ≤ a ∧ a ≤ 245) ∨ (a = 250 ∧ k = 0) ∨ a = P + 27 ∨ a = P + 27 ∨ (a = 264 ∧ (k = 54 ∨ k = 55 ∨ k = 56 ∨ 58 ≤ k ∧ k ≤ 61)) ∨ (296 ≤ a ∧ a ≤ 305)
theorem inv_act {m m2 : Mem} {P b : Nat} {I : Isl} {l l2 : Lnd} {s s2 : Int} (h : InvP m P b I l s) (r2 : Refs m2) (f : ∀ a k, ¬ActS P a k → m2 a k = m a k) (hl2 : LD m2 69 l2) (my2 : MY m2 0 l2 (nT I)) (gl2 : GL I l2) (pa2 : PaE m2 I) (to2 : TO m2 P I l2) (z2 : m2 204 0 = 0 ∧ m2 245 0 = 0) (hg2 : HG m2 I l2) (se2 : SeedE m2 s2) : InvP m2 P b I l2 s2 := by
  obtain ⟨h1, ⟨b1, b2, b3, b4, b5, b6⟩, h3, _, _, _, _, _, h12, _, h14, h15, h16, h17, h18⟩ := h
  have hP := b1.1
  have ro : ∀ a, (∀ k, ¬ActS P a k) → m2 a = m a := fun a ha => funext fun k => f a k (ha k)
  refine ⟨r2, ⟨⟨hP, by rw [f 3 3 (by unfold ActS; omega)]; exact b1.2⟩, b2, by rw [f 3 4 (by unfold ActS; omega)]; exact b3, ⟨pd_off b4.1 fun a a1 a2 _ _ _ => ro a (fun k => by unfold ActS; omega), sd_off b4.2.1 (fun q q1 q2 => ro q (fun k => by unfold ActS; omega)), sd_off b4.2.2 (fun q q1 q2 => ro q (fun k => by unfold ActS; omega))⟩, md_off b5 (f 264 13 (by unfold ActS; omega)) (fun a _ _ => ro a (fun k => by unfold ActS; omega)), ?_⟩, h3, ⟨hl2, my2, gl2⟩, pa2, to2, z2, hg2, ?_, se2, ?_, ?_, ?_, ?_, kst_off h18 (ro 1 (fun k => by unfold ActS; omega)) (ro 2 (fun k => by unfold ActS; omega)) (ro 7 (fun k => by unfold ActS; omega))⟩
  · unfold MN
    rw [ro 272 (fun k => by unfold ActS; omega), ro 289 (fun k => by unfold ActS; omega), ro 290 (fun k => by unfold ActS; omega)]
    exact b6
  · unfold WK
    rw [f 258 1 (by unfold ActS; omega), f 258 4 (by unfold ActS; omega), f 264 72 (by unfold ActS; omega), ro 261 (fun k => by unfold ActS; omega), ro 309 (fun k => by unfold ActS; omega)]
    exact h12
  · intro j hj
    rw [f 263 j (by unfold ActS; omega), f 295 j (by unfold ActS; omega)]
    exact h14 j hj
  · unfold TapeEq
    rw [f 3 1 (by unfold ActS; omega), f 264 1 (by unfold ActS; omega), ro 4 (fun k => by unfold ActS; omega), ro 265 (fun k => by unfold ActS; omega)]
    exact h15
  · unfold FaultEq
    rw [f 5 9 (by unfold ActS; omega), f 5 10 (by unfold ActS; omega), f 264 10 (by unfold ActS; omega), f 264 11 (by unfold ActS; omega)]
    exact h16
  · unfold OutEq
    rw [f 3 17 (by unfold ActS; omega), f 264 77 (by unfold ActS; omega), ro 262 (fun k => by unfold ActS; omega), ro 312 (fun k => by unfold ActS; omega)]
    exact h17
/-- a refusal of both -/
theorem inv_ref {m : Mem} {P b : Nat} {I : Isl} {l : Lnd} {s : Int} (h : InvP m P b I l s) {k : Nat} (hk : k < 6) : InvP (both m k) P b I l s := by
  obtain ⟨h1, ⟨b1, b2, b3, b4, b5, b6⟩, h3, ⟨h4, h5, h6⟩, ⟨c, nx, uf, ls, pa1, pa2, pa3⟩, ⟨t1, t2, t3⟩, h10, h11, h12, h13, h14, h15, h16, h17, h18⟩ := h
  have hP := b1.1
  have ro : ∀ a, ¬a = 263 → ¬a = 295 → both m k a = m a := fun a q1 q2 => by
    unfold both
    rw [up_setA, setA_ne q2, up_setA, setA_ne q1]
  have r2 : Refs (both m k) := refs_arr (refs_arr h1 (by decide +kernel) _ _) (by decide +kernel) _ _
  refine ⟨r2, ⟨⟨hP, by rw [ro 3 (by decide) (by decide)]; exact b1.2⟩, b2, by rw [ro 3 (by decide) (by decide)]; exact b3, ⟨pd_off b4.1 fun a a1 a2 _ _ _ => ro a (by omega) (by omega), sd_off b4.2.1 (fun q q1 q2 => ro q (by omega) (by omega)), sd_off b4.2.2 (fun q q1 q2 => ro q (by omega) (by omega))⟩, md_off b5 (by rw [ro 264 (by decide) (by decide)]) (fun a _ _ => ro a (by omega) (by omega)), ?_⟩, h3, ⟨ld_off h4 (fun a _ _ => ro a (by omega) (by omega)), ml_off h5 (fun a _ _ => ro a (by omega) (by omega)), h6⟩, ⟨c, nx, uf, ls, ?_, ?_, pa3⟩, ⟨by rw [ro 161 (by decide) (by decide)]; exact t1, by rw [ro 3 (by decide) (by decide)]; exact t2, fun q => ?_⟩, by rw [ro 204 (by decide) (by decide), ro 245 (by decide) (by decide)]; exact h10, ?_, ?_, ?_, refd_both h14 k, ?_, ?_, ?_, kst_off h18 (ro 1 (by decide) (by decide)) (ro 2 (by decide) (by decide)) (ro 7 (by decide) (by decide))⟩
  · unfold MN
    rw [ro 272 (by decide) (by decide), ro 289 (by decide) (by decide), ro 290 (by decide) (by decide)]
    exact b6
  · obtain ⟨p1, p2, p3, p4, p5⟩ := pa1
    exact ⟨by rw [ro 77 (by decide) (by decide)]; exact p1, by rw [ro 77 (by decide) (by decide)]; exact p2, p3, p4, fun i hi => ld_off (p5 i hi) fun a a1 a2 => ro a (by omega) (by omega)⟩
  · obtain ⟨p1, p2, p3, p4, p5⟩ := pa2
    exact ⟨by rw [ro 264 (by decide) (by decide)]; exact p1, by rw [ro 264 (by decide) (by decide)]; exact p2, p3, p4, fun i hi => ml_off (p5 i hi) fun a a1 a2 => ro a (by omega) (by omega)⟩
  · rw [ro 3 (by decide) (by decide)] at q
    obtain ⟨⟨n1, n2, n3, n4, n5, n6⟩, n7, n8⟩ := t3 q
    have n9 := h3.2.1.2.2.2.1
    refine ⟨⟨r2, sd_off n2 (fun q q1 q2 => ro q (by omega) (by omega)), sd_off n3 (fun q q1 q2 => ro q (by omega) (by omega)), ?_, ?_, ?_⟩, fun t ht => lay_off (n7 t ht) ⟨ro (159 + 7 + t) (by omega) (by omega), ro (159 + 19 + t) (by omega) (by omega), ro (159 + 31 + t) (by omega) (by omega)⟩, ?_⟩
    · rw [ro (159 + 1) (by decide) (by decide)]; exact n4
    · rw [ro (159 + 2) (by decide) (by decide)]; exact n5
    · rw [ro (159 + 4) (by decide) (by decide)]; exact n6
    · rw [ro (159 + 42) (by decide) (by decide)]; exact n8
  · unfold HG
    rw [ro 250 (by decide) (by decide), ro 257 (by decide) (by decide)]
    exact h11
  · unfold WK
    rw [ro 258 (by decide) (by decide), ro 264 (by decide) (by decide), ro 261 (by decide) (by decide), ro 309 (by decide) (by decide)]
    exact h12
  · unfold SeedE
    rw [ro 3 (by decide) (by decide), ro 264 (by decide) (by decide)]
    exact h13
  · unfold TapeEq
    rw [ro 3 (by decide) (by decide), ro 264 (by decide) (by decide), ro 4 (by decide) (by decide), ro 265 (by decide) (by decide)]
    exact h15
  · unfold FaultEq
    rw [ro 5 (by decide) (by decide), ro 264 (by decide) (by decide)]
    exact h16
  · unfold OutEq
    rw [ro 3 (by decide) (by decide), ro 264 (by decide) (by decide), ro 262 (by decide) (by decide), ro 312 (by decide) (by decide)]
    exact h17
theorem x_changed {m : Mem} (r : Refs m) : X10_changed 3 m = some (up (up m 3 12 1) 250 0 0) := by
  refine wp_eq ?_
  unfold X10_changed
  refine wp_k k3 ?_
  refine wp_b (ptZ1 (by decide +kernel) _) ?_
  refine wp_b (gX14 (refs_up r (by decide +kernel) 1)) ?_
  refine wp_b (v := up (up m 3 12 1) 250 0 0) ?_ (wp_some rfl)
  unfold X0_forget
  rw [if_pos (by decide +kernel), ptI (by decide +kernel)]
  rfl
theorem undo_ok {N : Nat} (hN : 2000 ≤ N) {m : Mem} (h : Inv m) : ∃ v m1 m2, X10_undo 3 m = some (v, m1) ∧ X11_undo N 264 m1 = some (v, m2) ∧ Inv m2 := by
  obtain ⟨P, b, I, l, s, h⟩ := h
  obtain ⟨r, ⟨b3, bb, b4, ps, md, mn⟩, ⟨z, n, kc, vl, cl, fx, cm⟩, ⟨hl, my, gl⟩, pa, to, zz, hg, wk, se, rd, te, fe, oe, kst⟩ := id h; have h1 := ps.1; have tc := gl.1; have hs := vl.2.2.2.2
  have hP := b3.1
  obtain ⟨c, nx, uf, ls, pa1, pa2, pa3⟩ := pa
  rcases Nat.eq_zero_or_pos c with q | q
  · subst q
    refine ⟨0, up m 263 4 (wI (m 263 4 + 1)), both m 4, ?_, ?_, ⟨P, b, I, l, s, inv_ref h (by decide)⟩⟩
    · refine wp_eq ?_
      unfold X10_undo
      refine wp_k k3 ?_
      refine wp_b (gX7 r) ?_
      refine wp_b (g77 (by decide)) ?_
      rw [pa1.1, if_neg (by decide)]
      refine wp_b (refuse_x r (by decide) (by decide)) ?_
      exact wp_some rfl
    · refine wp_eq ?_
      unfold X11_undo
      refine wp_k k264 ?_
      refine wp_b (g264 (by decide)) ?_
      rw [up_obj (by decide), pa2.1, if_neg (by decide)]
      refine wp_b (v := ((-1 : Int), both m 4)) (refuse_m_x r (s := 4) (by decide) (by decide)) ?_
      exact wp_some rfl
  · obtain ⟨c, rfl⟩ : ∃ d, c = d + 1 := ⟨c - 1, by omega⟩
    have X : Wp (X10_undo 3 m) (fun p => p.1 = 1 ∧ (∃ nx2, PX p.2 c nx2 ls) ∧ LD p.2 69 (ls c) ∧ Refs p.2 ∧ p.2 3 12 = 1 ∧ p.2 250 0 = 0 ∧ ∀ a k, ¬(a = 77 ∨ 69 ≤ a ∧ a ≤ 72 ∨ (a = 3 ∧ k = 12) ∨ (a = 250 ∧ k = 0)) → p.2 a k = m a k) := by
      unfold X10_undo
      refine wp_k k3 ?_
      refine wp_b (gX7 r) ?_
      refine wp_b (g77 (by decide)) ?_
      rw [pa1.1, if_pos (by omega)]
      refine wp_b (gX7 r) ?_
      refine wp_b (gX5 r) ?_
      refine wp_bw (x_restore r pa1) (fun m2 hm2 => ?_)
      obtain ⟨nx2, px, hl2, r2, o⟩ := hm2
      have oo : ∀ a, ¬(a = 77 ∨ 69 ≤ a ∧ a ≤ 72) → m2 a = m a := o
      refine wp_b (x_changed r2) ?_
      have e : ∀ a, ¬a = 3 → ¬a = 250 → up (up m2 3 12 1) 250 0 0 a = m2 a := fun a q1 q2 => by
        rw [up_setA, setA_ne q2, up_setA, setA_ne q1]
      obtain ⟨p1, p2, p3, p4, p5⟩ := px
      refine wp_some ⟨rfl, ⟨nx2, ?_, ?_, p3, p4, fun i hi => ld_off (p5 i hi) fun a _ _ => e a (by omega) (by omega)⟩, ld_off hl2 fun a _ _ => e a (by omega) (by omega), refs_up (refs_up r2 (by decide +kernel) 1) (by decide +kernel) 0, ?_, ?_, fun a k hk => ?_⟩
      · show up (up m2 3 12 1) 250 0 0 77 2 = _
        rw [e 77 (by decide) (by decide)]; exact p1
      · show up (up m2 3 12 1) 250 0 0 77 1 = _
        rw [e 77 (by decide) (by decide)]; exact p2
      · show up (up m2 3 12 1) 250 0 0 3 12 = 1
        rw [up_obj (by decide), up_same]
      · show up (up m2 3 12 1) 250 0 0 250 0 = 0
        rw [up_same]
      · show up (up m2 3 12 1) 250 0 0 a k = _
        by_cases y : a = 3
        · rw [y, up_obj (by decide), up_at, if_neg (fun u => hk (Or.inr (Or.inr (Or.inl ⟨y, u⟩)))), oo 3 (by decide)]
        · by_cases y2 : a = 250
          · rw [y2, up_at, if_neg (fun u => hk (Or.inr (Or.inr (Or.inr ⟨y2, u⟩)))), up_obj (by decide), oo 250 (by decide)]
          · rw [e a y y2, oo a (fun u => hk (by omega))]
    obtain ⟨⟨v1, m1⟩, e1, x1, ⟨nx2, px⟩, hl1, r1, t1, g1, f1⟩ := X
    have x1' : v1 = 1 := x1
    subst x1'
    replace f1 : ∀ a k, ¬(a = 77 ∨ 69 ≤ a ∧ a ≤ 72 ∨ (a = 3 ∧ k = 12) ∨ (a = 250 ∧ k = 0)) → m1 a k = m a k := f1
    have ro : ∀ a, 263 ≤ a → m1 a = m a := fun a ha => funext fun k => f1 a k (by omega)
    have my1 : MY m1 0 l (nT I) := ml_off my fun a _ _ => ro a (by omega)
    have pm1 : PM m1 (c + 1) uf (nT I) ls := by
      obtain ⟨p1, p2, p3, p4, p5⟩ := pa2
      exact ⟨by rw [ro 264 (by decide)]; exact p1, by rw [ro 264 (by decide)]; exact p2, p3, p4, fun i hi => ml_off (p5 i hi) fun a _ _ => ro a (by omega)⟩
    obtain ⟨⟨v2, m2⟩, e2, y1, pm2, my2, r2, f2⟩ := m_undoJ hN r1 my1 pm1
    have y1' : v2 = 1 := y1
    subst y1'
    replace f2 : RiF m1 m2 := f2
    have fx2 : ∀ a, a < 264 → m2 a = m1 a := fun a ha => f2.1 a (by omega)
    refine ⟨1, m1, m2, e1, e2, P, b, I, ls c, s, inv_act h r2 (fun a k hk => ?_) (ld_off hl1 fun a _ _ => fx2 a (by omega)) my2 (pa3 c (by omega)) ⟨c, nx2, uf, ls, ?_, pm2, fun i hi => pa3 i (by omega)⟩ ⟨?_, Or.inr ?_, fun u => ?_⟩ ?_ (Or.inl ?_) ?_⟩
    · have n1 : ¬(a = 77 ∨ 69 ≤ a ∧ a ≤ 72 ∨ (a = 3 ∧ k = 12) ∨ (a = 250 ∧ k = 0)) := fun u => hk (by unfold ActS; omega)
      by_cases y : a = 264
      · subst y
        have w := f2.2 k (fun u => hk (by unfold ActS; omega))
        rw [← f1 264 k n1]; exact w
      · have w := f2.1 a (fun u => hk (by unfold ActS; omega))
        rw [← f1 a k n1]
        exact congrFun w k
    · obtain ⟨p1, p2, p3, p4, p5⟩ := px
      exact ⟨by rw [fx2 77 (by decide)]; exact p1, by rw [fx2 77 (by decide)]; exact p2, p3, p4, fun i hi => ld_off (p5 i hi) fun a _ _ => fx2 a (by omega)⟩
    · rw [fx2 161 (by decide), f1 161 0 (by decide)]; exact to.1
    · rw [fx2 3 (by decide)]; exact t1
    · rw [fx2 3 (by decide)] at u
      have : m1 3 12 = 1 := t1
      omega
    · rw [fx2 204 (by decide), fx2 245 (by decide), f1 204 0 (by decide), f1 245 0 (by decide)]; exact zz
    · rw [fx2 250 (by decide)]; exact g1
    · refine ⟨by rw [fx2 3 (by decide), f1 3 8 (by decide)]; exact se.1, ?_, se.2.2⟩
      have w := f2.2 56 (by decide)
      show m2 264 56 = s
      rw [w, ro 264 (by decide)]; exact se.2.1
