/-! the small calls -/
def ScG (P a k : Nat) : Prop := Scr P a k ∨ a = 73 ∨ a = 4 ∨ a = 265 ∨ (a = 3 ∧ (k = 1 ∨ k = 8 ∨ k = 17)) ∨ (a = 264 ∧ (k = 1 ∨ k = 56 ∨ k = 72 ∨ k = 77)) ∨ a = 258 ∨ a = 261 ∨ a = 309 ∨ a = 262 ∨ a = 312 ∨ a = 263 ∨ a = 295
theorem inv_g {m m2 : Mem} {P b : Nat} {I : Isl} {l : Lnd} {s s2 : Int} (h : InvP m P b I l s) (r2 : Refs m2) (f : ∀ a k, ¬ScG P a k → m2 a k = m a k) (t : TO m2 P I l) (hg : HG m2 I l) (wk : WK m2) (se : SeedE m2 s2) (rd : Refd m2) (te : TapeEq m2) (oe : OutEq m2) : InvP m2 P b I l s2 := by
  obtain ⟨h1, ⟨b1, b2, b3, b4, b5, b6⟩, h3, ⟨h4, h5, h6⟩, ⟨c, nx, uf, ls, pa1, pa2, pa3⟩, _, ⟨h9, h10⟩, _, h12, h13, h14, h15, h16, h17, h18⟩ := h
  have hP := b1.1
  have ro : ∀ a, (∀ k, ¬ScG P a k) → m2 a = m a := fun a ha => funext fun k => f a k (ha k)
  refine ⟨r2, ⟨⟨hP, by rw [f 3 3 (by unfold ScG Scr; omega)]; exact b1.2⟩, b2, by rw [f 3 4 (by unfold ScG Scr; omega)]; exact b3, ⟨pd_off b4.1 fun a a1 a2 _ _ _ => ro a (fun k => by unfold ScG Scr; omega), sd_off b4.2.1 (fun q q1 q2 => ro q (fun k => by unfold ScG Scr; omega)), sd_off b4.2.2 (fun q q1 q2 => ro q (fun k => by unfold ScG Scr; omega))⟩, md_off b5 (f 264 13 (by unfold ScG Scr; omega)) (fun a _ _ => ro a (fun k => by unfold ScG Scr; omega)), ?_⟩, h3, ⟨ld_off h4 (fun a _ _ => ro a (fun k => by unfold ScG Scr; omega)), ?_, h6⟩, ⟨c, nx, uf, ls, ?_, ?_, pa3⟩, t, ⟨by rw [f 204 0 (by unfold ScG Scr; omega)]; exact h9, by rw [f 245 0 (by unfold ScG Scr; omega)]; exact h10⟩, hg, wk, se, rd, te, ?_, oe, kst_off h18 (ro 1 (fun k => by unfold ScG Scr; omega)) (ro 2 (fun k => by unfold ScG Scr; omega)) (ro 7 (fun k => by unfold ScG Scr; omega))⟩
  · unfold MN
    rw [ro 272 (fun k => by unfold ScG Scr; omega), ro 289 (fun k => by unfold ScG Scr; omega), ro 290 (fun k => by unfold ScG Scr; omega)]
    exact b6
  · obtain ⟨y1, y2, y3, y4, y5, y6⟩ := h5
    refine ⟨y1, fun i i0 i1 => ?_, fun i i0 i1 => ?_, fun i i0 i1 => ?_, ?_, y6⟩
    · rw [f 297 _ (by unfold ScG Scr; omega)]; exact y2 i i0 i1
    · rw [f 298 _ (by unfold ScG Scr; omega)]; exact y3 i i0 i1
    · rw [f 299 _ (by unfold ScG Scr; omega)]; exact y4 i i0 i1
    · rw [f 296 _ (by unfold ScG Scr; omega)]; exact y5
  · obtain ⟨p1, p2, p3, p4, p5⟩ := pa1
    exact ⟨by rw [f 77 2 (by unfold ScG Scr; omega)]; exact p1, by rw [f 77 1 (by unfold ScG Scr; omega)]; exact p2, p3, p4, fun i hi => ld_off (p5 i hi) fun a a1 a2 => ro a (fun k => by unfold ScG Scr; omega)⟩
  · obtain ⟨p1, p2, p3, p4, p5⟩ := pa2
    refine ⟨by rw [f 264 55 (by unfold ScG Scr; omega)]; exact p1, by rw [f 264 54 (by unfold ScG Scr; omega)]; exact p2, p3, p4, fun i hi => ?_⟩
    obtain ⟨y1, y2, y3, y4, y5, y6⟩ := p5 i hi
    refine ⟨y1, fun j i0 i1 => ?_, fun j i0 i1 => ?_, fun j i0 i1 => ?_, ?_, y6⟩
    · rw [f 297 _ (by unfold ScG Scr; omega)]; exact y2 j i0 i1
    · rw [f 298 _ (by unfold ScG Scr; omega)]; exact y3 j i0 i1
    · rw [f 299 _ (by unfold ScG Scr; omega)]; exact y4 j i0 i1
    · rw [f 296 _ (by unfold ScG Scr; omega)]; exact y5
  · unfold FaultEq
    rw [f 5 9 (by unfold ScG Scr; omega), f 5 10 (by unfold ScG Scr; omega), f 264 10 (by unfold ScG Scr; omega), f 264 11 (by unfold ScG Scr; omega)]
    exact h16
theorem wk_off {m m2 : Mem} (h : WK m) (e1 : m2 258 1 = m 258 1) (e2 : m2 258 4 = m 258 4) (e3 : m2 264 72 = m 264 72) (e4 : m2 261 = m 261) (e5 : m2 309 = m 309) : WK m2 := by
  unfold WK
  rw [e1, e2, e3, e4, e5]
  exact h
theorem se_off {m m2 : Mem} {s : Int} (h : SeedE m s) (e1 : m2 3 8 = m 3 8) (e2 : m2 264 56 = m 264 56) : SeedE m2 s := by
  unfold SeedE
  rw [e1, e2]
  exact h
theorem rd_off {m m2 : Mem} (h : Refd m) (e1 : m2 263 = m 263) (e2 : m2 295 = m 295) : Refd m2 := fun j hj => by
  rw [e1, e2]
  exact h j hj
theorem te_off {m m2 : Mem} (h : TapeEq m) (e1 : m2 3 1 = m 3 1) (e2 : m2 264 1 = m 264 1) (e3 : m2 4 = m 4) (e4 : m2 265 = m 265) : TapeEq m2 := by
  unfold TapeEq
  rw [e1, e2, e3, e4]
  exact h
theorem te_0 {m2 : Mem} (e1 : m2 3 1 = 0) (e2 : m2 264 1 = 0) : TapeEq m2 := ⟨by rw [e1, e2], by omega, by omega, fun j hj => by omega⟩
theorem oe_off {m m2 : Mem} (h : OutEq m) (e1 : m2 3 17 = m 3 17) (e2 : m2 264 77 = m 264 77) (e3 : m2 262 = m 262) (e4 : m2 312 = m 312) : OutEq m2 := by
  unfold OutEq
  rw [e1, e2, e3, e4]
  exact h
/-- only the tapes change -/
theorem inv_t {m m2 : Mem} {P b : Nat} {I : Isl} {l : Lnd} {s : Int} (h : InvP m P b I l s) (r2 : Refs m2) (f : ∀ a k, ¬(a = 4 ∨ a = 265 ∨ (a = 3 ∧ k = 1) ∨ (a = 264 ∧ k = 1)) → m2 a k = m a k) (te : TapeEq m2) : InvP m2 P b I l s := by
  have hP := h.2.1.1.1
  have ro : ∀ a, ¬(a = 4 ∨ a = 265 ∨ a = 3 ∨ a = 264) → m2 a = m a := fun a ha => funext fun k => f a k (by omega)
  obtain ⟨_, _, ⟨_, n, _⟩, _, _, to, zz, hg, wk, se, rd, _, fe, oe, _⟩ := id h
  refine inv_g h r2 (fun a k hk => f a k (fun u => hk ?_)) ?_ (hg_off hg (ro _ (by decide)) (ro _ (by decide))) (wk_off wk (f _ _ (by decide)) (f _ _ (by decide)) (f _ _ (by decide)) (ro _ (by decide)) (ro _ (by decide))) (se_off se (f _ _ (by decide)) (f _ _ (by decide))) (rd_off rd (ro _ (by decide)) (ro _ (by decide))) te (oe_off oe (f _ _ (by decide)) (f _ _ (by decide)) (ro _ (by decide)) (ro _ (by decide)))
  · unfold ScG
    rcases u with u | u | u | u
    · exact Or.inr (Or.inr (Or.inl u))
    · exact Or.inr (Or.inr (Or.inr (Or.inl u)))
    · exact Or.inr (Or.inr (Or.inr (Or.inr (Or.inl ⟨u.1, Or.inl u.2⟩))))
    · exact Or.inr (Or.inr (Or.inr (Or.inr (Or.inr (Or.inl ⟨u.1, Or.inl u.2⟩)))))
  · have n9 := n.2.2.2.1
    have e3 : m2 3 12 = m 3 12 := f 3 12 (by decide)
    obtain ⟨t1, t2, t3⟩ := to
    refine ⟨by rw [ro 161 (by decide)]; exact t1, by rw [e3]; exact t2, fun q => ?_⟩
    rw [e3] at q
    obtain ⟨⟨n1, n2, n3, n4, n5, n6⟩, n7, n8⟩ := t3 q
    refine ⟨⟨r2, sd_off n2 (fun q q1 q2 => ro q (by omega)), sd_off n3 (fun q q1 q2 => ro q (by omega)), ?_, ?_, ?_⟩, fun t ht => lay_off (n7 t ht) ⟨ro (159 + 7 + t) (by omega), ro (159 + 19 + t) (by omega), ro (159 + 31 + t) (by omega)⟩, ?_⟩
    · rw [ro (159 + 1) (by decide)]; exact n4
    · rw [ro (159 + 2) (by decide)]; exact n5
    · rw [ro (159 + 4) (by decide)]; exact n6
    · rw [ro (159 + 42) (by decide)]; exact n8
theorem feed_call {N : Nat} (hN : 2000 ≤ N) {m : Mem} (h : Inv m) (x1 x2 x3 x4 x5 : Int) : ∃ v m1 m2, X10_feed N 3 x1 x2 x3 x4 x5 m = some (v, m1) ∧ X11_feed N 264 x1 x2 x3 x4 x5 m1 = some (v, m2) ∧ Inv m2 := by
  obtain ⟨P, b, I, l, s, h⟩ := h
  obtain ⟨r, ⟨b3, bb, b4, ps, md, mn⟩, ⟨z, n, kc, vl, cl, fx, cm⟩, ⟨hl, my, gl⟩, pa, to, zz, hg, wk, se, rd, te, fe, oe, kst⟩ := id h; have h1 := ps.1; have tc := gl.1; have hs := vl.2.2.2.2
  obtain ⟨v, m1, m2, e1, e2, q⟩ := feed_ok (N := N) (by omega) r te x1 x2 x3 x4 x5
  refine ⟨v, m1, m2, e1, e2, P, b, I, l, s, ?_⟩
  rcases q with q | ⟨q, w1, w2⟩
  · rw [q]; exact inv_ref h (by decide)
  · have r1 := refs_wrote w1 r (by decide +kernel) (by decide +kernel)
    have r2 := refs_wrote w2 r1 (by decide +kernel) (by decide +kernel)
    refine inv_t h r2 (fun a k hk => ?_) (tape_wrote te (by simp [twenty, four]; omega) (twenty_in x1 x2 x3 x4 x5) w1 w2)
    rw [w2.2.2 a k (by omega) (by omega), w1.2.2 a k (by omega) (by omega)]
theorem end_call {m : Mem} (h : Inv m) (x : Int) : ∃ v m1 m2, X10_end 3 x m = some (v, m1) ∧ X11_end 264 x m1 = some (v, m2) ∧ Inv m2 := by
  obtain ⟨P, b, I, l, s, h⟩ := h
  obtain ⟨r, ⟨b3, bb, b4, ps, md, mn⟩, ⟨z, n, kc, vl, cl, fx, cm⟩, ⟨hl, my, gl⟩, pa, to, zz, hg, wk, se, rd, te, fe, oe, kst⟩ := id h; have h1 := ps.1; have tc := gl.1; have hs := vl.2.2.2.2
  obtain ⟨v, m1, m2, e1, e2, q⟩ := end_ok r te x
  refine ⟨v, m1, m2, e1, e2, P, b, I, l, s, ?_⟩
  rcases q with q | ⟨q0, q1, q⟩
  · rw [q]; exact inv_ref h (by decide)
  · obtain ⟨t1, t2, t3, t4⟩ := te
    subst q
    have y1 : up (up m 3 1 x) 264 1 x 3 1 = x := by rw [up_obj (by decide), up_same]
    have y2 : up (up m 3 1 x) 264 1 x 264 1 = x := up_same _ _ _ _
    have y3 : ∀ a, ¬a = 3 → ¬a = 264 → up (up m 3 1 x) 264 1 x a = m a := fun a q1 q2 => by
      rw [up_setA, setA_ne q2, up_setA, setA_ne q1]
    refine inv_t h (refs_up (refs_up r (by decide +kernel) x) (by decide +kernel) x) (fun a k hk => ?_) ⟨by rw [y1, y2], by omega, by omega, fun j hj => ?_⟩
    · by_cases u : a = 264
      · subst u
        rw [up_at, if_neg (by omega), up_obj (by decide)]
      · by_cases u2 : a = 3
        · subst u2
          rw [up_obj (by decide), up_at, if_neg (by omega)]
        · rw [y3 a u2 u]
    · rw [y1] at hj
      rw [y3 4 (by decide) (by decide), y3 265 (by decide) (by decide)]
      exact t4 j (by omega)
theorem seed_call {m : Mem} (h : Inv m) (x : Int) (hx : inI x) : ∃ v m1 m2, X10_seed 3 x m = some (v, m1) ∧ X11_seed 264 x m1 = some (v, m2) ∧ Inv m2 := by
  obtain ⟨P, b, I, l, s, h⟩ := h
  obtain ⟨r, ⟨b3, bb, b4, ps, md, mn⟩, ⟨z, n, kc, vl, cl, fx, cm⟩, ⟨hl, my, gl⟩, pa, to, zz, hg, wk, se, rd, te, fe, oe, kst⟩ := id h; have h1 := ps.1; have tc := gl.1; have hs := vl.2.2.2.2
  obtain ⟨e1, e2, e3⟩ := ref_x h (k := 5) (by decide)
  unfold inI at hx
  by_cases q : 0 ≤ x
  · refine ⟨1, up m 3 8 x, up (up m 3 8 x) 264 56 x, ?_, ?_, P, b, I, l, x, ?_⟩
    · unfold X10_seed
      rw [isK (k := 20) (by decide +kernel), if_pos q, ptI (by decide +kernel)]
      rfl
    · unfold X11_seed
      rw [isK (k := 21) (by decide +kernel), if_pos q, ptI (by decide +kernel)]
      rfl
    · have y1 : up (up m 3 8 x) 264 56 x 3 8 = x := by rw [up_obj (by decide), up_same]
      have y2 : up (up m 3 8 x) 264 56 x 264 56 = x := up_same _ _ _ _
      have ro : ∀ a, ¬a = 3 → ¬a = 264 → up (up m 3 8 x) 264 56 x a = m a := fun a q1 q2 => by
        rw [up_setA, setA_ne q2, up_setA, setA_ne q1]
      have f : ∀ a k, ¬(a = 3 ∧ k = 8 ∨ a = 264 ∧ k = 56) → up (up m 3 8 x) 264 56 x a k = m a k := fun a k hk => by
        by_cases u : a = 264
        · subst u
          rw [up_at, if_neg (by omega), up_obj (by decide)]
        · by_cases u2 : a = 3
          · subst u2
            rw [up_obj (by decide), up_at, if_neg (by omega)]
          · rw [ro a u2 u]
      have hP := b3.1
      have n9 := n.2.2.2.1
      have r2 : Refs (up (up m 3 8 x) 264 56 x) := refs_up (refs_up r (by decide +kernel) x) (by decide +kernel) x
      refine inv_g h r2 (fun a k hk => f a k (fun u => hk ?_)) ?_ (hg_off hg (ro _ (by decide) (by decide)) (ro _ (by decide) (by decide))) (wk_off wk (f _ _ (by decide)) (f _ _ (by decide)) (f _ _ (by decide)) (ro _ (by decide) (by decide)) (ro _ (by decide) (by decide))) ⟨y1, y2, q, by omega⟩ (rd_off rd (ro _ (by decide) (by decide)) (ro _ (by decide) (by decide))) (te_off te (f _ _ (by decide)) (f _ _ (by decide)) (ro _ (by decide) (by decide)) (ro _ (by decide) (by decide))) (oe_off oe (f _ _ (by decide)) (f _ _ (by decide)) (ro _ (by decide) (by decide)) (ro _ (by decide) (by decide)))
      · unfold ScG
        rcases u with u | u
        · exact Or.inr (Or.inr (Or.inr (Or.inr (Or.inl ⟨u.1, Or.inr (Or.inl u.2)⟩))))
        · exact Or.inr (Or.inr (Or.inr (Or.inr (Or.inr (Or.inl ⟨u.1, Or.inr (Or.inl u.2)⟩)))))
      · have e12 : up (up m 3 8 x) 264 56 x 3 12 = m 3 12 := f 3 12 (by decide)
        obtain ⟨t1, t2, t3⟩ := to
        refine ⟨by rw [ro 161 (by decide) (by decide)]; exact t1, by rw [e12]; exact t2, fun q => ?_⟩
        rw [e12] at q
        obtain ⟨⟨n1, n2, n3, n4, n5, n6⟩, n7, n8⟩ := t3 q
        refine ⟨⟨r2, sd_off n2 (fun q q1 q2 => ro q (by omega) (by omega)), sd_off n3 (fun q q1 q2 => ro q (by omega) (by omega)), ?_, ?_, ?_⟩, fun t ht => lay_off (n7 t ht) ⟨ro (159 + 7 + t) (by omega) (by omega), ro (159 + 19 + t) (by omega) (by omega), ro (159 + 31 + t) (by omega) (by omega)⟩, ?_⟩
        · rw [ro (159 + 1) (by decide) (by decide)]; exact n4
        · rw [ro (159 + 2) (by decide) (by decide)]; exact n5
        · rw [ro (159 + 4) (by decide) (by decide)]; exact n6
        · rw [ro (159 + 42) (by decide) (by decide)]; exact n8
  · refine ⟨0, up m 263 5 (wI (m 263 5 + 1)), both m 5, ?_, ?_, e3⟩
    · refine wp_eq ?_
      unfold X10_seed
      refine wp_k k3 ?_
      rw [if_neg q]
      refine wp_b e1 ?_
      exact wp_some rfl
    · refine wp_eq ?_
      unfold X11_seed
      refine wp_k k264 ?_
      rw [if_neg q]
      refine wp_b e2 ?_
      exact wp_some rfl
theorem fault_call {m : Mem} (h : Inv m) (a : Int) : ∃ v, X10_fault 3 a m = some v ∧ X11_fault 264 a m = some v := by
  obtain ⟨P, b, I, l, s, h⟩ := h
  obtain ⟨r, ⟨b3, bb, b4, ps, md, mn⟩, ⟨z, n, kc, vl, cl, fx, cm⟩, ⟨hl, my, gl⟩, pa, to, zz, hg, wk, se, rd, te, fe, oe, kst⟩ := id h; have h1 := ps.1; have tc := gl.1; have hs := vl.2.2.2.2
  exact fault_ok r fe a
theorem octet_call {m : Mem} (h : Inv m) (a : Int) : ∃ v, X10_octet 3 a m = some v ∧ X11_octet 264 a m = some v := by
  obtain ⟨P, b, I, l, s, h⟩ := h
  obtain ⟨r, ⟨b3, bb, b4, ps, md, mn⟩, ⟨z, n, kc, vl, cl, fx, cm⟩, ⟨hl, my, gl⟩, pa, to, zz, hg, wk, se, rd, te, fe, oe, kst⟩ := id h; have h1 := ps.1; have tc := gl.1; have hs := vl.2.2.2.2
  exact octet_ok r oe a
theorem status_call {m : Mem} (h : Inv m) (a : Int) : ∃ v, X10_status 3 a m = some v ∧ X11_status 264 a m = some v := by
  obtain ⟨P, b, I, l, s, h⟩ := h
  obtain ⟨r, ⟨b3, bb, b4, ps, md, mn⟩, ⟨z, n, kc, vl, cl, fx, cm⟩, ⟨hl, my, gl⟩, pa, to, zz, hg, wk, se, rd, te, fe, oe, kst⟩ := id h; have h1 := ps.1; have tc := gl.1; have hs := vl.2.2.2.2
  exact status_ok r rd a
theorem k258 : shK 258 = 2 + 10 := by decide +kernel
theorem walk_call {m : Mem} (h : Inv m) (a : Int) : ∃ v, X10_walk 3 a m = some v ∧ X11_walk 264 a m = some v := by
  obtain ⟨P, b, I, l, s, h⟩ := h
  obtain ⟨r, ⟨b3, bb, b4, ps, md, mn⟩, ⟨z, n, kc, vl, cl, fx, cm⟩, ⟨hl, my, gl⟩, pa, to, zz, hg, wk, se, rd, te, fe, oe, kst⟩ := id h; have h1 := ps.1; have tc := gl.1; have hs := vl.2.2.2.2
  obtain ⟨w0, w1, w2⟩ := wk
  have g4 : getI 2 4 258 m = some (m 258 4) := gtI (by decide +kernel) m
  have g1 : getI 2 1 258 m = some (m 258 1) := gtI (by decide +kernel) m
  have g3 : getR 2 3 258 m = some 261 := rc r 261 (by decide +kernel)
  rcases w2 with ⟨q1, q2⟩ | ⟨q1, q2, q3⟩
  · refine ⟨-1, ?_, ?_⟩ <;> refine wp_eq ?_
    · unfold X10_walk X2_firstAt
      refine wp_k k3 ?_
      refine wp_b (gX15 r) ?_
      rw [if_pos k258, g4, Option.bind_some, if_pos q1]
      exact wp_some rfl
    · unfold X11_walk
      refine wp_k k264 ?_
      refine wp_b (g264 (by decide)) ?_
      refine wp_b (m_is _ _ _ _) ?_
      rw [q2, ← bi_f (show ¬(0 ≤ a ∧ a ≤ wI (0 - 1)) from by rw [wI_of2 (by omega) (by omega)]; omega), if_pos rfl]
      exact wp_some rfl
  · by_cases q : 0 ≤ a ∧ a < m 258 1
    · refine ⟨m 261 a.toNat, ?_, ?_⟩ <;> refine wp_eq ?_
      · unfold X10_walk X2_firstAt
        refine wp_k k3 ?_
        refine wp_b (gX15 r) ?_
        rw [if_pos k258, g4, Option.bind_some, if_neg (by omega), if_neg (by omega), g1, Option.bind_some, if_neg (by omega), g3, Option.bind_some, arI 10 (by decide +kernel) q.1 (by omega), Option.bind_some]
        exact wp_some rfl
      · unfold X11_walk
        refine wp_k k264 ?_
        refine wp_b (g264 (by decide)) ?_
        refine wp_b (m_is _ _ _ _) ?_
        rw [← bi_t (show 0 ≤ a ∧ a ≤ wI (m 264 72 - 1) from by rw [wI_of2 (by omega) (by omega)]; omega), if_neg (by decide)]
        refine wp_b (gR73 r) ?_
        refine wp_b (arI 10 (by decide +kernel) q.1 (by omega) m) ?_
        exact wp_some (q3 a.toNat (by omega)).symm
    · refine ⟨-1, ?_, ?_⟩ <;> refine wp_eq ?_
      · unfold X10_walk X2_firstAt
        refine wp_k k3 ?_
        refine wp_b (gX15 r) ?_
        rw [if_pos k258, g4, Option.bind_some, if_neg (by omega)]
        by_cases y : a < 0
        · rw [if_pos y]
          exact wp_some rfl
        · rw [if_neg y, g1, Option.bind_some, if_pos (by omega)]
          exact wp_some rfl
      · unfold X11_walk
        refine wp_k k264 ?_
        refine wp_b (g264 (by decide)) ?_
        refine wp_b (m_is _ _ _ _) ?_
        rw [← bi_f (show ¬(0 ≤ a ∧ a ≤ wI (m 264 72 - 1)) from by rw [wI_of2 (by omega) (by omega)]; omega), if_pos rfl]
        exact wp_some rfl
theorem has_call {N : Nat} (hN : 2000 ≤ N) {m : Mem} (h : Inv m) (a : Int) : ∃ v, X10_has N 3 a m = some v ∧ X11_has N 264 a m = some v := by
  obtain ⟨P, b, I, l, s, h⟩ := h
  obtain ⟨r, ⟨b3, bb, b4, ps, md, mn⟩, ⟨z, n, kc, vl, cl, fx, cm⟩, ⟨hl, my, gl⟩, pa, to, zz, hg, wk, se, rd, te, fe, oe, kst⟩ := id h; have h1 := ps.1; have tc := gl.1; have hs := vl.2.2.2.2
  have w70 : ∀ j : Nat, j < 42 → m 70 j = l 0 j := fun j hj => by
    have y := hl.2.1 0 j (by decide) (by omega) (by show (j : Int) < ((42 : Nat) : Int); omega)
    rw [Int.toNat_natCast] at y
    exact y
  have w11 : ∀ j : Nat, j < 42 → m (P + 11) j = I 4 j := fun j hj => by
    have y := h1.2.2.1 4 j (by omega) (by show (j : Int) < ((42 : Nat) : Int); omega)
    rw [Int.toNat_natCast] at y
    exact y
  have w297 : ∀ j : Nat, j < 42 → m 297 j = l 0 j := fun j hj => by
    have y := my.2.1 j (by omega) (by omega)
    rw [show 42 * 0 + ((j : Nat) : Int).toNat = j from by omega] at y
    exact y
  have i0 : m P 0 = I 0 0 := h1.2.1 0 (by decide)
  have i1 : m P 1 = I 1 0 := h1.2.1 1 (by decide)
  have i6 : m P 6 = I 6 0 := h1.2.1 6 (by decide)
  have i9 : m P 9 = I 9 0 := h1.2.1 9 (by decide)
  have i12 : m P 12 = I 12 0 := h1.2.1 12 (by decide)
  have i18 : m P 17 = I 17 0 := h1.2.1 17 (by decide)
  have i19 : m P 18 = I 18 0 := h1.2.1 18 (by decide)
  have i20 : m P 19 = I 19 0 := h1.2.1 19 (by decide)
  have nc : m P 0 * m P 1 = nC I := by rw [i0, i1]; rfl
  obtain ⟨d1, d2, d3, d4, d5, d6, d7⟩ := md.2.1
  obtain ⟨c, nx, uf, ls, pa1, pa2, _⟩ := pa
  refine has_ok (N := N) (by omega) (P := P) (b := b) r ⟨bb, b3.2, md.1.2⟩ ⟨by rw [i0, d1], by rw [i1, d2], by rw [i0]; exact z.1, by rw [i0]; exact z.2.1, by rw [i1]; exact z.2.2.1, by rw [i1]; exact z.2.2.2.1, by rw [i0, i1]; exact z.2.2.2.2.1⟩ ⟨fun j hj => by rw [w70 j hj]; exact gl.2.1 j (by omega) (by omega), fun j hj => ?_, fun j hj hj2 => ?_⟩ ⟨fun j hj => by rw [w11 j hj]; exact hs j, ?_, by rw [i6, d3], by rw [i9, d4], by rw [i18, d5], by rw [i19, d6], by rw [i20, d7], ?_, ?_⟩ ⟨by rw [se.1, se.2.1], ?_⟩ ?_ a
  · have z7 := z.2.2.2.2.2.2
    rw [nc] at hj
    rw [w70 j (by omega), w297 j (by omega)]
  · rw [nc] at hj
    rw [w70 j hj2]
    exact gl.2.2.1 j hj (by omega)
  · rw [mn.1]
    exact sumTo_same w11
  · have y := my.2.2.2.2.1
    rw [y]
    exact hl.2.2
  · rw [pa1.1, pa2.1]
  · rw [se.2.1]
    unfold inI
    have := se.2.2
    omega
  · rw [i12]
    exact m_cloths hN r md n cl
