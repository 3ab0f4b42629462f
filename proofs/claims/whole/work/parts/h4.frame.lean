/-! what a refused island leaves -/
theorem nib {B b a : Nat} (hB : B = 1 - b) (hb : b = 0 ∨ b = 1) {K i : Nat} (hi : i < K) (ha : (K = 1 ∧ (a = 266 ∨ a = 267 ∨ a = 271 ∨ a = 272 ∨ a = 273 ∨ a = 275 ∨ (280 ≤ a ∧ a ≤ 286))) ∨ (K = 42 ∧ 268 ≤ a ∧ a ≤ 270) ∨ (K = 5 ∧ (a = 274 ∨ a = 289)) ∨ (K = 10 ∧ (276 ≤ a ∧ a ≤ 278 ∨ a = 290)) ∨ (K = 12 ∧ a = 279) ∨ (K = 1600 ∧ (a = 287 ∨ a = 288))) : ¬inBk B a (K * b + i) := by
  intro u
  unfold inBk at u
  rcases hb with hb | hb <;> subst hb <;> subst hB <;> rcases ha with ⟨k, h⟩ | ⟨k, h⟩ | ⟨k, h⟩ | ⟨k, h⟩ | ⟨k, h⟩ | ⟨k, h⟩ <;> subst k <;> rcases u with u | u | u | u | u | u <;> omega
theorem md_bk {m m2 : Mem} {b B : Nat} {I : Isl} (h : MD m b I) (n : Cn I) (hB : B = 1 - b) (e13 : m2 264 13 = m 264 13) (fb : ∀ a k, 266 ≤ a → a ≤ 290 → ¬inBk B a k → m2 a k = m a k) : MD m2 b I := by
  obtain ⟨⟨hb, e⟩, ⟨a1, a2, a3, a4, a5, a6, a7⟩, r1, r2, r3, r4, r5, r6, s1, s2⟩ := h
  obtain ⟨n1, n2, n3, n4, n5, n6⟩ := n
  have one : ∀ a, (a = 266 ∨ a = 267 ∨ a = 271 ∨ a = 272 ∨ a = 273 ∨ a = 275 ∨ (280 ≤ a ∧ a ≤ 286)) → m2 a b = m a b := fun a ha => by
    have := nib (a := a) hB hb (K := 1) (i := 0) (by decide) (Or.inl ⟨rfl, ha⟩)
    rw [show 1 * b + 0 = b from by omega] at this
    exact fb a b (by omega) (by omega) this
  have sm : ∀ (p p2 : Nat) (c : Int → Int) (k : Nat), (p = 280 ∨ p = 282) → p2 = p + 1 → SM m b p p2 c k → SM m2 b p p2 c k := fun p p2 c k hp hp2 sm => by
    have x1 := one p (by omega)
    have x2 := one p2 (by omega)
    rcases sm with ⟨h1, h2⟩ | ⟨h1, h2, h3, h4, h5, h6⟩
    · exact Or.inl ⟨by rw [x1]; exact h1, h2⟩
    · refine Or.inr ⟨by rw [x1]; exact h1, h2, by rw [x1, x2]; exact h3, by rw [x1]; exact h4, by rw [x1]; exact h5, fun i i0 i1 => ?_⟩
      obtain ⟨g1, g2⟩ := h6 i i0 i1
      have q7 := fb 287 (1600 * b + (m p b + i).toNat) (by decide) (by decide) (nib hB hb (by omega) (Or.inr (Or.inr (Or.inr (Or.inr (Or.inr ⟨rfl, Or.inl rfl⟩))))))
      have q8 := fb 288 (1600 * b + (m p b + i).toNat) (by decide) (by decide) (nib hB hb (by omega) (Or.inr (Or.inr (Or.inr (Or.inr (Or.inr ⟨rfl, Or.inr rfl⟩))))))
      rw [x1, q7, q8]
      exact ⟨g1, g2⟩
  refine ⟨⟨hb, by rw [e13]; exact e⟩, ⟨by rw [one 266 (by decide)]; exact a1, by rw [one 267 (by decide)]; exact a2, by rw [one 273 (by decide)]; exact a3, by rw [one 275 (by decide)]; exact a4, by rw [one 284 (by decide)]; exact a5, by rw [one 285 (by decide)]; exact a6, by rw [one 286 (by decide)]; exact a7⟩, fun i i0 i1 => ?_, fun i i0 i1 => ?_, fun i i0 i1 => ?_, fun i i0 i1 => ?_, fun i i0 i1 => ?_, fun i i0 i1 => ?_, sm 280 281 _ _ (Or.inl rfl) rfl s1, sm 282 283 _ _ (Or.inr rfl) rfl s2⟩
  · rw [fb 268 _ (by decide) (by decide) (nib hB hb (by omega) (Or.inr (Or.inl ⟨rfl, by decide, by decide⟩)))]; exact r1 i i0 i1
  · rw [fb 270 _ (by decide) (by decide) (nib hB hb (by omega) (Or.inr (Or.inl ⟨rfl, by decide, by decide⟩)))]; exact r2 i i0 i1
  · rw [fb 274 _ (by decide) (by decide) (nib hB hb (by omega) (Or.inr (Or.inr (Or.inl ⟨rfl, Or.inl rfl⟩))))]; exact r3 i i0 i1
  · rw [fb 276 _ (by decide) (by decide) (nib hB hb (by omega) (Or.inr (Or.inr (Or.inr (Or.inl ⟨rfl, Or.inl (by decide)⟩)))))]; exact r4 i i0 i1
  · rw [fb 277 _ (by decide) (by decide) (nib hB hb (by omega) (Or.inr (Or.inr (Or.inr (Or.inl ⟨rfl, Or.inl (by decide)⟩)))))]; exact r5 i i0 i1
  · rw [fb 279 _ (by decide) (by decide) (nib hB hb (by omega) (Or.inr (Or.inr (Or.inr (Or.inr (Or.inl ⟨rfl, rfl⟩))))))]; exact r6 i i0 i1
theorem mn_bk {m m2 : Mem} {b B : Nat} {I : Isl} (h : MN m b I) (n : Cn I) (hb : b = 0 ∨ b = 1) (hB : B = 1 - b) (fb : ∀ a k, 266 ≤ a → a ≤ 290 → ¬inBk B a k → m2 a k = m a k) : MN m2 b I := by
  obtain ⟨n1, n2, n3, n4, n5, n6⟩ := n
  obtain ⟨h1, h2, h3⟩ := h
  refine ⟨?_, fun k hk => ?_, fun t ht s => ?_⟩
  · have := nib (a := 272) hB hb (K := 1) (i := 0) (by decide) (Or.inl ⟨rfl, by decide⟩)
    rw [show 1 * b + 0 = b from by omega] at this
    rw [fb 272 b (by decide) (by decide) this]; exact h1
  · rw [fb 289 _ (by decide) (by decide) (nib hB hb (by omega) (Or.inr (Or.inr (Or.inl ⟨rfl, Or.inr rfl⟩))))]; exact h2 k hk
  · rw [fb 290 _ (by decide) (by decide) (nib hB hb (by omega) (Or.inr (Or.inr (Or.inr (Or.inl ⟨rfl, Or.inr rfl⟩)))))]; exact h3 t ht s
theorem inv_i {m m2 : Mem} {P b D B : Nat} {I : Isl} {l : Lnd} {s : Int} (h : InvP m P b I l s) (hD : D = 51 - P) (hB : B = 1 - b) (r2 : Refs m2) (ro : ∀ a, (a = 1 ∨ a = 2 ∨ a = 7 ∨ (11 ≤ a ∧ a ≤ 262 ∧ ¬(D ≤ a ∧ a ≤ D + 28)) ∨ 296 ≤ a) → m2 a = m a) (f3 : ∀ k, ¬k = 1 → m2 3 k = m 3 k) (f264 : ∀ k, k = 13 ∨ 54 ≤ k → m2 264 k = m 264 k) (fb : ∀ a k, 266 ≤ a → a ≤ 290 → ¬inBk B a k → m2 a k = m a k) (rd : Refd m2) (te : TapeEq m2) (fe : FaultEq m2) : InvP m2 P b I l s := by
  obtain ⟨h1, ⟨b1, b2, b3, b4, b5, b6⟩, h3, ⟨h4, h5, h6⟩, ⟨c, nx, uf, ls, pa1, pa2, pa3⟩, ⟨t1, t2, t3⟩, ⟨h9, h10⟩, h11, h12, h13, h14, h15, h16, h17, h18⟩ := h
  have hP := b1.1
  have hb := b5.1.1
  have n := h3.2.1
  refine ⟨r2, ⟨⟨hP, by rw [f3 3 (by decide)]; exact b1.2⟩, b2, by rw [f3 4 (by decide)]; exact b3, ⟨pd_off b4.1 fun a a1 a2 _ _ _ => ro a (by omega), sd_off b4.2.1 (fun q q1 q2 => ro q (by omega)), sd_off b4.2.2 (fun q q1 q2 => ro q (by omega))⟩, md_bk b5 n hB (f264 13 (by decide)) fb, mn_bk b6 n hb hB fb⟩, h3, ⟨ld_off h4 (fun a _ _ => ro a (by omega)), ml_off h5 (fun a a1 a2 => ro a (by omega)), h6⟩, ⟨c, nx, uf, ls, ?_, ?_, pa3⟩, ⟨by rw [ro 161 (by omega)]; exact t1, by rw [f3 12 (by decide)]; exact t2, fun q => ?_⟩, ⟨by rw [ro 204 (by omega)]; exact h9, by rw [ro 245 (by omega)]; exact h10⟩, hg_off h11 (ro 250 (by omega)) (ro 257 (by omega)), wk_off h12 (by rw [ro 258 (by omega)]) (by rw [ro 258 (by omega)]) (f264 72 (by decide)) (ro 261 (by omega)) (ro 309 (by omega)), se_off h13 (f3 8 (by decide)) (f264 56 (by decide)), rd, te, fe, oe_off h17 (f3 17 (by decide)) (f264 77 (by decide)) (ro 262 (by omega)) (ro 312 (by omega)), kst_off h18 (ro 1 (by omega)) (ro 2 (by omega)) (ro 7 (by omega))⟩
  · obtain ⟨p1, p2, p3, p4, p5⟩ := pa1
    refine ⟨by rw [ro 77 (by omega)]; exact p1, by rw [ro 77 (by omega)]; exact p2, p3, p4, fun i hi => ld_off (p5 i hi) fun a a1 a2 => ro a ?_⟩
    have := Nat.mod_lt (nx + 20 - c + i) (show 20 > 0 from by decide)
    omega
  · obtain ⟨p1, p2, p3, p4, p5⟩ := pa2
    exact ⟨by rw [f264 55 (by decide)]; exact p1, by rw [f264 54 (by decide)]; exact p2, p3, p4, fun i hi => ml_off (p5 i hi) fun a a1 a2 => ro a (by omega)⟩
  · rw [f3 12 (by decide)] at q
    exact nx_off n (t3 q) r2 (fun a ha => ro a (by omega))
/-- the class's draft becomes its plan, the reference's other bank its bank -/
theorem inv_new {m m2 n2 : Mem} {P b D B : Nat} {I I' : Isl} {l l' : Lnd} {s : Int} (h : InvP m P b I l s) (hD : D = 51 - P) (hB : B = 1 - b) (gw : GW I' l') (ps : PS m2 D I') (ldD : LD m2 (D + 12) l') (rw' : RW n2 B I' l') (ob : ∀ a, 266 ≤ a → a ≤ 290 → m2 a = n2 a) (r2 : Refs m2) (e33 : m2 3 3 = (D : Int)) (e34 : m2 3 4 = (P : Int)) (e13 : m2 264 13 = (B : Int)) (ld : LD m2 69 l') (my : (∀ c : Nat, c < 42 → m2 297 c = m2 269 (42 * B + c)) ∧ (∀ t : Nat, t < 10 → m2 298 t = m2 278 (10 * B + t)) ∧ (∀ k : Nat, k < 5 → m2 299 k = 0) ∧ m2 296 0 = 0) (e77 : m2 77 2 = 0 ∧ m2 77 1 = m 77 1) (e55 : m2 264 55 = 0 ∧ m2 264 54 = m 264 54) (e161 : m2 161 0 = 0) (e12 : m2 3 12 = 1) (e204 : m2 204 0 = 0 ∧ m2 245 0 = 0) (e250 : m2 250 0 = 0) (e258 : m2 258 1 = 0 ∧ m2 258 4 = 0 ∧ m2 264 72 = 0) (e8 : m2 3 8 = m 3 8 ∧ m2 264 56 = m 264 56) (rd : Refd m2) (te : TapeEq m2) (fe : FaultEq m2) (oe : OutEq m2) (kst : Kst m2) : InvP m2 D B I' l' s := by
  obtain ⟨h1, ⟨b1, b2, b3, b4, b5, b6⟩, h3, ⟨h4, h5, h6⟩, ⟨c, nx, uf, ls, pa1, pa2, pa3⟩, ⟨t1, t2, t3⟩, ⟨h9, h10⟩, h11, h12, h13, h14, h15, h16, h17, h18⟩ := h
  have hP := b1.1
  obtain ⟨z, w, cn, kc, vl, cl, cm, ⟨ap1, ap2, ap3⟩, dr, l2, l3, s12⟩ := gw
  obtain ⟨n1, n2', n3, n4, n5, n6⟩ := id cn
  have hD' : D = 11 ∨ D = 40 := by omega
  have spot : ∀ i : Nat, i < 10 → I' 21 i = l' 1 i := fun i hi => by
    have x1 := ps.1.2.2.2.2 (i : Int) (by omega) (by omega)
    have x2 := ldD.2.1 1 (i : Int) (by decide) (by omega) (by show (i : Int) < 10; omega)
    rw [← x1, ← x2]
  obtain ⟨⟨hBB, i40, i66, i67, i73, i75, r69, r70, r74, r78⟩, r68, r67, r79, ⟨s84, s85, s86⟩, w71, ⟨c72, nk, nt⟩, ⟨d0, d1⟩, ⟨e0, e1⟩, q39⟩ := rw'
  obtain ⟨my1, my2, my3, my4⟩ := my
  have rI : RW n2 B I' l' := ⟨⟨hBB, i40, i66, i67, i73, i75, r69, r70, r74, r78⟩, r68, r67, r79, ⟨s84, s85, s86⟩, w71, ⟨c72, nk, nt⟩, ⟨d0, d1⟩, ⟨e0, e1⟩, q39⟩
  refine ⟨r2, ⟨⟨hD', e33⟩, by omega, by rw [e34]; omega, ps, ⟨⟨hBB, e13⟩, ⟨by rw [ob 266 (by decide) (by decide)]; exact i66, by rw [ob 267 (by decide) (by decide)]; exact i67, by rw [ob 273 (by decide) (by decide)]; exact i73, by rw [ob 275 (by decide) (by decide)]; exact i75, by rw [ob 284 (by decide) (by decide)]; exact s84, by rw [ob 285 (by decide) (by decide)]; exact s85, by rw [ob 286 (by decide) (by decide)]; exact s86⟩, fun i i0 i1 => ?_, fun i i0 i1 => ?_, fun i i0 i1 => ?_, fun i i0 i1 => ?_, fun i i0 i1 => ?_, fun i i0 i1 => ?_, ?_, ?_⟩, ?_⟩, ⟨z, cn, kc, vl, cl, ?_, cm⟩, ⟨ld, ⟨by decide, fun i i0 i1 => ?_, fun i i0 i1 => ?_, fun i i0 i1 => ?_, ?_, n4⟩, ?_⟩, ⟨0, nx, uf, fun _ => l', ⟨e77.1, by rw [e77.2]; exact pa1.2.1, by decide, pa1.2.2.2.1, fun i hi => absurd hi (Nat.not_lt_zero i)⟩, ⟨e55.1, by rw [e55.2]; exact pa2.2.1, by decide, pa2.2.2.2.1, fun i hi => absurd hi (Nat.not_lt_zero i)⟩, fun i hi => absurd hi (Nat.not_lt_zero i)⟩, ⟨e161, Or.inr e12, fun u => by rw [e12] at u; exact absurd u (by decide)⟩, e204, Or.inl e250, ⟨by rw [e258.1]; decide, by rw [e258.1]; decide, Or.inl ⟨by rw [e258.2.1]; decide, e258.2.2⟩⟩, se_off h13 e8.1 e8.2, rd, te, fe, oe, kst⟩
  · have := r68 i.toNat (by omega)
    rw [Int.toNat_of_nonneg i0] at this
    rw [ob 268 (by decide) (by decide)]; exact this
  · have := r70 i.toNat (by omega)
    rw [Int.toNat_of_nonneg i0] at this
    rw [ob 270 (by decide) (by decide)]; exact this
  · have := r74 i.toNat (by omega)
    rw [Int.toNat_of_nonneg i0] at this
    rw [ob 274 (by decide) (by decide)]; exact this
  · have := (r67 i.toNat (by omega)).1
    rw [Int.toNat_of_nonneg i0] at this
    rw [ob 276 (by decide) (by decide)]; exact this
  · have := (r67 i.toNat (by omega)).2
    rw [Int.toNat_of_nonneg i0] at this
    rw [ob 277 (by decide) (by decide)]; exact this
  · have := r79 i.toNat (by omega)
    rw [Int.toNat_of_nonneg i0] at this
    rw [ob 279 (by decide) (by decide)]; exact this
  · unfold SM CdM at d0 ⊢
    rw [ob 280 (by decide) (by decide), ob 281 (by decide) (by decide), ob 287 (by decide) (by decide), ob 288 (by decide) (by decide)]
    exact d0
  · unfold SM CdM at e0 ⊢
    rw [ob 282 (by decide) (by decide), ob 283 (by decide) (by decide), ob 287 (by decide) (by decide), ob 288 (by decide) (by decide)]
    exact e0
  · unfold MN
    rw [ob 272 (by decide) (by decide), ob 289 (by decide) (by decide), ob 290 (by decide) (by decide)]
    exact ⟨c72, nk, nt⟩
  · intro t ht st
    obtain ⟨a1, a2, a3, a4⟩ := ap1 t ht
    rw [spot t (by omega)]
    exact ⟨a1, a2, a3, fun u hu _ e => a4 u hu (by rw [← spot u (by omega)]; exact e)⟩
  · rw [show 42 * 0 + i.toNat = i.toNat from by omega, my1 i.toNat (by omega), ob 269 (by decide) (by decide), r69 i.toNat (by omega), Int.toNat_of_nonneg i0]
  · rw [show 10 * 0 + i.toNat = i.toNat from by omega, my2 i.toNat (by omega), ob 278 (by decide) (by decide), r78 i.toNat (by omega), Int.toNat_of_nonneg i0]
  · rw [show 5 * 0 + i.toNat = i.toNat from by omega, my3 i.toNat (by omega), l2 i i0 i1]
  · rw [my4, l3]
  · refine ⟨fun t t0 t1 => ?_, ap2, ap3, ⟨fun k k0 k1 => ?_, dr.1, dr.2, by rw [l3]; decide, by rw [l3]; decide⟩, fun t t0 t1 _ => ?_, fun t u t0 t1 u0 u1 e => ?_⟩
    · have := (ap1 t.toNat (by omega)).1
      rw [Int.toNat_of_nonneg t0] at this
      exact this
    · rw [l2 k k0 k1]; decide
    · have := spot t.toNat (by omega)
      rw [Int.toNat_of_nonneg t0] at this
      exact this.symm
    · have := (ap1 u.toNat (by omega)).2.2.2 t.toNat (by omega) (by rw [Int.toNat_of_nonneg t0, Int.toNat_of_nonneg u0]; exact e)
      omega
