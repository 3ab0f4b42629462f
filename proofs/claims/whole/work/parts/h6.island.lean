/-! the island, whole -/
theorem cf_a {D : Nat} {m m2 : Mem} (h : CFr D m m2) {a : Nat} (h1 : ¬a = 5) (h2 : ¬a = 6) (h3 : ¬(8 ≤ a ∧ a ≤ 10)) (h4 : ¬(D ≤ a ∧ a ≤ D + 28)) : m2 a = m a := funext fun j => h a j (fun u => h1 u.1) (fun u => h2 u.1) h3 h4
/-- the text is read by the class, whatever the reference will meet -/
theorem read_c {N : Nat} (hN : 4000 ≤ N) {m : Mem} (r : Refs m) (ks : Kst m) {D B len : Nat} (hD : D = 11 ∨ D = 40) (hB : B = 0 ∨ B = 1) (hl : len ≤ 1600) (hb4 : ∀ j : Nat, j < len → 0 ≤ m 4 j ∧ m 4 j ≤ 255) (hT : ∀ i, i < len → m 265 i = m 4 i) : ∃ v K, X6_read N 5 4 (len : Int) D m = some v ∧ ∀ n n1, Ini n n1 B len → (∀ i, i < len → n1 265 i = m 4 i) → Rl (m 4) len K D B m n1 (isGE N) (isG0 N 264 n1) v := by
  have X : Wp (X6_read N 5 4 (len : Int) D m) (fun v => ∃ K, ∀ n n1, Ini n n1 B len → (∀ i, i < len → n1 265 i = m 4 i) → Rl (m 4) len K D B m n1 (isGE N) (isG0 N 264 n1) v) := by
    refine x_begin (by omega) r ks hD hl hb4 (fun K m2 r2 rp cl cf _ _ e11 => ?_)
    have ks2 : Kst m2 := kst_off ks (cf_a cf (by decide) (by decide) (by decide) (by omega)) (cf_a cf (by decide) (by decide) (by decide) (by omega)) (cf_a cf (by decide) (by decide) (by decide) (by omega))
    obtain ⟨nd, ini, e265⟩ := ini_ex (B := B) r hB len
    obtain ⟨v, ev, _⟩ := b_read hN r2 rp cl ks2 hD e11 ini hB (fun i hi => by rw [e265]; exact hT i hi) hl cf
    refine ⟨v, ev, K, fun n n1 ini' hT' => ?_⟩
    obtain ⟨v', ev', rl'⟩ := b_read hN r2 rp cl ks2 hD e11 ini' hB hT' hl cf
    have ee := ev.symm.trans ev'
    have : v = v' := Option.some.inj ee
    rw [this]; exact rl'
  obtain ⟨v, ev, K, h⟩ := X
  exact ⟨v, K, ev, h⟩
theorem island_ok {N : Nat} (hN : 4000 ≤ N) : Call_2 N Inv := by
  intro m hm
  obtain ⟨P, b, I, l, s, h⟩ := hm
  obtain ⟨r, ⟨b3, bb, b4, ps, md, mn⟩, ⟨z, n, kc, vl, cl, fx, cm⟩, ⟨hl, my, gl⟩, pa, to, zz, hg, wk, se, rd, te, fe, oe, kst⟩ := id h; have h1 := ps.1; have tc := gl.1; have hs := vl.2.2.2.2
  have hN2 : 2000 ≤ N := by omega
  have hP := b3.1
  have hb := md.1.1
  obtain ⟨D, hD⟩ : ∃ D, D = 51 - P := ⟨_, rfl⟩
  obtain ⟨B, hB⟩ : ∃ B, B = 1 - b := ⟨_, rfl⟩
  have hD' : D = 11 ∨ D = 40 := by omega
  have hB' : B = 0 ∨ B = 1 := by omega
  obtain ⟨t1, t2, t3, t4⟩ := te
  obtain ⟨len, hlen⟩ : ∃ len : Nat, m 3 1 = (len : Int) := ⟨(m 3 1).toNat, (Int.toNat_of_nonneg t2).symm⟩
  have hl1600 : len ≤ 1600 := by omega
  have hT : ∀ i, i < len → m 265 i = m 4 i := fun i hi => ((t4 i (by omega)).1).symm
  obtain ⟨v, K, ev, hv⟩ := read_c (B := B) hN r kst hD' hB' hl1600 (fun j hj => (t4 j (by omega)).2) hT
  obtain ⟨nd, ini0, e265⟩ := ini_ex (B := B) r hB' len
  have cD : (shK 3 == 10 + 10 && decide (4 < shN 3) && decide (D ≠ 0)) = true := by rcases hD' with e | e <;> subst e <;> decide +kernel
  have start : ∀ {Q : Int × Mem → Prop}, Wp (if ¬v.1 = 0 then tlX (up v.2 3 1 0) else (X10_refuse 3 1 (up v.2 3 1 0)).bind fun p22 => some (p22.1, p22.2)) Q → Wp (X10_island N 3 m) Q := fun {Q} g => by
    unfold X10_island
    refine wp_k k3 ?_
    refine wp_b (rc r 5 (by decide +kernel)) ?_
    refine wp_b (rc r 4 (by decide +kernel)) ?_
    refine wp_b (gtI (by decide +kernel) _) ?_
    refine wp_b (gtR D (by rw [b4]; omega) cD) ?_
    rw [hlen]
    refine wp_b ev ?_
    refine wp_b (ptI (by decide +kernel) _ _) ?_
    exact g
  -- the reference's end of its chain, read back
  have e13 : m 264 13 = (b : Int) := md.1.2
  have e1 : m 264 1 = (len : Int) := by omega
  obtain ⟨s0, nn0, _, alt0⟩ := hv m nd ini0 (fun i hi => by rw [e265]; exact hT i hi)
  rcases alt0 with ⟨v1, _, I0, l0, j0⟩ | ⟨v0, jf0⟩
  · -- taken
    have cf := j0.2.1.2.2.2.2.1
    have rv := j0.1.1
    have oc : ∀ a, ¬a = 5 → ¬a = 6 → ¬(8 ≤ a ∧ a ≤ 10) → ¬(D ≤ a ∧ a ≤ D + 28) → v.2 a = m a := fun a h1 h2 h3 h4 => cf_a cf h1 h2 h3 h4
    obtain ⟨m6, hm6⟩ : ∃ m6, m6 = up v.2 3 1 0 := ⟨_, rfl⟩
    have r6 : Refs m6 := by rw [hm6]; exact refs_up rv (by decide +kernel) _
    have o6 : ∀ a, ¬a = 3 → m6 a = v.2 a := fun a ha => by rw [hm6, up_ne ha]
    have o63 : ∀ k, ¬k = 1 → m6 3 k = m 3 k := fun k hk => by rw [hm6, up_at, if_neg hk, oc 3 (by decide) (by decide) (by decide) (by omega)]
    have ld6 : ∀ l2, LD v.2 (D + 12) l2 → LD m6 (D + 12) l2 := fun l2 hh => ld_off hh (fun a _ _ => o6 a (by omega))
    obtain ⟨mF, eF, rF, f33, f34, f312, f3k, fld, ⟨f772, f771⟩, ⟨f2581, f2584⟩, f250, fo⟩ := x_taken (P := P) r6 hD' (by omega) (by rw [o63 3 (by decide)]; exact b3.2) (by rw [o63 4 (by decide), b4]; omega) (ld6 _ j0.2.1.2.1)
    have ofm : ∀ a, ¬a = 3 → ¬(69 ≤ a ∧ a ≤ 72) → ¬a = 77 → ¬a = 258 → ¬a = 250 → ¬a = 5 → ¬a = 6 → ¬(8 ≤ a ∧ a ≤ 10) → ¬(D ≤ a ∧ a ≤ D + 28) → mF a = m a := fun a x1 x2 x3 x4 x5 x6 x7 x8 x9 => by rw [fo a (by omega), o6 a x1, oc a x6 x7 x8 x9]
    have mF264 : mF 264 = m 264 := ofm 264 (by decide) (by decide) (by decide) (by decide) (by decide) (by decide) (by decide) (by decide) (by omega)
    have mF265 : mF 265 = m 265 := ofm 265 (by decide) (by decide) (by decide) (by decide) (by decide) (by decide) (by decide) (by decide) (by omega)
    have ref : Wp (X11_island N 264 mF) (fun q => q.1 = v.2 5 11 ∧ Inv q.2) := by
      refine m_init hN2 rF hb (by rw [mF264]; exact e13) hB (by rw [mF264]; exact e1) (fun n1 ini => ?_)
      obtain ⟨rn1, ⟨i2, i1, i5, i8, i9, i40, i39⟩, _, _, _, ifr⟩ := id ini
      have n1o : ∀ a, ¬a = 264 → ¬(266 ≤ a ∧ a ≤ 290) → n1 a = mF a := fun a x1 x2 => funext fun k => ifr a k (fun u => x1 u.1) (by unfold inBk; omega)
      obtain ⟨s3, n3, ey, alt⟩ := hv mF n1 ini (fun i hi => by rw [n1o 265 (by decide) (by decide), mF265]; exact hT i hi)
      rcases alt with ⟨_, _, I', l', j⟩ | ⟨v0, _⟩
      rotate_left
      · rw [v1] at v0; exact absurd v0 (by decide)
      rw [ey]
      obtain ⟨⟨_, r3, rp, rs⟩, ⟨ps', ld', rw', gw', cf', rf'⟩, e11, _⟩ := j
      have n3o : ∀ a, ¬a = 264 → ¬(266 ≤ a ∧ a ≤ 294) → n3 a = n1 a := fun a x1 x2 => funext fun k => rf' a k (fun u => x1 u.1) (by omega) (by unfold inBk; omega)
      have n3j : ∀ k, ¬(3 ≤ k ∧ k ≤ 12 ∨ k = 39 ∨ k = 44 ∨ k = 45 ∨ k = 47 ∨ k = 48) → n3 264 k = n1 264 k := fun k hk => rf' 264 k (fun u => hk u.2) (by decide) (by unfold inBk; omega)
      have z8 : n3 264 8 = 0 := rs.2.1
      have z9 : n3 264 9 = -1 := rs.2.2.2.2.2.2
      obtain ⟨x, hx⟩ : ∃ x, x = up (up (up n3 264 10 0) 264 11 (-1)) 264 13 (B : Int) := ⟨_, rfl⟩
      have rx : Refs x := by rw [hx]; exact refs_up (refs_up (refs_up r3 (by decide +kernel) _) (by decide +kernel) _) (by decide +kernel) _
      have xo : ∀ a, ¬a = 264 → x a = n3 a := fun a ha => by rw [hx, up_ne ha, up_ne ha, up_ne ha]
      have xj : ∀ k, ¬(k = 10 ∨ k = 11 ∨ k = 13) → x 264 k = n3 264 k := fun k hk => by rw [hx, up_at, if_neg (by omega), up_at, if_neg (by omega), up_at, if_neg (by omega)]
      have x10 : x 264 10 = 0 := by rw [hx, up_slot (by decide), up_slot (by decide), up_same]
      have x11 : x 264 11 = -1 := by rw [hx, up_slot (by decide), up_same]
      have x13 : x 264 13 = (B : Int) := by rw [hx, up_same]
      obtain ⟨y, eby, ry, y96, y55, y72, y97, y98, y99, yj, yo⟩ := m_begin hN2 rx hB' x13
      have z40 := rw'.1.2.1
      unfold isGE
      refine wp_b (g264 (by decide)) ?_
      refine wp_b (p264 (by decide) _ _) ?_
      refine wp_b (g264 (by decide)) ?_
      refine wp_b (p264 (by decide) _ _) ?_
      refine wp_b (g264 (by decide)) ?_
      rw [up_slot (by decide), up_slot (by decide), up_slot (by decide), z8, z9, if_pos (by decide)]
      refine wp_b (g264 (by decide)) ?_
      rw [up_slot (by decide), up_slot (by decide), z40]
      refine wp_b (p264 (by decide) _ _) ?_
      rw [← hx]
      refine wp_b eby ?_
      refine wp_some ⟨e11.symm, D, B, I', l', s, ?_⟩
      -- all that the relation asks
      have yF : ∀ a, ¬(264 ≤ a ∧ a ≤ 299) → y a = mF a := fun a ha => by rw [yo a (by omega), xo a (by omega), n3o a (by omega) (by omega), n1o a (by omega) (by omega)]
      have yv : ∀ a, ¬(264 ≤ a ∧ a ≤ 299) → ¬(a = 3 ∨ (69 ≤ a ∧ a ≤ 72) ∨ a = 77 ∨ a = 258 ∨ a = 250) → y a = v.2 a := fun a h1 h2 => by rw [yF a h1, fo a h2, o6 a (by omega)]
      have ym : ∀ a, ¬(264 ≤ a ∧ a ≤ 299) → ¬(a = 3 ∨ (69 ≤ a ∧ a ≤ 72) ∨ a = 77 ∨ a = 258 ∨ a = 250) → ¬a = 5 → ¬a = 6 → ¬(8 ≤ a ∧ a ≤ 10) → ¬(D ≤ a ∧ a ≤ D + 28) → y a = m a := fun a h1 h2 h3 h4 h5 h6 => by rw [yv a h1 h2, oc a h3 h4 h5 h6]
      have y3 : ∀ k, ¬(k = 1 ∨ k = 3 ∨ k = 4 ∨ k = 12) → y 3 k = m 3 k := fun k hk => by rw [yF 3 (by decide), f3k k (by omega), o63 k (by omega)]
      have y264 : ∀ k, 54 ≤ k → ¬(k = 55 ∨ k = 72) → y 264 k = m 264 k := fun k h1 h2 => by rw [yj k h2, xj k (by omega), n3j k (by omega), ifr 264 k (fun u => by omega) (by unfold inBk; omega), mF264]
      obtain ⟨c, nx, uf, ls, pa1, pa2, pa3⟩ := pa
      show InvP y D B I' l' s
      refine inv_new h hD hB gw' ⟨pd_off ps'.1 fun a a1 a2 _ _ _ => yv a (by omega) (by omega), sd_off ps'.2.1 (fun q q1 q2 => yv q (by omega) (by omega)), sd_off ps'.2.2 (fun q q1 q2 => yv q (by omega) (by omega))⟩ (ld_off ld' fun a a1 a2 => yv a (by omega) (by omega)) rw' (fun a a1 a2 => by rw [yo a (by omega), xo a (by omega)]) ry (by rw [yF 3 (by decide)]; exact f33) (by rw [yF 3 (by decide)]; exact f34) (by rw [yj 13 (by decide)]; exact x13) (ld_off (fld l' (ld6 l' ld')) fun a a1 a2 => yF a (by omega)) ⟨fun c hc => by rw [y97 c hc, yo 269 (by decide)], fun t ht => by rw [y98 t ht, yo 278 (by decide)], y99, y96⟩ ⟨by rw [yF 77 (by decide)]; exact f772, by rw [yF 77 (by decide), f771, o6 77 (by decide), oc 77 (by decide) (by decide) (by decide) (by omega)]⟩ ⟨y55, y264 54 (by decide) (by decide)⟩ (by rw [ym 161 (by decide) (by decide) (by decide) (by decide) (by decide) (by omega)]; exact to.1) (by rw [yF 3 (by decide)]; exact f312) ⟨by rw [ym 204 (by decide) (by decide) (by decide) (by decide) (by decide) (by omega)]; exact zz.1, by rw [ym 245 (by decide) (by decide) (by decide) (by decide) (by decide) (by omega)]; exact zz.2⟩ (by rw [yF 250 (by decide)]; exact f250) ⟨by rw [yF 258 (by decide)]; exact f2581, by rw [yF 258 (by decide)]; exact f2584, y72⟩ ⟨y3 8 (by decide), y264 56 (by decide) (by decide)⟩ (rd_off rd (ym 263 (by decide) (by decide) (by decide) (by decide) (by decide) (by omega)) ?_) (te_0 ?_ ?_) ⟨?_, ?_⟩ (oe_off oe (y3 17 (by decide)) (y264 77 (by decide) (by decide)) (ym 262 (by decide) (by decide) (by decide) (by decide) (by decide) (by omega)) (ym 312 (by decide) (by decide) (by decide) (by decide) (by decide) (by omega))) (kst_off kst (ym 1 (by decide) (by decide) (by decide) (by decide) (by decide) (by omega)) (ym 2 (by decide) (by decide) (by decide) (by decide) (by decide) (by omega)) (ym 7 (by decide) (by decide) (by decide) (by decide) (by decide) (by omega)))
      · rw [yo 295 (by decide), xo 295 (by decide), n3o 295 (by decide) (by decide), n1o 295 (by decide) (by decide)]
        exact ofm 295 (by decide) (by decide) (by decide) (by decide) (by decide) (by decide) (by decide) (by decide) (by omega)
      · rw [yF 3 (by decide), f3k 1 (by decide), hm6, up_same]
      · rw [yj 1 (by decide), xj 1 (by decide), n3j 1 (by decide)]; exact i1
      · obtain ⟨i, d, _, _, kz⟩ := rp
        rw [yv 5 (by decide) (by decide), yj 10 (by decide), x10]; exact kz.1
      · obtain ⟨i, d, _, _, kz⟩ := rp
        rw [yv 5 (by decide) (by decide), yj 11 (by decide), x11]; exact kz.2
    obtain ⟨w, ew, hw1, hw2⟩ := ref
    obtain ⟨w1, w2⟩ := w
    have hw1' : w1 = v.2 5 11 := hw1
    subst hw1'
    have cls : X10_island N 3 m = some (v.2 5 11, mF) := by
      refine wp_eq (start ?_)
      rw [if_pos (by rw [v1]; decide), ← hm6, eF, o6 5 (by decide)]
      exact wp_some rfl
    exact ⟨v.2 5 11, mF, w2, cls, ew, hw2⟩
  · -- refused
    obtain ⟨_, rv, _, cf, _⟩ := jf0
    have oc : ∀ a, ¬a = 5 → ¬a = 6 → ¬(8 ≤ a ∧ a ≤ 10) → ¬(D ≤ a ∧ a ≤ D + 28) → v.2 a = m a := fun a h1 h2 h3 h4 => cf_a cf h1 h2 h3 h4
    obtain ⟨m6, hm6⟩ : ∃ m6, m6 = up v.2 3 1 0 := ⟨_, rfl⟩
    have r6 : Refs m6 := by rw [hm6]; exact refs_up rv (by decide +kernel) _
    obtain ⟨mF, hmF⟩ : ∃ mF, mF = up m6 263 1 (wI (m6 263 1 + 1)) := ⟨_, rfl⟩
    have rF : Refs mF := by rw [hmF]; exact refs_arr r6 (by decide +kernel) _ _
    have fo : ∀ a, ¬a = 3 → ¬a = 263 → mF a = v.2 a := fun a h1 h2 => by rw [hmF, up_ne h2, hm6, up_ne h1]
    have fm : ∀ a, ¬a = 3 → ¬a = 263 → ¬a = 5 → ¬a = 6 → ¬(8 ≤ a ∧ a ≤ 10) → ¬(D ≤ a ∧ a ≤ D + 28) → mF a = m a := fun a h1 h2 h3 h4 h5 h6 => by rw [fo a h1 h2, oc a h3 h4 h5 h6]
    have f3k : ∀ k, ¬k = 1 → mF 3 k = m 3 k := fun k hk => by rw [hmF, up_ne (by decide), hm6, up_at, if_neg hk, oc 3 (by decide) (by decide) (by decide) (by omega)]
    have mF264 : mF 264 = m 264 := fm 264 (by decide) (by decide) (by decide) (by decide) (by decide) (by omega)
    have mF265 : mF 265 = m 265 := fm 265 (by decide) (by decide) (by decide) (by decide) (by decide) (by omega)
    have ref : Wp (X11_island N 264 mF) (fun q => q.1 = -1 ∧ Inv q.2) := by
      refine m_init hN2 rF hb (by rw [mF264]; exact e13) hB (by rw [mF264]; exact e1) (fun n1 ini => ?_)
      obtain ⟨rn1, ⟨i2, i1, i5, i8, i9, i40, i39⟩, _, _, _, ifr⟩ := id ini
      have n1o : ∀ a, ¬a = 264 → ¬(266 ≤ a ∧ a ≤ 290) → n1 a = mF a := fun a x1 x2 => funext fun k => ifr a k (fun u => x1 u.1) (by unfold inBk; omega)
      obtain ⟨s3, n3, ey, alt⟩ := hv mF n1 ini (fun i hi => by rw [n1o 265 (by decide) (by decide), mF265]; exact hT i hi)
      rcases alt with ⟨v1, _⟩ | ⟨_, ⟨f, p, hf, p1, p2, p3, p4⟩, _, r3, _, rf'⟩
      · rw [v0] at v1; exact absurd v1 (by decide)
      rw [ey]
      have n3o : ∀ a, ¬a = 264 → ¬(266 ≤ a ∧ a ≤ 294) → n3 a = n1 a := fun a x1 x2 => funext fun k => rf' a k (fun u => x1 u.1) (by omega) (by unfold inBk; omega)
      have n3j : ∀ k, ¬(3 ≤ k ∧ k ≤ 12 ∨ k = 39 ∨ k = 44 ∨ k = 45 ∨ k = 47 ∨ k = 48) → n3 264 k = n1 264 k := fun k hk => rf' 264 k (fun u => hk u.2) (by decide) (by unfold inBk; omega)
      obtain ⟨x, hx⟩ : ∃ x, x = up (up n3 264 10 f) 264 11 p := ⟨_, rfl⟩
      have rx : Refs x := by rw [hx]; exact refs_up (refs_up r3 (by decide +kernel) _) (by decide +kernel) _
      have xo : ∀ a, ¬a = 264 → x a = n3 a := fun a ha => by rw [hx, up_ne ha, up_ne ha]
      have xj : ∀ k, ¬(k = 10 ∨ k = 11) → x 264 k = n3 264 k := fun k hk => by rw [hx, up_at, if_neg (by omega), up_at, if_neg (by omega)]
      have x10 : x 264 10 = f := by rw [hx, up_slot (by decide), up_same]
      have x11 : x 264 11 = p := by rw [hx, up_same]
      obtain ⟨y, hy⟩ : ∃ y, y = up x 295 1 (wI (x 295 1 + 1)) := ⟨_, rfl⟩
      have ry : Refs y := by rw [hy]; exact refs_arr rx (by decide +kernel) _ _
      have yo : ∀ a, ¬a = 295 → y a = x a := fun a ha => by rw [hy, up_ne ha]
      unfold isGE
      refine wp_b (g264 (by decide)) ?_
      refine wp_b (p264 (by decide) _ _) ?_
      refine wp_b (g264 (by decide)) ?_
      refine wp_b (p264 (by decide) _ _) ?_
      refine wp_b (g264 (by decide)) ?_
      rw [up_slot (by decide), up_slot (by decide), up_slot (by decide), p3, p4, if_neg (by omega), ← hx]
      have rm := refuse_m rx (s := 1) (by decide) (by decide)
      refine wp_b rm ?_
      show Wp (some ((-1 : Int), up x 295 (1 : Int).toNat (wI (x 295 (1 : Int).toNat + 1)))) _
      rw [show (1 : Int).toNat = 1 from rfl, ← hy]
      refine wp_some ⟨rfl, P, b, I, l, s, ?_⟩
      have yF : ∀ a, ¬(a = 264 ∨ (266 ≤ a ∧ a ≤ 295)) → y a = mF a := fun a ha => by rw [yo a (by omega), xo a (by omega), n3o a (by omega) (by omega), n1o a (by omega) (by omega)]
      have x95 : ∀ j, x 295 j = m 295 j := fun j => by rw [xo 295 (by decide), n3o 295 (by decide) (by decide), n1o 295 (by decide) (by decide), fm 295 (by decide) (by decide) (by decide) (by decide) (by decide) (by omega)]
      have m63 : ∀ j, m6 263 j = m 263 j := fun j => by rw [hm6, up_ne (by decide), oc 263 (by decide) (by decide) (by decide) (by omega)]
      show InvP y P b I l s
      refine inv_i h hD hB ry (fun a ha => ?_) (fun k hk => by rw [yF 3 (by decide)]; exact f3k k hk) (fun k hk => ?_) (fun a k a1 a2 hk => ?_) (fun j hj => ?_) (te_0 ?_ ?_) ⟨?_, ?_⟩
      · rw [yF a (by omega)]
        exact fm a (by omega) (by omega) (by omega) (by omega) (by omega) (by omega)
      · rw [yo 264 (by decide), xj k (by omega), n3j k (by omega), ifr 264 k (fun u => by omega) (by unfold inBk; omega), mF264]
      · rw [yo a (by omega), xo a (by omega), rf' a k (fun u => by have := u.1; omega) (by omega) hk, ifr a k (fun u => by have := u.1; omega) hk, fm a (by omega) (by omega) (by omega) (by omega) (by omega) (by omega)]
      · have rj := rd j hj
        rw [yF 263 (by decide), hmF, hy, up_at, up_at]
        by_cases q : j = 1
        · rw [if_pos q, if_pos q, m63, x95, rd 1 (by decide)]
        · rw [if_neg q, if_neg q, m63, x95, rj]
      · rw [yF 3 (by decide), hmF, up_ne (by decide), hm6, up_same]
      · rw [yo 264 (by decide), xj 1 (by decide), n3j 1 (by decide)]; exact i1
      · rw [yF 5 (by decide), fo 5 (by decide) (by decide), yo 264 (by decide), x10]; exact p1
      · rw [yF 5 (by decide), fo 5 (by decide) (by decide), yo 264 (by decide), x11]; exact p2
    obtain ⟨w, ew, hw1, hw2⟩ := ref
    obtain ⟨w1, w2⟩ := w
    have hw1' : w1 = -1 := hw1
    subst hw1'
    have cls : X10_island N 3 m = some (-1, mF) := by
      refine wp_eq (start ?_)
      rw [if_neg (fun u => u v0), ← hm6]
      have rx := refuse_x r6 (s := 1) (by decide) (by decide)
      refine wp_b rx ?_
      show Wp (some ((-1 : Int), up m6 263 (1 : Int).toNat (wI (m6 263 (1 : Int).toNat + 1)))) _
      rw [show (1 : Int).toNat = 1 from rfl, ← hmF]
      exact wp_some rfl
    exact ⟨-1, mF, w2, cls, ew, hw2⟩
