/-! a thing told: what it changes -/
variable {T : Nat → Int} {len K D B : Nat} {m0 n0 : Mem}
def tI (I : Isl) (s k c : Int) : Isl := zI (zI (zI (zI I 11 (nT I) s) 10 (nT I) k) 21 (nT I) c) 9 0 ((nT I : Int) + 1)
def cI (I : Isl) (x : Int) : Isl := zI (zI (zI I 13 (nH I) ((nT I : Int) - 1)) 14 (nH I) x) 12 0 ((nH I : Int) + 1)
theorem tI_k {I : Isl} {s k0 c : Int} {k : Nat} (h : ¬(k = 9 ∨ k = 10 ∨ k = 11 ∨ k = 21)) : tI I s k0 c k = I k := by
  unfold tI
  rw [zI_k (by omega), zI_k (by omega), zI_k (by omega), zI_k (by omega)]
theorem cI_k {I : Isl} {x : Int} {k : Nat} (h : ¬(k = 12 ∨ k = 13 ∨ k = 14)) : cI I x k = I k := by
  unfold cI
  rw [zI_k (by omega), zI_k (by omega), zI_k (by omega)]
theorem tI_9 (I : Isl) (s k c : Int) : tI I s k c 9 0 = (nT I : Int) + 1 := zI_y _ _ _ _
theorem tI_nT (I : Isl) (s k c : Int) : nT (tI I s k c) = nT I + 1 := by
  unfold nT
  rw [tI_9]
  show ((nT I : Int) + 1).toNat = nT I + 1
  omega
theorem cI_12 (I : Isl) (x : Int) : cI I x 12 0 = (nH I : Int) + 1 := zI_y _ _ _ _
theorem cI_nH (I : Isl) (x : Int) : nH (cI I x) = nH I + 1 := by
  unfold nH
  rw [cI_12]
  show ((nH I : Int) + 1).toNat = nH I + 1
  omega
theorem tI_11 (I : Isl) (s k c j : Int) : tI I s k c 11 j = if j = (nT I : Int) then s else I 11 j := by
  unfold tI
  rw [zI_k (by decide), zI_k (by decide), zI_k (by decide)]
  by_cases q : j = (nT I : Int)
  · rw [if_pos q, q, zI_y]
  · rw [if_neg q, zI_n q]
theorem tI_10 (I : Isl) (s k c j : Int) : tI I s k c 10 j = if j = (nT I : Int) then k else I 10 j := by
  unfold tI
  rw [zI_k (by decide), zI_k (by decide)]
  by_cases q : j = (nT I : Int)
  · rw [if_pos q, q, zI_y]
  · rw [if_neg q, zI_n q, zI_k (by decide)]
theorem cI_13 (I : Isl) (x j : Int) : cI I x 13 j = if j = (nH I : Int) then (nT I : Int) - 1 else I 13 j := by
  unfold cI
  rw [zI_k (by decide), zI_k (by decide)]
  by_cases q : j = (nH I : Int)
  · rw [if_pos q, q, zI_y]
  · rw [if_neg q, zI_n q]
theorem cI_14 (I : Isl) (x j : Int) : cI I x 14 j = if j = (nH I : Int) then x else I 14 j := by
  unfold cI
  rw [zI_k (by decide)]
  by_cases q : j = (nH I : Int)
  · rw [if_pos q, q, zI_y]
  · rw [if_neg q, zI_n q, zI_k (by decide)]
theorem clTo_b {I I2 : Isl} : ∀ n : Nat, (∀ t : Nat, t < n → I2 11 t = I 11 t) → clTo I2 n = clTo I n := by
  intro n
  induction n with
  | zero => intro _; rfl
  | succ n ih =>
    intro h
    show clTo I2 n + bi (I2 11 n = 0) = clTo I n + bi (I 11 n = 0)
    rw [ih (fun t ht => h t (by omega)), h n (by omega)]
theorem tI_cl (I : Isl) (s k c : Int) {t : Nat} (ht : t ≤ nT I) : clTo (tI I s k c) t = clTo I t := clTo_b t fun u hu => by rw [tI_11, if_neg (by omega)]
theorem tI_cl1 (I : Isl) (s k c : Int) : clTo (tI I s k c) (nT I + 1) = clTo I (nT I) + bi (s = 0) := by
  show clTo (tI I s k c) (nT I) + bi (tI I s k c 11 (nT I) = 0) = _
  rw [tI_cl I s k c (Nat.le_refl _), tI_11, if_pos rfl]
theorem cI_cl (I : Isl) (x : Int) : clTo (cI I x) = clTo I := clTo_c (cI_k (by decide))
/-- all but the counting of cloths -/
theorem gw_thing {I : Isl} {l : Lnd} (h : GW I l) {s k c : Int} (k0 : 1 ≤ k) (k1 : k ≤ 9) (cb : 0 ≤ c ∧ c < nC I) (fr : frT I l c) (nf : nT I < 10) : (Sz (tI I s k c) ∧ Kc (tI I s k c) ∧ Vl (tI I s k c) ∧ Cm (tI I s k c)) ∧ Ap (tI I s k c) (zI l 1 (nT I) c) := by
  obtain ⟨z, w, cn, kc, ⟨vh, vt, vd, vr, hs⟩, cl, cm, ⟨ap1, ap2, ap3⟩, rest⟩ := h
  obtain ⟨n1, n2, n3, n4, n5, n6⟩ := cn
  refine ⟨⟨z, kc, ⟨vh, fun t t0 t1 => ?_, vd, vr, hs⟩, cm⟩, fun t ht => ?_, ap2, ap3⟩
  · rw [tI_9] at t1
    rw [tI_10]
    by_cases q : t = (nT I : Int)
    · rw [if_pos q]; exact ⟨k0, k1⟩
    · rw [if_neg q]; exact vt t t0 (by omega)
  · rw [tI_nT] at ht
    have dis : ∀ u : Nat, u < nT I → ¬l 1 u = c := fun u hu => fnd_all fr.2.2.2 u hu
    show (0 ≤ zI l 1 (nT I) c 1 t ∧ zI l 1 (nT I) c 1 t < nC I) ∧ ¬I 4 (zI l 1 (nT I) c 1 t) = 1 ∧ fnd (I 7) (zI l 1 (nT I) c 1 t) (nK I) = -1 ∧ ∀ u : Nat, u < nT (tI I s k c) → zI l 1 (nT I) c 1 u = zI l 1 (nT I) c 1 t → u = t
    rw [tI_nT]
    by_cases q : t = nT I
    · rw [q, zI_y]
      refine ⟨cb, fr.2.1, fr.2.2.1, fun u hu e => ?_⟩
      by_cases y : u = nT I
      · exact y
      · rw [zI_n (by omega)] at e
        exact absurd e (dis u (by omega))
    · rw [zI_n (show ¬((t : Nat) : Int) = (nT I : Int) from by omega)]
      obtain ⟨a1, a2, a3, a4⟩ := ap1 t (by omega)
      refine ⟨a1, a2, a3, fun u hu e => ?_⟩
      by_cases y : u = nT I
      · rw [y, zI_y] at e
        exact absurd e.symm (dis t (by omega))
      · rw [zI_n (by omega)] at e
        exact a4 u (by omega) e
theorem gw_stone {I : Isl} {l : Lnd} (h : GW I l) {s k c : Int} (s0 : ¬s = 0) (k0 : 1 ≤ k) (k1 : k ≤ 9) (cb : 0 ≤ c ∧ c < nC I) (fr : frT I l c) (nf : nT I < 10) : GW (tI I s k c) (zI l 1 (nT I) c) := by
  obtain ⟨⟨z, kc, vl, cm⟩, ap⟩ := gw_thing (s := s) h k0 k1 cb fr nf
  obtain ⟨_, w, ⟨n1, n2, n3, n4, n5, n6⟩, _, _, ⟨c1, c2⟩, _, _, dr, l2, l3, s12⟩ := h
  refine ⟨z, w, ⟨n1, n2, by rw [tI_9, tI_nT]; omega, by rw [tI_nT]; omega, n5, by rw [tI_nT]; exact Nat.le_succ_of_le n6⟩, kc, vl, ⟨?_, fun t ht e => ?_⟩, cm, ap, dr, l2, l3, s12⟩
  · rw [tI_nT, tI_cl1, ← bi_f s0]
    show I 12 0 = _
    omega
  · rw [tI_nT] at ht
    rw [tI_11] at e
    by_cases q : t = nT I
    · rw [if_pos (by omega)] at e; exact absurd e s0
    · rw [if_neg (by omega)] at e
      rw [tI_cl I s k c (by omega)]
      exact c2 t (by omega) e
theorem cl_eq {I : Isl} (n : Cn I) (c : Cl I) : clTo I (nT I) = (nH I : Int) := by
  obtain ⟨n1, n2, n3, n4, n5, n6⟩ := n
  have := c.1
  omega
theorem gw_cloth {I : Isl} {l : Lnd} (h : GW I l) {k c : Int} (x : Int) (k0 : 1 ≤ k) (k1 : k ≤ 9) (cb : 0 ≤ c ∧ c < nC I) (fr : frT I l c) (nf : nT I < 10) : GW (cI (tI I 0 k c) x) (zI l 1 (nT I) c) := by
  obtain ⟨⟨z, kc, vl, cm⟩, ap⟩ := gw_thing (s := 0) h k0 k1 cb fr nf
  obtain ⟨_, w, cn, _, _, cl, _, _, dr, l2, l3, s12⟩ := h
  have ce := cl_eq cn cl
  obtain ⟨n1, n2, n3, n4, n5, n6⟩ := cn
  obtain ⟨c1, c2⟩ := cl
  have eT : nT (cI (tI I 0 k c) x) = nT I + 1 := tI_nT I 0 k c
  have eH : nH (tI I 0 k c) = nH I := rfl
  refine ⟨z, w, ⟨n1, n2, ?_, by rw [eT]; omega, by rw [cI_12, cI_nH]; omega, by rw [cI_nH, eT, eH]; omega⟩, kc, vl, ⟨?_, fun t ht e => ?_⟩, cm, ap, dr, l2, l3, s12⟩
  · rw [eT]
    show tI I 0 k c 9 0 = _
    rw [tI_9]; omega
  · rw [cI_12, eT, cI_cl, tI_cl1, ← bi_t rfl, ce, eH]
  · rw [eT] at ht
    rw [cI_cl, cI_13, tI_nT, eH]
    by_cases q : t = nT I
    · rw [q, tI_cl I 0 k c (Nat.le_refl _), ce, if_pos rfl]; omega
    · have e' : I 11 t = 0 := by
        have : tI I 0 k c 11 t = 0 := e
        rw [tI_11, if_neg (by omega)] at this
        exact this
      rw [tI_cl I 0 k c (by omega)]
      have lt := clTo_lt9 I (show t < nT I from by omega) e'
      rw [if_neg (by omega)]
      exact c2 t (by omega) e'
theorem x_addThing {m : Mem} {I : Isl} {l : Lnd} (r : Refs m) (h : PD m D I) (hl : LD m (D + 12) l) (n : Cn I) (nf : nT I < 10) (s k c : Int) : Wp (X5_addThing D s k c m) (fun m2 => PD m2 D (tI I s k c) ∧ LD m2 (D + 12) (zI l 1 (nT I) c) ∧ Refs m2 ∧ ∀ b, ¬(b = D ∨ b = D + 14 ∨ b = D + 18 ∨ b = D + 19) → m2 b = m b) := by
  have hD := h.1
  obtain ⟨n1, n2, n3, n4, n5, n6⟩ := id n
  obtain ⟨hk8, hn8⟩ := pd_S h (k := 11) (by decide) (by decide)
  obtain ⟨hk7, hn7⟩ := pd_S h (k := 10) (by decide) (by decide)
  obtain ⟨hkL, hnL⟩ := ld_S hl.1 (k := 1) (by decide)
  unfold X5_addThing
  refine wp_k (pd_K h) ?_
  refine wp_b (pd_I h (k := 9) (by decide)) ?_
  rw [if_neg (by omega)]
  refine wp_b (pd_R r h (k := 11) (by decide)) ?_
  refine wp_b (pd_I h (k := 9) (by decide)) ?_
  rw [n3]
  obtain ⟨g, e, g1, g2⟩ := ar_stE (a := D + ofs 11) (n := 10) (i := (nT I : Int)) hk8 hn8 (by omega) (by omega) (by omega) s m
  refine wp_b e ?_
  have r2 := refs_set r (a := D + ofs 11) (Or.inl hk8) g
  have h2 := pd_put h (k0 := 11) (i := (nT I : Int)) (by decide) (by decide) (by omega) s g1 g2
  have l2 := ld_set hl (a := D + ofs 11) (by show D + 19 < D + 12 ∨ D + 12 + 3 < D + 19; omega) g
  obtain ⟨m2, hm2⟩ : ∃ m2, m2 = setA m (D + ofs 11) g := ⟨_, rfl⟩
  rw [← hm2] at r2 h2 l2 ⊢
  refine wp_b (pd_R r2 h2 (k := 10) (by decide)) ?_
  refine wp_b (pd_I h2 (k := 9) (by decide)) ?_
  rw [zI_k (show ¬9 = 11 from by decide), n3]
  obtain ⟨g', e', g1', g2'⟩ := ar_stE (a := D + ofs 10) (n := 10) (i := (nT I : Int)) hk7 hn7 (by omega) (by omega) (by omega) k m2
  refine wp_b e' ?_
  have r3 := refs_set r2 (a := D + ofs 10) (Or.inl hk7) g'
  have h3 := pd_put h2 (k0 := 10) (i := (nT I : Int)) (by decide) (by decide) (by omega) k g1' g2'
  have l3 := ld_set l2 (a := D + ofs 10) (by show D + 18 < D + 12 ∨ D + 12 + 3 < D + 18; omega) g'
  obtain ⟨m3, hm3⟩ : ∃ m3, m3 = setA m2 (D + ofs 10) g' := ⟨_, rfl⟩
  rw [← hm3] at r3 h3 l3 ⊢
  refine wp_b (pd_R r3 h3 (k := 5) (by decide)) ?_
  refine wp_b (pd_st r3 h3) ?_
  refine wp_b (pd_I h3 (k := 9) (by decide)) ?_
  rw [zI_k (show ¬9 = 10 from by decide), zI_k (show ¬9 = 11 from by decide), n3]
  obtain ⟨g'', e'', g1'', g2''⟩ := ar_stE (a := D + 14) (n := 10) (i := (nT I : Int)) hkL hnL (by omega) (by omega) (by omega) c m3
  refine wp_b e'' ?_
  have r4 := refs_set r3 (a := D + 14) (Or.inl hkL) g''
  have h4 := pd_put21 h3 (i := (nT I : Int)) (by omega) c g1'' g2''
  have l4 := ld_put l3 (k0 := 1) (i := (nT I : Int)) (by decide) (by omega) c g1'' g2''
  obtain ⟨m4, hm4⟩ : ∃ m4, m4 = setA m3 (D + 14) g'' := ⟨_, rfl⟩
  have l4' : LD m4 (D + 12) (zI l 1 (nT I) c) := by rw [hm4]; exact l4
  rw [← hm4] at r4 h4 ⊢
  refine wp_b (pd_I h4 (k := 9) (by decide)) ?_
  rw [zI_k (show ¬9 = 21 from by decide), zI_k (show ¬9 = 10 from by decide), zI_k (show ¬9 = 11 from by decide), n3, wI_of2 (x := (nT I : Int) + 1) (by omega) (by omega)]
  refine wp_b (pl_p hD (by decide) _ m4) ?_
  refine wp_some ⟨pd_putS h4 (by decide) (by decide) (by decide) _, ld_off l4' (fun b _ _ => up_ne (by omega)), refs_up r4 (by rcases hD with e | e <;> subst e <;> decide +kernel) _, fun b hb => ?_⟩
  rw [up_ne (by omega), hm4, setA_ne (by omega), hm3, setA_ne (by show ¬b = D + 18; omega), hm2, setA_ne (by show ¬b = D + 19; omega)]
theorem x_addCloth {m : Mem} {I : Isl} (r : Refs m) (h : PD m D I) (n3 : I 9 0 = (nT I : Int)) (t0 : 0 < nT I) (n4 : nT I ≤ 10) (n5 : I 12 0 = (nH I : Int)) (nf : nH I < 10) (x : Int) : Wp (X5_addCloth D x m) (fun m2 => PD m2 D (cI I x) ∧ Refs m2 ∧ ∀ b, ¬(b = D ∨ b = D + 20 ∨ b = D + 21) → m2 b = m b) := by
  have hD := h.1
  obtain ⟨hk8, hn8⟩ := pd_S h (k := 13) (by decide) (by decide)
  obtain ⟨hk7, hn7⟩ := pd_S h (k := 14) (by decide) (by decide)
  unfold X5_addCloth
  refine wp_k (pd_K h) ?_
  refine wp_b (pd_I h (k := 12) (by decide)) ?_
  rw [if_neg (by omega)]
  refine wp_b (pd_I h (k := 9) (by decide)) ?_
  rw [if_neg (by omega)]
  refine wp_b (pd_R r h (k := 13) (by decide)) ?_
  refine wp_b (pd_I h (k := 12) (by decide)) ?_
  refine wp_b (pd_I h (k := 9) (by decide)) ?_
  rw [n5, n3, wI_of2 (x := (nT I : Int) - 1) (by omega) (by omega)]
  obtain ⟨g, e, g1, g2⟩ := ar_stE (a := D + ofs 13) (n := 10) (i := (nH I : Int)) hk8 hn8 (by omega) (by omega) (by omega) ((nT I : Int) - 1) m
  refine wp_b e ?_
  have r2 := refs_set r (a := D + ofs 13) (Or.inl hk8) g
  have h2 := pd_put h (k0 := 13) (i := (nH I : Int)) (by decide) (by decide) (by omega) ((nT I : Int) - 1) g1 g2
  obtain ⟨m2, hm2⟩ : ∃ m2, m2 = setA m (D + ofs 13) g := ⟨_, rfl⟩
  rw [← hm2] at r2 h2 ⊢
  refine wp_b (pd_R r2 h2 (k := 14) (by decide)) ?_
  refine wp_b (pd_I h2 (k := 12) (by decide)) ?_
  rw [zI_k (show ¬12 = 13 from by decide), n5]
  obtain ⟨g', e', g1', g2'⟩ := ar_stE (a := D + ofs 14) (n := 10) (i := (nH I : Int)) hk7 hn7 (by omega) (by omega) (by omega) x m2
  refine wp_b e' ?_
  have r3 := refs_set r2 (a := D + ofs 14) (Or.inl hk7) g'
  have h3 := pd_put h2 (k0 := 14) (i := (nH I : Int)) (by decide) (by decide) (by omega) x g1' g2'
  obtain ⟨m3, hm3⟩ : ∃ m3, m3 = setA m2 (D + ofs 14) g' := ⟨_, rfl⟩
  rw [← hm3] at r3 h3 ⊢
  refine wp_b (pd_I h3 (k := 12) (by decide)) ?_
  rw [zI_k (show ¬12 = 14 from by decide), zI_k (show ¬12 = 13 from by decide), n5, wI_of2 (x := (nH I : Int) + 1) (by omega) (by omega)]
  refine wp_b (pl_p hD (by decide) _ m3) ?_
  refine wp_some ⟨pd_putS h3 (by decide) (by decide) (by decide) _, refs_up r3 (by rcases hD with e | e <;> subst e <;> decide +kernel) _, fun b hb => ?_⟩
  rw [up_ne (by omega), hm3, setA_ne (by show ¬b = D + 21; omega), hm2, setA_ne (by show ¬b = D + 20; omega)]
