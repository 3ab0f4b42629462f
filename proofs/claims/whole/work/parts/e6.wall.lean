/-! a wall, a house -/
variable {T : Nat → Int} {len K D B : Nat} {m0 n0 : Mem}
theorem sumTo_put {f f2 : Nat → Int} {c : Nat} (e : f c = 0) (e2 : f2 c = 1) (o : ∀ j, ¬j = c → f2 j = f j) : ∀ n, sumTo f2 n = if c < n then sumTo f n + 1 else sumTo f n := by
  intro n
  induction n with
  | zero => rfl
  | succ n ih =>
    show sumTo f2 n + f2 n = if c < n + 1 then sumTo f n + f n + 1 else sumTo f n + f n
    rw [ih]
    by_cases q : c < n
    · rw [if_pos q, if_pos (by omega), o n (by omega)]; omega
    · rw [if_neg q]
      by_cases y : n = c
      · rw [if_pos (by omega), y, e, e2]; omega
      · rw [if_neg (by omega), o n y]
theorem gw_wall {I : Isl} {l : Lnd} (h : GW I l) {c : Int} (cb : 0 ≤ c ∧ c < nC I) (fr : frT I l c) (nf : sumTo (fun j => l 0 j) 42 < 12) : GW I (zI l 0 c 1) ∧ sumTo (fun j => zI l 0 c 1 0 j) 42 = sumTo (fun j => l 0 j) 42 + 1 := by
  obtain ⟨z, w, cn, kc, vl, cl, cm, ⟨ap1, ap2, ap3⟩, dr, l2, l3, s1, s2⟩ := h
  have z7 := z.2.2.2.2.2.2
  have l0 : l 0 c = 0 := by
    have := ap2 c cb.1 (by omega)
    have := fr.1
    omega
  have su := sumTo_put (f := fun j => l 0 j) (f2 := fun j => zI l 0 c 1 0 j) (c := c.toNat) (by show l 0 ((c.toNat : Nat) : Int) = 0; rw [Int.toNat_of_nonneg cb.1]; exact l0) (by show zI l 0 c 1 0 ((c.toNat : Nat) : Int) = 1; rw [Int.toNat_of_nonneg cb.1, zI_y]) (fun j hj => zI_n (by omega)) 42
  rw [if_pos (by omega)] at su
  refine ⟨⟨z, w, cn, kc, vl, cl, cm, ⟨ap1, fun x x0 x1 => ?_, fun x x0 x1 => ?_⟩, dr, l2, l3, by rw [su]; omega, s2⟩, su⟩
  · by_cases q : x = c
    · rw [q, zI_y]; exact Or.inr rfl
    · rw [zI_n q]; exact ap2 x x0 x1
  · rw [zI_n (by omega)]; exact ap3 x x0 x1
theorem gw_house {I : Isl} {l : Lnd} (h : GW I l) {c : Int} (cb : 0 ≤ c ∧ c < nC I) (fr : frT I l c) (nf : sumTo (fun j => I 4 j) 42 < 6) : GW (zI I 4 c 1) l ∧ sumTo (fun j => zI I 4 c 1 4 j) 42 = sumTo (fun j => I 4 j) 42 + 1 := by
  obtain ⟨z, w, cn, kc, ⟨vh, vt, vd, vr, hs⟩, cl, cm, ⟨ap1, ap2, ap3⟩, dr, l2, l3, s1, s2⟩ := h
  have z7 := z.2.2.2.2.2.2
  have l0 : I 4 c = 0 := by
    have := hs c
    have := fr.2.1
    omega
  have su := sumTo_put (f := fun j => I 4 j) (f2 := fun j => zI I 4 c 1 4 j) (c := c.toNat) (by show I 4 ((c.toNat : Nat) : Int) = 0; rw [Int.toNat_of_nonneg cb.1]; exact l0) (by show zI I 4 c 1 4 ((c.toNat : Nat) : Int) = 1; rw [Int.toNat_of_nonneg cb.1, zI_y]) (fun j hj => zI_n (by omega)) 42
  rw [if_pos (by omega)] at su
  refine ⟨⟨z, w, cn, kc, ⟨vh, vt, vd, vr, fun x => ?_⟩, ?_, cm, ⟨fun t ht => ?_, ap2, ap3⟩, dr, l2, l3, s1, by rw [su]; omega⟩, su⟩
  · by_cases q : x = c
    · rw [q, zI_y]; exact Or.inr rfl
    · rw [zI_n q]; exact hs x
  · unfold Cl
    rw [clTo_s (by decide)]
    exact cl
  · obtain ⟨a1, a2, a3, a4⟩ := ap1 t ht
    refine ⟨a1, ?_, a3, a4⟩
    rw [zI_n (fnd_all fr.2.2.2 t ht)]
    exact a2
theorem st_wall {N : Nat} (hN : 2000 ≤ N) {m n : Mem} {a : Nat} {s : Int} {I : Isl} {l : Lnd} (j : JI T len K D B m0 n0 m n a s I l) (k : kdP T len a = (2, 3)) (nf : sumTo (fun j => l 0 j) 42 < 12) : Wp (sW 3 (fun m => two (X6_wallOf N 5 D m)) m) (fun v => Wp (X11_walling N 264 n) (fun n2 => Po T len K D B m0 n0 a s v n2)) := by
  obtain ⟨p, js, e11, ab⟩ := j
  obtain ⟨hB, i40, _⟩ := js.2.2.1.1
  have w71 := js.2.2.1.2.2.2.2.2.1
  unfold X11_walling
  refine wp_rk k264 ?_
  refine wp_r (gR19 p.2.1) ?_
  refine wp_r (g264 (by decide)) ?_
  rw [i40]
  refine wp_r (wld1 (by decide +kernel) hB n) ?_
  rw [w71, if_pos (show ¬sumTo (fun j => l 0 j) 42 = 12 from by omega)]
  unfold X11_walling_J20
  refine wp_j (b_count hN p js (i := 3) (by decide) (by decide) rfl k rfl) (fun v q hv => ?_)
  obtain ⟨v1, q1, p1, js1, lt1, _, e1⟩ := hv
  rw [v1, if_neg (by decide), q1, if_pos (by decide)]
  refine wrap ?_
  unfold X6_wallOf
  refine wp_k k5r ?_
  refine wp_j (b_spot hN p1 js1 1) (fun v3 q3 hv => ?_)
  rcases hv with ⟨e3, a', ⟨p3, js3, lt3, _, f3⟩, g8, cb, cc⟩ | ⟨e3, no⟩
  rotate_left
  · rw [e3, if_neg (fun u => u rfl)]
    refine wp_n0 ?_
    refine wp_b (g264 (by decide)) ?_
    rw [if_neg (by have := no_8 no; omega)]
    exact wp_some (no_po no)
  rw [e3, if_pos (by decide)]
  obtain ⟨⟨pd, sd1, sd2⟩, ld, rw', gw, cf, rf⟩ := id js3
  have hD := pd.1
  obtain ⟨r, r2, rp, rs⟩ := id p3
  have z7 := gw.1.2.2.2.2.2.2
  have fr := (frT_cont cb (by omega)).mp (cc (by decide))
  obtain ⟨gw2, su⟩ := gw_wall gw cb fr nf
  refine wp_b (pd_R r pd (k := 5) (by decide)) ?_
  refine wp_b (show getR 1 0 (D + ofs 5) v3.2 = some (D + 13) from ld_R r ld (k := 0) (by decide)) ?_
  refine wp_b (gtI (by decide +kernel) _) ?_
  rw [g8]
  obtain ⟨hk, hn⟩ := ld_S ld.1 (k := 0) (by decide)
  obtain ⟨g, es, g1, g2⟩ := ar_stE (a := D + 13) (n := 42) (i := q3.1) hk hn (by omega) cb.1 (by omega) 1 v3.2
  refine wp_b es ?_
  refine wp_n1 ?_
  refine wp_b (g264 (by decide)) ?_
  rw [if_pos (by have := jp_8 p3; omega)]
  refine wp_b (gR17 r2) ?_
  refine wp_b (g264 (by decide)) ?_
  rw [rw'.1.2.1]
  refine wp_b (wst (K := 42) (B := B) (len := 42) (n := 84) (by decide +kernel) (by omega) (by decide) cb.1 (by omega) 1 q3.2) ?_
  obtain ⟨n4, hn4⟩ : ∃ n4, n4 = up q3.2 269 (42 * B + q3.1.toNat) 1 := ⟨_, rfl⟩
  have r4 : Refs n4 := by rw [hn4]; exact refs_arr r2 (by decide +kernel) _ _
  have a40 : n4 264 40 = (B : Int) := by rw [hn4, up_ne (by decide)]; exact rw'.1.2.1
  rw [← hn4]
  refine wp_b (gR19 r4) ?_
  refine wp_b (g264 (by decide)) ?_
  rw [a40]
  refine wp_b (wld1 (by decide +kernel) hB n4) ?_
  have e71 : n4 271 B = sumTo (fun j => l 0 j) 42 := by rw [hn4, up_ne (by decide)]; exact rw'.2.2.2.2.2.1
  have s0 : 0 ≤ sumTo (fun j : Nat => l 0 j) 42 := (sumTo_in (fun j hj => gw.2.2.2.2.2.2.2.1.2.1 (j : Int) (by omega) (by omega))).1
  rw [e71, wI_of2 (x := sumTo (fun j => l 0 j) 42 + 1) (by omega) (by omega)]
  refine wp_b (wst1 (by decide +kernel) hB _ n4) ?_
  obtain ⟨n5, hn5⟩ : ∃ n5, n5 = up n4 271 B (sumTo (fun j => l 0 j) 42 + 1) := ⟨_, rfl⟩
  have r5 : Refs n5 := by rw [hn5]; exact refs_arr r4 (by decide +kernel) _ _
  rw [← hn5]
  have oo : ∀ b, ¬b = 269 → ¬b = 271 → n5 b = q3.2 b := fun b h1 h2 => by rw [hn5, up_ne h2, hn4, up_ne h1]
  refine wp_some (Or.inl ⟨rfl, a', I, zI l 0 q3.1 1, by omega, ⟨refs_set r (Or.inl hk) g, r5, rp_off rp (fun b hb => setA_ne (by omega) _ _), rs_off rs (fun j _ => by rw [oo 264 (by decide) (by decide)]) (oo 265 (by decide) (by decide))⟩, ⟨⟨pd_off pd (fun b _ _ _ h13 _ => setA_ne h13 _ _), sd_set sd1 (by omega) g, sd_set sd2 (by omega) g⟩, ld_put ld (k0 := 0) (by decide) cb.1 1 g1 g2, ?_, gw2, cf_set cf (by omega) g, ?_⟩, ?_, ?_⟩)
  · have o : ∀ a, 266 ≤ a → a ≤ 290 → ¬(a = 269 ∨ a = 271) → n5 a = q3.2 a := fun a _ _ ha => oo a (fun u => ha (Or.inl u)) (fun u => ha (Or.inr u))
    have o40 : n5 264 40 = q3.2 264 40 := by rw [oo 264 (by decide) (by decide)]
    have o39 : n5 264 39 = q3.2 264 39 := by rw [oo 264 (by decide) (by decide)]
    obtain ⟨⟨hB, i40, i66, i67, i73, i75, r69, r70, r74, r78⟩, r68, r67, r79, ⟨s84, s85, s86⟩, w71, ⟨c72, nk, nt⟩, ⟨d0, d1⟩, ⟨e0, e1⟩, q39⟩ := rw'
    refine ⟨⟨hB, (by rw [o40]; exact i40), (by rw [o 266 (by decide) (by decide) (by decide)]; exact i66), (by rw [o 267 (by decide) (by decide) (by decide)]; exact i67), (by rw [o 273 (by decide) (by decide) (by decide)]; exact i73), (by rw [o 275 (by decide) (by decide) (by decide)]; exact i75), ?_, (by rw [o 270 (by decide) (by decide) (by decide)]; exact r70), (by rw [o 274 (by decide) (by decide) (by decide)]; exact r74), (by rw [o 278 (by decide) (by decide) (by decide)]; exact r78)⟩, (by rw [o 268 (by decide) (by decide) (by decide)]; exact r68), (by rw [o 276 (by decide) (by decide) (by decide), o 277 (by decide) (by decide) (by decide)]; exact r67), (by rw [o 279 (by decide) (by decide) (by decide)]; exact r79), ⟨(by rw [o 284 (by decide) (by decide) (by decide)]; exact s84), (by rw [o 285 (by decide) (by decide) (by decide)]; exact s85), (by rw [o 286 (by decide) (by decide) (by decide)]; exact s86)⟩, ?_, ⟨(by rw [o 272 (by decide) (by decide) (by decide)]; exact c72), (by rw [o 289 (by decide) (by decide) (by decide)]; exact nk), (by rw [o 290 (by decide) (by decide) (by decide)]; first | exact nt | (rw [clTo_s (by decide)]; exact nt) | (rw [clTo_s (by decide), clTo_s (by decide)]; exact nt) | (rw [clTo_s (by decide), clTo_s (by decide), clTo_s (by decide)]; exact nt))⟩, ⟨(by unfold SM CdM; rw [o 280 (by decide) (by decide) (by decide), o 281 (by decide) (by decide) (by decide), o 287 (by decide) (by decide) (by decide), o 288 (by decide) (by decide) (by decide)]; exact d0), (by rw [o 280 (by decide) (by decide) (by decide), o39]; exact d1)⟩, ⟨(by unfold SM CdM; rw [o 282 (by decide) (by decide) (by decide), o 283 (by decide) (by decide) (by decide), o 287 (by decide) (by decide) (by decide), o 288 (by decide) (by decide) (by decide)]; exact e0), (by rw [o 282 (by decide) (by decide) (by decide), o39]; exact e1)⟩, (by rw [o39]; exact q39)⟩
    · intro c hc
      rw [hn5, up_ne (by decide), hn4, up_at]
      by_cases y : c = q3.1.toNat
      · rw [if_pos (by omega), show ((c : Nat) : Int) = q3.1 from by omega, zI_y]
      · rw [if_neg (by omega), zI_n (by omega)]; exact r69 c hc
    · rw [hn5, up_same, su]
  · rw [hn5, hn4]
    exact rf_st (rf_st rf (by unfold inBk; omega) _) (by unfold inBk; omega) _
  · show setA v3.2 (D + 13) g 5 11 = s
    rw [setA_ne (by omega), f3, e1]; exact e11
  · omega
theorem st_house {N : Nat} (hN : 2000 ≤ N) {m n : Mem} {a : Nat} {s : Int} {I : Isl} {l : Lnd} (j : JI T len K D B m0 n0 m n a s I l) (k : kdP T len a = (2, 4)) (nf : sumTo (fun j => I 4 j) 42 < 6) : Wp (sW 4 (fun m => two (X6_house N 5 D m)) m) (fun v => Wp (X11_housing N 264 n) (fun n2 => Po T len K D B m0 n0 a s v n2)) := by
  obtain ⟨p, js, e11, ab⟩ := j
  obtain ⟨hB, i40, _⟩ := js.2.2.1.1
  have w72 := js.2.2.1.2.2.2.2.2.2.1.1
  unfold X11_housing
  refine wp_rk k264 ?_
  refine wp_r (gR20 p.2.1) ?_
  refine wp_r (g264 (by decide)) ?_
  rw [i40]
  refine wp_r (wld1 (by decide +kernel) hB n) ?_
  rw [w72, if_pos (show ¬sumTo (fun j => I 4 j) 42 = 6 from by omega)]
  unfold X11_housing_J20
  refine wp_j (b_count hN p js (i := 4) (by decide) (by decide) rfl k rfl) (fun v q hv => ?_)
  obtain ⟨v1, q1, p1, js1, lt1, _, e1⟩ := hv
  rw [v1, if_neg (by decide), q1, if_pos (by decide)]
  refine wrap ?_
  unfold X6_house
  refine wp_k k5r ?_
  refine wp_j (b_spot hN p1 js1 1) (fun v3 q3 hv => ?_)
  rcases hv with ⟨e3, a', ⟨p3, js3, lt3, _, f3⟩, g8, cb, cc⟩ | ⟨e3, no⟩
  rotate_left
  · rw [e3, if_neg (fun u => u rfl)]
    refine wp_n0 ?_
    refine wp_b (g264 (by decide)) ?_
    rw [if_neg (by have := no_8 no; omega)]
    exact wp_some (no_po no)
  rw [e3, if_pos (by decide)]
  obtain ⟨⟨pd, sd1, sd2⟩, ld, rw', gw, cf, rf⟩ := id js3
  have hD := pd.1
  obtain ⟨r, r2, rp, rs⟩ := id p3
  have z7 := gw.1.2.2.2.2.2.2
  have fr := (frT_cont cb (by omega)).mp (cc (by decide))
  obtain ⟨gw2, su⟩ := gw_house gw cb fr nf
  refine wp_b (pd_R r pd (k := 4) (by decide)) ?_
  refine wp_b (gtI (by decide +kernel) _) ?_
  rw [g8]
  obtain ⟨hk, hn⟩ := pd_S pd (k := 4) (by decide) (by decide)
  obtain ⟨g, es, g1, g2⟩ := ar_stE (a := D + ofs 4) (n := 42) (i := q3.1) hk hn (by omega) cb.1 (by omega) 1 v3.2
  refine wp_b es ?_
  refine wp_n1 ?_
  refine wp_b (g264 (by decide)) ?_
  rw [if_pos (by have := jp_8 p3; omega)]
  refine wp_b (gR18 r2) ?_
  refine wp_b (g264 (by decide)) ?_
  rw [rw'.1.2.1]
  refine wp_b (wst (K := 42) (B := B) (len := 42) (n := 84) (by decide +kernel) (by omega) (by decide) cb.1 (by omega) 1 q3.2) ?_
  obtain ⟨n4, hn4⟩ : ∃ n4, n4 = up q3.2 270 (42 * B + q3.1.toNat) 1 := ⟨_, rfl⟩
  have r4 : Refs n4 := by rw [hn4]; exact refs_arr r2 (by decide +kernel) _ _
  have a40 : n4 264 40 = (B : Int) := by rw [hn4, up_ne (by decide)]; exact rw'.1.2.1
  rw [← hn4]
  refine wp_b (gR20 r4) ?_
  refine wp_b (g264 (by decide)) ?_
  rw [a40]
  refine wp_b (wld1 (by decide +kernel) hB n4) ?_
  have e72 : n4 272 B = sumTo (fun j => I 4 j) 42 := by rw [hn4, up_ne (by decide)]; exact rw'.2.2.2.2.2.2.1.1
  have s0 : 0 ≤ sumTo (fun j : Nat => I 4 j) 42 := (sumTo_in (fun j hj => gw.2.2.2.2.1.2.2.2.2 (j : Int))).1
  rw [e72, wI_of2 (x := sumTo (fun j => I 4 j) 42 + 1) (by omega) (by omega)]
  refine wp_b (wst1 (by decide +kernel) hB _ n4) ?_
  obtain ⟨n5, hn5⟩ : ∃ n5, n5 = up n4 272 B (sumTo (fun j => I 4 j) 42 + 1) := ⟨_, rfl⟩
  have r5 : Refs n5 := by rw [hn5]; exact refs_arr r4 (by decide +kernel) _ _
  rw [← hn5]
  have oo : ∀ b, ¬b = 270 → ¬b = 272 → n5 b = q3.2 b := fun b h1 h2 => by rw [hn5, up_ne h2, hn4, up_ne h1]
  refine wp_some (Or.inl ⟨rfl, a', zI I 4 q3.1 1, l, by omega, ⟨refs_set r (Or.inl hk) g, r5, rp_off rp (fun b hb => setA_ne (by show ¬b = D + 11; omega) _ _), rs_off rs (fun j _ => by rw [oo 264 (by decide) (by decide)]) (oo 265 (by decide) (by decide))⟩, ⟨⟨pd_put pd (by decide) (by decide) cb.1 1 g1 g2, sd_set sd1 (by show D + 11 < D + 23 ∨ D + 23 + 3 < D + 11; omega) g, sd_set sd2 (by show D + 11 < D + 23 ∨ D + 23 + 3 < D + 11; omega) g⟩, ld_set ld (by show D + 11 < D + 12 ∨ _; omega) g, ?_, gw2, cf_set cf (by show D ≤ D + 11 ∧ D + 11 ≤ D + 28; omega) g, ?_⟩, ?_, ?_⟩)
  · have o : ∀ a, 266 ≤ a → a ≤ 290 → ¬(a = 270 ∨ a = 272) → n5 a = q3.2 a := fun a _ _ ha => oo a (fun u => ha (Or.inl u)) (fun u => ha (Or.inr u))
    have o40 : n5 264 40 = q3.2 264 40 := by rw [oo 264 (by decide) (by decide)]
    have o39 : n5 264 39 = q3.2 264 39 := by rw [oo 264 (by decide) (by decide)]
    obtain ⟨⟨hB, i40, i66, i67, i73, i75, r69, r70, r74, r78⟩, r68, r67, r79, ⟨s84, s85, s86⟩, w71, ⟨c72, nk, nt⟩, ⟨d0, d1⟩, ⟨e0, e1⟩, q39⟩ := rw'
    refine ⟨⟨hB, (by rw [o40]; exact i40), (by rw [o 266 (by decide) (by decide) (by decide)]; exact i66), (by rw [o 267 (by decide) (by decide) (by decide)]; exact i67), (by rw [o 273 (by decide) (by decide) (by decide)]; exact i73), (by rw [o 275 (by decide) (by decide) (by decide)]; exact i75), (by rw [o 269 (by decide) (by decide) (by decide)]; exact r69), ?_, (by rw [o 274 (by decide) (by decide) (by decide)]; exact r74), (by rw [o 278 (by decide) (by decide) (by decide)]; exact r78)⟩, (by rw [o 268 (by decide) (by decide) (by decide)]; exact r68), (by rw [o 276 (by decide) (by decide) (by decide), o 277 (by decide) (by decide) (by decide)]; exact r67), (by rw [o 279 (by decide) (by decide) (by decide)]; exact r79), ⟨(by rw [o 284 (by decide) (by decide) (by decide)]; exact s84), (by rw [o 285 (by decide) (by decide) (by decide)]; exact s85), (by rw [o 286 (by decide) (by decide) (by decide)]; exact s86)⟩, (by rw [o 271 (by decide) (by decide) (by decide)]; exact w71), ⟨?_, (by rw [o 289 (by decide) (by decide) (by decide)]; exact nk), (by rw [o 290 (by decide) (by decide) (by decide)]; first | exact nt | (rw [clTo_s (by decide)]; exact nt) | (rw [clTo_s (by decide), clTo_s (by decide)]; exact nt) | (rw [clTo_s (by decide), clTo_s (by decide), clTo_s (by decide)]; exact nt))⟩, ⟨(by unfold SM CdM; rw [o 280 (by decide) (by decide) (by decide), o 281 (by decide) (by decide) (by decide), o 287 (by decide) (by decide) (by decide), o 288 (by decide) (by decide) (by decide)]; exact d0), (by rw [o 280 (by decide) (by decide) (by decide), o39]; exact d1)⟩, ⟨(by unfold SM CdM; rw [o 282 (by decide) (by decide) (by decide), o 283 (by decide) (by decide) (by decide), o 287 (by decide) (by decide) (by decide), o 288 (by decide) (by decide) (by decide)]; exact e0), (by rw [o 282 (by decide) (by decide) (by decide), o39]; exact e1)⟩, (by rw [o39]; exact q39)⟩
    · intro c hc
      rw [hn5, up_ne (by decide), hn4, up_at]
      by_cases y : c = q3.1.toNat
      · rw [if_pos (by omega), show ((c : Nat) : Int) = q3.1 from by omega, zI_y]
      · rw [if_neg (by omega), zI_n (by omega)]; exact r70 c hc
    · rw [hn5, up_same, su]
  · rw [hn5, hn4]
    exact rf_st (rf_st rf (by unfold inBk; omega) _) (by unfold inBk; omega) _
  · show setA v3.2 (D + 11) g 5 11 = s
    rw [setA_ne (by omega), f3, e1]; exact e11
  · show nD I + nR I ≤ a'
    omega
