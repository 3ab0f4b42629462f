/-! a cistern told -/
variable {T : Nat → Int} {len K D B : Nat} {m0 n0 : Mem}
def ciI (I : Isl) (x c : Int) : Isl := zI (zI (zI I 8 (nK I) x) 7 (nK I) c) 6 0 ((nK I : Int) + 1)
theorem ci_k {I : Isl} {x c : Int} {k : Nat} (h : ¬(k = 6 ∨ k = 7 ∨ k = 8)) : ciI I x c k = I k := by
  unfold ciI
  rw [zI_k (by omega), zI_k (by omega), zI_k (by omega)]
theorem ci_6 (I : Isl) (x c : Int) : ciI I x c 6 0 = (nK I : Int) + 1 := zI_y _ _ _ _
theorem ci_nK (I : Isl) (x c : Int) : nK (ciI I x c) = nK I + 1 := by
  unfold nK
  rw [ci_6]
  show ((nK I : Int) + 1).toNat = nK I + 1
  omega
theorem ci_7 (I : Isl) (x c : Int) (j : Int) : ciI I x c 7 j = if j = (nK I : Int) then c else I 7 j := by
  unfold ciI
  rw [zI_k (by decide)]
  by_cases q : j = (nK I : Int)
  · rw [if_pos q, q, zI_y]
  · rw [if_neg q, zI_n q, zI_k (by decide)]
theorem ci_8 (I : Isl) (x c : Int) (j : Int) : ciI I x c 8 j = if j = (nK I : Int) then x else I 8 j := by
  unfold ciI
  rw [zI_k (by decide), zI_k (by decide)]
  by_cases q : j = (nK I : Int)
  · rw [if_pos q, q, zI_y]
  · rw [if_neg q, zI_n q]
theorem ci_cl (I : Isl) (x c : Int) : clTo (ciI I x c) = clTo I := clTo_c (ci_k (by decide))
theorem gw_cistern {I : Isl} {l : Lnd} (h : GW I l) {c : Int} (x : Int) (cb : 0 ≤ c ∧ c < nC I) (fr : frT I l c) (nf : nK I < 5) : GW (ciI I x c) l := by
  obtain ⟨z, w, cn, kc, vl, cl, cm, ⟨ap1, ap2, ap3⟩, dr, l2, l3, s12⟩ := h
  obtain ⟨n1, n2, n3, n4, n5, n6⟩ := cn
  refine ⟨z, w, ⟨?_, ?_, n3, n4, n5, n6⟩, fun k k0 k1 => ?_, vl, ?_, cm, ⟨fun t ht => ?_, ap2, ap3⟩, dr, l2, l3, s12⟩
  · rw [ci_6, ci_nK]; omega
  · rw [ci_nK]; omega
  · rw [ci_6] at k1
    show 0 ≤ ciI I x c 7 k ∧ ciI I x c 7 k < nC I
    rw [ci_7]
    by_cases q : k = (nK I : Int)
    · rw [if_pos q]; exact cb
    · rw [if_neg q]; exact kc k k0 (by omega)
  · unfold Cl
    rw [ci_cl]
    exact cl
  · obtain ⟨a1, a2, a3, a4⟩ := ap1 t ht
    refine ⟨a1, a2, ?_, a4⟩
    rw [ci_nK]
    refine fnd_none fun j hj => ?_
    rw [ci_7]
    by_cases q : (j : Int) = (nK I : Int)
    · rw [if_pos q]; exact fun u => fnd_all fr.2.2.2 t ht u.symm
    · rw [if_neg q]; exact fnd_all a3 j (by omega)
theorem x_addCistern {m : Mem} {I : Isl} (r : Refs m) (h : PD m D I) (n : Cn I) (nf : nK I < 5) (x c : Int) : Wp (X5_addCistern D x c m) (fun m2 => PD m2 D (ciI I x c) ∧ Refs m2 ∧ ∀ b, ¬(b = D ∨ b = D + 16 ∨ b = D + 17) → m2 b = m b) := by
  have hD := h.1
  obtain ⟨n1, n2, n3, n4, n5, n6⟩ := id n
  obtain ⟨hk8, hn8⟩ := pd_S h (k := 8) (by decide) (by decide)
  obtain ⟨hk7, hn7⟩ := pd_S h (k := 7) (by decide) (by decide)
  unfold X5_addCistern
  refine wp_k (pd_K h) ?_
  refine wp_b (pd_I h (k := 6) (by decide)) ?_
  rw [if_neg (by omega)]
  refine wp_b (pd_R r h (k := 8) (by decide)) ?_
  refine wp_b (pd_I h (k := 6) (by decide)) ?_
  rw [n1]
  obtain ⟨g, e, g1, g2⟩ := ar_stE (a := D + ofs 8) (n := 5) (i := (nK I : Int)) hk8 hn8 (by omega) (by omega) (by omega) x m
  refine wp_b e ?_
  have r2 := refs_set r (a := D + ofs 8) (Or.inl hk8) g
  have h2 := pd_put h (k0 := 8) (i := (nK I : Int)) (by decide) (by decide) (by omega) x g1 g2
  obtain ⟨m2, hm2⟩ : ∃ m2, m2 = setA m (D + ofs 8) g := ⟨_, rfl⟩
  rw [← hm2] at r2 h2 ⊢
  refine wp_b (pd_R r2 h2 (k := 7) (by decide)) ?_
  refine wp_b (pd_I h2 (k := 6) (by decide)) ?_
  rw [zI_k (show ¬6 = 8 from by decide), n1]
  obtain ⟨g', e', g1', g2'⟩ := ar_stE (a := D + ofs 7) (n := 5) (i := (nK I : Int)) hk7 hn7 (by omega) (by omega) (by omega) c m2
  refine wp_b e' ?_
  have r3 := refs_set r2 (a := D + ofs 7) (Or.inl hk7) g'
  have h3 := pd_put h2 (k0 := 7) (i := (nK I : Int)) (by decide) (by decide) (by omega) c g1' g2'
  obtain ⟨m3, hm3⟩ : ∃ m3, m3 = setA m2 (D + ofs 7) g' := ⟨_, rfl⟩
  rw [← hm3] at r3 h3 ⊢
  refine wp_b (pd_I h3 (k := 6) (by decide)) ?_
  rw [zI_k (show ¬6 = 7 from by decide), zI_k (show ¬6 = 8 from by decide), n1, wI_of2 (x := (nK I : Int) + 1) (by omega) (by omega)]
  refine wp_b (pl_p hD (by decide) _ m3) ?_
  refine wp_some ⟨pd_putS h3 (by decide) (by decide) (by decide) _, refs_up r3 (by rcases hD with e | e <;> subst e <;> decide +kernel) _, fun b hb => ?_⟩
  rw [up_ne (by omega), hm3, setA_ne (by show ¬b = D + 16; omega), hm2, setA_ne (by show ¬b = D + 17; omega)]
theorem st_cistern {N : Nat} (hN : 2000 ≤ N) {m n : Mem} {a : Nat} {s : Int} {I : Isl} {l : Lnd} (j : JI T len K D B m0 n0 m n a s I l) (k : kdP T len a = (2, 5)) (nf : nK I < 5) : Wp (sW 5 (fun m => two (X6_cisternOf N 5 D m)) m) (fun v => Wp (X11_cisterning N 264 n) (fun n2 => Po T len K D B m0 n0 a s v n2)) := by
  obtain ⟨p, js, e11, ab⟩ := j
  obtain ⟨hB, i40, _, _, i73, _⟩ := js.2.2.1.1
  obtain ⟨n1, n2, n3, n4, n5, n6⟩ := js.2.2.2.1.2.2.1
  unfold X11_cisterning
  refine wp_rk k264 ?_
  refine wp_r (gR21 p.2.1) ?_
  refine wp_r (g264 (by decide)) ?_
  rw [i40]
  refine wp_r (wld1 (by decide +kernel) hB n) ?_
  rw [i73, if_pos (show ¬I 6 0 = 5 from by omega)]
  unfold X11_cisterning_J19
  refine wp_j (b_count hN p js (i := 5) (by decide) (by decide) rfl k rfl) (fun v q hv => ?_)
  obtain ⟨v1, q1, p1, js1, lt1, _, e1⟩ := hv
  rw [v1, if_neg (by decide), q1, if_pos (by decide)]
  refine wrap ?_
  unfold X6_cisternOf
  refine wp_k k5r ?_
  obtain ⟨_, a40, _, _, a73, _⟩ := js1.2.2.1.1
  have ra := p1.2.1
  refine wp_r (g264 (by decide)) ?_
  refine wp_r (gR21 ra) ?_
  refine wp_r (g264 (by decide)) ?_
  rw [a40]
  refine wp_r (wld1 (by decide +kernel) hB q.2) ?_
  refine wp_r (gR37 ra) ?_
  rw [a73, n1]
  refine wp_j (b_name hN p1 js1) (fun v2 q2 hv => ?_)
  rcases hv with ⟨e2, p2, js2, lt2, nm, f2, _⟩ | ⟨e2, no⟩
  rotate_left
  · rw [e2, if_pos rfl]
    refine wp_n0 ?_
    have rn := no.2.2.1
    have rf0 := no.2.2.2.2.2.2.2.2
    refine wp_b (wstL (K := 5) (B := B) (len := 5) (n := 10) (by decide +kernel) (by omega) (by decide) (by omega) (by omega) q2.1 q2.2) ?_
    obtain ⟨n4, hn4⟩ : ∃ n4, n4 = up q2.2 289 (5 * B + ((nK I : Nat) : Int).toNat) q2.1 := ⟨_, rfl⟩
    have r4 : Refs n4 := by rw [hn4]; exact refs_arr rn (by decide +kernel) _ _
    have o4 : ∀ b, ¬b = 289 → n4 b = q2.2 b := fun b hb => by rw [hn4, up_ne hb]
    rw [← hn4]
    have ib : IB n4 B I l := by
      have := no.2.2.2.2.2.1.1
      unfold IB at this ⊢
      rw [o4 264 (by decide), o4 266 (by decide), o4 267 (by decide), o4 273 (by decide), o4 275 (by decide), o4 269 (by decide), o4 270 (by decide), o4 274 (by decide), o4 278 (by decide)]
      exact this
    have fs : FS n4 := by show 0 < n4 264 8; rw [o4 264 (by decide)]; exact no_8 no
    refine wp_b (gR22 r4) ?_
    refine wp_b (m_cellAtF hN r4 ib no.2.2.2.2.2.2.1.1 1 fs) ?_
    refine wp_b (wst (K := 5) (B := B) (len := 5) (n := 10) (by decide +kernel) (by omega) (by decide) (by omega) (by omega) 0 n4) ?_
    refine wp_b (g264 (by decide)) ?_
    have e8 : up n4 274 (5 * B + ((nK I : Nat) : Int).toNat) 0 264 8 = q2.2 264 8 := by rw [up_ne (by decide), o4 264 (by decide)]
    have e9 : up n4 274 (5 * B + ((nK I : Nat) : Int).toNat) 0 264 9 = q2.2 264 9 := by rw [up_ne (by decide), o4 264 (by decide)]
    rw [if_pos (by rw [e8]; have := no_8 no; omega)]
    refine wp_some (Or.inr ⟨rfl, no_jf no (refs_arr r4 (by decide +kernel) _ _) ⟨e8, e9⟩ ?_⟩)
    rw [hn4]
    exact rf_st (rf_st rf0 (by unfold inBk; omega) _) (by unfold inBk; omega) _
  rw [e2, if_neg (by decide)]
  have rn := p2.2.1
  refine wp_r (wstL (K := 5) (B := B) (len := 5) (n := 10) (by decide +kernel) (by omega) (by decide) (by omega) (by omega) q2.1 q2.2) ?_
  obtain ⟨n4, hn4⟩ : ∃ n4, n4 = up q2.2 289 (5 * B + ((nK I : Nat) : Int).toNat) q2.1 := ⟨_, rfl⟩
  have r4 : Refs n4 := by rw [hn4]; exact refs_arr rn (by decide +kernel) _ _
  have o4 : ∀ b, ¬b = 289 → n4 b = q2.2 b := fun b hb => by rw [hn4, up_ne hb]
  have nm4 : n4 289 (5 * B + nK I) = q2.1 := by rw [hn4, show 5 * B + ((nK I : Nat) : Int).toNat = 5 * B + nK I from by omega, up_same]
  rw [← hn4]
  have js4 : JS D B m0 n0 v2.2 n4 I l := by
    obtain ⟨ps, ld, rw', gw, cf, rf⟩ := js2
    refine ⟨ps, ld, ?_, gw, cf, by rw [hn4]; exact rf_st rf (by unfold inBk; omega) _⟩
    have o : ∀ a, 266 ≤ a → a ≤ 290 → ¬a = 289 → n4 a = q2.2 a := fun a _ _ ha => o4 a ha
    have o40 : n4 264 40 = q2.2 264 40 := by rw [o4 264 (by decide)]
    have o39 : n4 264 39 = q2.2 264 39 := by rw [o4 264 (by decide)]
    obtain ⟨⟨hB, i40, i66, i67, i73, i75, r69, r70, r74, r78⟩, r68, r67, r79, ⟨s84, s85, s86⟩, w71, ⟨c72, nk, nt⟩, ⟨d0, d1⟩, ⟨e0, e1⟩, q39⟩ := rw'
    refine ⟨⟨hB, (by rw [o40]; exact i40), (by rw [o 266 (by decide) (by decide) (by decide)]; exact i66), (by rw [o 267 (by decide) (by decide) (by decide)]; exact i67), (by rw [o 273 (by decide) (by decide) (by decide)]; exact i73), (by rw [o 275 (by decide) (by decide) (by decide)]; exact i75), (by rw [o 269 (by decide) (by decide) (by decide)]; exact r69), (by rw [o 270 (by decide) (by decide) (by decide)]; exact r70), (by rw [o 274 (by decide) (by decide) (by decide)]; exact r74), (by rw [o 278 (by decide) (by decide) (by decide)]; exact r78)⟩, (by rw [o 268 (by decide) (by decide) (by decide)]; exact r68), (by rw [o 276 (by decide) (by decide) (by decide), o 277 (by decide) (by decide) (by decide)]; exact r67), (by rw [o 279 (by decide) (by decide) (by decide)]; exact r79), ⟨(by rw [o 284 (by decide) (by decide) (by decide)]; exact s84), (by rw [o 285 (by decide) (by decide) (by decide)]; exact s85), (by rw [o 286 (by decide) (by decide) (by decide)]; exact s86)⟩, (by rw [o 271 (by decide) (by decide) (by decide)]; exact w71), ⟨(by rw [o 272 (by decide) (by decide) (by decide)]; exact c72), ?_, (by rw [o 290 (by decide) (by decide) (by decide)]; first | exact nt | (rw [clTo_s (by decide)]; exact nt) | (rw [clTo_s (by decide), clTo_s (by decide)]; exact nt) | (rw [clTo_s (by decide), clTo_s (by decide), clTo_s (by decide)]; exact nt))⟩, ⟨(by unfold SM CdM; rw [o 280 (by decide) (by decide) (by decide), o 281 (by decide) (by decide) (by decide), o 287 (by decide) (by decide) (by decide), o 288 (by decide) (by decide) (by decide)]; exact d0), (by rw [o 280 (by decide) (by decide) (by decide), o39]; exact d1)⟩, ⟨(by unfold SM CdM; rw [o 282 (by decide) (by decide) (by decide), o 283 (by decide) (by decide) (by decide), o 287 (by decide) (by decide) (by decide), o 288 (by decide) (by decide) (by decide)]; exact e0), (by rw [o 282 (by decide) (by decide) (by decide), o39]; exact e1)⟩, (by rw [o39]; exact q39)⟩
    intro k hk
    rw [hn4, up_at, if_neg (by omega)]
    exact nk k hk
  have p4 : JP T len K v2.2 n4 (nx T len (nx T len a)) := ⟨p2.1, r4, p2.2.2.1, rs_off p2.2.2.2 (fun j _ => by rw [o4 264 (by decide)]) (o4 265 (by decide))⟩
  refine wp_r (gR22 r4) ?_
  refine wp_j (b_spot hN p4 js4 1) (fun v3 q3 hv => ?_)
  rcases hv with ⟨e3, a', ⟨p3, js3, lt3, ⟨f7, q7⟩, f3⟩, g8, cb, cc⟩ | ⟨e3, no⟩
  rotate_left
  · rw [e3, if_neg (fun u => u rfl)]
    refine wp_n0 ?_
    have rn := no.2.2.1
    have rf0 := no.2.2.2.2.2.2.2.2
    refine wp_b (wst (K := 5) (B := B) (len := 5) (n := 10) (by decide +kernel) (by omega) (by decide) (by omega) (by omega) q3.1 q3.2) ?_
    refine wp_b (g264 (by decide)) ?_
    have e8 : up q3.2 274 (5 * B + ((nK I : Nat) : Int).toNat) q3.1 264 8 = q3.2 264 8 := by rw [up_ne (by decide)]
    have e9 : up q3.2 274 (5 * B + ((nK I : Nat) : Int).toNat) q3.1 264 9 = q3.2 264 9 := by rw [up_ne (by decide)]
    rw [if_pos (by rw [e8]; have := no_8 no; omega)]
    exact wp_some (Or.inr ⟨rfl, no_jf no (refs_arr rn (by decide +kernel) _ _) ⟨e8, e9⟩ (rf_st rf0 (by unfold inBk; omega) _)⟩)
  rw [e3, if_pos (by decide)]
  obtain ⟨⟨pd, sd1, sd2⟩, ld, rw', gw, cf, rf⟩ := id js3
  have hD := pd.1
  obtain ⟨r, r2, rp, rs⟩ := id p3
  have z7 := gw.1.2.2.2.2.2.2
  have fr := (frT_cont cb (by omega)).mp (cc (by decide))
  refine wp_b (gtI (by decide +kernel) _) ?_
  refine wp_b (gtI (by decide +kernel) _) ?_
  rw [g8, f7]
  refine wp_bw (x_addCistern r pd gw.2.2.1 nf (v2.2 5 7) q3.1) (fun m6 hm6 => ?_)
  obtain ⟨pd6, r6, o6⟩ := hm6
  refine wp_n1 ?_
  refine wp_b (wst (K := 5) (B := B) (len := 5) (n := 10) (by decide +kernel) (by omega) (by decide) (by omega) (by omega) q3.1 q3.2) ?_
  obtain ⟨n5, hn5⟩ : ∃ n5, n5 = up q3.2 274 (5 * B + ((nK I : Nat) : Int).toNat) q3.1 := ⟨_, rfl⟩
  have r5 : Refs n5 := by rw [hn5]; exact refs_arr r2 (by decide +kernel) _ _
  have o5 : ∀ b, ¬b = 274 → n5 b = q3.2 b := fun b hb => by rw [hn5, up_ne hb]
  rw [← hn5]
  refine wp_b (g264 (by decide)) ?_
  rw [if_neg (by rw [o5 264 (by decide)]; have := jp_8 p3; omega)]
  refine wp_b (gR21 r5) ?_
  refine wp_b (g264 (by decide)) ?_
  rw [o5 264 (by decide), rw'.1.2.1]
  refine wp_b (wld1 (by decide +kernel) hB n5) ?_
  rw [o5 273 (by decide), rw'.1.2.2.2.2.1, n1, wI_of2 (x := (nK I : Int) + 1) (by omega) (by omega)]
  refine wp_b (wst1 (by decide +kernel) hB _ n5) ?_
  obtain ⟨n6', hn6⟩ : ∃ n6, n6 = up n5 273 B ((nK I : Int) + 1) := ⟨_, rfl⟩
  have r6' : Refs n6' := by rw [hn6]; exact refs_arr r5 (by decide +kernel) _ _
  rw [← hn6]
  have oo : ∀ b, ¬b = 274 → ¬b = 273 → n6' b = q3.2 b := fun b h1 h2 => by rw [hn6, up_ne h2, o5 b h1]
  have nmQ : q3.2 289 (5 * B + nK I) = q2.1 := by
    rw [q7 289 (by decide)]; exact nm4
  refine wp_some (Or.inl ⟨rfl, a', ciI I (v2.2 5 7) q3.1, l, by omega, ⟨r6, r6', rp_off rp (fun b hb => o6 b (by omega)), rs_off rs (fun j _ => by rw [oo 264 (by decide) (by decide)]) (oo 265 (by decide) (by decide))⟩, ⟨⟨pd6, ?_, ?_⟩, ld_off ld (fun b h1 h2 => o6 b (by omega)), ?_, gw_cistern gw _ cb fr nf, cf_up cf (fun b j _ h => by show m6 b j = v3.2 b j; rw [o6 b (by omega)]), ?_⟩, ?_, ?_⟩)
  · exact sd_off sd1 (fun q q1 q2 => o6 q (by omega))
  · exact sd_off sd2 (fun q q1 q2 => o6 q (by omega))
  · have o : ∀ a, 266 ≤ a → a ≤ 290 → ¬(a = 274 ∨ a = 273) → n6' a = q3.2 a := fun a _ _ ha => oo a (fun u => ha (Or.inl u)) (fun u => ha (Or.inr u))
    have o40 : n6' 264 40 = q3.2 264 40 := by rw [oo 264 (by decide) (by decide)]
    have o39 : n6' 264 39 = q3.2 264 39 := by rw [oo 264 (by decide) (by decide)]
    obtain ⟨⟨hB, i40, i66, i67, i73, i75, r69, r70, r74, r78⟩, r68, r67, r79, ⟨s84, s85, s86⟩, w71, ⟨c72, nk, nt⟩, ⟨d0, d1⟩, ⟨e0, e1⟩, q39⟩ := rw'
    refine ⟨⟨hB, (by rw [o40]; exact i40), (by rw [o 266 (by decide) (by decide) (by decide)]; exact i66), (by rw [o 267 (by decide) (by decide) (by decide)]; exact i67), ?_, (by rw [o 275 (by decide) (by decide) (by decide)]; exact i75), (by rw [o 269 (by decide) (by decide) (by decide)]; exact r69), (by rw [o 270 (by decide) (by decide) (by decide)]; exact r70), ?_, (by rw [o 278 (by decide) (by decide) (by decide)]; exact r78)⟩, (by rw [o 268 (by decide) (by decide) (by decide)]; exact r68), (by rw [o 276 (by decide) (by decide) (by decide), o 277 (by decide) (by decide) (by decide)]; exact r67), (by rw [o 279 (by decide) (by decide) (by decide)]; exact r79), ⟨(by rw [o 284 (by decide) (by decide) (by decide)]; exact s84), (by rw [o 285 (by decide) (by decide) (by decide)]; exact s85), (by rw [o 286 (by decide) (by decide) (by decide)]; exact s86)⟩, (by rw [o 271 (by decide) (by decide) (by decide)]; exact w71), ⟨(by rw [o 272 (by decide) (by decide) (by decide)]; exact c72), ?_, ?_⟩, ⟨(by unfold SM CdM; rw [o 280 (by decide) (by decide) (by decide), o 281 (by decide) (by decide) (by decide), o 287 (by decide) (by decide) (by decide), o 288 (by decide) (by decide) (by decide)]; exact d0), (by rw [o 280 (by decide) (by decide) (by decide), o39]; exact d1)⟩, ⟨(by unfold SM CdM; rw [o 282 (by decide) (by decide) (by decide), o 283 (by decide) (by decide) (by decide), o 287 (by decide) (by decide) (by decide), o 288 (by decide) (by decide) (by decide)]; exact e0), (by rw [o 282 (by decide) (by decide) (by decide), o39]; exact e1)⟩, (by rw [o39]; exact q39)⟩
    · rw [hn6, up_same, ci_6]
    · intro k hk
      rw [ci_nK] at hk
      rw [hn6, up_ne (by decide), hn5, up_at, ci_7]
      by_cases y : k = nK I
      · rw [if_pos (by omega), if_pos (by omega)]
      · rw [if_neg (by omega), if_neg (by omega)]; exact r74 k (by omega)
    · intro k hk
      rw [ci_nK] at hk
      rw [oo 289 (by decide) (by decide), ci_8]
      by_cases y : k = nK I
      · rw [if_pos (by omega), y, nmQ]; exact nm
      · rw [if_neg (by omega)]; exact nk k (by omega)
    · rw [oo 290 (by decide) (by decide), ci_cl]
      exact nt
  · rw [hn6, hn5]
    exact rf_st (rf_st rf (by unfold inBk; omega) _) (by unfold inBk; omega) _
  · show m6 5 11 = s
    rw [o6 5 (by omega), f3, f2, e1]; exact e11
  · show nD I + nR I ≤ a'
    omega
