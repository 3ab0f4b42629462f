/-! numbers told: drinks, cloudy, wring -/
variable {T : Nat → Int} {len K D B : Nat} {m0 n0 : Mem}
theorem gw_drinks {I : Isl} {l : Lnd} (h : GW I l) {v : Int} (v0 : 0 ≤ v) (v1 : v ≤ 999) : GW (zI I 17 0 v) l := by
  obtain ⟨z, w, cn, kc, vl, cl, cm, ap, _, rest⟩ := h
  refine ⟨z, w, cn, kc, vl, ?_, cm, ap, ⟨v0, v1⟩, rest⟩
  unfold Cl
  rw [clTo_s (by decide)]
  exact cl
theorem st_drinks {N : Nat} (hN : 2000 ≤ N) {m n : Mem} {a : Nat} {s : Int} {I : Isl} {l : Lnd} (j : JI T len K D B m0 n0 m n a s I l) (k : kdP T len a = (2, 13)) : Wp (sW 13 (fun m => two (X6_drinks 5 D m)) m) (fun v => Wp (X11_telling N 264 0 n) (fun n2 => Po T len K D B m0 n0 a s v n2)) := by
  obtain ⟨p, js, e11, ab⟩ := j
  unfold X11_telling
  refine wp_rk k264 ?_
  refine wp_j (b_count hN p js (i := 13) (by decide) (by decide) rfl k rfl) (fun v q hv => ?_)
  obtain ⟨v1, q1, p1, js1, lt1, _, e1⟩ := hv
  rw [v1, if_neg (by decide), q1, if_pos (by decide)]
  refine wrap ?_
  unfold X6_drinks
  refine wp_k k5r ?_
  rw [if_neg (show ¬¬(0 : Int) = 0 from fun u => u rfl)]
  refine wp_j (b_number hN p1 js1 0 999) (fun v2 q2 hv => ?_)
  refine wp_b (gtI (by decide +kernel) _) ?_
  rcases hv with ⟨e2, ⟨p2, js2, lt2, _, f2⟩, g5, lo, hi⟩ | ⟨e2, q20, no⟩
  rotate_left
  · obtain ⟨fl, ra, rb, js2⟩ := no
    obtain ⟨⟨pd, sd1, sd2⟩, ld, rw', gw, cf, rf⟩ := id js2
    have hD := pd.1
    refine wp_b (pl_p hD (by decide) _ _) ?_
    rw [e2]
    refine wp_b (v := 0) rfl ?_
    refine wp_some ?_
    unfold X11_telling_J46
    refine wp_b (g264 (by decide)) ?_
    rw [if_neg (by have := fl_fs fl; unfold FS at this; omega)]
    refine wp_some (Or.inr ⟨rfl, ?_, refs_up ra (by rcases hD with e | e <;> subst e <;> decide +kernel) _, rb, cf_upD cf _ _, rf⟩)
    obtain ⟨f, p, hf, x1, x2, x3, x4⟩ := fl
    exact ⟨f, p, hf, by show up v2.2 D 17 _ 5 9 = f; rw [up_ne (by omega)]; exact x1, by show up v2.2 D 17 _ 5 10 = p; rw [up_ne (by omega)]; exact x2, x3, x4⟩
  obtain ⟨⟨pd, sd1, sd2⟩, ld, rw', gw, cf, rf⟩ := id js2
  have hD := pd.1
  obtain ⟨r, r2, rp, rs⟩ := id p2
  have hB := rw'.1.1
  rw [g5]
  refine wp_b (pl_p hD (by decide) _ _) ?_
  rw [e2]
  refine wp_b (v := 1) rfl ?_
  refine wp_some ?_
  unfold X11_telling_J46
  refine wp_b (g264 (by decide)) ?_
  rw [if_pos (by have := jp_8 p2; omega)]
  rw [if_neg (show ¬¬(0 : Int) = 0 from fun u => u rfl)]
  refine wp_b (gR32 r2) ?_
  refine wp_b (g264 (by decide)) ?_
  rw [rw'.1.2.1]
  refine wp_b (wst1 (by decide +kernel) hB _ q2.2) ?_
  unfold X11_telling_J69 X11_telling_J84
  rw [if_pos (by decide), if_pos (by decide)]
  refine wp_some (Or.inl ⟨rfl, _, zI I 17 0 q2.1, l, Nat.lt_trans lt1 lt2, ⟨refs_up r (by rcases hD with e | e <;> subst e <;> decide +kernel) _, refs_arr r2 (by decide +kernel) _ _, rp_off rp (fun b hb => up_ne (by omega)), rs_off rs (fun j _ => by rw [up_ne (by decide)]) (up_ne (by decide))⟩, ⟨⟨pd_putS pd (by decide) (by decide) (by decide) _, sd_off sd1 (fun b h1 h2 => up_ne (by omega)), sd_off sd2 (fun b h1 h2 => up_ne (by omega))⟩, ld_off ld (fun b h1 h2 => up_ne (by omega)), ?_, gw_drinks gw lo hi, cf_upD cf _ _, rf_st rf (by unfold inBk; omega) _⟩, ?_, ?_⟩)
  · have o : ∀ a, 266 ≤ a → a ≤ 290 → ¬a = 284 → up q2.2 284 B q2.1 a = q2.2 a := fun a _ _ ha => up_ne ha
    have o40 : up q2.2 284 B q2.1 264 40 = q2.2 264 40 := by rw [up_ne (by decide)]
    have o39 : up q2.2 284 B q2.1 264 39 = q2.2 264 39 := by rw [up_ne (by decide)]
    obtain ⟨⟨hB, i40, i66, i67, i73, i75, r69, r70, r74, r78⟩, r68, r67, r79, ⟨s84, s85, s86⟩, w71, ⟨c72, nk, nt⟩, ⟨d0, d1⟩, ⟨e0, e1⟩, q39⟩ := rw'
    refine ⟨⟨hB, (by rw [o40]; exact i40), (by rw [o 266 (by decide) (by decide) (by decide)]; exact i66), (by rw [o 267 (by decide) (by decide) (by decide)]; exact i67), (by rw [o 273 (by decide) (by decide) (by decide)]; exact i73), (by rw [o 275 (by decide) (by decide) (by decide)]; exact i75), (by rw [o 269 (by decide) (by decide) (by decide)]; exact r69), (by rw [o 270 (by decide) (by decide) (by decide)]; exact r70), (by rw [o 274 (by decide) (by decide) (by decide)]; exact r74), (by rw [o 278 (by decide) (by decide) (by decide)]; exact r78)⟩, (by rw [o 268 (by decide) (by decide) (by decide)]; exact r68), (by rw [o 276 (by decide) (by decide) (by decide), o 277 (by decide) (by decide) (by decide)]; exact r67), (by rw [o 279 (by decide) (by decide) (by decide)]; exact r79), ⟨?_, (by rw [o 285 (by decide) (by decide) (by decide)]; exact s85), (by rw [o 286 (by decide) (by decide) (by decide)]; exact s86)⟩, (by rw [o 271 (by decide) (by decide) (by decide)]; exact w71), ⟨(by rw [o 272 (by decide) (by decide) (by decide)]; exact c72), (by rw [o 289 (by decide) (by decide) (by decide)]; exact nk), (by rw [o 290 (by decide) (by decide) (by decide)]; first | exact nt | (rw [clTo_s (by decide)]; exact nt) | (rw [clTo_s (by decide), clTo_s (by decide)]; exact nt) | (rw [clTo_s (by decide), clTo_s (by decide), clTo_s (by decide)]; exact nt))⟩, ⟨(by unfold SM CdM; rw [o 280 (by decide) (by decide) (by decide), o 281 (by decide) (by decide) (by decide), o 287 (by decide) (by decide) (by decide), o 288 (by decide) (by decide) (by decide)]; exact d0), (by rw [o 280 (by decide) (by decide) (by decide), o39]; exact d1)⟩, ⟨(by unfold SM CdM; rw [o 282 (by decide) (by decide) (by decide), o 283 (by decide) (by decide) (by decide), o 287 (by decide) (by decide) (by decide), o 288 (by decide) (by decide) (by decide)]; exact e0), (by rw [o 282 (by decide) (by decide) (by decide), o39]; exact e1)⟩, (by rw [o39]; exact q39)⟩
    rw [up_same, zI_y]
  · show up v2.2 D 17 q2.1 5 11 = s
    rw [up_ne (by omega), f2, e1]; exact e11
  · show nD I + nR I ≤ nx T len (nx T len a)
    omega
theorem gw_cloudy {I : Isl} {l : Lnd} (h : GW I l) {v : Int} (v0 : 0 ≤ v) (v1 : v ≤ 100) : GW (zI I 18 0 v) l := by
  obtain ⟨z, w, cn, kc, vl, cl, ⟨_, _, c3, c4⟩, ap, dr, rest⟩ := h
  refine ⟨z, w, cn, kc, vl, ?_, ⟨v0, v1, c3, c4⟩, ap, dr, rest⟩
  unfold Cl
  rw [clTo_s (by decide)]
  exact cl
theorem st_cloudy {N : Nat} (hN : 2000 ≤ N) {m n : Mem} {a : Nat} {s : Int} {I : Isl} {l : Lnd} (j : JI T len K D B m0 n0 m n a s I l) (k : kdP T len a = (2, 14)) : Wp (sW 14 (fun m => two (X6_cloudy 5 D m)) m) (fun v => Wp (X11_telling N 264 1 n) (fun n2 => Po T len K D B m0 n0 a s v n2)) := by
  obtain ⟨p, js, e11, ab⟩ := j
  unfold X11_telling
  refine wp_rk k264 ?_
  refine wp_j (b_count hN p js (i := 14) (by decide) (by decide) rfl k rfl) (fun v q hv => ?_)
  obtain ⟨v1, q1, p1, js1, lt1, _, e1⟩ := hv
  rw [v1, if_neg (by decide), q1, if_pos (by decide)]
  refine wrap ?_
  unfold X6_cloudy
  refine wp_k k5r ?_
  rw [if_pos (show ¬(1 : Int) = 0 from by decide), if_neg (show ¬¬(1 : Int) = 1 from fun u => u rfl)]
  refine wp_j (b_number hN p1 js1 0 100) (fun v2 q2 hv => ?_)
  refine wp_b (gtI (by decide +kernel) _) ?_
  rcases hv with ⟨e2, ⟨p2, js2, lt2, _, f2⟩, g5, lo, hi⟩ | ⟨e2, q20, no⟩
  rotate_left
  · obtain ⟨fl, ra, rb, js2⟩ := no
    obtain ⟨⟨pd, sd1, sd2⟩, ld, rw', gw, cf, rf⟩ := id js2
    have hD := pd.1
    refine wp_b (pl_p hD (by decide) _ _) ?_
    rw [e2]
    refine wp_b (v := 0) rfl ?_
    refine wp_some ?_
    unfold X11_telling_J46
    refine wp_b (g264 (by decide)) ?_
    rw [if_neg (by have := fl_fs fl; unfold FS at this; omega)]
    refine wp_some (Or.inr ⟨rfl, ?_, refs_up ra (by rcases hD with e | e <;> subst e <;> decide +kernel) _, rb, cf_upD cf _ _, rf⟩)
    obtain ⟨f, p, hf, x1, x2, x3, x4⟩ := fl
    exact ⟨f, p, hf, by show up v2.2 D 18 _ 5 9 = f; rw [up_ne (by omega)]; exact x1, by show up v2.2 D 18 _ 5 10 = p; rw [up_ne (by omega)]; exact x2, x3, x4⟩
  obtain ⟨⟨pd, sd1, sd2⟩, ld, rw', gw, cf, rf⟩ := id js2
  have hD := pd.1
  obtain ⟨r, r2, rp, rs⟩ := id p2
  have hB := rw'.1.1
  rw [g5]
  refine wp_b (pl_p hD (by decide) _ _) ?_
  rw [e2]
  refine wp_b (v := 1) rfl ?_
  refine wp_some ?_
  unfold X11_telling_J46
  refine wp_b (g264 (by decide)) ?_
  rw [if_pos (by have := jp_8 p2; omega)]
  rw [if_pos (show ¬(1 : Int) = 0 from by decide)]
  unfold X11_telling_J69
  rw [if_neg (show ¬¬(1 : Int) = 1 from fun u => u rfl)]
  refine wp_b (gR33 r2) ?_
  refine wp_b (g264 (by decide)) ?_
  rw [rw'.1.2.1]
  refine wp_b (wst1 (by decide +kernel) hB _ q2.2) ?_
  unfold X11_telling_J84
  rw [if_pos (by decide)]
  refine wp_some (Or.inl ⟨rfl, _, zI I 18 0 q2.1, l, Nat.lt_trans lt1 lt2, ⟨refs_up r (by rcases hD with e | e <;> subst e <;> decide +kernel) _, refs_arr r2 (by decide +kernel) _ _, rp_off rp (fun b hb => up_ne (by omega)), rs_off rs (fun j _ => by rw [up_ne (by decide)]) (up_ne (by decide))⟩, ⟨⟨pd_putS pd (by decide) (by decide) (by decide) _, sd_off sd1 (fun b h1 h2 => up_ne (by omega)), sd_off sd2 (fun b h1 h2 => up_ne (by omega))⟩, ld_off ld (fun b h1 h2 => up_ne (by omega)), ?_, gw_cloudy gw lo hi, cf_upD cf _ _, rf_st rf (by unfold inBk; omega) _⟩, ?_, ?_⟩)
  · have o : ∀ a, 266 ≤ a → a ≤ 290 → ¬a = 285 → up q2.2 285 B q2.1 a = q2.2 a := fun a _ _ ha => up_ne ha
    have o40 : up q2.2 285 B q2.1 264 40 = q2.2 264 40 := by rw [up_ne (by decide)]
    have o39 : up q2.2 285 B q2.1 264 39 = q2.2 264 39 := by rw [up_ne (by decide)]
    obtain ⟨⟨hB, i40, i66, i67, i73, i75, r69, r70, r74, r78⟩, r68, r67, r79, ⟨s84, s85, s86⟩, w71, ⟨c72, nk, nt⟩, ⟨d0, d1⟩, ⟨e0, e1⟩, q39⟩ := rw'
    refine ⟨⟨hB, (by rw [o40]; exact i40), (by rw [o 266 (by decide) (by decide) (by decide)]; exact i66), (by rw [o 267 (by decide) (by decide) (by decide)]; exact i67), (by rw [o 273 (by decide) (by decide) (by decide)]; exact i73), (by rw [o 275 (by decide) (by decide) (by decide)]; exact i75), (by rw [o 269 (by decide) (by decide) (by decide)]; exact r69), (by rw [o 270 (by decide) (by decide) (by decide)]; exact r70), (by rw [o 274 (by decide) (by decide) (by decide)]; exact r74), (by rw [o 278 (by decide) (by decide) (by decide)]; exact r78)⟩, (by rw [o 268 (by decide) (by decide) (by decide)]; exact r68), (by rw [o 276 (by decide) (by decide) (by decide), o 277 (by decide) (by decide) (by decide)]; exact r67), (by rw [o 279 (by decide) (by decide) (by decide)]; exact r79), ⟨(by rw [o 284 (by decide) (by decide) (by decide)]; exact s84), ?_, (by rw [o 286 (by decide) (by decide) (by decide)]; exact s86)⟩, (by rw [o 271 (by decide) (by decide) (by decide)]; exact w71), ⟨(by rw [o 272 (by decide) (by decide) (by decide)]; exact c72), (by rw [o 289 (by decide) (by decide) (by decide)]; exact nk), (by rw [o 290 (by decide) (by decide) (by decide)]; first | exact nt | (rw [clTo_s (by decide)]; exact nt) | (rw [clTo_s (by decide), clTo_s (by decide)]; exact nt) | (rw [clTo_s (by decide), clTo_s (by decide), clTo_s (by decide)]; exact nt))⟩, ⟨(by unfold SM CdM; rw [o 280 (by decide) (by decide) (by decide), o 281 (by decide) (by decide) (by decide), o 287 (by decide) (by decide) (by decide), o 288 (by decide) (by decide) (by decide)]; exact d0), (by rw [o 280 (by decide) (by decide) (by decide), o39]; exact d1)⟩, ⟨(by unfold SM CdM; rw [o 282 (by decide) (by decide) (by decide), o 283 (by decide) (by decide) (by decide), o 287 (by decide) (by decide) (by decide), o 288 (by decide) (by decide) (by decide)]; exact e0), (by rw [o 282 (by decide) (by decide) (by decide), o39]; exact e1)⟩, (by rw [o39]; exact q39)⟩
    rw [up_same, zI_y]
  · show up v2.2 D 18 q2.1 5 11 = s
    rw [up_ne (by omega), f2, e1]; exact e11
  · show nD I + nR I ≤ nx T len (nx T len a)
    omega
theorem gw_wring {I : Isl} {l : Lnd} (h : GW I l) {v : Int} (v0 : 1 ≤ v) (v1 : v ≤ 20) : GW (zI I 19 0 v) l := by
  obtain ⟨z, w, cn, kc, vl, cl, ⟨c1, c2, _, _⟩, ap, dr, rest⟩ := h
  refine ⟨z, w, cn, kc, vl, ?_, ⟨c1, c2, v0, v1⟩, ap, dr, rest⟩
  unfold Cl
  rw [clTo_s (by decide)]
  exact cl
theorem st_wring {N : Nat} (hN : 2000 ≤ N) {m n : Mem} {a : Nat} {s : Int} {I : Isl} {l : Lnd} (j : JI T len K D B m0 n0 m n a s I l) (k : kdP T len a = (2, 15)) : Wp (sW 15 (fun m => two (X6_wring 5 D m)) m) (fun v => Wp (X11_telling N 264 2 n) (fun n2 => Po T len K D B m0 n0 a s v n2)) := by
  obtain ⟨p, js, e11, ab⟩ := j
  unfold X11_telling
  refine wp_rk k264 ?_
  refine wp_j (b_count hN p js (i := 15) (by decide) (by decide) rfl k rfl) (fun v q hv => ?_)
  obtain ⟨v1, q1, p1, js1, lt1, _, e1⟩ := hv
  rw [v1, if_neg (by decide), q1, if_pos (by decide)]
  refine wrap ?_
  unfold X6_wring
  refine wp_k k5r ?_
  rw [if_pos (show ¬(2 : Int) = 0 from by decide), if_pos (show ¬(2 : Int) = 1 from by decide)]
  refine wp_j (b_number hN p1 js1 1 20) (fun v2 q2 hv => ?_)
  refine wp_b (gtI (by decide +kernel) _) ?_
  rcases hv with ⟨e2, ⟨p2, js2, lt2, _, f2⟩, g5, lo, hi⟩ | ⟨e2, q20, no⟩
  rotate_left
  · obtain ⟨fl, ra, rb, js2⟩ := no
    obtain ⟨⟨pd, sd1, sd2⟩, ld, rw', gw, cf, rf⟩ := id js2
    have hD := pd.1
    refine wp_b (pl_p hD (by decide) _ _) ?_
    rw [e2]
    refine wp_b (v := 0) rfl ?_
    refine wp_some ?_
    unfold X11_telling_J46
    refine wp_b (g264 (by decide)) ?_
    rw [if_neg (by have := fl_fs fl; unfold FS at this; omega)]
    refine wp_some (Or.inr ⟨rfl, ?_, refs_up ra (by rcases hD with e | e <;> subst e <;> decide +kernel) _, rb, cf_upD cf _ _, rf⟩)
    obtain ⟨f, p, hf, x1, x2, x3, x4⟩ := fl
    exact ⟨f, p, hf, by show up v2.2 D 19 _ 5 9 = f; rw [up_ne (by omega)]; exact x1, by show up v2.2 D 19 _ 5 10 = p; rw [up_ne (by omega)]; exact x2, x3, x4⟩
  obtain ⟨⟨pd, sd1, sd2⟩, ld, rw', gw, cf, rf⟩ := id js2
  have hD := pd.1
  obtain ⟨r, r2, rp, rs⟩ := id p2
  have hB := rw'.1.1
  rw [g5]
  refine wp_b (pl_p hD (by decide) _ _) ?_
  rw [e2]
  refine wp_b (v := 1) rfl ?_
  refine wp_some ?_
  unfold X11_telling_J46
  refine wp_b (g264 (by decide)) ?_
  rw [if_pos (by have := jp_8 p2; omega)]
  rw [if_pos (show ¬(2 : Int) = 0 from by decide)]
  unfold X11_telling_J69
  rw [if_pos (show ¬(2 : Int) = 1 from by decide)]
  unfold X11_telling_J84
  rw [if_neg (show ¬¬(2 : Int) = 2 from fun u => u rfl)]
  refine wp_b (gR34 r2) ?_
  refine wp_b (g264 (by decide)) ?_
  rw [rw'.1.2.1]
  refine wp_b (wst1 (by decide +kernel) hB _ q2.2) ?_
  
  refine wp_some (Or.inl ⟨rfl, _, zI I 19 0 q2.1, l, Nat.lt_trans lt1 lt2, ⟨refs_up r (by rcases hD with e | e <;> subst e <;> decide +kernel) _, refs_arr r2 (by decide +kernel) _ _, rp_off rp (fun b hb => up_ne (by omega)), rs_off rs (fun j _ => by rw [up_ne (by decide)]) (up_ne (by decide))⟩, ⟨⟨pd_putS pd (by decide) (by decide) (by decide) _, sd_off sd1 (fun b h1 h2 => up_ne (by omega)), sd_off sd2 (fun b h1 h2 => up_ne (by omega))⟩, ld_off ld (fun b h1 h2 => up_ne (by omega)), ?_, gw_wring gw lo hi, cf_upD cf _ _, rf_st rf (by unfold inBk; omega) _⟩, ?_, ?_⟩)
  · have o : ∀ a, 266 ≤ a → a ≤ 290 → ¬a = 286 → up q2.2 286 B q2.1 a = q2.2 a := fun a _ _ ha => up_ne ha
    have o40 : up q2.2 286 B q2.1 264 40 = q2.2 264 40 := by rw [up_ne (by decide)]
    have o39 : up q2.2 286 B q2.1 264 39 = q2.2 264 39 := by rw [up_ne (by decide)]
    obtain ⟨⟨hB, i40, i66, i67, i73, i75, r69, r70, r74, r78⟩, r68, r67, r79, ⟨s84, s85, s86⟩, w71, ⟨c72, nk, nt⟩, ⟨d0, d1⟩, ⟨e0, e1⟩, q39⟩ := rw'
    refine ⟨⟨hB, (by rw [o40]; exact i40), (by rw [o 266 (by decide) (by decide) (by decide)]; exact i66), (by rw [o 267 (by decide) (by decide) (by decide)]; exact i67), (by rw [o 273 (by decide) (by decide) (by decide)]; exact i73), (by rw [o 275 (by decide) (by decide) (by decide)]; exact i75), (by rw [o 269 (by decide) (by decide) (by decide)]; exact r69), (by rw [o 270 (by decide) (by decide) (by decide)]; exact r70), (by rw [o 274 (by decide) (by decide) (by decide)]; exact r74), (by rw [o 278 (by decide) (by decide) (by decide)]; exact r78)⟩, (by rw [o 268 (by decide) (by decide) (by decide)]; exact r68), (by rw [o 276 (by decide) (by decide) (by decide), o 277 (by decide) (by decide) (by decide)]; exact r67), (by rw [o 279 (by decide) (by decide) (by decide)]; exact r79), ⟨(by rw [o 284 (by decide) (by decide) (by decide)]; exact s84), (by rw [o 285 (by decide) (by decide) (by decide)]; exact s85), ?_⟩, (by rw [o 271 (by decide) (by decide) (by decide)]; exact w71), ⟨(by rw [o 272 (by decide) (by decide) (by decide)]; exact c72), (by rw [o 289 (by decide) (by decide) (by decide)]; exact nk), (by rw [o 290 (by decide) (by decide) (by decide)]; first | exact nt | (rw [clTo_s (by decide)]; exact nt) | (rw [clTo_s (by decide), clTo_s (by decide)]; exact nt) | (rw [clTo_s (by decide), clTo_s (by decide), clTo_s (by decide)]; exact nt))⟩, ⟨(by unfold SM CdM; rw [o 280 (by decide) (by decide) (by decide), o 281 (by decide) (by decide) (by decide), o 287 (by decide) (by decide) (by decide), o 288 (by decide) (by decide) (by decide)]; exact d0), (by rw [o 280 (by decide) (by decide) (by decide), o39]; exact d1)⟩, ⟨(by unfold SM CdM; rw [o 282 (by decide) (by decide) (by decide), o 283 (by decide) (by decide) (by decide), o 287 (by decide) (by decide) (by decide), o 288 (by decide) (by decide) (by decide)]; exact e0), (by rw [o 282 (by decide) (by decide) (by decide), o39]; exact e1)⟩, (by rw [o39]; exact q39)⟩
    rw [up_same, zI_y]
  · show up v2.2 D 19 q2.1 5 11 = s
    rw [up_ne (by omega), f2, e1]; exact e11
  · show nD I + nR I ≤ nx T len (nx T len a)
    omega
