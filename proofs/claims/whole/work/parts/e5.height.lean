/-! statements that change one entry: height, wall, house -/
variable {T : Nat → Int} {len K D B : Nat} {m0 n0 : Mem}
def JI (T : Nat → Int) (len K D B : Nat) (m0 n0 m n : Mem) (a : Nat) (s : Int) (I : Isl) (l : Lnd) : Prop := JP T len K m n a ∧ JS D B m0 n0 m n I l ∧ m 5 11 = s ∧ nD I + nR I ≤ a
def Po (T : Nat → Int) (len K D B : Nat) (m0 n0 : Mem) (a : Nat) (s : Int) (v : Int × Mem) (n2 : Mem) : Prop := (v.1 = 1 ∧ ∃ a' I' l', a < a' ∧ JI T len K D B m0 n0 v.2 n2 a' s I' l') ∨ (v.1 = 0 ∧ JF D B m0 n0 v.2 n2)
abbrev two (x : Option (Int × Mem)) : Option (Int × Mem) := x.bind fun p9 => if p9.1 = 0 then ((retZ 0).bind fun r10 => some (r10, p9.2)) else ((retZ 1).bind fun r11 => some (r11, p9.2))
abbrev sW (x : Int) (Y : Mem → Option (Int × Mem)) (m : Mem) : Option (Int × Mem) := (X6_word 5 x m).bind fun p7 => if p7.1 = 0 then ((retZ 0).bind fun r8 => some (r8, p7.2)) else Y p7.2
theorem wrap {X : Option (Int × Mem)} {Y : Option Mem} {a : Nat} {s : Int} (h : Wp X (fun v => Wp Y (fun w => Po T len K D B m0 n0 a s v w))) : Wp (two X) (fun v => Wp Y (fun w => Po T len K D B m0 n0 a s v w)) := by
  refine wp_bw h (fun v hv => ?_)
  refine wp_c (P := fun q => q = (v.1, v.2)) ?_ (fun q e => by rw [e]; exact hv)
  obtain ⟨w, _, po⟩ := hv
  rcases po with ⟨e, _⟩ | ⟨e, _⟩
  · rw [e, if_neg (by decide)]
    exact wp_b (v := 1) rfl (wp_some rfl)
  · rw [e, if_pos rfl]
    exact wp_b (v := 0) rfl (wp_some rfl)
theorem no_po {a : Nat} {s : Int} {m2 n2 : Mem} {I : Isl} {l : Lnd} (h : No D B m0 n0 m2 n2 I l) : Po T len K D B m0 n0 a s (0, m2) n2 := Or.inr ⟨rfl, jf_of h.2.2.2 h.1 h.2.1 h.2.2.1⟩
theorem no_8 {m2 n2 : Mem} {I : Isl} {l : Lnd} (h : No D B m0 n0 m2 n2 I l) : 0 < n2 264 8 := fl_fs h.1
theorem no_jf {m2 n2 n3 : Mem} {I : Isl} {l : Lnd} (h : No D B m0 n0 m2 n2 I l) (r : Refs n3) (e8 : n3 264 8 = n2 264 8 ∧ n3 264 9 = n2 264 9) (rf : RF B n0 n3) : JF D B m0 n0 m2 n3 := by
  obtain ⟨⟨f, p, hf, h1, h2, h3, h4⟩, r1, _, js⟩ := h
  exact ⟨⟨f, p, hf, h1, h2, by rw [e8.1]; exact h3, by rw [e8.2]; exact h4⟩, r1, r, js.2.2.2.2.1, rf⟩
theorem jp_8 {m n : Mem} {a : Nat} (p : JP T len K m n a) : n 264 8 = 0 := p.2.2.2.2.1
theorem gw_height {I : Isl} {l : Lnd} (h : GW I l) {c v : Int} (v0 : 0 ≤ v) (v1 : v ≤ 9) : GW (zI I 3 c v) l := by
  obtain ⟨z, w, cn, kc, ⟨vh, vt, vd, vr, hs⟩, cl, cm, ap, rest⟩ := h
  refine ⟨z, w, cn, kc, ⟨fun x x0 x1 => ?_, vt, vd, vr, hs⟩, ?_, cm, ap, rest⟩
  · by_cases q : x = c
    · rw [q, zI_y]; exact ⟨v0, v1⟩
    · rw [zI_n q]; exact vh x x0 x1
  · unfold Cl
    rw [clTo_s (by decide)]
    exact cl
theorem st_height {N : Nat} (hN : 2000 ≤ N) {m n : Mem} {a : Nat} {s : Int} {I : Isl} {l : Lnd} (j : JI T len K D B m0 n0 m n a s I l) (k : kdP T len a = (2, 1)) : Wp (sW 1 (fun m => two (X6_height N 5 D m)) m) (fun v => Wp (X11_heighten N 264 n) (fun n2 => Po T len K D B m0 n0 a s v n2)) := by
  obtain ⟨p, js, e11, ab⟩ := j
  unfold X11_heighten
  refine wp_rk k264 ?_
  refine wp_j (b_count hN p js (i := 1) (by decide) (by decide) rfl k rfl) (fun v q hv => ?_)
  obtain ⟨v1, q1, p1, js1, lt1, _, e1⟩ := hv
  rw [v1, if_neg (by decide), q1, if_pos (by decide)]
  refine wrap ?_
  unfold X6_height
  refine wp_k k5r ?_
  refine wp_j (b_number hN p1 js1 0 9) (fun v2 q2 hv => ?_)
  rcases hv with ⟨e2, ⟨p2, js2, lt2, _, f2⟩, g5, lo, hi⟩ | ⟨e2, q20, no⟩
  rotate_left
  · rw [e2, if_neg (fun u => u rfl)]
    refine wp_n0 ?_
    have ib := no.2.2.2.2.2.1.1
    refine wp_b (m_cellAtF hN no.2.2.1 ib no.2.2.2.2.2.2.1.1 0 (fl_fs no.1)) ?_
    refine wp_b (g264 (by decide)) ?_
    rw [if_pos (by have := no_8 no; show ¬q2.2 264 8 = 0; omega)]
    exact wp_some (no_po no)
  rw [e2, if_pos (by decide)]
  refine wp_b (gtI (by decide +kernel) _) ?_
  rw [g5]
  refine wp_j (b_spot hN p2 js2 0) (fun v3 q3 hv => ?_)
  rcases hv with ⟨e3, a', ⟨p3, js3, lt3, _, f3⟩, g8, cb, _⟩ | ⟨e3, no⟩
  rotate_left
  · rw [e3, if_neg (fun u => u rfl)]
    refine wp_n0 ?_
    refine wp_b (g264 (by decide)) ?_
    rw [if_pos (by have := no_8 no; omega)]
    exact wp_some (no_po no)
  rw [e3, if_pos (by decide)]
  obtain ⟨⟨pd, sd1, sd2⟩, ld, rw', gw, cf, rf⟩ := id js3
  have hD := pd.1
  obtain ⟨r, r2, rp, rs⟩ := id p3
  have z7 := gw.1.2.2.2.2.2.2
  refine wp_b (pd_R r pd (k := 3) (by decide)) ?_
  refine wp_b (gtI (by decide +kernel) _) ?_
  rw [g8]
  obtain ⟨hk, hn⟩ := pd_S pd (k := 3) (by decide) (by decide)
  obtain ⟨g, es, g1, g2⟩ := ar_stE (a := D + ofs 3) (n := 42) (i := q3.1) hk hn (by omega) cb.1 (by omega) q2.1 v3.2
  refine wp_b es ?_
  refine wp_n1 ?_
  refine wp_b (g264 (by decide)) ?_
  rw [if_neg (by have := jp_8 p3; omega)]
  refine wp_b (gR16 r2) ?_
  refine wp_b (g264 (by decide)) ?_
  have hB := rw'.1.1
  rw [rw'.1.2.1]
  refine wp_b (wst (K := 42) (B := B) (len := 42) (n := 84) (by decide +kernel) (by omega) (by decide) cb.1 (by omega) q2.1 q3.2) ?_
  refine wp_some (Or.inl ⟨rfl, a', zI I 3 q3.1 q2.1, l, by omega, ⟨refs_set r (Or.inl hk) g, refs_arr r2 (by decide +kernel) _ _, rp_off rp (fun b hb => setA_ne (by show ¬b = D + 10; omega) _ _), rs_off rs (fun j _ => by rw [up_ne (by decide)]) (up_ne (by decide))⟩, ⟨⟨pd_put pd (by decide) (by decide) cb.1 q2.1 g1 g2, sd_set sd1 (by show D + 10 < D + 23 ∨ D + 23 + 3 < D + 10; omega) g, sd_set sd2 (by show D + 10 < D + 23 ∨ D + 23 + 3 < D + 10; omega) g⟩, ld_set ld (by show D + 10 < D + 12 ∨ _; omega) g, ?_, gw_height gw lo hi, cf_set cf (by show D ≤ D + 10 ∧ D + 10 ≤ D + 28; omega) g, rf_st rf (by unfold inBk; omega) _⟩, ?_, ?_⟩)
  · have o : ∀ a, 266 ≤ a → a ≤ 290 → ¬a = 268 → up q3.2 268 (42 * B + q3.1.toNat) q2.1 a = q3.2 a := fun a _ _ ha => up_ne ha
    have o40 : up q3.2 268 (42 * B + q3.1.toNat) q2.1 264 40 = q3.2 264 40 := by rw [up_ne (by decide)]
    have o39 : up q3.2 268 (42 * B + q3.1.toNat) q2.1 264 39 = q3.2 264 39 := by rw [up_ne (by decide)]
    obtain ⟨⟨hB, i40, i66, i67, i73, i75, r69, r70, r74, r78⟩, r68, r67, r79, ⟨s84, s85, s86⟩, w71, ⟨c72, nk, nt⟩, ⟨d0, d1⟩, ⟨e0, e1⟩, q39⟩ := rw'
    refine ⟨⟨hB, (by rw [o40]; exact i40), (by rw [o 266 (by decide) (by decide) (by decide)]; exact i66), (by rw [o 267 (by decide) (by decide) (by decide)]; exact i67), (by rw [o 273 (by decide) (by decide) (by decide)]; exact i73), (by rw [o 275 (by decide) (by decide) (by decide)]; exact i75), (by rw [o 269 (by decide) (by decide) (by decide)]; exact r69), (by rw [o 270 (by decide) (by decide) (by decide)]; exact r70), (by rw [o 274 (by decide) (by decide) (by decide)]; exact r74), (by rw [o 278 (by decide) (by decide) (by decide)]; exact r78)⟩, ?_, (by rw [o 276 (by decide) (by decide) (by decide), o 277 (by decide) (by decide) (by decide)]; exact r67), (by rw [o 279 (by decide) (by decide) (by decide)]; exact r79), ⟨(by rw [o 284 (by decide) (by decide) (by decide)]; exact s84), (by rw [o 285 (by decide) (by decide) (by decide)]; exact s85), (by rw [o 286 (by decide) (by decide) (by decide)]; exact s86)⟩, (by rw [o 271 (by decide) (by decide) (by decide)]; exact w71), ⟨(by rw [o 272 (by decide) (by decide) (by decide)]; exact c72), (by rw [o 289 (by decide) (by decide) (by decide)]; exact nk), (by rw [o 290 (by decide) (by decide) (by decide)]; first | exact nt | (rw [clTo_s (by decide)]; exact nt) | (rw [clTo_s (by decide), clTo_s (by decide)]; exact nt) | (rw [clTo_s (by decide), clTo_s (by decide), clTo_s (by decide)]; exact nt))⟩, ⟨(by unfold SM CdM; rw [o 280 (by decide) (by decide) (by decide), o 281 (by decide) (by decide) (by decide), o 287 (by decide) (by decide) (by decide), o 288 (by decide) (by decide) (by decide)]; exact d0), (by rw [o 280 (by decide) (by decide) (by decide), o39]; exact d1)⟩, ⟨(by unfold SM CdM; rw [o 282 (by decide) (by decide) (by decide), o 283 (by decide) (by decide) (by decide), o 287 (by decide) (by decide) (by decide), o 288 (by decide) (by decide) (by decide)]; exact e0), (by rw [o 282 (by decide) (by decide) (by decide), o39]; exact e1)⟩, (by rw [o39]; exact q39)⟩
    intro c hc
    rw [up_at]
    by_cases y : c = q3.1.toNat
    · rw [if_pos (by omega), show ((c : Nat) : Int) = q3.1 from by omega, zI_y]
    · rw [if_neg (by omega), zI_n (by omega)]; exact r68 c hc
  · show setA v3.2 (D + 10) g 5 11 = s
    rw [setA_ne (by omega), f3, f2, e1]; exact e11
  · show nD I + nR I ≤ a'
    omega
