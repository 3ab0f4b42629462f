/-! a thing told: both -/
variable {T : Nat → Int} {len K D B : Nat} {m0 n0 : Mem}
def tlE (ix : Int) (t17 : Nat) (v : Int) (m : Mem) : Option Mem := (astI t17 ix v m).bind fun m19 => (getI 11 8 264 m19).bind fun t20 => if ¬t20 = 0 then some m19 else (getR 11 23 264 m19).bind fun t21 => (getI 11 40 264 m19).bind fun t22 => (aldI t21 t22 m19).bind fun t23 => (astI t21 t22 (wI (t23 + 1)) m19).bind fun m24 => some m24
def tlC (N : Nat) (ix : Int) (t14 : Nat) (v : Int) (m : Mem) : Option Mem := (astI t14 ix v m).bind fun m16 => (getR 11 26 264 m16).bind fun t17 => (X11_cellAt N 264 1 m16).bind fun p18 => tlE ix t17 p18.1 p18.2
def tlN (N : Nat) (ix : Int) (m : Mem) : Option Mem := (getR 11 25 264 m).bind fun t14 => (X11_number N 264 1 9 m).bind fun p15 => tlC N ix t14 p15.1 p15.2
def tlW (N : Nat) (ix : Int) (m : Mem) : Option Mem := (X11_must_ N 264 499850634611 m).bind fun p13 => tlN N ix p13
def idx (B t : Nat) : Int := wI (wI (((10 : Nat) : Int) * (B : Int)) + (t : Int))
/-- behind a told fault nothing is counted -/
def Same8 (B : Nat) (n0 n n2 : Mem) : Prop := (n2 264 8 = n 264 8 ∧ n2 264 9 = n 264 9) ∧ Refs n2 ∧ RF B n0 n2
theorem tlE_F {n : Mem} {I : Isl} (r : Refs n) (f : FS n) (hB : B = 0 ∨ B = 1) (nf : nT I < 10) (rf : RF B n0 n) (v : Int) : Wp (tlE (idx B (nT I)) 278 v n) (Same8 B n0 n) := by
  unfold tlE idx
  refine wp_b (wst (K := 10) (B := B) (len := 10) (n := 20) (by decide +kernel) (by omega) (by decide) (by omega) (by omega) v n) ?_
  refine wp_b (g264 (by decide)) ?_
  rw [up_ne (show ¬264 = 278 from by decide), if_pos (by have : 0 < n 264 8 := f; omega)]
  exact wp_some ⟨⟨by rw [up_ne (by decide)], by rw [up_ne (by decide)]⟩, refs_arr r (by decide +kernel) _ _, rf_st rf (by unfold inBk; omega) _⟩
theorem tlC_F {N : Nat} (hN : 2000 ≤ N) {n : Mem} {I : Isl} {l : Lnd} (r : Refs n) (f : FS n) (rw' : RW n B I l) (z : Sz I) (nf : nT I < 10) (rf : RF B n0 n) (v : Int) : Wp (tlC N (idx B (nT I)) 277 v n) (Same8 B n0 n) := by
  have hB := rw'.1.1
  unfold tlC
  unfold idx
  refine wp_b (wst (K := 10) (B := B) (len := 10) (n := 20) (by decide +kernel) (by omega) (by decide) (by omega) (by omega) v n) ?_
  obtain ⟨n4, hn4⟩ : ∃ n4, n4 = up n 277 (10 * B + ((nT I : Nat) : Int).toNat) v := ⟨_, rfl⟩
  have r4 : Refs n4 := by rw [hn4]; exact refs_arr r (by decide +kernel) _ _
  have o4 : ∀ b, ¬b = 277 → n4 b = n b := fun b hb => by rw [hn4, up_ne hb]
  rw [← hn4]
  refine wp_b (gR26 r4) ?_
  have ib : IB n4 B I l := by
    have := rw'.1
    unfold IB at this ⊢
    rw [o4 264 (by decide), o4 266 (by decide), o4 267 (by decide), o4 273 (by decide), o4 275 (by decide), o4 269 (by decide), o4 270 (by decide), o4 274 (by decide), o4 278 (by decide)]
    exact this
  have fs : FS n4 := by show 0 < n4 264 8; rw [o4 264 (by decide)]; exact f
  refine wp_b (m_cellAtF hN r4 ib z 1 fs) ?_
  refine wp_c (tlE_F (B := B) (n0 := n0) (I := I) r4 fs hB nf (by rw [hn4]; exact rf_st rf (by unfold inBk; omega) _) 0) (fun n5 h => ?_)
  obtain ⟨⟨a1, a2⟩, h2⟩ := h
  exact ⟨⟨by rw [a1, o4 264 (by decide)], by rw [a2, o4 264 (by decide)]⟩, h2⟩
theorem tlN_F {N : Nat} (hN : 2000 ≤ N) {n : Mem} {I : Isl} {l : Lnd} (r : Refs n) (f : FS n) (rw' : RW n B I l) (z : Sz I) (nf : nT I < 10) (rf : RF B n0 n) : Wp (tlN N (idx B (nT I)) n) (Same8 B n0 n) := by
  unfold tlN
  refine wp_b (gR25 r) ?_
  refine wp_b (m_numberF f _ _) ?_
  exact tlC_F hN r f rw' z nf rf 0
theorem tlW_F {N : Nat} (hN : 2000 ≤ N) {n : Mem} {I : Isl} {l : Lnd} (r : Refs n) (f : FS n) (rw' : RW n B I l) (z : Sz I) (nf : nT I < 10) (rf : RF B n0 n) : Wp (tlW N (idx B (nT I)) n) (Same8 B n0 n) := by
  unfold tlW
  refine wp_b (m_mustWF f _) ?_
  exact tlN_F hN r f rw' z nf rf
theorem same_po {a : Nat} {s : Int} {m2 n2 n3 : Mem} {I : Isl} {l : Lnd} (h : No D B m0 n0 m2 n2 I l) (h2 : Same8 B n0 n2 n3) : Po T len K D B m0 n0 a s (0, m2) n3 := Or.inr ⟨rfl, no_jf h h2.2.1 h2.1 h2.2.2⟩
theorem th_tail {N : Nat} (hN : 2000 ≤ N) {m n : Mem} {a a0 : Nat} {s : Int} {I : Isl} {l : Lnd} (p : JP T len K m n a) (js : JS D B m0 n0 m n I l) (e11 : m 5 11 = s) (ab : nD I + nR I ≤ a0) (lt0 : a0 < a) (nf : nT I < 10) (sort : Int) (hs : n 276 (10 * B + nT I) = sort) (nm : sort = 0 → Nm (m 5 7) (n 290 (10 * B + nT I))) : Wp (X6_thingOf N 5 D sort m) (fun v => Wp (tlW N (idx B (nT I)) n) (fun n2 => Po T len K D B m0 n0 a0 s v n2)) := by
  have hB := js.2.2.1.1.1
  unfold tlW X6_thingOf
  refine wp_k k5r ?_
  refine wp_j (b_word hN p js (i := 7) (by decide) (by decide) rfl (by decide +kernel)) (fun v1 q1 hv => ?_)
  rcases hv with ⟨e1, p1, js1, lt1, ⟨f7, q7⟩, f1⟩ | ⟨e1, no⟩
  rotate_left
  · rw [e1, if_pos rfl]
    refine wp_n0 ?_
    exact wp_c (tlN_F hN no.2.2.1 (fl_fs no.1) no.2.2.2.2.2.1 no.2.2.2.2.2.2.1.1 nf no.2.2.2.2.2.2.2.2) (fun n3 h => same_po no h)
  rw [e1, if_neg (by decide)]
  unfold tlN
  refine wp_r (gR25 p1.2.1) ?_
  refine wp_j (b_number hN p1 js1 1 9) (fun v2 q2 hv => ?_)
  rcases hv with ⟨e2, ⟨p2, js2, lt2, ⟨g7, h7⟩, f2⟩, g5, lo, hi⟩ | ⟨e2, q20, no⟩
  rotate_left
  · rw [e2, if_neg (fun u => u rfl)]
    refine wp_n0 ?_
    exact wp_c (tlC_F hN no.2.2.1 (fl_fs no.1) no.2.2.2.2.2.1 no.2.2.2.2.2.2.1.1 nf no.2.2.2.2.2.2.2.2 _) (fun n3 h => same_po no h)
  rw [e2, if_pos (by decide)]
  refine wp_b (gtI (by decide +kernel) _) ?_
  rw [g5]
  unfold tlC
  refine wp_r (wst (K := 10) (B := B) (len := 10) (n := 20) (by decide +kernel) (by omega) (by decide) (by omega) (by omega) q2.1 q2.2) ?_
  obtain ⟨n4, hn4⟩ : ∃ n4, n4 = up q2.2 277 (10 * B + ((nT I : Nat) : Int).toNat) q2.1 := ⟨_, rfl⟩
  have r4 : Refs n4 := by rw [hn4]; exact refs_arr p2.2.1 (by decide +kernel) _ _
  have o4 : ∀ b, ¬b = 277 → n4 b = q2.2 b := fun b hb => by rw [hn4, up_ne hb]
  have tk4 : n4 277 (10 * B + nT I) = q2.1 := by rw [hn4, show 10 * B + ((nT I : Nat) : Int).toNat = 10 * B + nT I from by omega, up_same]
  rw [← hn4]
  have js4 : JS D B m0 n0 v2.2 n4 I l := by
    obtain ⟨ps, ld, rw', gw, cf, rf⟩ := js2
    refine ⟨ps, ld, ?_, gw, cf, by rw [hn4]; exact rf_st rf (by unfold inBk; omega) _⟩
    have o : ∀ a, 266 ≤ a → a ≤ 290 → ¬a = 277 → n4 a = q2.2 a := fun a _ _ ha => o4 a ha
    have o40 : n4 264 40 = q2.2 264 40 := by rw [o4 264 (by decide)]
    have o39 : n4 264 39 = q2.2 264 39 := by rw [o4 264 (by decide)]
    obtain ⟨⟨hB, i40, i66, i67, i73, i75, r69, r70, r74, r78⟩, r68, r67, r79, ⟨s84, s85, s86⟩, w71, ⟨c72, nk, nt⟩, ⟨d0, d1⟩, ⟨e0, e1⟩, q39⟩ := rw'
    refine ⟨⟨hB, (by rw [o40]; exact i40), (by rw [o 266 (by decide) (by decide) (by decide)]; exact i66), (by rw [o 267 (by decide) (by decide) (by decide)]; exact i67), (by rw [o 273 (by decide) (by decide) (by decide)]; exact i73), (by rw [o 275 (by decide) (by decide) (by decide)]; exact i75), (by rw [o 269 (by decide) (by decide) (by decide)]; exact r69), (by rw [o 270 (by decide) (by decide) (by decide)]; exact r70), (by rw [o 274 (by decide) (by decide) (by decide)]; exact r74), (by rw [o 278 (by decide) (by decide) (by decide)]; exact r78)⟩, (by rw [o 268 (by decide) (by decide) (by decide)]; exact r68), ?_, (by rw [o 279 (by decide) (by decide) (by decide)]; exact r79), ⟨(by rw [o 284 (by decide) (by decide) (by decide)]; exact s84), (by rw [o 285 (by decide) (by decide) (by decide)]; exact s85), (by rw [o 286 (by decide) (by decide) (by decide)]; exact s86)⟩, (by rw [o 271 (by decide) (by decide) (by decide)]; exact w71), ⟨(by rw [o 272 (by decide) (by decide) (by decide)]; exact c72), (by rw [o 289 (by decide) (by decide) (by decide)]; exact nk), (by rw [o 290 (by decide) (by decide) (by decide)]; first | exact nt | (rw [clTo_s (by decide)]; exact nt) | (rw [clTo_s (by decide), clTo_s (by decide)]; exact nt) | (rw [clTo_s (by decide), clTo_s (by decide), clTo_s (by decide)]; exact nt))⟩, ⟨(by unfold SM CdM; rw [o 280 (by decide) (by decide) (by decide), o 281 (by decide) (by decide) (by decide), o 287 (by decide) (by decide) (by decide), o 288 (by decide) (by decide) (by decide)]; exact d0), (by rw [o 280 (by decide) (by decide) (by decide), o39]; exact d1)⟩, ⟨(by unfold SM CdM; rw [o 282 (by decide) (by decide) (by decide), o 283 (by decide) (by decide) (by decide), o 287 (by decide) (by decide) (by decide), o 288 (by decide) (by decide) (by decide)]; exact e0), (by rw [o 282 (by decide) (by decide) (by decide), o39]; exact e1)⟩, (by rw [o39]; exact q39)⟩
    intro t ht
    rw [o4 276 (by decide), hn4, up_at, if_neg (by omega)]
    exact r67 t ht
  have p4 : JP T len K v2.2 n4 (nx T len (nx T len a)) := ⟨p2.1, r4, p2.2.2.1, rs_off p2.2.2.2 (fun j _ => by rw [o4 264 (by decide)]) (o4 265 (by decide))⟩
  refine wp_r (gR26 r4) ?_
  refine wp_j (b_spot hN p4 js4 1) (fun v3 q3 hv => ?_)
  rcases hv with ⟨e3, a', ⟨p3, js3, lt3, ⟨i7, j7⟩, f3⟩, g8, cb, cc⟩ | ⟨e3, no⟩
  rotate_left
  · rw [e3, if_neg (fun u => u rfl)]
    refine wp_n0 ?_
    exact wp_c (tlE_F no.2.2.1 (fl_fs no.1) hB nf no.2.2.2.2.2.2.2.2 _) (fun n3 h => same_po no h)
  rw [e3, if_pos (by decide)]
  obtain ⟨⟨pd, sd1, sd2⟩, ld, rw', gw, cf, rf⟩ := id js3
  have hD := pd.1
  obtain ⟨r, r2, rp, rs⟩ := id p3
  have z7 := gw.1.2.2.2.2.2.2
  have fr := (frT_cont cb (by omega)).mp (cc (by decide))
  obtain ⟨n1, n2, n3, n4', n5, n6⟩ := id gw.2.2.1
  -- what stands in the bank behind the things
  have s276 : q3.2 276 (10 * B + nT I) = sort := by rw [j7 276 (by decide), o4 276 (by decide), h7 276 (by decide), q7 276 (by decide)]; exact hs
  have s277 : q3.2 277 (10 * B + nT I) = q2.1 := by rw [j7 277 (by decide)]; exact tk4
  have s290 : q3.2 290 (10 * B + nT I) = n 290 (10 * B + nT I) := by rw [j7 290 (by decide), o4 290 (by decide), h7 290 (by decide), q7 290 (by decide)]
  have s7 : v3.2 5 7 = m 5 7 := by rw [i7, g7, f7]
  refine wp_b (gtI (by decide +kernel) _) ?_
  rw [g8]
  refine wp_bw (x_addThing r pd ld gw.2.2.1 nf sort q2.1 q3.1) (fun m6 hm6 => ?_)
  obtain ⟨pd6, ld6, r6, o6⟩ := hm6
  -- the reference to its end
  have ref : ∀ {Q : Mem → Prop}, (∀ n6 : Mem, Refs n6 → (∀ b, ¬b = 278 → ¬b = 275 → n6 b = q3.2 b) → n6 275 B = (nT I : Int) + 1 → (∀ t : Nat, t < nT I + 1 → n6 278 (10 * B + t) = zI l 1 (nT I) q3.1 1 t) → RF B n0 n6 → Q n6) → Wp (tlE (idx B (nT I)) 278 q3.1 q3.2) Q := fun {Q} h => by
    unfold tlE idx
    refine wp_b (wst (K := 10) (B := B) (len := 10) (n := 20) (by decide +kernel) (by omega) (by decide) (by omega) (by omega) q3.1 q3.2) ?_
    obtain ⟨n5', hn5⟩ : ∃ n5, n5 = up q3.2 278 (10 * B + ((nT I : Nat) : Int).toNat) q3.1 := ⟨_, rfl⟩
    have r5 : Refs n5' := by rw [hn5]; exact refs_arr r2 (by decide +kernel) _ _
    have o5 : ∀ b, ¬b = 278 → n5' b = q3.2 b := fun b hb => by rw [hn5, up_ne hb]
    rw [← hn5]
    refine wp_b (g264 (by decide)) ?_
    rw [if_neg (by rw [o5 264 (by decide)]; have := jp_8 p3; omega)]
    refine wp_b (gR23 r5) ?_
    refine wp_b (g264 (by decide)) ?_
    rw [o5 264 (by decide), rw'.1.2.1]
    refine wp_b (wld1 (by decide +kernel) hB n5') ?_
    rw [o5 275 (by decide), rw'.1.2.2.2.2.2.1, n3, wI_of2 (x := (nT I : Int) + 1) (by omega) (by omega)]
    refine wp_b (wst1 (by decide +kernel) hB _ n5') ?_
    refine wp_some (h _ (refs_arr r5 (by decide +kernel) _ _) (fun b h1 h2 => by rw [up_ne h2, o5 b h1]) (up_same _ _ _ _) (fun t ht => ?_) (rf_st (by rw [hn5]; exact rf_st rf (by unfold inBk; omega) _) (by unfold inBk; omega) _))
    rw [up_ne (by decide), hn5, up_at]
    by_cases y : t = nT I
    · rw [if_pos (by omega), y, zI_y]
    · rw [if_neg (by omega), zI_n (by omega)]
      exact rw'.1.2.2.2.2.2.2.2.2.2 t (by omega)
  by_cases q : sort = 0
  · subst q
    rw [if_neg (fun u => u rfl)]
    refine wp_b (gtI (by decide +kernel) _) ?_
    have e67 : m6 5 7 = m 5 7 := by rw [o6 5 (by omega), s7]
    rw [e67]
    have eT := tI_nT I 0 q2.1 q3.1
    refine wp_bw (x_addCloth r6 pd6 (by rw [eT, tI_9]; omega) (by rw [eT]; omega) (by rw [eT]; omega) n5 (by show nH I < 10; omega) (m 5 7)) (fun m9 hm9 => ?_)
    obtain ⟨pd9, r9, o9⟩ := hm9
    refine wp_n1 ?_
    refine ref (fun n6' rn on e75 e78 rfn => ?_)
    have ob : ∀ b, ¬(b = D ∨ b = D + 14 ∨ b = D + 18 ∨ b = D + 19 ∨ b = D + 20 ∨ b = D + 21) → m9 b = v3.2 b := fun b hb => by rw [o9 b (by omega), o6 b (by omega)]
    refine Or.inl ⟨rfl, a', cI (tI I 0 q2.1 q3.1) (m 5 7), zI l 1 (nT I) q3.1, by omega, ⟨r9, rn, rp_off rp (fun b hb => ob b (by omega)), rs_off rs (fun j _ => by rw [on 264 (by decide) (by decide)]) (on 265 (by decide) (by decide))⟩, ⟨⟨pd9, sd_off sd1 (fun q q1 q2 => ob q (by omega)), sd_off sd2 (fun q q1 q2 => ob q (by omega))⟩, ld_off ld6 (fun b h1 h2 => o9 b (by omega)), ?_, gw_cloth gw (m 5 7) lo hi cb fr nf, cf_up cf (fun b j _ h => by show m9 b j = v3.2 b j; rw [ob b (by omega)]), rfn⟩, ?_, ?_⟩
    · have o : ∀ a, 266 ≤ a → a ≤ 290 → ¬(a = 278 ∨ a = 275) → n6' a = q3.2 a := fun a _ _ ha => on a (fun u => ha (Or.inl u)) (fun u => ha (Or.inr u))
      have o40 : n6' 264 40 = q3.2 264 40 := by rw [on 264 (by decide) (by decide)]
      have o39 : n6' 264 39 = q3.2 264 39 := by rw [on 264 (by decide) (by decide)]
      have eT2 : nT (cI (tI I 0 q2.1 q3.1) (m 5 7)) = nT I + 1 := eT
      have ce := cl_eq gw.2.2.1 gw.2.2.2.2.2.1
      obtain ⟨⟨hB, i40, i66, i67, i73, i75, r69, r70, r74, r78⟩, r68, r67, r79, ⟨s84, s85, s86⟩, w71, ⟨c72, nk, nt⟩, ⟨d0, d1⟩, ⟨e0, e1⟩, q39⟩ := rw'
      refine ⟨⟨hB, (by rw [o40]; exact i40), (by rw [o 266 (by decide) (by decide) (by decide)]; exact i66), (by rw [o 267 (by decide) (by decide) (by decide)]; exact i67), (by rw [o 273 (by decide) (by decide) (by decide)]; exact i73), ?_, (by rw [o 269 (by decide) (by decide) (by decide)]; exact r69), (by rw [o 270 (by decide) (by decide) (by decide)]; exact r70), (by rw [o 274 (by decide) (by decide) (by decide)]; exact r74), ?_⟩, (by rw [o 268 (by decide) (by decide) (by decide)]; exact r68), ?_, (by rw [o 279 (by decide) (by decide) (by decide)]; exact r79), ⟨(by rw [o 284 (by decide) (by decide) (by decide)]; exact s84), (by rw [o 285 (by decide) (by decide) (by decide)]; exact s85), (by rw [o 286 (by decide) (by decide) (by decide)]; exact s86)⟩, (by rw [o 271 (by decide) (by decide) (by decide)]; exact w71), ⟨(by rw [o 272 (by decide) (by decide) (by decide)]; exact c72), (by rw [o 289 (by decide) (by decide) (by decide)]; exact nk), ?_⟩, ⟨(by unfold SM CdM; rw [o 280 (by decide) (by decide) (by decide), o 281 (by decide) (by decide) (by decide), o 287 (by decide) (by decide) (by decide), o 288 (by decide) (by decide) (by decide)]; exact d0), (by rw [o 280 (by decide) (by decide) (by decide), o39]; exact d1)⟩, ⟨(by unfold SM CdM; rw [o 282 (by decide) (by decide) (by decide), o 283 (by decide) (by decide) (by decide), o 287 (by decide) (by decide) (by decide), o 288 (by decide) (by decide) (by decide)]; exact e0), (by rw [o 282 (by decide) (by decide) (by decide), o39]; exact e1)⟩, (by rw [o39]; exact q39)⟩
      · rw [e75]; exact (tI_9 I 0 q2.1 q3.1).symm
      · intro t ht
        rw [eT2] at ht
        exact e78 t ht
      · intro t ht
        rw [eT2] at ht
        rw [on 276 (by decide) (by decide), on 277 (by decide) (by decide)]
        show q3.2 276 (10 * B + t) = tI I 0 q2.1 q3.1 11 t ∧ q3.2 277 (10 * B + t) = tI I 0 q2.1 q3.1 10 t
        rw [tI_11, tI_10]
        by_cases y : t = nT I
        · rw [if_pos (by omega), if_pos (by omega), y]; exact ⟨s276, s277⟩
        · rw [if_neg (by omega), if_neg (by omega)]; exact r67 t (by omega)
      · intro t ht e
        rw [eT2] at ht
        rw [on 290 (by decide) (by decide), cI_cl, cI_14]
        by_cases y : t = nT I
        · rw [y, tI_cl I 0 q2.1 q3.1 (Nat.le_refl _), ce, if_pos (show ((nH I : Nat) : Int) = ((nH (tI I 0 q2.1 q3.1) : Nat) : Int) from rfl), s290]
          exact nm rfl
        · have e' : I 11 t = 0 := by
            have : tI I 0 q2.1 q3.1 11 t = 0 := e
            rw [tI_11, if_neg (by omega)] at this
            exact this
          rw [tI_cl I 0 q2.1 q3.1 (by omega)]
          have lt := clTo_lt9 I (show t < nT I from by omega) e'
          rw [if_neg (by show ¬clTo I t = (nH I : Int); omega)]
          exact nt t (by omega) e'
    · show m9 5 11 = s
      rw [ob 5 (by omega), f3, f2, f1]; exact e11
    · show nD I + nR I ≤ a'
      omega
  · rw [if_pos q]
    refine wp_n1 ?_
    refine ref (fun n6' rn on e75 e78 rfn => ?_)
    have eT := tI_nT I sort q2.1 q3.1
    refine Or.inl ⟨rfl, a', tI I sort q2.1 q3.1, zI l 1 (nT I) q3.1, by omega, ⟨r6, rn, rp_off rp (fun b hb => o6 b (by omega)), rs_off rs (fun j _ => by rw [on 264 (by decide) (by decide)]) (on 265 (by decide) (by decide))⟩, ⟨⟨pd6, sd_off sd1 (fun q q1 q2 => o6 q (by omega)), sd_off sd2 (fun q q1 q2 => o6 q (by omega))⟩, ld6, ?_, gw_stone gw q lo hi cb fr nf, cf_up cf (fun b j _ h => by show m6 b j = v3.2 b j; rw [o6 b (by omega)]), rfn⟩, ?_, ?_⟩
    · have o : ∀ a, 266 ≤ a → a ≤ 290 → ¬(a = 278 ∨ a = 275) → n6' a = q3.2 a := fun a _ _ ha => on a (fun u => ha (Or.inl u)) (fun u => ha (Or.inr u))
      have o40 : n6' 264 40 = q3.2 264 40 := by rw [on 264 (by decide) (by decide)]
      have o39 : n6' 264 39 = q3.2 264 39 := by rw [on 264 (by decide) (by decide)]
      obtain ⟨⟨hB, i40, i66, i67, i73, i75, r69, r70, r74, r78⟩, r68, r67, r79, ⟨s84, s85, s86⟩, w71, ⟨c72, nk, nt⟩, ⟨d0, d1⟩, ⟨e0, e1⟩, q39⟩ := rw'
      refine ⟨⟨hB, (by rw [o40]; exact i40), (by rw [o 266 (by decide) (by decide) (by decide)]; exact i66), (by rw [o 267 (by decide) (by decide) (by decide)]; exact i67), (by rw [o 273 (by decide) (by decide) (by decide)]; exact i73), ?_, (by rw [o 269 (by decide) (by decide) (by decide)]; exact r69), (by rw [o 270 (by decide) (by decide) (by decide)]; exact r70), (by rw [o 274 (by decide) (by decide) (by decide)]; exact r74), ?_⟩, (by rw [o 268 (by decide) (by decide) (by decide)]; exact r68), ?_, (by rw [o 279 (by decide) (by decide) (by decide)]; exact r79), ⟨(by rw [o 284 (by decide) (by decide) (by decide)]; exact s84), (by rw [o 285 (by decide) (by decide) (by decide)]; exact s85), (by rw [o 286 (by decide) (by decide) (by decide)]; exact s86)⟩, (by rw [o 271 (by decide) (by decide) (by decide)]; exact w71), ⟨(by rw [o 272 (by decide) (by decide) (by decide)]; exact c72), (by rw [o 289 (by decide) (by decide) (by decide)]; exact nk), ?_⟩, ⟨(by unfold SM CdM; rw [o 280 (by decide) (by decide) (by decide), o 281 (by decide) (by decide) (by decide), o 287 (by decide) (by decide) (by decide), o 288 (by decide) (by decide) (by decide)]; exact d0), (by rw [o 280 (by decide) (by decide) (by decide), o39]; exact d1)⟩, ⟨(by unfold SM CdM; rw [o 282 (by decide) (by decide) (by decide), o 283 (by decide) (by decide) (by decide), o 287 (by decide) (by decide) (by decide), o 288 (by decide) (by decide) (by decide)]; exact e0), (by rw [o 282 (by decide) (by decide) (by decide), o39]; exact e1)⟩, (by rw [o39]; exact q39)⟩
      · rw [e75, tI_9]
      · intro t ht
        rw [eT] at ht
        exact e78 t ht
      · intro t ht
        rw [eT] at ht
        rw [on 276 (by decide) (by decide), on 277 (by decide) (by decide), tI_11, tI_10]
        by_cases y : t = nT I
        · rw [if_pos (by omega), if_pos (by omega), y]; exact ⟨s276, s277⟩
        · rw [if_neg (by omega), if_neg (by omega)]; exact r67 t (by omega)
      · intro t ht e
        rw [eT] at ht
        rw [tI_11] at e
        by_cases y : t = nT I
        · rw [if_pos (by omega)] at e; exact absurd e q
        · rw [if_neg (by omega)] at e
          rw [on 290 (by decide) (by decide), tI_cl I sort q2.1 q3.1 (by omega)]
          exact nt t (by omega) e
    · show m6 5 11 = s
      rw [o6 5 (by omega), f3, f2, f1]; exact e11
    · show nD I + nR I ≤ a'
      omega
/-- a row of the bank is written behind what is counted -/
theorem js_276 {m n : Mem} {I : Isl} {l : Lnd} (js : JS D B m0 n0 m n I l) (nf : nT I < 10) (v : Int) : JS D B m0 n0 m (up n 276 (10 * B + ((nT I : Nat) : Int).toNat) v) I l := by
  obtain ⟨ps, ld, rw', gw, cf, rf⟩ := js
  refine ⟨ps, ld, ?_, gw, cf, rf_st rf (by unfold inBk; omega) _⟩
  have o : ∀ a, 266 ≤ a → a ≤ 290 → ¬a = 276 → up n 276 (10 * B + ((nT I : Nat) : Int).toNat) v a = n a := fun a _ _ ha => up_ne ha
  have o40 : up n 276 (10 * B + ((nT I : Nat) : Int).toNat) v 264 40 = n 264 40 := by rw [up_ne (by decide)]
  have o39 : up n 276 (10 * B + ((nT I : Nat) : Int).toNat) v 264 39 = n 264 39 := by rw [up_ne (by decide)]
  obtain ⟨⟨hB, i40, i66, i67, i73, i75, r69, r70, r74, r78⟩, r68, r67, r79, ⟨s84, s85, s86⟩, w71, ⟨c72, nk, nt⟩, ⟨d0, d1⟩, ⟨e0, e1⟩, q39⟩ := rw'
  refine ⟨⟨hB, (by rw [o40]; exact i40), (by rw [o 266 (by decide) (by decide) (by decide)]; exact i66), (by rw [o 267 (by decide) (by decide) (by decide)]; exact i67), (by rw [o 273 (by decide) (by decide) (by decide)]; exact i73), (by rw [o 275 (by decide) (by decide) (by decide)]; exact i75), (by rw [o 269 (by decide) (by decide) (by decide)]; exact r69), (by rw [o 270 (by decide) (by decide) (by decide)]; exact r70), (by rw [o 274 (by decide) (by decide) (by decide)]; exact r74), (by rw [o 278 (by decide) (by decide) (by decide)]; exact r78)⟩, (by rw [o 268 (by decide) (by decide) (by decide)]; exact r68), ?_, (by rw [o 279 (by decide) (by decide) (by decide)]; exact r79), ⟨(by rw [o 284 (by decide) (by decide) (by decide)]; exact s84), (by rw [o 285 (by decide) (by decide) (by decide)]; exact s85), (by rw [o 286 (by decide) (by decide) (by decide)]; exact s86)⟩, (by rw [o 271 (by decide) (by decide) (by decide)]; exact w71), ⟨(by rw [o 272 (by decide) (by decide) (by decide)]; exact c72), (by rw [o 289 (by decide) (by decide) (by decide)]; exact nk), (by rw [o 290 (by decide) (by decide) (by decide)]; first | exact nt | (rw [clTo_s (by decide)]; exact nt) | (rw [clTo_s (by decide), clTo_s (by decide)]; exact nt) | (rw [clTo_s (by decide), clTo_s (by decide), clTo_s (by decide)]; exact nt))⟩, ⟨(by unfold SM CdM; rw [o 280 (by decide) (by decide) (by decide), o 281 (by decide) (by decide) (by decide), o 287 (by decide) (by decide) (by decide), o 288 (by decide) (by decide) (by decide)]; exact d0), (by rw [o 280 (by decide) (by decide) (by decide), o39]; exact d1)⟩, ⟨(by unfold SM CdM; rw [o 282 (by decide) (by decide) (by decide), o 283 (by decide) (by decide) (by decide), o 287 (by decide) (by decide) (by decide), o 288 (by decide) (by decide) (by decide)]; exact e0), (by rw [o 282 (by decide) (by decide) (by decide), o39]; exact e1)⟩, (by rw [o39]; exact q39)⟩
  intro t ht
  rw [up_ne (show ¬277 = 276 from by decide), up_at, if_neg (by omega)]
  exact r67 t ht
theorem js_290 {m n : Mem} {I : Isl} {l : Lnd} (js : JS D B m0 n0 m n I l) (nf : nT I < 10) (v : Int) : JS D B m0 n0 m (up n 290 (10 * B + ((nT I : Nat) : Int).toNat) v) I l := by
  obtain ⟨ps, ld, rw', gw, cf, rf⟩ := js
  refine ⟨ps, ld, ?_, gw, cf, rf_st rf (by unfold inBk; omega) _⟩
  have o : ∀ a, 266 ≤ a → a ≤ 290 → ¬a = 290 → up n 290 (10 * B + ((nT I : Nat) : Int).toNat) v a = n a := fun a _ _ ha => up_ne ha
  have o40 : up n 290 (10 * B + ((nT I : Nat) : Int).toNat) v 264 40 = n 264 40 := by rw [up_ne (by decide)]
  have o39 : up n 290 (10 * B + ((nT I : Nat) : Int).toNat) v 264 39 = n 264 39 := by rw [up_ne (by decide)]
  obtain ⟨⟨hB, i40, i66, i67, i73, i75, r69, r70, r74, r78⟩, r68, r67, r79, ⟨s84, s85, s86⟩, w71, ⟨c72, nk, nt⟩, ⟨d0, d1⟩, ⟨e0, e1⟩, q39⟩ := rw'
  refine ⟨⟨hB, (by rw [o40]; exact i40), (by rw [o 266 (by decide) (by decide) (by decide)]; exact i66), (by rw [o 267 (by decide) (by decide) (by decide)]; exact i67), (by rw [o 273 (by decide) (by decide) (by decide)]; exact i73), (by rw [o 275 (by decide) (by decide) (by decide)]; exact i75), (by rw [o 269 (by decide) (by decide) (by decide)]; exact r69), (by rw [o 270 (by decide) (by decide) (by decide)]; exact r70), (by rw [o 274 (by decide) (by decide) (by decide)]; exact r74), (by rw [o 278 (by decide) (by decide) (by decide)]; exact r78)⟩, (by rw [o 268 (by decide) (by decide) (by decide)]; exact r68), (by rw [o 276 (by decide) (by decide) (by decide), o 277 (by decide) (by decide) (by decide)]; exact r67), (by rw [o 279 (by decide) (by decide) (by decide)]; exact r79), ⟨(by rw [o 284 (by decide) (by decide) (by decide)]; exact s84), (by rw [o 285 (by decide) (by decide) (by decide)]; exact s85), (by rw [o 286 (by decide) (by decide) (by decide)]; exact s86)⟩, (by rw [o 271 (by decide) (by decide) (by decide)]; exact w71), ⟨(by rw [o 272 (by decide) (by decide) (by decide)]; exact c72), (by rw [o 289 (by decide) (by decide) (by decide)]; exact nk), ?_⟩, ⟨(by unfold SM CdM; rw [o 280 (by decide) (by decide) (by decide), o 281 (by decide) (by decide) (by decide), o 287 (by decide) (by decide) (by decide), o 288 (by decide) (by decide) (by decide)]; exact d0), (by rw [o 280 (by decide) (by decide) (by decide), o39]; exact d1)⟩, ⟨(by unfold SM CdM; rw [o 282 (by decide) (by decide) (by decide), o 283 (by decide) (by decide) (by decide), o 287 (by decide) (by decide) (by decide), o 288 (by decide) (by decide) (by decide)]; exact e0), (by rw [o 282 (by decide) (by decide) (by decide), o39]; exact e1)⟩, (by rw [o39]; exact q39)⟩
  intro t ht e
  rw [up_at, if_neg (by omega)]
  exact nt t ht e
theorem jp_n {m n n2 : Mem} {a : Nat} (p : JP T len K m n a) (r : Refs n2) (o : n2 264 = n 264) (e : n2 265 = n 265) : JP T len K m n2 a := ⟨p.1, r, p.2.2.1, rs_off p.2.2.2 (fun j _ => by rw [o]) e⟩
/-- up to the row of the sort -/
theorem th_head {N : Nat} (hN : 2000 ≤ N) {m n : Mem} {a : Nat} {s : Int} {I : Isl} {l : Lnd} (j : JI T len K D B m0 n0 m n a s I l) {own : Nat} (ho : own < 27) (h10 : ¬own = 10) {x : Int} (hx : x = (own : Int)) (k : kdP T len a = (2, (own : Int))) (nf : nT I < 10) (sort : Int) {Y : Mem → Option (Int × Mem)} (h : ∀ (m1 n1 : Mem) (a1 : Nat), a < a1 → JP T len K m1 n1 a1 → JS D B m0 n0 m1 n1 I l → m1 5 11 = s → n1 276 (10 * B + nT I) = sort → Wp (Y m1) (fun v => Wp (if ¬sort = 0 then X11_thinging_J69 N 264 (idx B (nT I)) 290 (idx B (nT I)) 0 n1 else (X11_fresh N 264 n1).bind fun p26 => X11_thinging_J69 N 264 (idx B (nT I)) 290 (idx B (nT I)) p26.1 p26.2) (fun n2 => Po T len K D B m0 n0 a s v n2))) : Wp (sW x Y m) (fun v => Wp (X11_thinging N 264 sort n) (fun n2 => Po T len K D B m0 n0 a s v n2)) := by
  obtain ⟨p, js, e11, ab⟩ := j
  obtain ⟨hB, i40, _, _, _, i75, _⟩ := js.2.2.1.1
  obtain ⟨n1, n2, n3, n4, n5, n6⟩ := js.2.2.2.1.2.2.1
  unfold X11_thinging
  refine wp_rk k264 ?_
  refine wp_r (gR23 p.2.1) ?_
  refine wp_r (g264 (by decide)) ?_
  rw [i40]
  refine wp_r (wld1 (by decide +kernel) hB n) ?_
  rw [i75, if_pos (show ¬I 9 0 = 10 from by omega)]
  unfold X11_thinging_J20
  refine wp_j (b_count hN p js ho h10 hx k rfl) (fun v q hv => ?_)
  obtain ⟨v1, q1, p1, js1, lt1, ⟨f7, q7⟩, e1⟩ := hv
  rw [v1, if_neg (by decide), q1, if_pos (by decide)]
  have ra := p1.2.1
  obtain ⟨_, a40, _, _, _, a75, _⟩ := js1.2.2.1.1
  refine wp_r (g264 (by decide)) ?_
  refine wp_r (gR23 ra) ?_
  refine wp_r (g264 (by decide)) ?_
  rw [a40]
  refine wp_r (wld1 (by decide +kernel) hB q.2) ?_
  refine wp_r (gR24 ra) ?_
  rw [a75, n3]
  refine wp_r (wst (K := 10) (B := B) (len := 10) (n := 20) (by decide +kernel) (by omega) (by decide) (by omega) (by omega) sort q.2) ?_
  have r4 : Refs (up q.2 276 (10 * B + ((nT I : Nat) : Int).toNat) sort) := refs_arr ra (by decide +kernel) _ _
  refine wp_r (gR38 r4) ?_
  exact h v.2 _ _ lt1 (jp_n p1 r4 (up_ne (by decide)) (up_ne (by decide))) (js_276 js1 nf sort) (by rw [e1]; exact e11) (by rw [show 10 * B + ((nT I : Nat) : Int).toNat = 10 * B + nT I from by omega, up_same])
theorem st_stone {N : Nat} (hN : 2000 ≤ N) {m n : Mem} {a : Nat} {s : Int} {I : Isl} {l : Lnd} (j : JI T len K D B m0 n0 m n a s I l) {own : Nat} (ho : own < 27) (h10 : ¬own = 10) {x : Int} (hx : x = (own : Int)) (k : kdP T len a = (2, (own : Int))) (nf : nT I < 10) {sort : Int} (hs : ¬sort = 0) : Wp (sW x (fun m => two (X6_thingOf N 5 D sort m)) m) (fun v => Wp (X11_thinging N 264 sort n) (fun n2 => Po T len K D B m0 n0 a s v n2)) := by
  have hB := j.2.1.2.2.1.1.1
  refine th_head hN j ho h10 hx k nf sort (fun m1 n1 a1 lt p1 js1 e11 e276 => ?_)
  rw [if_pos hs]
  refine wrap ?_
  unfold X11_thinging_J69
  refine wp_r (wstL (K := 10) (B := B) (len := 10) (n := 20) (by decide +kernel) (by omega) (by decide) (by omega) (by omega) 0 n1) ?_
  have r4 : Refs (up n1 290 (10 * B + ((nT I : Nat) : Int).toNat) 0) := refs_arr p1.2.1 (by decide +kernel) _ _
  exact th_tail hN (jp_n p1 r4 (up_ne (by decide)) (up_ne (by decide))) (js_290 js1 nf 0) e11 j.2.2.2 lt nf sort (by rw [up_ne (by decide)]; exact e276) (fun u => absurd u hs)
theorem st_cloth {N : Nat} (hN : 2000 ≤ N) {m n : Mem} {a : Nat} {s : Int} {I : Isl} {l : Lnd} (j : JI T len K D B m0 n0 m n a s I l) (k : kdP T len a = (2, 6)) (nf : nT I < 10) : Wp (sW 6 (fun m => (X6_name N 5 D m).bind fun p44 => if p44.1 = 0 then ((retZ 0).bind fun r45 => some (r45, p44.2)) else two (X6_thingOf N 5 D 0 p44.2)) m) (fun v => Wp (X11_thinging N 264 0 n) (fun n2 => Po T len K D B m0 n0 a s v n2)) := by
  have hB := j.2.1.2.2.1.1.1
  refine th_head hN j (own := 6) (by decide) (by decide) rfl k nf 0 (fun m1 n1 a1 lt p1 js1 e11 e276 => ?_)
  rw [if_neg (fun u => u rfl)]
  refine wp_j (b_name hN p1 js1) (fun v2 q2 hv => ?_)
  rcases hv with ⟨e2, p2, js2, lt2, nm, f2, o2⟩ | ⟨e2, no⟩
  rotate_left
  · rw [e2, if_pos rfl]
    refine wp_n0 ?_
    obtain ⟨fl, ra, rb, ps, ld, rw', gw, cf, rf⟩ := no
    unfold X11_thinging_J69
    refine wp_b (wstL (K := 10) (B := B) (len := 10) (n := 20) (by decide +kernel) (by omega) (by decide) (by omega) (by omega) q2.1 q2.2) ?_
    have js3 := js_290 (n := q2.2) ⟨ps, ld, rw', gw, cf, rf⟩ nf q2.1
    have r4 : Refs (up q2.2 290 (10 * B + ((nT I : Nat) : Int).toNat) q2.1) := refs_arr rb (by decide +kernel) _ _
    have fl4 : FL v2.2 (up q2.2 290 (10 * B + ((nT I : Nat) : Int).toNat) q2.1) := by
      obtain ⟨f, p, hf, x1, x2, x3, x4⟩ := fl
      exact ⟨f, p, hf, x1, x2, by rw [up_ne (by decide)]; exact x3, by rw [up_ne (by decide)]; exact x4⟩
    exact wp_c (tlW_F hN r4 (fl_fs fl4) js3.2.2.1 gw.1 nf js3.2.2.2.2.2) (fun n3 h => same_po (I := I) (l := l) ⟨fl4, ra, r4, js3⟩ h)
  rw [e2, if_neg (by decide)]
  refine wrap ?_
  unfold X11_thinging_J69
  refine wp_r (wstL (K := 10) (B := B) (len := 10) (n := 20) (by decide +kernel) (by omega) (by decide) (by omega) (by omega) q2.1 q2.2) ?_
  have r4 : Refs (up q2.2 290 (10 * B + ((nT I : Nat) : Int).toNat) q2.1) := refs_arr p2.2.1 (by decide +kernel) _ _
  exact th_tail hN (jp_n p2 r4 (up_ne (by decide)) (up_ne (by decide))) (js_290 js2 nf q2.1) (by rw [f2]; exact e11) j.2.2.2 (by omega) nf 0 (by rw [up_ne (by decide), o2 276 (by decide)]; exact e276) (fun _ => by rw [show 10 * B + ((nT I : Nat) : Int).toNat = 10 * B + nT I from by omega, up_same]; exact nm)
