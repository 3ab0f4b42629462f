/-! the whole text is read by both -/
variable {T : Nat → Int} {len K D B : Nat} {m0 n0 : Mem}
theorem b_read {N : Nat} (hN : 4000 ≤ N) {m n n1 : Mem} (r : Refs m) (rp : RP m T len K (sk T len 0)) (cl : Clr m D) (ks : Kst m) (hD : D = 11 ∨ D = 40) (e11 : m 5 11 = 0) (ini : Ini n n1 B len) (hB : B = 0 ∨ B = 1) (hT : ∀ i, i < len → n1 265 i = T i) (hl : len ≤ 1600) (cf : CFr D m0 m) : Wp ((X6_size N 5 D m).bind fun p8 => if p8.1 = 0 then X6_read_J53 N 5 D p8.2 else (X6_close 5 p8.2).bind fun p20 => if p20.1 = 0 then X6_read_J53 N 5 D p20.2 else X6_read_J54 N 5 D 1 p20.2) (fun v => Rl T len K D B m0 n1 (isGE N) (isG0 N 264 n1) v) := by
  have hN2 : 2000 ≤ N := by omega
  obtain ⟨rn, ⟨i2, i1, i5, i8, i9, i40, i39⟩, _⟩ := id ini
  have a0l : sk T len 0 ≤ len := (run_in cBl T len _ 0 rfl (Nat.zero_le _)).2.1
  obtain ⟨n2, ea, f2, rt2⟩ := m_ahead hN2 rn i2 hT hl (e := 0) i5 (Nat.zero_le _)
  have r2 : Refs n2 := ahf_refs f2 rn
  have rs2 : RS n2 T len (sk T len 0) := ⟨rt2, by rw [f2.2 8 (by decide)]; exact i8, by rw [f2.2 2 (by decide)]; exact i2, fun i hi => by rw [f2.1 265 (by decide)]; exact hT i hi, a0l, hl, by rw [f2.2 9 (by decide)]; exact i9⟩
  have rf2 : RF B n1 n2 := rf_up (rf_refl B n1) (fun b j h1 _ _ => by
    by_cases q : b = 264
    · rw [q]; exact f2.2 j (fun u => h1 ⟨q, by omega⟩)
    · rw [f2.1 b q])
  have e40 : n2 264 40 = (B : Int) := by rw [f2.2 40 (by decide)]; exact i40
  obtain ⟨a0, ha0⟩ : ∃ a0, a0 = sk T len 0 := ⟨_, rfl⟩
  rw [← ha0] at rp rs2 a0l
  have al := rp_le rp
  -- the class's refusal
  have stop : ∀ (mm x : Mem) (y : Option (Int × Mem)), y = isGE N 264 1 x → JF D B m0 n1 mm x → Wp (X6_read_J53 N 5 D mm) (fun v => Rl T len K D B m0 n1 (isGE N) y v) := fun mm x y hy jf => by
    rw [c_stop0 (by omega)]
    exact wp_some ⟨1, x, hy, Or.inr ⟨rfl, jf⟩⟩
  have w0 : ((pk8 (owT.getD 0 []) : Nat) : Int) = 115944460480100 := by decide +kernel
  have own := own_same (T := T) al (i := 0) (by decide)
  rw [w0] at own
  have dn : ∀ {Q : Int × Mem → Prop} {mm : Mem} {f : Int × Mem → Option (Int × Mem)}, Wp (f (0, mm)) Q → Wp (((retZ 0).bind fun r2 => some (r2, mm)).bind f) Q := fun h => h
  have G0 : isG0 N 264 n1 = (X11_must_ N 264 115944460480100 n2).bind fun p56 => isG1 N 264 p56 := by
    unfold isG0
    rw [ea, Option.bind_some]
  rw [G0]
  unfold X6_size
  rw [if_pos k5r]
  obtain ⟨v1, ev1, hv1⟩ := p_word r rp 0 (by decide) (Q := fun p => (kdP T len a0 = (2, 0) ∧ p.1 = 1 ∧ RP p.2 T len K (nx T len a0) ∧ ReF J14 m p.2) ∨ (¬kdP T len a0 = (2, 0) ∧ p.1 = 0 ∧ Told m p.2 1 (tkQ T len a0))) (fun u m2 d f => Or.inl ⟨u, rfl, d, f⟩) (fun u m2 t => Or.inr ⟨u, rfl, t⟩)
  rw [ev1, Option.bind_some]
  rcases hv1 with ⟨u1, e1, rp1, f1⟩ | ⟨u1, e1, t1⟩
  rotate_left
  · rw [if_pos e1]
    refine dn ?_
    rw [if_pos rfl]
    obtain ⟨x, ex, hx⟩ := m_mustW hN2 r2 rs2 115944460480100 (Q := fun x => x = Bl n2 1 (tkQ T len a0)) (fun u => absurd (own.mpr u) u1) (fun _ => rfl)
    rw [ex, Option.bind_some]
    have jf := jf_tf (f := 1) r r2 cf rf2 (by decide) t1 ⟨n2, ahf_refl n2, hx⟩
    exact stop _ _ _ (rG1F (by omega) jf.2.2.1 hB (by rw [hx, bl_at (by decide)]; exact e40) (fl_fs jf.1)) (jf_w (jf_w jf (Or.inl rfl) 0) (Or.inr rfl) 0)
  rw [if_neg (by rw [e1]; decide)]
  have r1 := ref_refs (fun j h => by omega) f1 r
  have cf1 : CFr D m0 v1.2 := cf_up cf (fun b j h1 _ => by
    by_cases q : b = 5
    · rw [q]; exact f1.2 j (fun u => h1 ⟨q, u.1⟩)
    · rw [f1.1 b q])
  obtain ⟨n3, en3, rs3, r3, rf3, o3⟩ : ∃ n3, X11_must_ N 264 115944460480100 n2 = some n3 ∧ RS n3 T len (nx T len a0) ∧ Refs n3 ∧ RF B n1 n3 ∧ AhF n2 n3 := by
    obtain ⟨x, ex, hx⟩ := m_mustW hN2 r2 rs2 115944460480100 (Q := fun x => AhF n2 x ∧ RS x T len (nx T len a0) ∧ Refs x) (fun u x f rs r => ⟨f, rs, r⟩) (fun u => absurd (own.mp u1) u)
    exact ⟨x, ex, hx.2.1, hx.2.2, rf_up rf2 (fun b j h1 _ _ => by
      by_cases q : b = 264
      · rw [q]; exact hx.1.2 j (fun u => h1 ⟨q, by omega⟩)
      · rw [hx.1.1 b q]), hx.1⟩
  rw [en3, Option.bind_some]
  have a1l := rp_le rp1
  obtain ⟨a1, ha1⟩ : ∃ a1, a1 = nx T len a0 := ⟨_, rfl⟩
  rw [← ha1] at rp1 rs3 a1l
  have e403 : n3 264 40 = (B : Int) := by rw [o3.2 40 (by decide)]; exact e40
  unfold isG1
  rw [gR14 r3, Option.bind_some, g264 (by decide), Option.bind_some, e403]
  -- the first number
  obtain ⟨v2, ev2, hv2⟩ := p_number r1 rp1 2 7 (Q := fun p => (isNm T len a1 ∧ (2 ≤ rvl T len a1 ∧ rvl T len a1 ≤ 7) ∧ p.1 = 1 ∧ RP p.2 T len K (nx T len a1) ∧ ReF J16 v1.2 p.2 ∧ p.2 5 5 = rvl T len a1) ∨ (p.1 = 0 ∧ ∃ f pl : Int, 0 < f ∧ Told v1.2 p.2 f pl ∧ (X11_number N 264 2 7 n3 = some (0, Bl n3 f pl)))) (fun x1 x2 x3 m2 d f g1 _ => Or.inl ⟨x1, ⟨x2, x3⟩, rfl, d, f, g1⟩) (fun x1 x2 m2 t => Or.inr ⟨rfl, 4, (a1 : Int), by decide, t, by
    obtain ⟨y, ey, hy⟩ := m_number hN2 r3 rs3 2 7 (Q := fun y => y = (0, Bl n3 4 (a1 : Int))) (fun _ h1 h2 => absurd ⟨h1, h2⟩ x2) (fun _ _ => rfl) (fun u => absurd x1 u)
    rw [ey, hy]⟩) (fun x1 m2 t => Or.inr ⟨rfl, 1, tkQ T len a1, by decide, t, by
    obtain ⟨y, ey, hy⟩ := m_number hN2 r3 rs3 2 7 (Q := fun y => y = (0, Bl n3 1 (tkQ T len a1))) (fun u => absurd u x1) (fun u => absurd u x1) (fun _ => rfl)
    rw [ey, hy]⟩)
  rw [ev2, Option.bind_some]
  rcases hv2 with ⟨u2, vb, e2, rp2, f2', g5⟩ | ⟨e2, f, pl, hf, t2, en⟩
  rotate_left
  · rw [if_neg (fun u => u e2)]
    refine dn ?_
    rw [if_pos rfl, en, Option.bind_some]
    have jf := jf_tf (f := f) r1 r3 cf1 rf3 hf t2 ⟨n3, ahf_refl n3, rfl⟩
    rw [wst1 (by decide +kernel) hB, Option.bind_some]
    have jf2 := jf_w jf (a := 266) (Or.inl rfl) 0
    exact stop _ _ _ (rG2F (by omega) jf2.2.2.1 hB (by rw [up_ne (by decide)]; show Bl n3 f pl 264 40 = _; rw [bl_at (by decide)]; exact e403) (fl_fs jf2.1)) (jf_w jf2 (Or.inr rfl) 0)
  rw [if_pos (by rw [e2]; decide)]
  have r2' := ref_refs (fun j h => by omega) f2' r1
  have cf2 : CFr D m0 v2.2 := cf_up cf1 (fun b j h1 _ => by
    by_cases q : b = 5
    · rw [q]; exact f2'.2 j (fun u => h1 ⟨q, u.1⟩)
    · rw [f2'.1 b q])
  obtain ⟨n4, en4, rs4, r4, o4⟩ : ∃ n4, X11_number N 264 2 7 n3 = some (rvl T len a1, n4) ∧ RS n4 T len (nx T len a1) ∧ Refs n4 ∧ AhF n3 n4 := by
    obtain ⟨y, ey, hy⟩ := m_number hN2 r3 rs3 2 7 (Q := fun y => y.1 = rvl T len a1 ∧ AhF n3 y.2 ∧ RS y.2 T len (nx T len a1) ∧ Refs y.2) (fun _ _ _ x f rs r => ⟨rfl, f, rs, r⟩) (fun _ h => absurd vb h) (fun u => absurd u2 u)
    obtain ⟨y1, y2⟩ := y
    obtain ⟨h1, h2, h3, h4⟩ := hy
    have h1' : y1 = rvl T len a1 := h1
    subst h1'
    exact ⟨y2, ey, h3, h4, h2⟩
  have gt5 : getI 6 5 5 v2.2 = some (rvl T len a1) := by rw [gtI (by decide +kernel), g5]
  rw [gt5, Option.bind_some, en4, Option.bind_some]
  obtain ⟨W, hW⟩ : ∃ W, W = rvl T len a1 := ⟨_, rfl⟩
  rw [← hW] at vb ⊢
  have a2l := rp_le rp2
  obtain ⟨a2, ha2⟩ : ∃ a2, a2 = nx T len a1 := ⟨_, rfl⟩
  rw [← ha2] at rp2 rs4 a2l
  rw [wst1 (by decide +kernel) hB, Option.bind_some]
  obtain ⟨n5, hn5⟩ : ∃ n5, n5 = up n4 266 B W := ⟨_, rfl⟩
  have r5 : Refs n5 := by rw [hn5]; exact refs_arr r4 (by decide +kernel) _ _
  have o5 : ∀ b, ¬b = 266 → n5 b = n4 b := fun b hb => by rw [hn5, up_ne hb]
  have rs5 : RS n5 T len a2 := rs_off rs4 (fun j _ => by rw [o5 264 (by decide)]) (o5 265 (by decide))
  have rf4 : RF B n1 n4 := rf_up rf3 (fun b j h1 _ _ => by
    by_cases q : b = 264
    · rw [q]; exact o4.2 j (fun u => h1 ⟨q, by omega⟩)
    · rw [o4.1 b q])
  have rf5 : RF B n1 n5 := by rw [hn5]; exact rf_st rf4 (ibk1 (Or.inl rfl) B) _
  have e405 : n5 264 40 = (B : Int) := by rw [o5 264 (by decide), o4.2 40 (by decide)]; exact e403
  rw [← hn5]
  unfold isG2
  rw [gR15 r5, Option.bind_some, g264 (by decide), Option.bind_some, e405]
  -- the second number
  obtain ⟨v3, ev3, hv3⟩ := p_number r2' rp2 2 6 (Q := fun p => (isNm T len a2 ∧ (2 ≤ rvl T len a2 ∧ rvl T len a2 ≤ 6) ∧ p.1 = 1 ∧ RP p.2 T len K (nx T len a2) ∧ ReF J16 v2.2 p.2 ∧ p.2 5 5 = rvl T len a2) ∨ (p.1 = 0 ∧ ∃ f pl : Int, 0 < f ∧ Told v2.2 p.2 f pl ∧ (X11_number N 264 2 6 n5 = some (0, Bl n5 f pl)))) (fun x1 x2 x3 m2 d f g1 _ => Or.inl ⟨x1, ⟨x2, x3⟩, rfl, d, f, g1⟩) (fun x1 x2 m2 t => Or.inr ⟨rfl, 4, (a2 : Int), by decide, t, by
    obtain ⟨y, ey, hy⟩ := m_number hN2 r5 rs5 2 6 (Q := fun y => y = (0, Bl n5 4 (a2 : Int))) (fun _ h1 h2 => absurd ⟨h1, h2⟩ x2) (fun _ _ => rfl) (fun u => absurd x1 u)
    rw [ey, hy]⟩) (fun x1 m2 t => Or.inr ⟨rfl, 1, tkQ T len a2, by decide, t, by
    obtain ⟨y, ey, hy⟩ := m_number hN2 r5 rs5 2 6 (Q := fun y => y = (0, Bl n5 1 (tkQ T len a2))) (fun u => absurd u x1) (fun u => absurd u x1) (fun _ => rfl)
    rw [ey, hy]⟩)
  rw [ev3, Option.bind_some]
  rcases hv3 with ⟨u3, hb, e3, rp3, f3', g53⟩ | ⟨e3, f, pl, hf, t3, en⟩
  rotate_left
  · rw [if_neg (fun u => u e3)]
    refine dn ?_
    rw [if_pos rfl, en, Option.bind_some]
    have jf := jf_tf (f := f) r2' r5 cf2 rf5 hf t3 ⟨n5, ahf_refl n5, rfl⟩
    rw [wst1 (by decide +kernel) hB, Option.bind_some]
    have jf2 := jf_w jf (a := 267) (Or.inr rfl) 0
    exact stop _ _ _ (rG3F (by omega) (fl_fs jf2.1)) jf2
  rw [if_pos (by rw [e3]; decide)]
  have r3' := ref_refs (fun j h => by omega) f3' r2'
  have cf3 : CFr D m0 v3.2 := cf_up cf2 (fun b j h1 _ => by
    by_cases q : b = 5
    · rw [q]; exact f3'.2 j (fun u => h1 ⟨q, u.1⟩)
    · rw [f3'.1 b q])
  obtain ⟨n6, en6, rs6, r6, o6⟩ : ∃ n6, X11_number N 264 2 6 n5 = some (rvl T len a2, n6) ∧ RS n6 T len (nx T len a2) ∧ Refs n6 ∧ AhF n5 n6 := by
    obtain ⟨y, ey, hy⟩ := m_number hN2 r5 rs5 2 6 (Q := fun y => y.1 = rvl T len a2 ∧ AhF n5 y.2 ∧ RS y.2 T len (nx T len a2) ∧ Refs y.2) (fun _ _ _ x f rs r => ⟨rfl, f, rs, r⟩) (fun _ h => absurd hb h) (fun u => absurd u3 u)
    obtain ⟨y1, y2⟩ := y
    obtain ⟨h1, h2, h3, h4⟩ := hy
    have h1' : y1 = rvl T len a2 := h1
    subst h1'
    exact ⟨y2, ey, h3, h4, h2⟩
  have gt53 : getI 6 5 5 v3.2 = some (rvl T len a2) := by rw [gtI (by decide +kernel), g53]
  rw [gt53, Option.bind_some, en6, Option.bind_some]
  obtain ⟨H, hH⟩ : ∃ H, H = rvl T len a2 := ⟨_, rfl⟩
  rw [← hH] at hb ⊢
  rw [wst1 (by decide +kernel) hB, Option.bind_some]
  obtain ⟨n7, hn7⟩ : ∃ n7, n7 = up n6 267 B H := ⟨_, rfl⟩
  have r7 : Refs n7 := by rw [hn7]; exact refs_arr r6 (by decide +kernel) _ _
  have o7 : ∀ b, ¬b = 267 → n7 b = n6 b := fun b hb => by rw [hn7, up_ne hb]
  rw [← hn7]
  -- the class spreads
  have o35 : ∀ b, ¬b = 5 → v3.2 b = m b := fun b hb' => by rw [f3'.1 b hb', f2'.1 b hb', f1.1 b hb']
  have cl3 : Clr v3.2 D := by
    unfold Clr at cl ⊢
    rw [o35 D (by omega), o35 (D + 10) (by omega), o35 (D + 11) (by omega), o35 (D + 13) (by omega), o35 (D + 14) (by omega), o35 (D + 15) (by omega), o35 (D + 22) (by omega), o35 (D + 12) (by omega), o35 (D + 23) (by omega), o35 (D + 25) (by omega), o35 (D + 26) (by omega)]
    exact cl
  obtain ⟨m4, e4, r4', d0, d1, dk, do4, rows⟩ := x_spreadP hN2 r3' (kst_off ks (o35 1 (by decide)) (o35 2 (by decide)) (o35 7 (by decide))) hD (I := I1 W H v3.2 D) vb hb
  have e4' : X5_spread N D W H v3.2 = some m4 := e4
  rw [e4', Option.bind_some]
  obtain ⟨ps4, ld4⟩ := pd_1 cl3 hD vb hb d0 d1 dk do4 rows
  have rw7 : RW n7 B (I1 W H v3.2 D) l1z := rw_1 ini hB (by rw [o7 266 (by decide), o6.1 266 (by decide), hn5, up_same]) (by rw [hn7, up_same]) (fun a h1 h2 => by rw [o7 a (by omega), o6.1 a (by omega), o5 a (by omega), o4.1 a (by omega), o3.1 a (by omega), f2.1 a (by omega)]) (by rw [o7 264 (by decide), o6.2 40 (by decide), o5 264 (by decide), o4.2 40 (by decide), o3.2 40 (by decide), f2.2 40 (by decide)]) (by rw [o7 264 (by decide), o6.2 39 (by decide), o5 264 (by decide), o4.2 39 (by decide), o3.2 39 (by decide), f2.2 39 (by decide)])
  have rf6 : RF B n1 n6 := rf_up rf5 (fun b j h1 _ _ => by
    by_cases q : b = 264
    · rw [q]; exact o6.2 j (fun u => h1 ⟨q, by omega⟩)
    · rw [o6.1 b q])
  have rf7 : RF B n1 n7 := by rw [hn7]; exact rf_st rf6 (ibk1 (Or.inr (Or.inl rfl)) B) _
  have cf4 : CFr D m0 m4 := cf_up cf3 (fun b j _ h2 => by rw [do4 b (by omega) (by omega)])
  have j1 : JI T len K D B m0 n1 m4 n7 (nx T len a2) 0 (I1 W H v3.2 D) l1z := ⟨⟨r4', r7, rp_off rp3 (fun b hb' => do4 b (by omega) (by omega)), rs_off rs6 (fun j _ => by rw [o7 264 (by decide)]) (o7 265 (by decide))⟩, ⟨ps4, ld4, rw7, gw_1 vb hb _ _, cf4, rf7⟩, by rw [do4 5 (by omega) (by omega), f3'.2 11 (by omega), f2'.2 11 (by omega), f1.2 11 (by omega)]; exact e11, by show 0 + 0 ≤ _; omega⟩
  refine (show Wp (((some ((1 : Int), m4))).bind _) _ from ?_)
  rw [Option.bind_some, if_neg (show ¬((1 : Int), m4).1 = 0 from by show ¬(1 : Int) = 0; decide)]
  unfold isG3
  obtain ⟨x, ex, n8, en8, clr⟩ := b_fin hN2 j1 (by decide) (by decide)
  have ex' : X6_close 5 m4 = some x := ex
  have en8' : X11_finishes N 264 1 n7 = some n8 := en8
  show Wp ((X6_close 5 m4).bind _) _
  rw [ex', Option.bind_some, en8', Option.bind_some]
  rcases clr with ⟨x1, j3, lx, e80⟩ | ⟨x1, e80, _⟩ | ⟨x0, jf⟩
  · rw [if_neg (by rw [x1]; decide)]
    unfold X6_read_J54
    have rl := rd_loop (D := D) (B := B) (m0 := m0) (n0 := n1) hN (k := isGE N) (len - nx T len (nx T len a2)) N N x.2 n8 (nx T len (nx T len a2)) 1 _ _ (Nat.le_refl _) (by omega) (by omega) j3 (by decide) (by decide) (fun u => absurd u (by decide))
    exact rl
  · exact absurd e80 (by decide)
  · rw [if_pos x0]
    exact stop x.2 n8 _ (by
      obtain ⟨M, rfl⟩ : ∃ f, N = f + 1 := ⟨N - 1, by omega⟩
      exact l_FS (fl_fs jf.1) _ _) jf
