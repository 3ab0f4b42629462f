/-! a part is read by both: all cases -/
variable {T : Nat → Int} {len K D B S So p p2 ko f0 : Nat} {co : Int → Int} {s : Int} {m0 n0 : Mem} {I : Isl} {l : Lnd}
theorem suc_tr {N F F2 : Nat} {n n2 : Mem} {a a2 e o q : Nat} {d : Int} {r : Int × Mem} (el : Lr N F n = Lr N F2 n2) (la : a ≤ a2) (kp : KpF n n2 o q) (h : Suc T len K D B S So p p2 co ko f0 s m0 n0 I l N F2 n2 a2 e o q d r) : Suc T len K D B S So p p2 co ko f0 s m0 n0 I l N F n a e o q d r := by
  obtain ⟨r1, n3, F3, a3, k3, e3, l3, f3, ms, st, y, dd, kp3⟩ := h
  exact ⟨r1, n3, F3, a3, k3, by rw [el]; exact e3, by omega, f3, ms, st, y, dd, kp_trans kp kp3 (Nat.le_refl _) (Nat.le_refl _)⟩
/-- between brackets -/
theorem b_in {N F : Nat} (hN : 2000 ≤ N) {self : Nat → Nat → Int → Mem → Option (Int × Mem)} {m n : Mem} {a k e o q : Nat} {l3 : Int} (ho : o < 7) (hq : q ≤ 2 * o + 2) (IH : SumOk T len K D B S So p p2 co ko f0 s m0 n0 I l N self (o + 1)) (h : MS T len K D B S So p p2 co ko f0 s m0 n0 I l m n a k k (e + 1)) (hF : len + 2 ≤ F + a) (st : SSt n (o + 1) q) (e91 : n 291 (o + 1) = 2) (e93 : n 293 (o + 1) = (q : Int)) (e48 : n 264 48 = 0) (hd : dpt (cM m S f0) k ≤ 3 * o + 2) : Wp ((self 5 S (wI ((o : Int) + 1)) m).bind fun p24 => if p24.1 = 0 then X6_part_J238 N self 5 S (o : Int) l3 0 p24.2 else X6_part_J239 N self 5 S (o : Int) l3 0 1 p24.2) (fun r => Fau D B m0 n0 N F n r ∨ Suc T len K D B S So p p2 co ko f0 s m0 n0 I l N F n a (e + 1) o q (dpt (cM m S f0) k + 1) r) := by
  rw [wI_of2 (x := (o : Int) + 1) (by omega) (by omega), show (o : Int) + 1 = ((o + 1 : Nat) : Int) from by omega]
  refine wp_bw (IH F m n a k e q h st (by omega) e48 e93 (by omega) hF) (fun v hv => ?_)
  rcases hv with fa | ⟨v1, n2, F2, a2, k2, R2, q2, el, la, hF2, ms, st2, pn, hR, hq2, y2, dd, kp, ns, _⟩
  · rw [fa.1, if_pos rfl]
    unfold X6_part_J238 X6_part_J239
    rw [if_pos rfl]
    unfold X6_part_J298
    rw [if_pos rfl]
    refine wp_b (v := 0) rfl ?_
    exact wp_some (Or.inl ⟨rfl, fa.2⟩)
  · rw [v1, if_neg (by decide)]
    unfold X6_part_J239
    rw [if_pos rfl]
    obtain ⟨x1, x2, x3⟩ := kp.1 (o + 1) (Nat.le_refl _)
    refine wp_c (b_tail hN (self := self) ho (by omega) ms hF2 st2 (by rw [x3]; exact e93) y2 ns pn (Or.inl ⟨by rw [x1]; exact e91, hR⟩)) (fun r hr => ?_)
    rcases hr with fa | su
    · exact Or.inl (fau_tr el fa)
    · rw [dd] at su
      exact Or.inr (suc_tr el (by omega) ⟨fun j hj => kp.1 j (by omega), kp.2⟩ su)
/-- the second sum of a pair, its comma ahead -/
theorem b_in2 {N F : Nat} (hN : 2000 ≤ N) {self : Nat → Nat → Int → Mem → Option (Int × Mem)} {m n : Mem} {a k e o q : Nat} {l3 wh : Int} (ho : o < 7) (hq : q ≤ 2 * o + 2) (IH : SumOk T len K D B S So p p2 co ko f0 s m0 n0 I l N self (o + 1)) (h : MS T len K D B S So p p2 co ko f0 s m0 n0 I l m n a k k (e + 3)) (hF : len + 2 ≤ F + a) (st : SSt n (o + 1) q) (e91 : n 291 (o + 1) = 3) (e93 : n 293 (o + 1) = (q : Int)) (e92 : n 292 (o + 1) = wh) (e48 : n 264 48 = 0) (hd : dpt (cM m S f0) k ≤ 3 * o + 2) (hl : (l3 = 25 ∧ wh = 15) ∨ (l3 = 26 ∧ wh = 16)) : Wp ((self 5 S (wI ((o : Int) + 1)) m).bind fun p24 => if p24.1 = 0 then X6_part_J238 N self 5 S (o : Int) l3 1 p24.2 else X6_part_J239 N self 5 S (o : Int) l3 1 1 p24.2) (fun r => Fau D B m0 n0 N F n r ∨ Suc T len K D B S So p p2 co ko f0 s m0 n0 I l N F n a (e + 1) o q (dpt (cM m S f0) k + 1) r) := by
  rw [wI_of2 (x := (o : Int) + 1) (by omega) (by omega), show (o : Int) + 1 = ((o + 1 : Nat) : Int) from by omega]
  have J295 : ∀ (mm : Mem) {Q : Int × Mem → Prop}, Q (0, mm) → Wp (X6_part_J295 N self 5 mm) Q := fun mm Q hQ => by
    unfold X6_part_J295 X6_part_J296 X6_part_J298
    rw [if_pos rfl]
    exact wp_b (v := 0) rfl (wp_some hQ)
  have al0 := (ms_B h).2.2.2.2.2.1
  obtain ⟨sS, s1, s2, s3, s4, s5, s6⟩ := sc_S h.1.2.2.1
  have hD : D = 11 ∨ D = 40 := h.1.2.2.1.1
  refine wp_bw (IH F m n a k (e + 2) q h st (by omega) e48 e93 (by omega) hF) (fun v hv => ?_)
  rcases hv with fa | ⟨v1, n2, F2, a2, k2, R2, q2, el, la, hF2, ms, st2, pn, hR, hq2, y2, dd, kp, ns, _⟩
  · rw [fa.1, if_pos rfl]
    unfold X6_part_J238 X6_part_J239
    rw [if_neg (by decide), if_pos rfl]
    exact J295 _ (Or.inl ⟨rfl, fa.2⟩)
  · rw [v1, if_neg (by decide)]
    unfold X6_part_J239
    rw [if_neg (by decide), if_neg (by decide)]
    obtain ⟨x1, x2, x3⟩ := kp.1 (o + 1) (Nat.le_refl _)
    have al := (ms_B ms).2.2.2.2.2.1
    have rs := ms.2.1.2
    refine wp_bw (p_sign ms.1.1 ms.2.1.1 44 (Q := fun r => (isS T len a2 44 ∧ r.1 = 1 ∧ RP r.2 T len K (nx T len a2) ∧ ReF J14 v.2 r.2) ∨ (¬isS T len a2 44 ∧ r.1 = 0 ∧ Told v.2 r.2 1 (tkQ T len a2))) (fun u m2 d f => Or.inl ⟨(sgn_same al 44).mp u, rfl, d, f⟩) (fun u m2 t => Or.inr ⟨fun w => u ((sgn_same al 44).mpr w), rfl, t⟩)) (fun w hw => ?_)
    rcases hw with ⟨sg, w1, rp2, f2⟩ | ⟨nsg, w0, t⟩
    rotate_left
    · rw [w0, if_pos rfl]
      refine J295 _ (Or.inl ?_)
      have eb := g_bad (N := N) ms.1.2.1 rs st2 (by omega) ns (by rw [x1, e91]; decide) (fun _ => nsg) (fun u => absurd (by rw [x1]; exact e91) u)
      exact fau_tr el (fau_go ms hF2 y2 eb (by decide) t ⟨n2, ahf_refl n2, rfl⟩)
    rw [w1, if_neg (by decide)]
    obtain ⟨n3, e3, g3, h3, st3, z91, z93, z92, y3, z0, zo⟩ := b_comma hN (show o + 1 < 19 from by omega) (by omega) ms sg st2 (by rw [x3]; exact e93) (by rw [x1]; exact e91) pn hR f2 rp2
    obtain ⟨F2, rfl⟩ := ms_F ms hF2
    have el3 : Lr N F n = Lr N (F2 + 1) n3 := by rw [el]; exact l_go y2 e3 g3
    have lt2 : a2 < len := rs_end rs (by have := sg.2.1; omega)
    have nx2 := nx_in (T := T) lt2
    have cm : cM w.2 S f0 = cM v.2 S f0 := by unfold cM; rw [f2.1 (S + 1) (by omega)]
    have d3 : dpt (cM w.2 S f0) k2 = dpt (cM m S f0) k + 1 := by rw [cm]; exact dd
    rw [wI_of2 (x := (o : Int) + 1) (by omega) (by omega), show (o : Int) + 1 = ((o + 1 : Nat) : Int) from by omega]
    refine wp_bw (IH (F2 + 1) w.2 n3 (nx T len a2) k2 (e + 2) q h3 st3 (by omega) y3 z93 (by omega) (by omega)) (fun v4 hv4 => ?_)
    have kp3 : KpF n n3 o q := ⟨fun j hj => by
      obtain ⟨y1, y2, y3⟩ := z0 j (by omega)
      obtain ⟨w1, w2, w3⟩ := kp.1 j (by omega)
      exact ⟨by rw [y1, w1], by rw [y2, w2], by rw [y3, w3]⟩, fun j hj => by rw [zo j hj, kp.2 j hj]⟩
    rcases hv4 with fa | ⟨v41, n4, F4, a4, k4, R4, q4, el4, la4, hF4, ms4, st4, pn4, hR4, hq4, y4, dd4, kp4, ns4, _⟩
    · rw [fa.1, if_pos rfl]
      exact J295 _ (Or.inl (fau_tr el3 ⟨rfl, fa.2⟩))
    rw [v41, if_neg (by decide)]
    obtain ⟨u1, u2, u3⟩ := kp4.1 (o + 1) (Nat.le_refl _)
    have bd4 := (ms_B ms4).2.2.2.1
    have al4 := (ms_B ms4).2.2.2.2.2
    -- the class adds the sign of the pair
    have pair : ∀ x : Int, isOp x → x < -10 → cdS x = wh → Wp (X6_part_J285 N self 5 S x v4.2) (fun r => Fau D B m0 n0 N F n r ∨ Suc T len K D B S So p p2 co ko f0 s m0 n0 I l N F n a (e + 1) o q (dpt (cM m S f0) k + 1) r) := fun x ox xl cx => by
      unfold X6_part_J285
      obtain ⟨m5, e5, a1, a2', a3, a4', r5⟩ := x_addC ms4.1.1 sS s5 ms4.2.2.1 (show f0 + k4 < 1600 from by omega) x
      refine wp_b e5 ?_
      show Wp (X6_part_J296 N self 5 1 m5) _
      unfold X6_part_J296
      obtain ⟨h5, d5⟩ := ms_addX (e := e + 2) (v := x) ms4 a1 a2' a3 a4' r5 (Or.inr ⟨ox, by
        have w3 := ms.2.2.2.2.2.2.1 k2 (Nat.le_refl _)
        have w3' := h.2.2.2.2.2.2.1 k (Nat.le_refl _)
        rw [dd4, d3]; omega⟩)
      have h6 := ms_e (e2 := e + 1) h5 (by omega)
      have pn6 : PenG m5 n4 S f0 q q4 R4 := ⟨pn4.1, fun i hi => by rw [a3 (R4 + i) (by omega)]; exact pn4.2 i hi⟩
      refine wp_c (b_tail hN (self := self) ho (by omega) h6 hF4 st4 (by rw [u3]; exact z93) y4 ns4 pn6 (Or.inr ⟨by rw [u1]; exact z91, by omega, ?_, ?_⟩)) (fun r hr => ?_)
      · rw [u2, z92, x2, show k4 + 1 - 1 = k4 from by omega, a2', cx]; exact e92
      · rw [show k4 + 1 - 1 = k4 from by omega, a2']; omega
      · rcases hr with fa | su
        · exact Or.inl (fau_tr el3 (fau_tr el4 fa))
        · rw [d5, if_pos xl, dd4, d3] at su
          rw [show dpt (cM m S f0) k + 1 + 1 - 1 = dpt (cM m S f0) k + 1 from by omega] at su
          exact Or.inr (suc_tr (by rw [el3]; exact el4) (by omega) (kp_trans kp3 ⟨fun j hj => kp4.1 j (by omega), kp4.2⟩ (Nat.le_refl _) (Nat.le_refl _)) su)
    rcases hl with ⟨l25, w15⟩ | ⟨l26, w16⟩
    · rw [if_neg (fun u => u l25)]
      exact pair (-100) (by unfold isOp; decide) (by decide) (by rw [w15]; decide)
    · rw [if_pos (by omega)]
      exact pair (-101) (by unfold isOp; decide) (by decide) (by rw [w16]; decide)
theorem lt_kd {a : Nat} (al : a ≤ len) (h : ¬(kdP T len a).1 = 0) : a < len := by
  rcases Nat.lt_or_ge a len with y | y
  · exact y
  · exfalso
    refine h ?_
    show (kdC T len false a).1 = 0
    unfold kdC
    rw [if_pos y]
theorem fact_c : ∀ i, i < 27 → (i = 7 ∨ 16 ≤ i ∧ i ≤ 24) → srt ((pk8 (owT.getD i []) : Nat) : Int) = cdS (if i = 7 then -10 else 15 - (i : Int)) ∧ ¬cdS (if i = 7 then -10 else 15 - (i : Int)) = -1 ∧ ¬((pk8 (owT.getD i []) : Nat) : Int) = 7170414 ∧ ¬((pk8 (owT.getD i []) : Nat) : Int) = 7168376 := by decide +kernel
/-- where an open bracket must stand -/
theorem b_J172 {N F : Nat} (hN : 2000 ≤ N) {self : Nat → Nat → Int → Mem → Option (Int × Mem)} {m n : Mem} {a k e o q : Nat} {l3 : Int} (ho : o ≤ 7) (hq : q ≤ 2 * o + 2) (IH : o < 7 → SumOk T len K D B S So p p2 co ko f0 s m0 n0 I l N self (o + 1)) (h : MS T len K D B S So p p2 co ko f0 s m0 n0 I l m n a k k (e + 1)) (hF : len + 2 ≤ F + a) (st : SSt n o q) (e48 : n 264 48 = 0) (hd : dpt (cM m S f0) k ≤ 3 * o + 2) (sg : isS T len a 40) : Wp (X6_part_J172 N self 5 S (o : Int) l3 0 m) (fun r => Fau D B m0 n0 N F n r ∨ Suc T len K D B S So p p2 co ko f0 s m0 n0 I l N F n a (e + 1) o q (dpt (cM m S f0) k + 1) r) := by
  have al := (ms_B h).2.2.2.2.2.1
  have rs := h.2.1.2
  have kd := (sgn_same (T := T) al 40).mpr sg
  have lt : a < len := rs_end rs (by have := sg.2.1; omega)
  obtain ⟨k2, k4, k3⟩ := p_kind h.2.1.1
  obtain ⟨pf, pg⟩ := b_par hN h sg st e48
  have nx1 := nx_in (T := T) lt
  unfold X6_part_J172
  refine wp_b (gtI (by decide +kernel) _) ?_
  rw [k2, kd, if_neg (show ¬¬(5 : Int) = 5 from fun u => u rfl)]
  refine wp_b (gtI (by decide +kernel) _) ?_
  rw [k4, kd, if_pos rfl]
  by_cases h7 : o < 7
  · rw [if_pos (by omega)]
    refine wp_b (gtI (by decide +kernel) _) ?_
    obtain ⟨m2, e2, rp2, f2⟩ := p_next h.1.1 h.2.1.1 (by rw [kd]; show ¬(5 : Int) = 0; decide) (by rw [kd]; show ¬(5 : Int) = 6; decide) (by rw [kd]; exact fun u => absurd (congrArg Prod.fst u) (by show ¬(5 : Int) = 2; decide))
    refine wp_b e2 ?_
    rw [if_neg (show ¬((1 : Int), m2).1 = 0 from by show ¬(1 : Int) = 0; decide)]
    obtain ⟨n2, eo, g8, h2, st2, z91, z93, kp2, y2⟩ := pg h7 m2 f2 rp2
    obtain ⟨F, rfl⟩ := ms_F h hF
    have el : Lr N (F + 2) n = Lr N (F + 1) n2 := by
      have := l_op (N := N) (F := F + 1) e48 eo (Or.inl rfl) g8
      rw [up_id y2] at this
      exact this
    have hD : D = 11 ∨ D = 40 := h.1.2.2.1.1
    obtain ⟨sS, s1, s2, s3, s4, s5, s6⟩ := sc_S h.1.2.2.1
    have cm : cM m2 S f0 = cM m S f0 := by unfold cM; rw [f2.1 (S + 1) (by omega)]
    refine wp_c (b_in hN (F := F + 1) (m := m2) (n := n2) (a := nx T len a) (l3 := l3) h7 hq (IH h7) h2 (by omega) st2 z91 z93 y2 (by rw [cm]; exact hd)) (fun r hr => ?_)
    rcases hr with fa | su
    · exact Or.inl (fau_tr el fa)
    · rw [cm] at su
      exact Or.inr (suc_tr el (by omega) kp2 su)
  · have o7 : o = 7 := by omega
    rw [if_neg (by omega)]
    refine wp_b (gtI (by decide +kernel) _) ?_
    rw [k3]
    obtain ⟨m2, e2, t⟩ := x_refuseR m 5 (a : Int)
    refine wp_b e2 ?_
    refine wp_b (v := 0) rfl ?_
    exact wp_some (Or.inl (fau_op h hF e48 (pf o7) (Or.inl rfl) (by decide) t ⟨n, ahf_refl n, rfl⟩))
/-- behind min, max -/
theorem b_J172m {N F : Nat} (hN : 2000 ≤ N) {self : Nat → Nat → Int → Mem → Option (Int × Mem)} {m n m2 : Mem} {a k e o q : Nat} {l3 wh : Int} (ho : o ≤ 7) (hq : q ≤ 2 * o + 2) (IH : o < 7 → SumOk T len K D B S So p p2 co ko f0 s m0 n0 I l N self (o + 1)) (h : MS T len K D B S So p p2 co ko f0 s m0 n0 I l m n a k k (e + 1)) (hF : len + 2 ≤ F + a) (st : SSt n o q) (e48 : n 264 48 = 0) (hd : dpt (cM m S f0) k ≤ 3 * o + 2) (hw : (kdP T len a = (2, 25) ∧ l3 = 25 ∧ wh = 15) ∨ (kdP T len a = (2, 26) ∧ l3 = 26 ∧ wh = 16)) (f : ReF J14 m m2) (rp : RP m2 T len K (nx T len a)) : Wp (X6_part_J172 N self 5 S (o : Int) l3 1 m2) (fun r => Fau D B m0 n0 N F n r ∨ Suc T len K D B S So p p2 co ko f0 s m0 n0 I l N F n a (e + 1) o q (dpt (cM m S f0) k + 1) r) := by
  have al := (ms_B h).2.2.2.2.2.1
  have bd := (ms_B h).2.2.2.1
  have lt : a < len := lt_kd al (by rcases hw with ⟨u, _⟩ | ⟨u, _⟩ <;> rw [u] <;> (show ¬(2 : Int) = 0; decide))
  have nx1 := nx_in (T := T) lt
  have hD : D = 11 ∨ D = 40 := h.1.2.2.1.1
  obtain ⟨sS, s1, s2, s3, s4, s5, s6⟩ := sc_S h.1.2.2.1
  obtain ⟨n1, f1, h1, c1, c2, c3⟩ := b_mm hN (wh := wh) h (by rcases hw with ⟨u, _, v⟩ | ⟨u, _, v⟩; exact Or.inl ⟨u, v⟩; exact Or.inr ⟨u, v⟩) st e48 f rp
  have al1 := nx1.2
  obtain ⟨k2, k4, k3⟩ := p_kind rp
  have rr := h1.1.1
  have bad : ¬kdP T len (nx T len a) = (5, 40) → Wp (X6_part_J189 N self 5 m2) (fun r => Fau D B m0 n0 N F n r ∨ Suc T len K D B S So p p2 co ko f0 s m0 n0 I l N F n a (e + 1) o q (dpt (cM m S f0) k + 1) r) := fun u => by
    unfold X6_part_J189
    obtain ⟨m3, e3, t⟩ := p_unexp rp
    refine wp_b e3 ?_
    refine wp_b (v := 0) rfl ?_
    exact wp_some (Or.inl (fau_op h hF e48 (c1 (fun v => u ((sgn_same al1 40).mpr v))) (Or.inl rfl) (by decide) (told_tr f (fun j h => by omega) t) ⟨n1, f1, rfl⟩))
  unfold X6_part_J172
  refine wp_b (gtI (by decide +kernel) _) ?_
  rw [k2]
  by_cases q5 : (kdP T len (nx T len a)).1 = 5
  rotate_left
  · rw [if_pos q5]
    exact bad (fun u => q5 (by rw [u]))
  rw [if_neg (fun u => u q5)]
  refine wp_b (gtI (by decide +kernel) _) ?_
  rw [k4]
  by_cases q40 : (kdP T len (nx T len a)).2 = 40
  rotate_left
  · rw [if_neg q40]
    exact bad (fun u => q40 (by rw [u]))
  rw [if_pos q40]
  have kd : kdP T len (nx T len a) = (5, 40) := Prod.ext q5 q40
  have sg := (sgn_same al1 40).mp kd
  by_cases h7 : o < 7
  · rw [if_pos (by omega)]
    refine wp_b (gtI (by decide +kernel) _) ?_
    obtain ⟨m3, e3, rp3, f3⟩ := p_next rr rp (by rw [kd]; show ¬(5 : Int) = 0; decide) (by rw [kd]; show ¬(5 : Int) = 6; decide) (by rw [kd]; exact fun u => absurd (congrArg Prod.fst u) (by show ¬(5 : Int) = 2; decide))
    refine wp_b e3 ?_
    rw [if_neg (show ¬((1 : Int), m3).1 = 0 from by show ¬(1 : Int) = 0; decide)]
    obtain ⟨n4, eo, g8, h4, st4, z91, z93, z92, kp4, y4⟩ := c3 sg h7 m3 f3 rp3
    obtain ⟨F, rfl⟩ := ms_F h hF
    have el : Lr N (F + 2) n = Lr N (F + 1) n4 := by
      have := l_op (N := N) (F := F + 1) e48 eo (Or.inl rfl) g8
      rw [up_id y4] at this
      exact this
    have lt1 : nx T len a < len := lt_kd al1 (by rw [kd]; show ¬(5 : Int) = 0; decide)
    have nx2 := nx_in (T := T) lt1
    have cm : cM m3 S f0 = cM m S f0 := by unfold cM; rw [f3.1 (S + 1) (by omega), f.1 (S + 1) (by omega)]
    refine wp_c (b_in2 hN (F := F + 1) (e := e) (m := m3) (n := n4) (a := nx T len (nx T len a)) (l3 := l3) (wh := wh) h7 hq (IH h7) (ms_e h4 (by omega)) (by omega) st4 z91 z93 z92 y4 (by rw [cm]; exact hd) (by rcases hw with ⟨_, u, v⟩ | ⟨_, u, v⟩; exact Or.inl ⟨u, v⟩; exact Or.inr ⟨u, v⟩)) (fun r hr => ?_)
    rcases hr with fa | su
    · exact Or.inl (fau_tr el fa)
    · rw [cm] at su
      exact Or.inr (suc_tr el (by omega) kp4 su)
  · have o7 : o = 7 := by omega
    rw [if_neg (by omega)]
    refine wp_b (gtI (by decide +kernel) _) ?_
    rw [k3]
    obtain ⟨m3, e3, t⟩ := x_refuseR m2 5 ((nx T len a : Nat) : Int)
    refine wp_b e3 ?_
    refine wp_b (v := 0) rfl ?_
    exact wp_some (Or.inl (fau_op h hF e48 (c2 sg o7) (Or.inl rfl) (by decide) (told_tr f (fun j h => by omega) t) ⟨n1, f1, rfl⟩))
theorem b_part {N F : Nat} (hN : 2000 ≤ N) {self : Nat → Nat → Int → Mem → Option (Int × Mem)} {m n : Mem} {a k e o q : Nat} (ho : o ≤ 7) (hq : q ≤ 2 * o + 2) (IH : o < 7 → SumOk T len K D B S So p p2 co ko f0 s m0 n0 I l N self (o + 1)) (h : MS T len K D B S So p p2 co ko f0 s m0 n0 I l m n a k k (e + 1)) (hF : len + 2 ≤ F + a) (st : SSt n o q) (e48 : n 264 48 = 0) (hd : dpt (cM m S f0) k ≤ 3 * o + 2) : Wp (X6_part N self 5 S (o : Int) m) (fun r => Fau D B m0 n0 N F n r ∨ Suc T len K D B S So p p2 co ko f0 s m0 n0 I l N F n a (e + 1) o q (dpt (cM m S f0) k + 1) r) := by
  have al := (ms_B h).2.2.2.2.2.1
  have rs := h.2.1.2
  obtain ⟨k2, k4, k3⟩ := p_kind h.2.1.1
  have hD : D = 11 ∨ D = 40 := h.1.2.2.1.1
  obtain ⟨sS, s1, s2, s3, s4, s5, s6⟩ := sc_S h.1.2.2.1
  -- an atom, for both
  have atom : ∀ v : Int, a < len → ¬(kdP T len a).1 = 0 → ¬(kdP T len a).1 = 6 → ¬kdP T len a = (2, 10) → rlx T len a = -1 → ((rsg T len a = 2 ∧ v = rvl T len a ∧ 0 ≤ v ∧ v ≤ 9999) ∨ (rsg T len a = 1 ∧ ¬rwd T len a = 7170414 ∧ ¬rwd T len a = 7168376 ∧ srt (rwd T len a) = cdS v ∧ ¬cdS v = -1 ∧ -10 ≤ v ∧ v < 0)) → Wp ((X7_add S v m).bind fun p60 => if p60.1 = 0 then ((retZ 0).bind fun r61 => some (r61, p60.2)) else ((getI 6 1 5 p60.2).bind fun t62 => (X6_goTo 5 (wI (t62 + 1)) p60.2).bind fun p63 => if p63.1 = 0 then ((retZ 0).bind fun r64 => some (r64, p63.2)) else ((retZ 1).bind fun r65 => some (r65, p63.2)))) (fun r => Fau D B m0 n0 N F n r ∨ Suc T len K D B S So p p2 co ko f0 s m0 n0 I l N F n a (e + 1) o q (dpt (cM m S f0) k + 1) r) := fun v lt c0 c6 c10 rl hv => by
    obtain ⟨m2, m3, e2, e3, su⟩ := b_atom hN h lt st e48 hF (by omega) c0 c6 c10 rl hv
    refine wp_b e2 ?_
    rw [if_neg (show ¬((1 : Int), m2).1 = 0 from by show ¬(1 : Int) = 0; decide)]
    refine wp_b (gtI (by decide +kernel) _) ?_
    refine wp_b e3 ?_
    rw [if_neg (show ¬((1 : Int), m3).1 = 0 from by show ¬(1 : Int) = 0; decide)]
    refine wp_b (v := 1) rfl ?_
    exact wp_some (Or.inr su)
  -- what can't be a part
  have bad : ¬(kdP T len a).1 = 1 → ¬kdP T len a = (5, 40) → (∀ i : Nat, (i = 7 ∨ 16 ≤ i ∧ i ≤ 26) → ¬kdP T len a = (2, (i : Int))) → Wp (X6_part_J189 N self 5 m) (fun r => Fau D B m0 n0 N F n r ∨ Suc T len K D B S So p p2 co ko f0 s m0 n0 I l N F n a (e + 1) o q (dpt (cM m S f0) k + 1) r) := fun c1 c5 c2 => by
    unfold X6_part_J189
    obtain ⟨m3, e3, t⟩ := p_unexp h.2.1.1
    refine wp_b e3 ?_
    refine wp_b (v := 0) rfl ?_
    exact wp_some (Or.inl (fau_op h hF e48 (m_opBad rs al c1 c5 c2) (Or.inr rfl) (by decide) t ⟨n, ahf_refl n, rfl⟩))
  unfold X6_part
  refine wp_k k5r ?_
  refine wp_b (gtI (by decide +kernel) _) ?_
  rw [k2]
  by_cases c2 : (kdP T len a).1 = 2
  · rw [if_neg (fun u => u c2)]
    refine wp_b (gtI (by decide +kernel) _) ?_
    rw [k4]
    have lt : a < len := lt_kd al (by rw [c2]; decide)
    -- an own word it is
    obtain ⟨i, hi, kd, rl, sg1, wd⟩ : ∃ i : Nat, i < 27 ∧ kdP T len a = (2, (i : Int)) ∧ rlx T len a = -1 ∧ rsg T len a = 1 ∧ rwd T len a = ((pk8 (owT.getD i []) : Nat) : Int) := by
      rcases sign_is T al with hh | hh | hh | hh | hh | hh
      · have := hh.1; omega
      · obtain ⟨_, p, kk, _⟩ := hh; rw [kk] at c2; exact absurd c2 (by show ¬(6 : Int) = 2; decide)
      · exact hh.2
      · obtain ⟨_, L, _, _, _, _, kk, _⟩ := hh; rw [kk] at c2; exact absurd c2 (by show ¬(3 : Int) = 2; decide)
      · obtain ⟨_, v, _, kk, _⟩ := hh; rw [kk] at c2; exact absurd c2 (by show ¬(1 : Int) = 2; decide)
      · obtain ⟨_, kk, _⟩ := hh; rw [kk] at c2; exact absurd c2 (by show ¬(5 : Int) = 2; decide)
    have c4 : (kdP T len a).2 = (i : Int) := by rw [kd]
    have nk0 : ¬(kdP T len a).1 = 0 := by rw [c2]; decide
    have nk6 : ¬(kdP T len a).1 = 6 := by rw [c2]; decide
    rw [c4]
    unfold X6_part_J16
    refine wp_b (gtI (by decide +kernel) _) ?_
    rw [k2, if_pos (show ¬(kdP T len a).1 = 1 from by rw [c2]; decide)]
    have uni : ∀ j : Nat, kdP T len a = (2, (j : Int)) → j = i := fun j u => by
      rw [kd] at u
      have : (i : Int) = (j : Int) := congrArg Prod.snd u
      omega
    by_cases i7 : i = 7
    · rw [if_neg (show ¬¬(i : Int) = 7 from fun u => u (by omega))]
      unfold X7_codeOf
      rw [show wI (-1 - 9) = -10 from by rw [wI_of2 (by decide) (by decide)]; decide]
      refine wp_b rfl ?_
      obtain ⟨x1, x2, x3, x4⟩ := fact_c i hi (Or.inl i7)
      rw [if_pos i7] at x1 x2
      exact atom (-10) lt nk0 nk6 (fun u => by have := uni 10 u; omega) rl (Or.inr ⟨sg1, by rw [wd]; exact x3, by rw [wd]; exact x4, by rw [wd]; exact x1, x2, by decide, by decide⟩)
    rw [if_pos (show ¬(i : Int) = 7 from by omega)]
    have J137 : (∀ j : Nat, (j = 7 ∨ 16 ≤ j ∧ j ≤ 24) → ¬j = i) → Wp (X6_part_J137 N self 5 S (o : Int) (i : Int) m) (fun r => Fau D B m0 n0 N F n r ∨ Suc T len K D B S So p p2 co ko f0 s m0 n0 I l N F n a (e + 1) o q (dpt (cM m S f0) k + 1) r) := fun ni => by
      by_cases i2 : i = 25 ∨ i = 26
      · have mm : Wp (X6_part_J149 N self 5 S (o : Int) (i : Int) m) (fun r => Fau D B m0 n0 N F n r ∨ Suc T len K D B S So p p2 co ko f0 s m0 n0 I l N F n a (e + 1) o q (dpt (cM m S f0) k + 1) r) := by
          unfold X6_part_J149 X6_part_J154
          rw [if_neg (by decide)]
          refine wp_b (gtI (by decide +kernel) _) ?_
          obtain ⟨m2, e2, rp2, f2⟩ := p_next h.1.1 h.2.1.1 nk0 nk6 (fun u => by have := uni 10 u; omega)
          refine wp_b e2 ?_
          exact b_J172m hN (wh := if i = 25 then 15 else 16) ho hq IH h hF st e48 hd (by
            rcases i2 with u | u
            · exact Or.inl ⟨by rw [kd, u]; rfl, by omega, if_pos u⟩
            · exact Or.inr ⟨by rw [kd, u]; rfl, by omega, if_neg (by omega)⟩) f2 rp2
        unfold X6_part_J137
        rcases i2 with u | u
        · rw [if_pos (by omega)]; exact mm
        · rw [if_neg (by omega), if_neg (fun v => v (by omega))]; exact mm
      · unfold X6_part_J137
        rw [if_neg (by omega), if_pos (by omega)]
        unfold X6_part_J154
        rw [if_pos rfl]
        unfold X6_part_J172
        refine wp_b (gtI (by decide +kernel) _) ?_
        rw [k2, if_pos (by rw [c2]; decide)]
        exact bad (by rw [c2]; decide) (fun u => by rw [kd] at u; exact absurd (congrArg Prod.fst u) (by show ¬(2 : Int) = 5; decide)) (fun j hj u => by
          have := uni j u
          by_cases z : j = 7 ∨ 16 ≤ j ∧ j ≤ 24
          · exact ni j z this
          · omega)
    by_cases i16 : i < 16
    · rw [if_pos (by omega)]
      exact J137 (fun j hj u => by omega)
    rw [if_neg (by omega)]
    by_cases i24 : 24 < i
    · rw [if_pos (by omega)]
      exact J137 (fun j hj u => by omega)
    rw [if_neg (by omega)]
    unfold X7_codeOf
    rw [wI_of2 (x := (i : Int) - 16) (by omega) (by omega), wI_of2 (x := -1 - ((i : Int) - 16)) (by omega) (by omega), show -1 - ((i : Int) - 16) = 15 - (i : Int) from by omega]
    refine wp_b rfl ?_
    obtain ⟨x1, x2, x3, x4⟩ := fact_c i hi (Or.inr ⟨by omega, by omega⟩)
    rw [if_neg i7] at x1 x2
    exact atom (15 - (i : Int)) lt nk0 nk6 (fun u => by have := uni 10 u; omega) rl (Or.inr ⟨sg1, by rw [wd]; exact x3, by rw [wd]; exact x4, by rw [wd]; exact x1, x2, by omega, by omega⟩)
  · rw [if_pos c2]
    unfold X6_part_J16
    refine wp_b (gtI (by decide +kernel) _) ?_
    rw [k2]
    by_cases c1 : (kdP T len a).1 = 1
    · rw [if_neg (fun u => u c1)]
      refine wp_b (gtI (by decide +kernel) _) ?_
      rw [k4]
      obtain ⟨ns, nv⟩ := num_same (T := T) al
      have nm := ns.mp c1
      obtain ⟨v1, v2, v3⟩ := nv nm
      exact atom _ (lt_kd al (by rw [c1]; decide)) (by rw [c1]; decide) (by rw [c1]; decide) (fun u => by rw [u] at c1; exact absurd c1 (by show ¬(2 : Int) = 1; decide)) nm.1 (Or.inl ⟨nm.2, v1, by omega, by omega⟩)
    · rw [if_pos c1, if_pos (show ¬(-1 : Int) = 7 from by decide), if_pos (show (-1 : Int) < 16 from by decide)]
      unfold X6_part_J137
      rw [if_neg (by decide), if_pos (by decide)]
      unfold X6_part_J154
      rw [if_pos rfl]
      by_cases c5 : kdP T len a = (5, 40)
      · exact b_J172 hN ho hq IH h hF st e48 hd ((sgn_same al 40).mp c5)
      · have b := bad c1 c5 (fun i hi u => c2 (by rw [u]))
        unfold X6_part_J172
        refine wp_b (gtI (by decide +kernel) _) ?_
        rw [k2]
        by_cases q5 : (kdP T len a).1 = 5
        · rw [if_neg (fun u => u q5)]
          refine wp_b (gtI (by decide +kernel) _) ?_
          rw [k4, if_neg (fun u => c5 (Prod.ext q5 u))]
          exact b
        · rw [if_pos q5]
          exact b
