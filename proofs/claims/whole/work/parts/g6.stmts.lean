/-! a statement is read by both: all kinds -/
variable {T : Nat → Int} {len K D B S So p p2 ko f0 : Nat} {co : Int → Int} {s : Int} {m0 n0 : Mem} {I : Isl} {l : Lnd}
abbrev FlM (I : Isl) (l : Lnd) (own : Int) : Prop := (own = 3 ∧ 12 ≤ sumTo (fun j => l 0 j) 42) ∨ (own = 4 ∧ 6 ≤ sumTo (fun j => I 4 j) 42) ∨ (own = 5 ∧ 5 ≤ I 6 0) ∨ ((own = 6 ∨ own = 8 ∨ own = 9) ∧ 10 ≤ I 9 0) ∨ (own = 11 ∧ 0 < nD I) ∨ (own = 12 ∧ 0 < nR I)
theorem x_many {N : Nat} (hN : 2000 ≤ N) {m : Mem} (r : Refs m) (pd : PD m D I) (ld : LD m (D + 12) l) (sd1 : SD m (D + 23) 0 (I 22) (nD I)) (sd2 : SD m (D + 23) 1 (I 24) (nR I)) (gw : GW I l) (own : Int) : X6_isOneTooMany N D own m = some (bi (FlM I l own)) := by
  have hD := pd.1
  obtain ⟨z, w, cn, kc, ⟨vh, vt, vd, vr, hs⟩, cl, cm, ⟨ap1, ap2, ap3⟩, rest⟩ := gw
  have things : (own = 6 ∨ own = 8 ∨ own = 9) → Wp (X6_isOneTooMany_J103 N D m) (fun v => v = bi (FlM I l own)) := fun ho => by
    unfold X6_isOneTooMany_J103
    refine wp_b (pd_I pd (k := 9) (by decide)) ?_
    by_cases q : 10 ≤ I 9 0
    · rw [if_neg (by omega)]; exact wp_z1 (bi_t (Or.inr (Or.inr (Or.inr (Or.inl ⟨ho, q⟩)))))
    · rw [if_pos (by omega)]; exact wp_z0 (bi_f (fun u => by
        rcases u with u | u | u | u | u | u <;> omega))
  refine wp_eq ?_
  unfold X6_isOneTooMany
  by_cases q3 : own = 3
  · rw [if_pos q3]
    refine wp_b (show getR 5 5 D m = some (D + 12) from pd_R r pd (k := 5) (by decide)) ?_
    have e0 : sumTo (m (D + 13)) 42 = sumTo (fun j => l 0 j) 42 := sumTo_same (fun j hj => ld.2.1 0 (j : Int) (by decide) (by omega) (by show (j : Int) < 42; omega))
    obtain ⟨hk, hn⟩ := ld_S ld.1 (k := 0) (by decide)
    have wl : X1_walls N (D + 12) m = some (sumTo (fun j => l 0 j) 42) := by
      refine wp_eq ?_
      unfold X1_walls
      refine wp_k (ld_K ld) ?_
      refine wp_b (ld_R r ld (k := 0) (by decide)) ?_
      refine wp_b (ld_n0 ld) ?_
      have := walls_loop (N := N) (m := m) (a := D + 13) (n := 42) (by rw [show shK (D + 13) = 1 from hk, show shN (D + 13) = 42 from hn]; decide) (by decide) (fun j hj => by rw [show m (D + 13) j = l 0 j from ld.2.1 0 (j : Int) (by decide) (by omega) (by show (j : Int) < 42; omega)]; exact ap2 (j : Int) (by omega) (by omega)) N 0 (by decide) (by omega)
      rw [e0] at this
      exact wp_of this rfl
    refine wp_b wl ?_
    by_cases q : 12 ≤ sumTo (fun j => l 0 j) 42
    · rw [if_neg (by omega)]; exact wp_z1 (bi_t (Or.inl ⟨q3, q⟩))
    · rw [if_pos (by omega)]; exact wp_z0 (bi_f (fun u => by rcases u with u | u | u | u | u | u <;> omega))
  rw [if_neg q3]
  by_cases q4 : own = 4
  · rw [if_pos q4]
    have e0 : sumTo (m (D + 11)) 42 = sumTo (fun j => I 4 j) 42 := sumTo_same (fun j hj => pd.2.2.1 4 (j : Int) (by omega) (by show (j : Int) < 42; omega))
    obtain ⟨hk, hn⟩ := pd_S pd (k := 4) (by decide) (by decide)
    have wl : X5_houses N D m = some (sumTo (fun j => I 4 j) 42) := by
      refine wp_eq ?_
      unfold X5_houses
      refine wp_k (pd_K pd) ?_
      refine wp_b (show getR 5 4 D m = some (D + 11) from pd_R r pd (k := 4) (by decide)) ?_
      refine wp_b (show alen (D + 11) = some 42 from ar_len hk hn) ?_
      have := houses_loop (N := N) (m := m) (a := D + 11) (n := 42) (by rw [show shK (D + 11) = 1 from hk, show shN (D + 11) = 42 from hn]; decide) (by decide) (fun j hj => by rw [show m (D + 11) j = I 4 j from pd.2.2.1 4 (j : Int) (by omega) (by show (j : Int) < 42; omega)]; exact hs (j : Int)) N 0 (by decide) (by omega)
      rw [e0] at this
      exact wp_of this rfl
    refine wp_b wl ?_
    by_cases q : 6 ≤ sumTo (fun j => I 4 j) 42
    · rw [if_neg (by omega)]; exact wp_z1 (bi_t (Or.inr (Or.inl ⟨q4, q⟩)))
    · rw [if_pos (by omega)]; exact wp_z0 (bi_f (fun u => by rcases u with u | u | u | u | u | u <;> omega))
  rw [if_neg q4]
  by_cases q5 : own = 5
  · rw [if_pos q5]
    refine wp_b (pd_I pd (k := 6) (by decide)) ?_
    by_cases q : 5 ≤ I 6 0
    · rw [if_neg (by omega)]; exact wp_z1 (bi_t (Or.inr (Or.inr (Or.inl ⟨q5, q⟩))))
    · rw [if_pos (by omega)]; exact wp_z0 (bi_f (fun u => by rcases u with u | u | u | u | u | u <;> omega))
  rw [if_neg q5]
  by_cases q6 : own = 6
  · rw [if_pos q6]; exact things (Or.inl q6)
  rw [if_neg q6]
  have none : ¬(own = 8 ∨ own = 9 ∨ own = 11 ∨ own = 12) → Wp (retZ 0) (fun v => v = bi (FlM I l own)) := fun u => wp_z0 (bi_f (fun v => by rcases v with v | v | v | v | v | v <;> omega))
  by_cases q7 : own = 7
  · rw [if_pos q7]; exact none (by omega)
  rw [if_neg q7]
  by_cases q8 : own = 8
  · rw [if_pos q8]; exact things (Or.inr (Or.inl q8))
  rw [if_neg q8]
  by_cases q9 : own = 9
  · rw [if_pos q9]; exact things (Or.inr (Or.inr q9))
  rw [if_neg q9]
  by_cases q10 : own = 10
  · rw [if_pos q10]; exact none (by omega)
  rw [if_neg q10]
  by_cases q11 : own = 11
  · rw [if_pos q11]
    refine wp_b (show getR 5 16 D m = some (D + 23) from pl_R r hD (k := 16) (by decide)) ?_
    refine wp_b (x_isTold r sd1) ?_
    by_cases q : 0 < nD I
    · rw [← bi_t q]; exact wp_z1 (bi_t (Or.inr (Or.inr (Or.inr (Or.inr (Or.inl ⟨q11, q⟩))))))
    · rw [← bi_f q]; exact wp_z0 (bi_f (fun u => by rcases u with u | u | u | u | u | u <;> omega))
  rw [if_neg q11]
  by_cases q12 : own = 12
  · rw [if_pos q12]
    refine wp_b (show getR 5 16 D m = some (D + 23) from pl_R r hD (k := 16) (by decide)) ?_
    refine wp_b (x_isTold r sd2) ?_
    by_cases q : 0 < nR I
    · rw [← bi_t q]; exact wp_z1 (bi_t (Or.inr (Or.inr (Or.inr (Or.inr (Or.inr ⟨q12, q⟩))))))
    · rw [← bi_f q]; exact wp_z0 (bi_f (fun u => by rcases u with u | u | u | u | u | u <;> omega))
  rw [if_neg q12]
  exact none (by omega)
theorem po2 {X : Option (Int × Mem)} {Y : Option Mem} {a : Nat} (h : Wp X (fun v => Wp Y (fun w => Po T len K D B m0 n0 a s v w))) : Wp X (fun v => Wp Y (fun w => Po2 T len K D B m0 n0 a s v w)) := wp_c h (fun _ k => wp_c k (fun _ q => Or.inl q))
/-- the class's start of a statement -/
theorem st_J16 {N : Nat} (hN : 2000 ≤ N) {m n : Mem} {a : Nat} (j : JI T len K D B m0 n0 m n a s I l) (hs : s < 80) {own : Int} {Q : Int × Mem → Prop} (ho : (if (kdP T len a).1 = 2 then (kdP T len a).2 else -1) = own) (full : FlM I l own → ∀ m2, Told m m2 6 (a : Int) → Q (0, m2)) (go : ¬FlM I l own → Wp (X6_statement_J16 N 5 D own m) Q) : Wp (X6_statement N 5 D m) Q := by
  obtain ⟨p, js, e11, ab⟩ := j
  obtain ⟨⟨pd, sd1, sd2⟩, ld, rw', gw, cf, rf⟩ := id js
  obtain ⟨k2, k4, k3⟩ := p_kind p.2.2.1
  have J : Wp (X6_statement_J16 N 5 D own m) Q := by
    by_cases fl : FlM I l own
    · unfold X6_statement_J16
      refine wp_b (gtI (by decide +kernel) _) ?_
      rw [e11, if_neg (by omega)]
      refine wp_b (x_many hN p.1 pd ld sd1 sd2 gw own) ?_
      rw [← bi_t fl, if_neg (by decide)]
      unfold X6_statement_J34
      refine wp_b (gtI (by decide +kernel) _) ?_
      rw [k3]
      obtain ⟨m2, e2, t⟩ := x_refuseR m 6 (a : Int)
      refine wp_b e2 ?_
      refine wp_b (v := 0) rfl ?_
      exact wp_some (full fl m2 t)
    · exact go fl
  unfold X6_statement
  refine wp_k k5r ?_
  refine wp_b (gtI (by decide +kernel) _) ?_
  rw [k2]
  by_cases q : (kdP T len a).1 = 2
  · rw [if_neg (fun u => u q)]
    refine wp_b (gtI (by decide +kernel) _) ?_
    rw [k4]
    rw [if_pos q] at ho
    rw [ho]; exact J
  · rw [if_pos q]
    rw [if_neg q] at ho
    rw [ho]; exact J
theorem st_all {N : Nat} (hN : 4000 ≤ N) {m n : Mem} {a : Nat} (j : JI T len K D B m0 n0 m n a s I l) (hs : s < 80) : Wp (X6_statement N 5 D m) (fun v => Wp (X11_statement N 264 n) (fun n2 => Po2 T len K D B m0 n0 a s v n2)) := by
  obtain ⟨p, js, e11, ab⟩ := id j
  obtain ⟨⟨pd, sd1, sd2⟩, ld, rw', gw, cf, rf⟩ := id js
  have hB := rw'.1.1
  have i40 := rw'.1.2.1
  obtain ⟨n1, n2, n3, n4, n5, n6⟩ := id gw.2.2.1
  have al := p.2.2.2.2.2.2.2.1
  have pre : ∀ own : Int, (¬FlM I l own) → X6_isOneTooMany N D own m = some 0 := fun own u => by rw [x_many (by omega) p.1 pd ld sd1 sd2 gw own, ← bi_f u]
  by_cases c1 : kdP T len a = (2, 1)
  · have kd := c1
    rw [dsp_1 p.2.2.2 kd]
    refine st_J16 (by omega) j hs (own := 1) (by rw [kd]; rfl) (fun fl m2 t => ?_) (fun fl => ?_)
    · exfalso
      rcases fl with u | u | u | u | u | u <;> omega
    · unfold X6_statement_J16
      refine wp_b (gtI (by decide +kernel) _) ?_
      rw [e11, if_neg (by omega)]
      refine wp_b (pre 1 fl) ?_
      rw [if_pos rfl]
      rw [if_pos rfl]
      exact po2 (st_height (by omega) j kd)
  by_cases c3 : kdP T len a = (2, 3)
  · have kd := c3
    rw [dsp_3 p.2.2.2 kd]
    refine st_J16 (by omega) j hs (own := 3) (by rw [kd]; rfl) (fun fl m2 t => ?_) (fun fl => ?_)
    · rw [full_walling p.2.1 p.2.2.2 hB i40 (by rw [rw'.2.2.2.2.2.1]; have := gw.2.2.2.2.2.2.2.2.2.2.2.1; omega)]
      exact wp_some (Or.inl (no_po (no_of (by decide) p.1 p.2.1 js t ⟨n, ahf_refl n, rfl⟩)))
    · unfold X6_statement_J16
      refine wp_b (gtI (by decide +kernel) _) ?_
      rw [e11, if_neg (by omega)]
      refine wp_b (pre 3 fl) ?_
      rw [if_pos rfl]
      rw [if_neg (show ¬(3 : Int) = 1 from by decide), if_neg (show ¬(3 : Int) = 2 from by decide), if_pos rfl]
      exact po2 (st_wall (by omega) j kd (by omega))
  by_cases c4 : kdP T len a = (2, 4)
  · have kd := c4
    rw [dsp_4 p.2.2.2 kd]
    refine st_J16 (by omega) j hs (own := 4) (by rw [kd]; rfl) (fun fl m2 t => ?_) (fun fl => ?_)
    · rw [full_housing p.2.1 p.2.2.2 hB i40 (by rw [rw'.2.2.2.2.2.2.1.1]; have := gw.2.2.2.2.2.2.2.2.2.2.2.2; omega)]
      exact wp_some (Or.inl (no_po (no_of (by decide) p.1 p.2.1 js t ⟨n, ahf_refl n, rfl⟩)))
    · unfold X6_statement_J16
      refine wp_b (gtI (by decide +kernel) _) ?_
      rw [e11, if_neg (by omega)]
      refine wp_b (pre 4 fl) ?_
      rw [if_pos rfl]
      rw [if_neg (show ¬(4 : Int) = 1 from by decide), if_neg (show ¬(4 : Int) = 2 from by decide), if_neg (show ¬(4 : Int) = 3 from by decide), if_pos rfl]
      exact po2 (st_house (by omega) j kd (by omega))
  by_cases c5 : kdP T len a = (2, 5)
  · have kd := c5
    rw [dsp_5 p.2.2.2 kd]
    refine st_J16 (by omega) j hs (own := 5) (by rw [kd]; rfl) (fun fl m2 t => ?_) (fun fl => ?_)
    · rw [full_cisterning p.2.1 p.2.2.2 hB i40 (by rw [rw'.1.2.2.2.2.1]; omega)]
      exact wp_some (Or.inl (no_po (no_of (by decide) p.1 p.2.1 js t ⟨n, ahf_refl n, rfl⟩)))
    · unfold X6_statement_J16
      refine wp_b (gtI (by decide +kernel) _) ?_
      rw [e11, if_neg (by omega)]
      refine wp_b (pre 5 fl) ?_
      rw [if_pos rfl]
      rw [if_neg (show ¬(5 : Int) = 1 from by decide), if_neg (show ¬(5 : Int) = 2 from by decide), if_neg (show ¬(5 : Int) = 3 from by decide), if_neg (show ¬(5 : Int) = 4 from by decide), if_pos rfl]
      exact po2 (st_cistern (by omega) j kd (by omega))
  by_cases c6 : kdP T len a = (2, 6)
  · have kd := c6
    rw [dsp_6 p.2.2.2 kd]
    refine st_J16 (by omega) j hs (own := 6) (by rw [kd]; rfl) (fun fl m2 t => ?_) (fun fl => ?_)
    · rw [full_thinging p.2.1 p.2.2.2 hB i40 (by rw [rw'.1.2.2.2.2.2.1]; omega) 0]
      exact wp_some (Or.inl (no_po (no_of (by decide) p.1 p.2.1 js t ⟨n, ahf_refl n, rfl⟩)))
    · unfold X6_statement_J16
      refine wp_b (gtI (by decide +kernel) _) ?_
      rw [e11, if_neg (by omega)]
      refine wp_b (pre 6 fl) ?_
      rw [if_pos rfl]
      rw [if_neg (show ¬(6 : Int) = 1 from by decide), if_neg (show ¬(6 : Int) = 2 from by decide), if_neg (show ¬(6 : Int) = 3 from by decide), if_neg (show ¬(6 : Int) = 4 from by decide), if_neg (show ¬(6 : Int) = 5 from by decide), if_pos rfl]
      exact po2 (st_cloth (by omega) j kd (by omega))
  by_cases c8 : kdP T len a = (2, 8)
  · have kd := c8
    rw [dsp_8 p.2.2.2 kd]
    refine st_J16 (by omega) j hs (own := 8) (by rw [kd]; rfl) (fun fl m2 t => ?_) (fun fl => ?_)
    · rw [full_thinging p.2.1 p.2.2.2 hB i40 (by rw [rw'.1.2.2.2.2.2.1]; omega) 1]
      exact wp_some (Or.inl (no_po (no_of (by decide) p.1 p.2.1 js t ⟨n, ahf_refl n, rfl⟩)))
    · unfold X6_statement_J16
      refine wp_b (gtI (by decide +kernel) _) ?_
      rw [e11, if_neg (by omega)]
      refine wp_b (pre 8 fl) ?_
      rw [if_pos rfl]
      rw [if_neg (show ¬(8 : Int) = 1 from by decide), if_neg (show ¬(8 : Int) = 2 from by decide), if_neg (show ¬(8 : Int) = 3 from by decide), if_neg (show ¬(8 : Int) = 4 from by decide), if_neg (show ¬(8 : Int) = 5 from by decide), if_neg (show ¬(8 : Int) = 6 from by decide), if_neg (show ¬(8 : Int) = 7 from by decide), if_pos rfl]
      exact po2 (st_stone (own := 8) (by omega) j (by decide) (by decide) rfl kd (by omega) (sort := 1) (by decide))
  by_cases c9 : kdP T len a = (2, 9)
  · have kd := c9
    rw [dsp_9 p.2.2.2 kd]
    refine st_J16 (by omega) j hs (own := 9) (by rw [kd]; rfl) (fun fl m2 t => ?_) (fun fl => ?_)
    · rw [full_thinging p.2.1 p.2.2.2 hB i40 (by rw [rw'.1.2.2.2.2.2.1]; omega) 2]
      exact wp_some (Or.inl (no_po (no_of (by decide) p.1 p.2.1 js t ⟨n, ahf_refl n, rfl⟩)))
    · unfold X6_statement_J16
      refine wp_b (gtI (by decide +kernel) _) ?_
      rw [e11, if_neg (by omega)]
      refine wp_b (pre 9 fl) ?_
      rw [if_pos rfl]
      rw [if_neg (show ¬(9 : Int) = 1 from by decide), if_neg (show ¬(9 : Int) = 2 from by decide), if_neg (show ¬(9 : Int) = 3 from by decide), if_neg (show ¬(9 : Int) = 4 from by decide), if_neg (show ¬(9 : Int) = 5 from by decide), if_neg (show ¬(9 : Int) = 6 from by decide), if_neg (show ¬(9 : Int) = 7 from by decide), if_neg (show ¬(9 : Int) = 8 from by decide), if_pos rfl]
      exact po2 (st_stone (own := 9) (by omega) j (by decide) (by decide) rfl kd (by omega) (sort := 2) (by decide))
  by_cases c10 : kdP T len a = (2, 10)
  · have kd := c10
    rw [dsp_10 p.2.2.2 kd]
    refine st_J16 (by omega) j hs (own := 10) (by rw [kd]; rfl) (fun fl m2 t => ?_) (fun fl => ?_)
    · exfalso
      rcases fl with u | u | u | u | u | u <;> omega
    · unfold X6_statement_J16
      refine wp_b (gtI (by decide +kernel) _) ?_
      rw [e11, if_neg (by omega)]
      refine wp_b (pre 10 fl) ?_
      rw [if_pos rfl]
      rw [if_neg (show ¬(10 : Int) = 1 from by decide), if_neg (show ¬(10 : Int) = 2 from by decide), if_neg (show ¬(10 : Int) = 3 from by decide), if_neg (show ¬(10 : Int) = 4 from by decide), if_neg (show ¬(10 : Int) = 5 from by decide), if_neg (show ¬(10 : Int) = 6 from by decide), if_neg (show ¬(10 : Int) = 7 from by decide), if_neg (show ¬(10 : Int) = 8 from by decide), if_neg (show ¬(10 : Int) = 9 from by decide), if_pos rfl]
      exact po2 (st_sky (by omega) j kd)
  by_cases c11 : kdP T len a = (2, 11)
  · have kd := c11
    rw [dsp_11 p.2.2.2 kd]
    refine st_J16 (by omega) j hs (own := 11) (by rw [kd]; rfl) (fun fl m2 t => ?_) (fun fl => ?_)
    · rw [full_dewing p.2.1 p.2.2.2 hB i40 (by rcases rw'.2.2.2.2.2.2.2.1.1 with u | u; have := u.2; omega; exact u.1)]
      exact wp_some (Or.inl (no_po (no_of (by decide) p.1 p.2.1 js t ⟨n, ahf_refl n, rfl⟩)))
    · unfold X6_statement_J16
      refine wp_b (gtI (by decide +kernel) _) ?_
      rw [e11, if_neg (by omega)]
      refine wp_b (pre 11 fl) ?_
      rw [if_pos rfl]
      rw [if_neg (show ¬(11 : Int) = 1 from by decide), if_neg (show ¬(11 : Int) = 2 from by decide), if_neg (show ¬(11 : Int) = 3 from by decide), if_neg (show ¬(11 : Int) = 4 from by decide), if_neg (show ¬(11 : Int) = 5 from by decide), if_neg (show ¬(11 : Int) = 6 from by decide), if_neg (show ¬(11 : Int) = 7 from by decide), if_neg (show ¬(11 : Int) = 8 from by decide), if_neg (show ¬(11 : Int) = 9 from by decide), if_neg (show ¬(11 : Int) = 10 from by decide), if_pos rfl]
      exact st_dew hN j kd (by omega)
  by_cases c12 : kdP T len a = (2, 12)
  · have kd := c12
    rw [dsp_12 p.2.2.2 kd]
    refine st_J16 (by omega) j hs (own := 12) (by rw [kd]; rfl) (fun fl m2 t => ?_) (fun fl => ?_)
    · rw [full_drying p.2.1 p.2.2.2 hB i40 (by rcases rw'.2.2.2.2.2.2.2.2.1.1 with u | u; have := u.2; omega; exact u.1)]
      exact wp_some (Or.inl (no_po (no_of (by decide) p.1 p.2.1 js t ⟨n, ahf_refl n, rfl⟩)))
    · unfold X6_statement_J16
      refine wp_b (gtI (by decide +kernel) _) ?_
      rw [e11, if_neg (by omega)]
      refine wp_b (pre 12 fl) ?_
      rw [if_pos rfl]
      rw [if_neg (show ¬(12 : Int) = 1 from by decide), if_neg (show ¬(12 : Int) = 2 from by decide), if_neg (show ¬(12 : Int) = 3 from by decide), if_neg (show ¬(12 : Int) = 4 from by decide), if_neg (show ¬(12 : Int) = 5 from by decide), if_neg (show ¬(12 : Int) = 6 from by decide), if_neg (show ¬(12 : Int) = 7 from by decide), if_neg (show ¬(12 : Int) = 8 from by decide), if_neg (show ¬(12 : Int) = 9 from by decide), if_neg (show ¬(12 : Int) = 10 from by decide), if_neg (show ¬(12 : Int) = 11 from by decide), if_pos rfl]
      exact st_dries hN j kd (by omega)
  by_cases c13 : kdP T len a = (2, 13)
  · have kd := c13
    rw [dsp_13 p.2.2.2 kd]
    refine st_J16 (by omega) j hs (own := 13) (by rw [kd]; rfl) (fun fl m2 t => ?_) (fun fl => ?_)
    · exfalso
      rcases fl with u | u | u | u | u | u <;> omega
    · unfold X6_statement_J16
      refine wp_b (gtI (by decide +kernel) _) ?_
      rw [e11, if_neg (by omega)]
      refine wp_b (pre 13 fl) ?_
      rw [if_pos rfl]
      rw [if_neg (show ¬(13 : Int) = 1 from by decide), if_neg (show ¬(13 : Int) = 2 from by decide), if_neg (show ¬(13 : Int) = 3 from by decide), if_neg (show ¬(13 : Int) = 4 from by decide), if_neg (show ¬(13 : Int) = 5 from by decide), if_neg (show ¬(13 : Int) = 6 from by decide), if_neg (show ¬(13 : Int) = 7 from by decide), if_neg (show ¬(13 : Int) = 8 from by decide), if_neg (show ¬(13 : Int) = 9 from by decide), if_neg (show ¬(13 : Int) = 10 from by decide), if_neg (show ¬(13 : Int) = 11 from by decide), if_neg (show ¬(13 : Int) = 12 from by decide), if_pos rfl]
      exact po2 (st_drinks (by omega) j kd)
  by_cases c14 : kdP T len a = (2, 14)
  · have kd := c14
    rw [dsp_14 p.2.2.2 kd]
    refine st_J16 (by omega) j hs (own := 14) (by rw [kd]; rfl) (fun fl m2 t => ?_) (fun fl => ?_)
    · exfalso
      rcases fl with u | u | u | u | u | u <;> omega
    · unfold X6_statement_J16
      refine wp_b (gtI (by decide +kernel) _) ?_
      rw [e11, if_neg (by omega)]
      refine wp_b (pre 14 fl) ?_
      rw [if_pos rfl]
      rw [if_neg (show ¬(14 : Int) = 1 from by decide), if_neg (show ¬(14 : Int) = 2 from by decide), if_neg (show ¬(14 : Int) = 3 from by decide), if_neg (show ¬(14 : Int) = 4 from by decide), if_neg (show ¬(14 : Int) = 5 from by decide), if_neg (show ¬(14 : Int) = 6 from by decide), if_neg (show ¬(14 : Int) = 7 from by decide), if_neg (show ¬(14 : Int) = 8 from by decide), if_neg (show ¬(14 : Int) = 9 from by decide), if_neg (show ¬(14 : Int) = 10 from by decide), if_neg (show ¬(14 : Int) = 11 from by decide), if_neg (show ¬(14 : Int) = 12 from by decide), if_neg (show ¬(14 : Int) = 13 from by decide), if_pos rfl]
      exact po2 (st_cloudy (by omega) j kd)
  by_cases c15 : kdP T len a = (2, 15)
  · have kd := c15
    rw [dsp_15 p.2.2.2 kd]
    refine st_J16 (by omega) j hs (own := 15) (by rw [kd]; rfl) (fun fl m2 t => ?_) (fun fl => ?_)
    · exfalso
      rcases fl with u | u | u | u | u | u <;> omega
    · unfold X6_statement_J16
      refine wp_b (gtI (by decide +kernel) _) ?_
      rw [e11, if_neg (by omega)]
      refine wp_b (pre 15 fl) ?_
      rw [if_pos rfl]
      rw [if_neg (show ¬(15 : Int) = 1 from by decide), if_neg (show ¬(15 : Int) = 2 from by decide), if_neg (show ¬(15 : Int) = 3 from by decide), if_neg (show ¬(15 : Int) = 4 from by decide), if_neg (show ¬(15 : Int) = 5 from by decide), if_neg (show ¬(15 : Int) = 6 from by decide), if_neg (show ¬(15 : Int) = 7 from by decide), if_neg (show ¬(15 : Int) = 8 from by decide), if_neg (show ¬(15 : Int) = 9 from by decide), if_neg (show ¬(15 : Int) = 10 from by decide), if_neg (show ¬(15 : Int) = 11 from by decide), if_neg (show ¬(15 : Int) = 12 from by decide), if_neg (show ¬(15 : Int) = 13 from by decide), if_neg (show ¬(15 : Int) = 14 from by decide), if_pos rfl]
      exact po2 (st_wring (by omega) j kd)
  have no : ∀ i : Nat, (i = 1 ∨ 3 ≤ i ∧ i ≤ 6 ∨ 8 ≤ i ∧ i ≤ 15) → ¬kdP T len a = (2, (i : Int)) := fun i hi u => by
    have c : i = 1 ∨ i = 3 ∨ i = 4 ∨ i = 5 ∨ i = 6 ∨ i = 8 ∨ i = 9 ∨ i = 10 ∨ i = 11 ∨ i = 12 ∨ i = 13 ∨ i = 14 ∨ i = 15 := by omega
    rcases c with c | c | c | c | c | c | c | c | c | c | c | c | c <;> subst c
    · exact c1 u
    · exact c3 u
    · exact c4 u
    · exact c5 u
    · exact c6 u
    · exact c8 u
    · exact c9 u
    · exact c10 u
    · exact c11 u
    · exact c12 u
    · exact c13 u
    · exact c14 u
    · exact c15 u
  rw [dsp_no p.2.2.2 al no]
  obtain ⟨own, ho⟩ : ∃ own, own = (if (kdP T len a).1 = 2 then (kdP T len a).2 else -1) := ⟨_, rfl⟩
  have nx : ∀ i : Nat, (i = 1 ∨ 3 ≤ i ∧ i ≤ 6 ∨ 8 ≤ i ∧ i ≤ 15) → ¬own = (i : Int) := fun i hi u => by
    by_cases q : (kdP T len a).1 = 2
    · rw [if_pos q] at ho
      exact no i hi (Prod.ext q (by rw [← ho]; exact u))
    · rw [if_neg q] at ho
      omega
  have x1 := nx 1 (by decide)
  have x3 := nx 3 (by decide)
  have x4 := nx 4 (by decide)
  have x5 := nx 5 (by decide)
  have x6 := nx 6 (by decide)
  have x8 := nx 8 (by decide)
  have x9 := nx 9 (by decide)
  have x10 := nx 10 (by decide)
  have x11 := nx 11 (by decide)
  have x12 := nx 12 (by decide)
  have x13 := nx 13 (by decide)
  have x14 := nx 14 (by decide)
  have x15 := nx 15 (by decide)
  have nf : ¬FlM I l own := fun u => by rcases u with u | u | u | u | u | u <;> omega
  refine st_J16 (by omega) j hs (own := own) ho.symm (fun fl => absurd fl nf) (fun fl => ?_)
  have un : Wp (X6_statement_J447 N 5 m) (fun v => Wp (some (Bl n 1 (tkQ T len a))) (fun n2 => Po2 T len K D B m0 n0 a s v n2)) := by
    unfold X6_statement_J447
    obtain ⟨m2, e2, t⟩ := p_unexp p.2.2.1
    refine wp_b e2 ?_
    refine wp_b (v := 0) rfl ?_
    refine wp_some (wp_some (Or.inl (no_po (no_of (by decide) p.1 p.2.1 js t ⟨n, ahf_refl n, rfl⟩))))
  unfold X6_statement_J16
  refine wp_b (gtI (by decide +kernel) _) ?_
  rw [e11, if_neg (by omega)]
  refine wp_b (pre own fl) ?_
  rw [if_pos rfl, if_neg (by omega)]
  by_cases y2 : own = 2
  · rw [if_pos y2]; exact un
  rw [if_neg y2, if_neg (by omega), if_neg (by omega), if_neg (by omega), if_neg (by omega)]
  by_cases y7 : own = 7
  · rw [if_pos y7]; exact un
  rw [if_neg y7, if_neg (by omega), if_neg (by omega), if_neg (by omega), if_neg (by omega), if_neg (by omega), if_neg (by omega), if_neg (by omega), if_neg (by omega)]
  exact un
