/-! a place told: both -/
abbrev J18 (j : Nat) : Prop := 1 ≤ j ∧ j ≤ 8 ∧ ¬j = 7
theorem told_tr {J : Nat → Prop} {m m1 m2 : Mem} {f p : Int} (h : ReF J m m1) (s : ∀ j, J j → JA j) (t : Told m1 m2 f p) : Told m m2 f p := ⟨t.1, t.2.1, ref_trans h t.2.2 s (fun j h => h)⟩
theorem pd_rf {J : Nat → Prop} {m m2 : Mem} {D : Nat} {I : Isl} (h : ReF J m m2) (d : PD m D I) : PD m2 D I := by
  have hD := d.1
  exact pd_off d fun a a1 _ _ _ _ => h.1 a (by omega)
theorem ld_rf {J : Nat → Prop} {m m2 : Mem} {L : Nat} {l : Lnd} (h : ReF J m m2) (hL : 6 ≤ L) (d : LD m L l) : LD m2 L l := ld_off d fun a a1 _ => h.1 a (by omega)
theorem p_spot {N : Nat} (hN : 2000 ≤ N) {m : Mem} (r : Refs m) {T : Nat → Int} {len K a D : Nat} {I : Isl} {l : Lnd} (h : RP m T len K a) (hp : PD m D I) (hl : LD m (D + 12) l) (z : Sz I) (n : Cn I) (w : 2 ≤ I 0 0 ∧ 2 ≤ I 1 0) (free : Int) {Q : Int × Mem → Prop} (y : ∀ c a', spP T len (I 0 0) (I 1 0) (fun c => if free = 0 then 0 else cont I l c) a = (0, 0, c, a') → ∀ m2, RP m2 T len K a' → ReF J18 m m2 → m2 5 8 = c → Q (1, m2)) (no : ∀ f p x b, spP T len (I 0 0) (I 1 0) (fun c => if free = 0 then 0 else cont I l c) a = (f, p, x, b) → ¬f = 0 → ∀ m2, Told m m2 f p → Q (0, m2)) : Wp (X6_spot N 5 D free m) Q := by
  obtain ⟨z1, z2, z3, z4, z5, z6, z7⟩ := id z
  have hD := hp.1
  have dn : ∀ (m2 : Mem), Wp ((retZ 0).bind fun r2 => some (r2, m2)) Q ↔ Q (0, m2) := fun m2 => ⟨fun ⟨v, e, q⟩ => by
    have : (0, m2) = v := Option.some.inj e
    rw [this]; exact q, fun q => wp_b (v := 0) rfl (wp_some q)⟩
  unfold X6_spot
  refine wp_k k5r ?_
  refine wp_bw (p_word r h 2 (by decide) (Q := fun p => (kdP T len a = (2, 2) ∧ p.1 = 1 ∧ RP p.2 T len K (nx T len a) ∧ ReF J14 m p.2) ∨ (¬kdP T len a = (2, 2) ∧ p.1 = 0 ∧ Told m p.2 1 (tkQ T len a))) (fun u m2 d f => Or.inl ⟨u, rfl, d, f⟩) (fun u m2 t => Or.inr ⟨u, rfl, t⟩)) (fun p1 hp1 => ?_)
  rcases hp1 with ⟨u1, e1, h1, f1⟩ | ⟨u1, e1, t1⟩
  rotate_left
  · rw [e1, if_pos rfl]
    refine (dn _).mpr (no 1 (tkQ T len a) 0 a ?_ (by decide) p1.2 t1)
    unfold spP
    rw [if_pos u1]
  rw [e1, if_neg (by decide)]
  have r1 := ref_refs (fun j h => by omega) f1 r
  have hp1 := pd_rf f1 hp
  have n1 : ¬¬kdP T len a = (2, 2) := fun v => v u1
  refine wp_b (pd_I hp1 (k := 0) (by decide)) ?_
  rw [wI_of2 (x := I 0 0 - 1) (by omega) (by omega)]
  refine wp_bw (p_number r1 h1 0 (I 0 0 - 1) (Q := fun p => (isNm T len (nx T len a) ∧ (0 ≤ rvl T len (nx T len a) ∧ rvl T len (nx T len a) ≤ I 0 0 - 1) ∧ p.1 = 1 ∧ RP p.2 T len K (nx T len (nx T len a)) ∧ ReF J16 p1.2 p.2 ∧ p.2 5 5 = rvl T len (nx T len a)) ∨ (isNm T len (nx T len a) ∧ ¬(0 ≤ rvl T len (nx T len a) ∧ rvl T len (nx T len a) ≤ I 0 0 - 1) ∧ p.1 = 0 ∧ Told p1.2 p.2 4 ((nx T len a : Nat) : Int)) ∨ (¬isNm T len (nx T len a) ∧ p.1 = 0 ∧ Told p1.2 p.2 1 (tkQ T len (nx T len a)))) (fun a1 a2 a3 m2 d f g1 _ => Or.inl ⟨a1, ⟨a2, a3⟩, rfl, d, f, g1⟩) (fun a1 a2 m2 t => Or.inr (Or.inl ⟨a1, a2, rfl, t⟩)) (fun a1 m2 t => Or.inr (Or.inr ⟨a1, rfl, t⟩))) (fun p4 hp4 => ?_)
  rcases hp4 with ⟨u2, v2, e2, h2, f2, g2⟩ | ⟨u2, v2, e2, t2⟩ | ⟨u2, e2, t2⟩
  rotate_left
  · rw [e2, if_neg (fun v => v rfl)]
    refine (dn _).mpr (no 4 ((nx T len a : Nat) : Int) 0 a ?_ (by decide) p4.2 (told_tr f1 (fun j h => by omega) t2))
    unfold spP
    rw [if_neg n1, if_neg (fun v => v u2), if_pos v2]
  · rw [e2, if_neg (fun v => v rfl)]
    refine (dn _).mpr (no 1 (tkQ T len (nx T len a)) 0 a ?_ (by decide) p4.2 (told_tr f1 (fun j h => by omega) t2))
    unfold spP
    rw [if_neg n1, if_pos u2]
  rw [e2, if_pos (by decide)]
  have f12 : ReF J16 m p4.2 := ref_trans f1 f2 (fun j h => by omega) (fun j h => h)
  have r2 := ref_refs (fun j h => by omega) f12 r
  have hp2 := pd_rf f12 hp
  have n2 : ¬¬isNm T len (nx T len a) := fun v => v u2
  have n3 : ¬¬(0 ≤ rvl T len (nx T len a) ∧ rvl T len (nx T len a) ≤ I 0 0 - 1) := fun v => v v2
  refine wp_b (gtI (by decide +kernel) p4.2) ?_
  rw [g2]
  refine wp_b (pd_I hp2 (k := 1) (by decide)) ?_
  rw [wI_of2 (x := I 1 0 - 1) (by omega) (by omega)]
  obtain ⟨b, hb⟩ : ∃ b, b = nx T len (nx T len a) := ⟨_, rfl⟩
  rw [← hb] at h2
  refine wp_bw (p_number r2 h2 0 (I 1 0 - 1) (Q := fun p => (isNm T len b ∧ (0 ≤ rvl T len b ∧ rvl T len b ≤ I 1 0 - 1) ∧ p.1 = 1 ∧ RP p.2 T len K (nx T len b) ∧ ReF J16 p4.2 p.2 ∧ p.2 5 5 = rvl T len b ∧ p.2 5 6 = (b : Int)) ∨ (isNm T len b ∧ ¬(0 ≤ rvl T len b ∧ rvl T len b ≤ I 1 0 - 1) ∧ p.1 = 0 ∧ Told p4.2 p.2 4 (b : Int)) ∨ (¬isNm T len b ∧ p.1 = 0 ∧ Told p4.2 p.2 1 (tkQ T len b))) (fun a1 a2 a3 m2 d f g1 g2 => Or.inl ⟨a1, ⟨a2, a3⟩, rfl, d, f, g1, g2⟩) (fun a1 a2 m2 t => Or.inr (Or.inl ⟨a1, a2, rfl, t⟩)) (fun a1 m2 t => Or.inr (Or.inr ⟨a1, rfl, t⟩))) (fun p7 hp7 => ?_)
  rcases hp7 with ⟨u3, v3, e3, h3, f3, g3, g6⟩ | ⟨u3, v3, e3, t3⟩ | ⟨u3, e3, t3⟩
  rotate_left
  · rw [e3, if_neg (fun v => v rfl)]
    refine (dn _).mpr (no 4 (b : Int) 0 a ?_ (by decide) p7.2 (told_tr f12 (fun j h => by omega) t3))
    unfold spP
    rw [if_neg n1, if_neg n2, if_neg n3, ← hb, if_neg (fun v => v u3), if_pos v3]
  · rw [e3, if_neg (fun v => v rfl)]
    refine (dn _).mpr (no 1 (tkQ T len b) 0 a ?_ (by decide) p7.2 (told_tr f12 (fun j h => by omega) t3))
    unfold spP
    rw [if_neg n1, if_neg n2, if_neg n3, ← hb, if_pos u3]
  rw [e3, if_pos (by decide)]
  have f13 : ReF J16 m p7.2 := ref_trans f12 f3 (fun j h => h) (fun j h => h)
  have r3 := ref_refs (fun j h => by omega) f13 r
  have hp3 := pd_rf f13 hp
  have n4 : ¬¬isNm T len b := fun v => v u3
  have n5 : ¬¬(0 ≤ rvl T len b ∧ rvl T len b ≤ I 1 0 - 1) := fun v => v v3
  obtain ⟨c, hc⟩ : ∃ c, c = rvl T len b * I 0 0 + rvl T len (nx T len a) := ⟨_, rfl⟩
  have cb := cell_in (I := I) (x := rvl T len (nx T len a)) (y := rvl T len b) (by omega) (by omega) (by omega) (by omega)
  refine wp_b (gtI (by decide +kernel) p7.2) ?_
  rw [g3]
  refine wp_b (x_cellAt hp3 z _ _) ?_
  rw [show cellAt I (rvl T len (nx T len a)) (rvl T len b) = c from by unfold cellAt; rw [if_pos (by omega), hc]]
  refine wp_b (ptI (by decide +kernel) _ _) ?_
  obtain ⟨m5, hm5⟩ : ∃ m5, m5 = up p7.2 5 8 c := ⟨_, rfl⟩
  rw [← hm5]
  have f5 : ReF J18 m m5 := by rw [hm5]; exact ref_up (ref_mono f13 (fun j h => by omega)) (by omega) _
  have r5 := ref_refs (fun j h => by omega) f5 r
  have hp5 := pd_rf f5 hp
  have hl5 := ld_rf f5 (by omega) hl
  have v8 : m5 5 8 = c := by rw [hm5, up_same]
  have v6 : m5 5 6 = (b : Int) := by rw [hm5, up_slot (by decide)]; exact g6
  have h5 : RP m5 T len K (nx T len b) := by
    obtain ⟨i, d, p, k, kz⟩ := h3
    refine ⟨i, ⟨wd_ref (J := J18) (m := p7.2) (by rw [hm5]; exact ref_up (ref_refl _ _) (by omega) _) d.1, d.2.1, ?_, ?_, ?_, ?_⟩, p, k, by rw [hm5, up_slot (by decide), up_slot (by decide)]; exact kz⟩
    · rw [hm5, up_slot (by decide)]; exact d.2.2.1
    · rw [hm5, up_slot (by decide)]; exact d.2.2.2.1
    · rw [hm5, up_slot (by decide)]; exact d.2.2.2.2.1
    · rw [hm5, up_slot (by decide)]; exact d.2.2.2.2.2
  refine wp_b (gtI (by decide +kernel) m5) ?_
  rw [v8]
  refine wp_b (x_isCell hp5 z c) ?_
  rw [show isC I c = 1 from bi_1.mpr (by omega), if_neg (by decide)]
  have good : (if free = 0 then 0 else cont I l c) = 0 → Q (1, m5) := fun g => by
    refine y c (nx T len b) ?_ m5 h5 f5 v8
    unfold spP
    rw [if_neg n1, if_neg n2, if_neg n3, ← hb, if_neg n4, if_neg n5, ← hc, if_neg (fun v => v g)]
  by_cases q : free = 0
  · rw [if_pos q]
    exact wp_b (v := 1) rfl (wp_some (good (if_pos q)))
  · rw [if_neg q]
    refine wp_b (pd_R r5 hp5 (k := 5) (by decide)) ?_
    refine wp_b (gtI (by decide +kernel) m5) ?_
    rw [v8]
    refine wp_b (x_cont hN r5 hp5 hl5 z n c) ?_
    by_cases q2 : cont I l c = 0
    · rw [if_pos q2]
      exact wp_b (v := 1) rfl (wp_some (good (by rw [if_neg q]; exact q2)))
    · rw [if_neg q2]
      unfold X6_spot_J88
      refine wp_b (gtI (by decide +kernel) m5) ?_
      rw [v6]
      obtain ⟨m6, e6, t6⟩ := x_refuseR m5 4 (b : Int)
      refine wp_b e6 ?_
      refine (dn _).mpr (no 4 (b : Int) 0 a ?_ (by decide) m6 (told_tr f5 (fun j h => by omega) t6))
      unfold spP
      rw [if_neg n1, if_neg n2, if_neg n3, ← hb, if_neg n4, if_neg n5, ← hc, if_pos (by show ¬(if free = 0 then 0 else cont I l c) = 0; rw [if_neg q]; exact q2)]
