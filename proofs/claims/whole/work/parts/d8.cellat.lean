/-! the reference's place told -/
def FtM (m m2 : Mem) (f p : Int) : Prop := ∃ m1, AhF m m1 ∧ m2 = Bl m1 f p
theorem ahf_trans {m m2 m3 : Mem} (h : AhF m m2) (g : AhF m2 m3) : AhF m m3 := ⟨fun a ha => by rw [g.1 a ha, h.1 a ha], fun j hj => by rw [g.2 j hj, h.2 j hj]⟩
theorem ib_ah {m m2 : Mem} {B : Nat} {I : Isl} {l : Lnd} (f : AhF m m2) (h : IB m B I l) : IB m2 B I l := by
  obtain ⟨hB, i40, i66, i67, i73, i75, r69, r70, r74, r78⟩ := h
  refine ⟨hB, by rw [f.2 40 (by decide)]; exact i40, by rw [f.1 266 (by decide)]; exact i66, by rw [f.1 267 (by decide)]; exact i67, by rw [f.1 273 (by decide)]; exact i73, by rw [f.1 275 (by decide)]; exact i75, fun c hc => by rw [f.1 269 (by decide)]; exact r69 c hc, fun c hc => by rw [f.1 270 (by decide)]; exact r70 c hc, fun c hc => by rw [f.1 274 (by decide)]; exact r74 c hc, fun c hc => by rw [f.1 278 (by decide)]; exact r78 c hc⟩
theorem ib_bl {m : Mem} {B : Nat} {I : Isl} {l : Lnd} (k p : Int) (h : IB m B I l) : IB (Bl m k p) B I l := by
  obtain ⟨hB, i40, i66, i67, i73, i75, r69, r70, r74, r78⟩ := h
  have e : ∀ a, ¬a = 264 → Bl m k p a = m a := fun a ha => by
    unfold Bl
    rw [up_setA (up m 264 8 k), setA_ne ha, up_setA, setA_ne ha]
  refine ⟨hB, by unfold Bl; rw [up_slot (by decide), up_slot (by decide)]; exact i40, by rw [e 266 (by decide)]; exact i66, by rw [e 267 (by decide)]; exact i67, by rw [e 273 (by decide)]; exact i73, by rw [e 275 (by decide)]; exact i75, fun c hc => by rw [e 269 (by decide)]; exact r69 c hc, fun c hc => by rw [e 270 (by decide)]; exact r70 c hc, fun c hc => by rw [e 274 (by decide)]; exact r74 c hc, fun c hc => by rw [e 278 (by decide)]; exact r78 c hc⟩
theorem ib_w {m : Mem} {B : Nat} {I : Isl} {l : Lnd} (r : Refs m) (h : IB m B I l) : getR 11 14 264 m = some 266 ∧ getR 11 15 264 m = some 267 ∧ getI 11 40 264 m = some (B : Int) ∧ aldI 266 (B : Int) m = some (I 0 0) ∧ aldI 267 (B : Int) m = some (I 1 0) := by
  obtain ⟨hB, i40, i66, i67, _⟩ := h
  refine ⟨rc r 266 (by decide +kernel), rc r 267 (by decide +kernel), by rw [g264 (by decide), i40], ?_, ?_⟩
  · rw [arI 2 (by decide +kernel) (by omega) (by omega) m, Int.toNat_natCast, i66]
  · rw [arI 2 (by decide +kernel) (by omega) (by omega) m, Int.toNat_natCast, i67]
/-- a told fault goes through to the end -/
theorem m_cellEnd {N : Nat} (hN : 2000 ≤ N) {m : Mem} (r : Refs m) {B : Nat} {I : Isl} {l : Lnd} (h : IB m B I l) (z : Sz I) (x y free : Int) (f : FS m) {Q : Int × Mem → Prop} (q : Q (0, m)) : Wp ((getR 11 14 264 m).bind fun t10 => (getI 11 40 264 m).bind fun t11 => (aldI t10 t11 m).bind fun t12 => (getI 11 8 264 m).bind fun t13 => if t13 ≤ 0 then (if free = 0 then X11_cellAt_J83 N 264 (wI (wI (y * t12) + x)) m else (X11_isFreeTold N 264 (wI (wI (y * t12) + x)) m).bind fun p17 => if ¬p17 = 0 then X11_cellAt_J83 N 264 (wI (wI (y * t12) + x)) m else (getI 11 4 264 m).bind fun t18 => (X11_blame 264 4 t18 m).bind fun p19 => X11_cellAt_J83 N 264 (wI (wI (y * t12) + x)) p19) else some (0, m)) Q := by
  obtain ⟨w1, w2, w3, w4, w5⟩ := ib_w r h
  refine wp_b w1 ?_
  refine wp_b w3 ?_
  refine wp_b w4 ?_
  refine wp_b (g264 (by decide)) ?_
  rw [if_neg (by have : 0 < m 264 8 := f; omega)]
  exact wp_some q
theorem m_cellAt {N : Nat} (hN : 2000 ≤ N) {m : Mem} {T : Nat → Int} {len a B : Nat} {I : Isl} {l : Lnd} (r : Refs m) (h : RS m T len a) (hb : IB m B I l) (z : Sz I) (n : Cn I) (w : 2 ≤ I 0 0 ∧ 2 ≤ I 1 0) (free : Int) {Q : Int × Mem → Prop} (y : ∀ c a', spP T len (I 0 0) (I 1 0) (fun c => if free = 0 then 0 else cont I l c) a = (0, 0, c, a') → ∀ m2, AhF m m2 → RS m2 T len a' → Refs m2 → Q (c, m2)) (no : ∀ f p x b, spP T len (I 0 0) (I 1 0) (fun c => if free = 0 then 0 else cont I l c) a = (f, p, x, b) → ¬f = 0 → ∀ v m2, FtM m m2 f p → Q (v, m2)) : Wp (X11_cellAt N 264 free m) Q := by
  obtain ⟨z1, z2, z3, z4, z5, z6, z7⟩ := id z
  have al := h.2.2.2.2.1
  have w2 : ((pk8 (owT.getD 2 []) : Nat) : Int) = 24948 := by decide +kernel
  have own := own_same (T := T) al (i := 2) (by decide)
  rw [w2] at own
  unfold X11_cellAt
  refine wp_k k264 ?_
  refine wp_bw (m_mustW hN r h 24948 (Q := fun m1 => (isW T len a 24948 ∧ AhF m m1 ∧ RS m1 T len (nx T len a) ∧ Refs m1) ∨ (¬isW T len a 24948 ∧ m1 = Bl m 1 (tkQ T len a))) (fun u m2 f rs r2 => Or.inl ⟨u, f, rs, r2⟩) (fun u => Or.inr ⟨u, rfl⟩)) (fun m1 hm1 => ?_)
  rcases hm1 with ⟨u1, f1, s1, r1⟩ | ⟨u1, e1⟩
  rotate_left
  · have fs : FS m1 := by rw [e1]; exact bl_fs m (by decide) _
    have r1 : Refs m1 := by rw [e1]; exact bl_refs r _ _
    have b1 : IB m1 B I l := by rw [e1]; exact ib_bl _ _ hb
    obtain ⟨g1, g2, g3, g4, g5⟩ := ib_w r1 b1
    refine wp_b g1 ?_
    refine wp_b g3 ?_
    refine wp_b g4 ?_
    refine wp_b (m_numberF fs _ _) ?_
    refine wp_b g2 ?_
    refine wp_b g3 ?_
    refine wp_b g5 ?_
    refine wp_b (m_lookedF fs _ _) ?_
    refine m_cellEnd hN r1 b1 z 0 0 free fs (no 1 (tkQ T len a) 0 a ?_ (by decide) 0 m1 ⟨m, ahf_refl m, e1⟩)
    unfold spP
    rw [if_pos (show ¬kdP T len a = (2, 2) from fun v => u1 (own.mp v))]
  have n1 : ¬¬kdP T len a = (2, 2) := fun v => v (own.mpr u1)
  have b1 := ib_ah f1 hb
  obtain ⟨g1, g2, g3, g4, g5⟩ := ib_w r1 b1
  refine wp_b g1 ?_
  refine wp_b g3 ?_
  refine wp_b g4 ?_
  rw [wI_of2 (x := I 0 0 - 1) (by omega) (by omega)]
  refine wp_bw (m_number hN r1 s1 0 (I 0 0 - 1) (Q := fun p => (isNm T len (nx T len a) ∧ (0 ≤ rvl T len (nx T len a) ∧ rvl T len (nx T len a) ≤ I 0 0 - 1) ∧ AhF m1 p.2 ∧ RS p.2 T len (nx T len (nx T len a)) ∧ Refs p.2 ∧ p.1 = rvl T len (nx T len a)) ∨ (isNm T len (nx T len a) ∧ ¬(0 ≤ rvl T len (nx T len a) ∧ rvl T len (nx T len a) ≤ I 0 0 - 1) ∧ p = (0, Bl m1 4 ((nx T len a : Nat) : Int))) ∨ (¬isNm T len (nx T len a) ∧ p = (0, Bl m1 1 (tkQ T len (nx T len a))))) (fun a1 a2 a3 m2 f d rr => Or.inl ⟨a1, ⟨a2, a3⟩, f, d, rr, rfl⟩) (fun a1 a2 => Or.inr (Or.inl ⟨a1, a2, rfl⟩)) (fun a1 => Or.inr (Or.inr ⟨a1, rfl⟩))) (fun p5 hp5 => ?_)
  have late : ∀ f p : Int, 0 < f → p5 = (0, Bl m1 f p) → (spP T len (I 0 0) (I 1 0) (fun c => if free = 0 then 0 else cont I l c) a = (f, p, 0, a)) → Wp ((getR 11 15 264 p5.2).bind fun t6 => (getI 11 40 264 p5.2).bind fun t7 => (aldI t6 t7 p5.2).bind fun t8 => (X11_looked 264 0 (wI (t8 - 1)) p5.2).bind fun p9 => (getR 11 14 264 p9.2).bind fun t10 => (getI 11 40 264 p9.2).bind fun t11 => (aldI t10 t11 p9.2).bind fun t12 => (getI 11 8 264 p9.2).bind fun t13 => if t13 ≤ 0 then (if free = 0 then X11_cellAt_J83 N 264 (wI (wI (p9.1 * t12) + p5.1)) p9.2 else (X11_isFreeTold N 264 (wI (wI (p9.1 * t12) + p5.1)) p9.2).bind fun p17 => if ¬p17 = 0 then X11_cellAt_J83 N 264 (wI (wI (p9.1 * t12) + p5.1)) p9.2 else (getI 11 4 264 p9.2).bind fun t18 => (X11_blame 264 4 t18 p9.2).bind fun p19 => X11_cellAt_J83 N 264 (wI (wI (p9.1 * t12) + p5.1)) p19) else some (0, p9.2)) Q := fun f p hf e sp => by
    subst e
    have fs : FS (Bl m1 f p) := bl_fs m1 hf _
    have b2 := ib_bl f p b1
    obtain ⟨g1, g2, g3, g4, g5⟩ := ib_w (bl_refs r1 f p) b2
    refine wp_b g2 ?_
    refine wp_b g3 ?_
    refine wp_b g5 ?_
    refine wp_b (m_lookedF fs _ _) ?_
    exact m_cellEnd hN (bl_refs r1 f p) b2 z 0 0 free fs (no f p 0 a sp (by omega) 0 _ ⟨m1, f1, rfl⟩)
  rcases hp5 with ⟨u2, v2, f2, s2, r2, e2⟩ | ⟨u2, v2, e2⟩ | ⟨u2, e2⟩
  rotate_left
  · refine late 4 _ (by decide) e2 ?_
    unfold spP
    rw [if_neg n1, if_neg (fun v => v u2), if_pos v2]
  · refine late 1 _ (by decide) e2 ?_
    unfold spP
    rw [if_neg n1, if_pos u2]
  have n2 : ¬¬isNm T len (nx T len a) := fun v => v u2
  have n3 : ¬¬(0 ≤ rvl T len (nx T len a) ∧ rvl T len (nx T len a) ≤ I 0 0 - 1) := fun v => v v2
  obtain ⟨b, hbb⟩ : ∃ b, b = nx T len (nx T len a) := ⟨_, rfl⟩
  rw [← hbb] at s2
  have b2 := ib_ah f2 b1
  obtain ⟨k1, k2, k3, k4, k5⟩ := ib_w r2 b2
  have f12 := ahf_trans f1 f2
  rw [e2]
  refine wp_b k2 ?_
  refine wp_b k3 ?_
  refine wp_b k5 ?_
  rw [wI_of2 (x := I 1 0 - 1) (by omega) (by omega)]
  refine wp_bw (m_looked s2 0 (I 1 0 - 1) (Q := fun p => (isNm T len b ∧ (0 ≤ rvl T len b ∧ rvl T len b ≤ I 1 0 - 1) ∧ p = (rvl T len b, p5.2)) ∨ (isNm T len b ∧ ¬(0 ≤ rvl T len b ∧ rvl T len b ≤ I 1 0 - 1) ∧ p = (0, Bl p5.2 4 (b : Int))) ∨ (¬isNm T len b ∧ p = (0, Bl p5.2 1 (tkQ T len b)))) (fun a1 a2 a3 => Or.inl ⟨a1, ⟨a2, a3⟩, rfl⟩) (fun a1 a2 => Or.inr (Or.inl ⟨a1, a2, rfl⟩)) (fun a1 => Or.inr (Or.inr ⟨a1, rfl⟩))) (fun p9 hp9 => ?_)
  rcases hp9 with ⟨u3, v3, e3⟩ | ⟨u3, v3, e3⟩ | ⟨u3, e3⟩
  rotate_left
  · subst e3
    refine m_cellEnd hN (bl_refs r2 _ _) (ib_bl _ _ b2) z _ _ free (bl_fs p5.2 (by decide) _) (no 4 (b : Int) 0 a ?_ (by decide) 0 _ ⟨p5.2, f12, rfl⟩)
    unfold spP
    rw [if_neg n1, if_neg n2, if_neg n3, ← hbb, if_neg (fun v => v u3), if_pos v3]
  · subst e3
    refine m_cellEnd hN (bl_refs r2 _ _) (ib_bl _ _ b2) z _ _ free (bl_fs p5.2 (by decide) _) (no 1 (tkQ T len b) 0 a ?_ (by decide) 0 _ ⟨p5.2, f12, rfl⟩)
    unfold spP
    rw [if_neg n1, if_neg n2, if_neg n3, ← hbb, if_pos u3]
  have n4 : ¬¬isNm T len b := fun v => v u3
  have n5 : ¬¬(0 ≤ rvl T len b ∧ rvl T len b ≤ I 1 0 - 1) := fun v => v v3
  subst e3
  refine wp_b k1 ?_
  refine wp_b k3 ?_
  refine wp_b k4 ?_
  refine wp_b (g264 (by decide)) ?_
  show Wp (if p5.2 264 8 ≤ 0 then _ else _) Q
  rw [s2.2.1, if_pos (by decide)]
  obtain ⟨c, hc⟩ : ∃ c, c = rvl T len b * I 0 0 + rvl T len (nx T len a) := ⟨_, rfl⟩
  have cb := cell_in (I := I) (x := rvl T len (nx T len a)) (y := rvl T len b) (by omega) (by omega) (by omega) (by omega)
  have yb : 0 ≤ rvl T len b * I 0 0 := Int.mul_nonneg v3.1 (by omega)
  show Wp (if free = 0 then X11_cellAt_J83 N 264 (wI (wI (rvl T len b * I 0 0) + rvl T len (nx T len a))) p5.2 else _) Q
  rw [wI_of2 (x := rvl T len b * I 0 0) (by omega) (by omega), wI_of2 (x := rvl T len b * I 0 0 + rvl T len (nx T len a)) (by omega) (by omega), ← hc]
  have good : (if free = 0 then 0 else cont I l c) = 0 → Wp (X11_cellAt_J83 N 264 c p5.2) Q := fun g => by
    unfold X11_cellAt_J83
    refine wp_b (g264 (by decide)) ?_
    rw [s2.2.1, if_neg (fun v => v rfl)]
    obtain ⟨m3, e, f3, s3, r3⟩ := m_goN hN r2 s2 (rs_end s2 (by have := u3.2; omega))
    refine wp_b e ?_
    refine wp_some (y c (nx T len b) ?_ m3 (ahf_trans f12 f3) s3 r3)
    unfold spP
    rw [if_neg n1, if_neg n2, if_neg n3, ← hbb, if_neg n4, if_neg n5, ← hc, if_neg (fun v => v g)]
  by_cases q : free = 0
  · rw [if_pos q]
    exact good (if_pos q)
  · rw [if_neg q]
    refine wp_b (m_isFreeT hN r2 b2 n (c := c) (by omega) (by omega)) ?_
    have fc := frT_cont (I := I) (l := l) (c := c) (by omega) (by omega)
    by_cases q2 : frT I l c
    · rw [← bi_t q2, if_pos (by decide)]
      exact good (by rw [if_neg q]; exact fc.mpr q2)
    · rw [← bi_f q2, if_neg (fun v => v rfl)]
      refine wp_b (g264 (by decide)) ?_
      rw [s2.1.1]
      refine wp_b (m_blame0 s2.2.1 _ _) ?_
      unfold X11_cellAt_J83
      have fs := bl_fs p5.2 (k := 4) (by decide) (b : Int)
      refine wp_b (g264 (by decide)) ?_
      rw [if_pos (by unfold FS at fs; omega)]
      refine wp_some (no 4 (b : Int) 0 a ?_ (by decide) c _ ⟨p5.2, f12, rfl⟩)
      unfold spP
      rw [if_neg n1, if_neg n2, if_neg n3, ← hbb, if_neg n4, if_neg n5, ← hc, if_pos (show ¬(if free = 0 then 0 else cont I l c) = 0 from by rw [if_neg q]; exact fun v => q2 (fc.mp v))]
