/-! the class reads: its first steps -/
def RD (m : Mem) (T : Nat → Int) (len K i : Nat) : Prop := WD m T len K ∧ i < K ∧ m 5 1 = (i : Int) ∧ m 5 2 = (kdA T len i).1 ∧ m 5 3 = ((posA T len i : Nat) : Int) ∧ m 5 4 = (kdA T len i).2
def ReF (J : Nat → Prop) (m m2 : Mem) : Prop := (∀ a, ¬a = 5 → m2 a = m a) ∧ ∀ j, ¬J j → m2 5 j = m 5 j
abbrev J14 (j : Nat) : Prop := 1 ≤ j ∧ j ≤ 4
abbrev J16 (j : Nat) : Prop := 1 ≤ j ∧ j ≤ 6
abbrev J90 (j : Nat) : Prop := j = 9 ∨ j = 10
abbrev JA (j : Nat) : Prop := 1 ≤ j ∧ j ≤ 10
theorem ref_refl (J : Nat → Prop) (m : Mem) : ReF J m m := ⟨fun _ _ => rfl, fun _ _ => rfl⟩
theorem ref_up {J : Nat → Prop} {m m2 : Mem} (h : ReF J m m2) {j : Nat} (hj : J j) (v : Int) : ReF J m (up m2 5 j v) := ⟨fun a ha => by rw [up_setA, setA_ne ha]; exact h.1 a ha, fun i hi => by rw [up_at, if_neg (fun u => hi (by rw [u]; exact hj))]; exact h.2 i hi⟩
theorem ref_mono {J J2 : Nat → Prop} {m m2 : Mem} (h : ReF J m m2) (s : ∀ j, J j → J2 j) : ReF J2 m m2 := ⟨h.1, fun j hj => h.2 j (fun u => hj (s j u))⟩
theorem ref_trans {J J2 J3 : Nat → Prop} {m m2 m3 : Mem} (h : ReF J m m2) (g : ReF J2 m2 m3) (s : ∀ j, J j → J3 j) (s2 : ∀ j, J2 j → J3 j) : ReF J3 m m3 := ⟨fun a ha => by rw [g.1 a ha, h.1 a ha], fun j hj => by rw [g.2 j (fun u => hj (s2 j u)), h.2 j (fun u => hj (s j u))]⟩
theorem ref5_c : ∀ j, j < 12 → 1 ≤ j → isRef 5 j = false := by decide +kernel
theorem ref_refs {J : Nat → Prop} (hJ : ∀ j, J j → 1 ≤ j ∧ j ≤ 11) {m m2 : Mem} (h : ReF J m m2) (r : Refs m) : Refs m2 := refs_of r fun a j hk => by
  by_cases q : a = 5
  · rw [q] at hk ⊢
    refine h.2 j fun u => ?_
    have := hJ j u
    rw [ref5_c j (by omega) this.1] at hk
    exact absurd hk (by decide)
  · rw [h.1 a q]
theorem wd_ref {J : Nat → Prop} {m m2 : Mem} {T : Nat → Int} {len K : Nat} (h : ReF J m m2) (w : WD m T len K) : WD m2 T len K := by
  obtain ⟨w1, w2, w3, w4, w5, w6, w7⟩ := w
  exact ⟨by rw [h.1 6 (by decide)]; exact w1, w2, w3, fun i hi => by rw [h.1 8 (by decide)]; exact w4 i hi, w5, w6, w7⟩
/-- the class's reader has gone to the sign i -/
theorem k5r : shK 5 = 6 + 10 := by decide +kernel
theorem x_goTo {m : Mem} (r : Refs m) {T : Nat → Int} {len K i : Nat} (w : WD m T len K) (hi : i < K) {x : Int} (hx : x = (i : Int)) : ∃ m2, X6_goTo 5 x m = some (1, m2) ∧ RD m2 T len K i ∧ ReF J14 m m2 := by
  subst hx
  have w3 := w.2.2.1
  have g5 : ∀ {mm : Mem}, Refs mm → getR 6 0 5 mm = some 6 := fun rr => rc rr 6 (by decide +kernel)
  have f1 : ReF J14 m (up m 5 1 (i : Int)) := ref_up (ref_refl _ m) (by omega) _
  obtain ⟨m1, hm1⟩ : ∃ m1, m1 = up m 5 1 (i : Int) := ⟨_, rfl⟩
  rw [← hm1] at f1
  obtain ⟨e8, ok⟩ := w.2.2.2.1 i hi
  obtain ⟨m2, hm2⟩ : ∃ m2, m2 = up m1 5 2 (kdA T len i).1 := ⟨_, rfl⟩
  have f2 : ReF J14 m m2 := by rw [hm2]; exact ref_up f1 (by omega) _
  obtain ⟨m3, hm3⟩ : ∃ m3, m3 = up m2 5 3 ((posA T len i : Nat) : Int) := ⟨_, rfl⟩
  have f3 : ReF J14 m m3 := by rw [hm3]; exact ref_up f2 (by omega) _
  refine ⟨up m3 5 4 (kdA T len i).2, ?_, ⟨wd_ref (ref_up f3 (by omega) _) w, hi, ?_, ?_, ?_, up_same _ _ _ _⟩, ref_up f3 (by omega) _⟩
  · refine wp_eq ?_
    unfold X6_goTo
    refine wp_k k5r ?_
    rw [if_neg (by omega)]
    refine wp_b (g5 r) ?_
    refine wp_b (gtI (by decide +kernel) m) ?_
    rw [w.1, if_neg (by omega)]
    unfold X6_goTo_J20
    rw [if_neg (by decide)]
    refine wp_b (g5 r) ?_
    refine wp_b (rc r 8 (by decide +kernel)) ?_
    refine wp_b (arL 1601 (by decide +kernel) (by omega) (by omega) m) ?_
    rw [Int.toNat_natCast, e8]
    unfold X6_goTo_J38
    refine wp_b (ptI (by decide +kernel) _ _) ?_
    rw [← hm1, pkw_k ok, pkw_f ok, pkw_v ok]
    refine wp_b (ptI (by decide +kernel) _ _) ?_
    rw [← hm2]
    refine wp_b (ptI (by decide +kernel) _ _) ?_
    rw [← hm3]
    refine wp_b (ptI (by decide +kernel) _ _) ?_
    refine wp_b (v := 1) rfl ?_
    exact wp_some rfl
  · rw [up_slot (by decide), hm3, up_slot (by decide), hm2, up_slot (by decide), hm1, up_same]
  · rw [up_slot (by decide), hm3, up_slot (by decide), hm2, up_same]
  · rw [up_slot (by decide), hm3, up_same]
/-- where the class tells that a sign is unexpected -/
def plC (T : Nat → Int) (len i : Nat) : Int := if (kdA T len i).1 = 6 then (kdA T len i).2 else ((posA T len i : Nat) : Int)
/-- a fault is told -/
def Told (m m2 : Mem) (f p : Int) : Prop := m2 5 9 = f ∧ m2 5 10 = p ∧ ReF JA m m2
theorem x_unexpected {m : Mem} {T : Nat → Int} {len K i : Nat} (h : RD m T len K i) : ∃ m2, X6_unexpected 5 m = some (0, m2) ∧ Told m m2 1 (plC T len i) := by
  obtain ⟨w, hi, h1, h2, h3, h4⟩ := h
  refine ⟨up (up m 5 9 1) 5 10 (plC T len i), ?_, by rw [up_slot (by decide), up_same], up_same _ _ _ _, ref_up (ref_up (ref_refl _ m) (by omega) _) (by omega) _⟩
  refine wp_eq ?_
  unfold X6_unexpected
  refine wp_k k5r ?_
  refine wp_b (ptI (by decide +kernel) _ _) ?_
  refine wp_b (gtI (by decide +kernel) _) ?_
  rw [up_slot (by decide), h2]
  unfold plC X6_unexpected_J26
  by_cases q : (kdA T len i).1 = 6
  · rw [if_neg (fun u => u q), if_pos q]
    refine wp_b (gtI (by decide +kernel) _) ?_
    rw [up_slot (by decide), h4]
    refine wp_b (ptI (by decide +kernel) _ _) ?_
    refine wp_b (v := 0) rfl ?_
    exact wp_some rfl
  · rw [if_pos q, if_neg q]
    refine wp_b (gtI (by decide +kernel) _) ?_
    rw [up_slot (by decide), h3]
    refine wp_b (ptI (by decide +kernel) _ _) ?_
    refine wp_b (v := 0) rfl ?_
    exact wp_some rfl
theorem x_refuseR (m : Mem) (f p : Int) : ∃ m2, X6_refuse 5 f p m = some (0, m2) ∧ Told m m2 f p := by
  refine ⟨up (up m 5 9 f) 5 10 p, ?_, by rw [up_slot (by decide), up_same], up_same _ _ _ _, ref_up (ref_up (ref_refl _ m) (by omega) _) (by omega) _⟩
  refine wp_eq ?_
  unfold X6_refuse
  refine wp_k k5r ?_
  refine wp_b (ptI (by decide +kernel) _ _) ?_
  refine wp_b (ptI (by decide +kernel) _ _) ?_
  refine wp_b (v := 0) rfl ?_
  exact wp_some rfl
/-- behind a sign that is neither the end nor bad there is another -/
theorem rd_more {m : Mem} {T : Nat → Int} {len K i : Nat} (h : RD m T len K i) (q0 : ¬(kdA T len i).1 = 0) (q6 : ¬(kdA T len i).1 = 6) : i + 1 < K := by
  obtain ⟨w, hi, _⟩ := h
  obtain ⟨w1, w2, w3, w4, w5, w6, w7⟩ := w
  rcases Nat.lt_or_ge (i + 1) K with q | q
  · exact q
  · exfalso
    have e : i = K - 1 := by omega
    rw [← e] at w6
    rcases w6 with u | u
    · refine q0 ?_
      show (kdC T len _ (posA T len i)).1 = 0
      unfold kdC
      rw [if_pos (by omega)]
    · exact q6 u
theorem x_goNext {m : Mem} (r : Refs m) {T : Nat → Int} {len K i : Nat} (h : RD m T len K i) (q0 : ¬(kdA T len i).1 = 0) (q6 : ¬(kdA T len i).1 = 6) : ∃ m2, X6_goTo 5 (wI (m 5 1 + 1)) m = some (1, m2) ∧ RD m2 T len K (i + 1) ∧ ReF J14 m m2 := by
  have hk := rd_more h q0 q6
  have k3 := h.1.2.2.1
  exact x_goTo r h.1 hk (by rw [h.2.2.1, wI_of2 (by omega) (by omega)]; omega)
theorem x_word {m : Mem} (r : Refs m) {T : Nat → Int} {len K i : Nat} (h : RD m T len K i) (x : Int) {Q : Int × Mem → Prop} (y : kdA T len i = (2, x) → ∀ m2, RD m2 T len K (i + 1) → ReF J14 m m2 → Q (1, m2)) (no : ¬kdA T len i = (2, x) → ∀ m2, Told m m2 1 (plC T len i) → Q (0, m2)) : Wp (X6_word 5 x m) Q := by
  have h2 := h.2.2.2.1
  have h4 := h.2.2.2.2.2
  have bad : ¬kdA T len i = (2, x) → Wp (X6_word_J29 5 m) Q := fun u => by
    unfold X6_word_J29
    obtain ⟨m2, e, t⟩ := x_unexpected h
    refine wp_b e ?_
    refine wp_b (v := 0) rfl ?_
    exact wp_some (no u m2 t)
  unfold X6_word
  refine wp_k k5r ?_
  refine wp_b (gtI (by decide +kernel) _) ?_
  rw [h2]
  by_cases q : (kdA T len i).1 = 2
  · rw [if_neg (fun u => u q)]
    refine wp_b (gtI (by decide +kernel) _) ?_
    rw [h4]
    by_cases q2 : (kdA T len i).2 = x
    · rw [if_neg (fun u => u q2)]
      refine wp_b (gtI (by decide +kernel) _) ?_
      obtain ⟨m2, e, d, f⟩ := x_goNext r h (by omega) (by omega)
      refine wp_b e ?_
      refine wp_b (v := 1) rfl ?_
      exact wp_some (y (Prod.ext q q2) m2 d f)
    · rw [if_pos q2]
      exact bad (fun u => q2 (by rw [u]))
  · rw [if_pos q]
    exact bad (fun u => q (by rw [u]))
theorem x_sign {m : Mem} (r : Refs m) {T : Nat → Int} {len K i : Nat} (h : RD m T len K i) (x : Int) {Q : Int × Mem → Prop} (y : kdA T len i = (5, x) → ∀ m2, RD m2 T len K (i + 1) → ReF J14 m m2 → Q (1, m2)) (no : ¬kdA T len i = (5, x) → ∀ m2, Told m m2 1 (plC T len i) → Q (0, m2)) : Wp (X6_sign 5 x m) Q := by
  have h2 := h.2.2.2.1
  have h4 := h.2.2.2.2.2
  have bad : ¬kdA T len i = (5, x) → Wp (X6_sign_J29 5 m) Q := fun u => by
    unfold X6_sign_J29
    obtain ⟨m2, e, t⟩ := x_unexpected h
    refine wp_b e ?_
    refine wp_b (v := 0) rfl ?_
    exact wp_some (no u m2 t)
  unfold X6_sign
  refine wp_k k5r ?_
  refine wp_b (gtI (by decide +kernel) _) ?_
  rw [h2]
  by_cases q : (kdA T len i).1 = 5
  · rw [if_neg (fun u => u q)]
    refine wp_b (gtI (by decide +kernel) _) ?_
    rw [h4]
    by_cases q2 : (kdA T len i).2 = x
    · rw [if_neg (fun u => u q2)]
      refine wp_b (gtI (by decide +kernel) _) ?_
      obtain ⟨m2, e, d, f⟩ := x_goNext r h (by omega) (by omega)
      refine wp_b e ?_
      refine wp_b (v := 1) rfl ?_
      exact wp_some (y (Prod.ext q q2) m2 d f)
    · rw [if_pos q2]
      exact bad (fun u => q2 (by rw [u]))
  · rw [if_pos q]
    exact bad (fun u => q (by rw [u]))
theorem x_number {m : Mem} (r : Refs m) {T : Nat → Int} {len K i : Nat} (h : RD m T len K i) (lo hi : Int) {Q : Int × Mem → Prop} (y : (kdA T len i).1 = 1 → lo ≤ (kdA T len i).2 → (kdA T len i).2 ≤ hi → ∀ m2, RD m2 T len K (i + 1) → ReF J16 m m2 → m2 5 5 = (kdA T len i).2 → m2 5 6 = ((posA T len i : Nat) : Int) → Q (1, m2)) (out : (kdA T len i).1 = 1 → ¬(lo ≤ (kdA T len i).2 ∧ (kdA T len i).2 ≤ hi) → ∀ m2, Told m m2 4 ((posA T len i : Nat) : Int) → Q (0, m2)) (no : ¬(kdA T len i).1 = 1 → ∀ m2, Told m m2 1 (plC T len i) → Q (0, m2)) : Wp (X6_number 5 lo hi m) Q := by
  obtain ⟨w, hik, h1, h2, h3, h4⟩ := id h
  unfold X6_number
  refine wp_k k5r ?_
  refine wp_b (gtI (by decide +kernel) _) ?_
  rw [h2]
  by_cases q : (kdA T len i).1 = 1
  · rw [if_pos q]
    refine wp_b (gtI (by decide +kernel) _) ?_
    refine wp_b (ptI (by decide +kernel) _ _) ?_
    refine wp_b (gtI (by decide +kernel) _) ?_
    rw [up_slot (by decide), h3, h4]
    refine wp_b (ptI (by decide +kernel) _ _) ?_
    obtain ⟨m5, hm5⟩ : ∃ m5, m5 = up (up m 5 5 (kdA T len i).2) 5 6 ((posA T len i : Nat) : Int) := ⟨_, rfl⟩
    rw [← hm5]
    have f5 : ReF J16 m m5 := by rw [hm5]; exact ref_up (ref_up (ref_refl _ m) (by omega) _) (by omega) _
    have v5 : m5 5 5 = (kdA T len i).2 := by rw [hm5, up_slot (by decide), up_same]
    have v6 : m5 5 6 = ((posA T len i : Nat) : Int) := by rw [hm5, up_same]
    have d5 : RD m5 T len K i := ⟨wd_ref f5 w, hik, by rw [hm5, up_slot (by decide), up_slot (by decide)]; exact h1, by rw [hm5, up_slot (by decide), up_slot (by decide)]; exact h2, by rw [hm5, up_slot (by decide), up_slot (by decide)]; exact h3, by rw [hm5, up_slot (by decide), up_slot (by decide)]; exact h4⟩
    have r5 := ref_refs (fun j h => by omega) f5 r
    have bad : ¬(lo ≤ (kdA T len i).2 ∧ (kdA T len i).2 ≤ hi) → Wp (X6_number_J45 5 m5) Q := fun u => by
      unfold X6_number_J45
      refine wp_b (gtI (by decide +kernel) _) ?_
      rw [d5.2.2.2.2.1]
      obtain ⟨m6, e, t⟩ := x_refuseR m5 4 ((posA T len i : Nat) : Int)
      refine wp_b e ?_
      refine wp_b (v := 0) rfl ?_
      exact wp_some (out q u m6 ⟨t.1, t.2.1, ref_trans f5 t.2.2 (fun j h => by omega) (fun j h => h)⟩)
    refine wp_b (gtI (by decide +kernel) _) ?_
    rw [v5]
    by_cases q2 : (kdA T len i).2 < lo
    · rw [if_pos q2]
      exact bad (fun u => by omega)
    · rw [if_neg q2]
      refine wp_b (gtI (by decide +kernel) _) ?_
      rw [v5]
      by_cases q3 : (kdA T len i).2 ≤ hi
      · rw [if_pos q3]
        refine wp_b (gtI (by decide +kernel) _) ?_
        obtain ⟨m6, e, d, f⟩ := x_goNext r5 d5 (by omega) (by omega)
        refine wp_b e ?_
        refine wp_b (v := 1) rfl ?_
        exact wp_some (y q (by omega) q3 m6 d (ref_trans f5 f (fun j h => h) (fun j h => by omega)) (by rw [f.2 5 (by omega)]; exact v5) (by rw [f.2 6 (by omega)]; exact v6))
      · rw [if_neg q3]
        exact bad (fun u => q3 u.2)
  · rw [if_neg q]
    obtain ⟨m6, e, t⟩ := x_unexpected h
    refine wp_b e ?_
    refine wp_b (v := 0) rfl ?_
    exact wp_some (no q m6 t)
