/-! both begin to read -/
variable {T : Nat → Int} {len K D B : Nat} {m0 n0 : Mem}
/-- a cleared draft -/
def Clr (m : Mem) (D : Nat) : Prop := (m D 6 = 0 ∧ m D 9 = 0 ∧ m D 12 = 0 ∧ m D 17 = 0 ∧ m D 18 = 0 ∧ m D 19 = 5) ∧ (∀ j, j < 42 → m (D + 10) j = 0 ∧ m (D + 11) j = 0 ∧ m (D + 13) j = 0) ∧ (∀ j, j < 10 → m (D + 14) j = 0) ∧ (∀ j, j < 5 → m (D + 15) j = 0) ∧ (∀ j, j < 13 → m (D + 22) j = 0) ∧ m (D + 12) 3 = 0 ∧ m (D + 23) 1 = 0 ∧ m (D + 25) 0 = 0 ∧ m (D + 25) 1 = 0 ∧ m (D + 26) 0 = 0 ∧ m (D + 26) 1 = 0
theorem clr_D0 : ∀ j, j < 20 → (j == 0 || j == 1 || j == 6 || j == 9 || j == 12 || j == 17 || j == 18 || j == 19) = true → isRef 11 j = false ∧ isRef 40 j = false := by decide +kernel
theorem clr_D1 (hD : D = 11 ∨ D = 40) : isLd (D + 12) = true ∧ (D + 23 = 34 ∨ D + 23 = 63) := by
  rcases hD with e | e <;> subst e <;> decide +kernel
theorem clr_D2 (hD : D = 11 ∨ D = 40) : isRef D 0 = false ∧ isRef (D + 12) 3 = false ∧ isRef (D + 23) 1 = false := by
  rcases hD with e | e <;> subst e <;> decide +kernel
theorem x_clear {N : Nat} (hN : 2000 ≤ N) {m : Mem} (r : Refs m) (hD : D = 11 ∨ D = 40) : ∃ m2, X5_clear N D m = some m2 ∧ Refs m2 ∧ Clr m2 D ∧ ∀ b, ¬(D ≤ b ∧ b ≤ D + 28) → m2 b = m b := by
  obtain ⟨hl, hS1⟩ := clr_D1 hD
  obtain ⟨rD0, rL, rS1⟩ := clr_D2 hD
  have rD : ∀ j, j < 20 → (j == 0 || j == 1 || j == 6 || j == 9 || j == 12 || j == 17 || j == 18 || j == 19) = true → isRef D j = false := fun j h1 h2 => by
    have := clr_D0 j h1 h2
    rcases hD with e | e <;> subst e
    · exact this.1
    · exact this.2
  have pS : ∀ k, k < 20 → (rln k != 0) = true → shK (D + ofs k) = 1 ∧ shN (D + ofs k) = rln k ∧ 3 ≤ D + ofs k := fun k hk c => by
    have q := pd_Sc D (by omega) (by rcases hD with e | e <;> subst e <;> decide) k hk c
    simp only [Bool.and_eq_true, beq_iff_eq, decide_eq_true_eq] at q
    exact ⟨q.1.1, q.1.2, q.2⟩
  obtain ⟨a1, a2, a3⟩ := pS 3 (by decide) (by decide)
  obtain ⟨b1, b2, b3⟩ := pS 4 (by decide) (by decide)
  obtain ⟨c1, c2, c3⟩ := pS 15 (by decide) (by decide)
  obtain ⟨l1, l2⟩ := ld_S hl (k := 0) (by decide)
  obtain ⟨l3, l4⟩ := ld_S hl (k := 1) (by decide)
  obtain ⟨l5, l6⟩ := ld_S hl (k := 2) (by decide)
  obtain ⟨d1, d2, _, _, _, _, ⟨d7, d8⟩, d9, d10⟩ := sd_c hS1
  obtain ⟨x1, hx1⟩ : ∃ x, x = up (up m D 0 0) D 1 0 := ⟨_, rfl⟩
  have r1 : Refs x1 := by rw [hx1]; exact refs_up (refs_up r rD0 _) (rD 1 (by decide) (by decide)) _
  obtain ⟨x2, hx2⟩ : ∃ x, x = setA x1 (D + 10) (fun j => if j < 42 then 0 else x1 (D + 10) j) := ⟨_, rfl⟩
  have r2 : Refs x2 := by rw [hx2]; exact refs_set r1 (Or.inl a1) _
  obtain ⟨x3, hx3⟩ : ∃ x, x = setA x2 (D + 11) (fun j => if j < 42 then 0 else x2 (D + 11) j) := ⟨_, rfl⟩
  have r3 : Refs x3 := by rw [hx3]; exact refs_set r2 (Or.inl b1) _
  obtain ⟨x4, hx4⟩ : ∃ x, x = setA x3 (D + 13) (fun j => if j < 42 then 0 else x3 (D + 13) j) := ⟨_, rfl⟩
  have r4 : Refs x4 := by rw [hx4]; exact refs_set r3 (Or.inl l1) _
  obtain ⟨x5, hx5⟩ : ∃ x, x = setA x4 (D + 14) (fun j => if j < 10 then 0 else x4 (D + 14) j) := ⟨_, rfl⟩
  have r5 : Refs x5 := by rw [hx5]; exact refs_set r4 (Or.inl l3) _
  obtain ⟨x6, hx6⟩ : ∃ x, x = setA x5 (D + 15) (fun j => if j < 5 then 0 else x5 (D + 15) j) := ⟨_, rfl⟩
  have r6 : Refs x6 := by rw [hx6]; exact refs_set r5 (Or.inl l5) _
  obtain ⟨x7, hx7⟩ : ∃ x, x = up x6 (D + 12) 3 0 := ⟨_, rfl⟩
  have r7 : Refs x7 := by rw [hx7]; exact refs_up r6 rL _
  obtain ⟨x8, hx8⟩ : ∃ x, x = up (up (up x7 D 6 0) D 9 0) D 12 0 := ⟨_, rfl⟩
  have r8 : Refs x8 := by rw [hx8]; exact refs_up (refs_up (refs_up r7 (rD 6 (by decide) (by decide)) _) (rD 9 (by decide) (by decide)) _) (rD 12 (by decide) (by decide)) _
  obtain ⟨x9, hx9⟩ : ∃ x, x = setA x8 (D + 22) (fun j => if j < 13 then 0 else x8 (D + 22) j) := ⟨_, rfl⟩
  have r9 : Refs x9 := by rw [hx9]; exact refs_set r8 (Or.inl c1) _
  obtain ⟨z1, hz1⟩ : ∃ x, x = up x9 (D + 23) 1 0 := ⟨_, rfl⟩
  have q1 : Refs z1 := by rw [hz1]; exact refs_up r9 rS1 _
  obtain ⟨z2, hz2⟩ : ∃ x, x = setA z1 (D + 23 + 2) (fun j => if j < 2 then 0 else z1 (D + 23 + 2) j) := ⟨_, rfl⟩
  have q2 : Refs z2 := by rw [hz2]; exact refs_set q1 (Or.inl d7) _
  obtain ⟨y1, hy1⟩ : ∃ x, x = setA z2 (D + 23 + 3) (fun j => if j < 2 then 0 else z2 (D + 23 + 3) j) := ⟨_, rfl⟩
  have s1 : Refs y1 := by rw [hy1]; exact refs_set q2 (Or.inl d9) _
  have gi : X7_clear N (D + 23) x9 = some y1 := by
    refine wp_eq ?_
    unfold X7_clear
    refine wp_k d1 ?_
    refine wp_b (show putI 7 1 (D + 23) 0 x9 = some z1 from by rw [hz1]; exact if_pos ⟨d1, by omega⟩) ?_
    refine wp_b (sd_R q1 hS1).2.2.1 ?_
    refine wp_b (x_fill (n := 2) d7 d8 (by omega) (by omega) (by decide) 0 z1) ?_
    rw [← hz2]
    refine wp_b (sd_R q2 hS1).2.2.2 ?_
    refine wp_b (x_fill (n := 2) d9 d10 (by omega) (by omega) (by decide) 0 z2) ?_
    rw [← hy1]
    exact wp_some rfl
  obtain ⟨y2, hy2⟩ : ∃ x, x = up (up (up y1 D 17 0) D 18 0) D 19 5 := ⟨_, rfl⟩
  have s2 : Refs y2 := by rw [hy2]; exact refs_up (refs_up (refs_up s1 (rD 17 (by decide) (by decide)) _) (rD 18 (by decide) (by decide)) _) (rD 19 (by decide) (by decide)) _
  refine ⟨y2, ?_, s2, ⟨⟨?_, ?_, ?_, ?_, ?_, ?_⟩, fun j hj => ⟨?_, ?_, ?_⟩, fun j hj => ?_, fun j hj => ?_, fun j hj => ?_, ?_, ?_, ?_⟩, fun b hb => ?_⟩
  · refine wp_eq ?_
    unfold X5_clear
    refine wp_k (pl_c hD).1 ?_
    refine wp_b (pl_p hD (by decide) _ _) ?_
    refine wp_b (pl_p hD (by decide) _ _) ?_
    rw [← hx1]
    refine wp_b (pl_R r1 hD (k := 3) (by decide)) ?_
    refine wp_b (x_fill (n := 42) a1 a2 a3 (by omega) (by decide) 0 x1) ?_
    rw [show setA x1 (D + ofs 3) (fun j => if j < 42 then (0 : Int) else x1 (D + ofs 3) j) = x2 from hx2.symm]
    refine wp_b (pl_R r2 hD (k := 4) (by decide)) ?_
    refine wp_b (x_fill (n := 42) b1 b2 b3 (by omega) (by decide) 0 x2) ?_
    rw [show setA x2 (D + ofs 4) (fun j => if j < 42 then (0 : Int) else x2 (D + ofs 4) j) = x3 from hx3.symm]
    refine wp_b (show getR 5 5 D x3 = some (D + 12) from pl_R r3 hD (k := 5) (by decide)) ?_
    have lc : X1_clear N (D + 12) x3 = some x7 := by
      refine wp_eq ?_
      unfold X1_clear
      refine wp_k (by have := (ld_c (D + 12) (isLd_lt hl) hl).1; simp only [Bool.and_eq_true, beq_iff_eq] at this; exact this.1) ?_
      refine wp_b (ld_R2 r3 hl (k := 0) (by decide)) ?_
      refine wp_b (x_fill (n := 42) l1 l2 (by omega) (by omega) (by decide) 0 x3) ?_
      rw [show setA x3 (D + 12 + 1 + 0) (fun j => if j < 42 then (0 : Int) else x3 (D + 12 + 1 + 0) j) = x4 from hx4.symm]
      refine wp_b (ld_R2 r4 hl (k := 1) (by decide)) ?_
      refine wp_b (x_fill (n := 10) l3 l4 (by omega) (by omega) (by decide) 0 x4) ?_
      rw [show setA x4 (D + 12 + 1 + 1) (fun j => if j < 10 then (0 : Int) else x4 (D + 12 + 1 + 1) j) = x5 from hx5.symm]
      refine wp_b (ld_R2 r5 hl (k := 2) (by decide)) ?_
      refine wp_b (x_fill (n := 5) l5 l6 (by omega) (by omega) (by decide) 0 x5) ?_
      rw [show setA x5 (D + 12 + 1 + 2) (fun j => if j < 5 then (0 : Int) else x5 (D + 12 + 1 + 2) j) = x6 from hx6.symm]
      refine wp_b (ld_P hl 0 x6) ?_
      rw [← hx7]
      exact wp_some rfl
    refine wp_b lc ?_
    refine wp_b (pl_p hD (by decide) _ _) ?_
    refine wp_b (pl_p hD (by decide) _ _) ?_
    refine wp_b (pl_p hD (by decide) _ _) ?_
    rw [← hx8]
    refine wp_b (pl_R r8 hD (k := 15) (by decide)) ?_
    refine wp_b (x_fill (n := 13) c1 c2 c3 (by omega) (by decide) 0 x8) ?_
    rw [show setA x8 (D + ofs 15) (fun j => if j < 13 then (0 : Int) else x8 (D + ofs 15) j) = x9 from hx9.symm]
    refine wp_b (show getR 5 16 D x9 = some (D + 23) from pl_R r9 hD (k := 16) (by decide)) ?_
    refine wp_b gi ?_
    refine wp_b (pl_p hD (by decide) _ _) ?_
    refine wp_b (pl_p hD (by decide) _ _) ?_
    refine wp_b (pl_p hD (by decide) _ _) ?_
    rw [← hy2]
    exact wp_some rfl
  · rw [hy2, up_slot (by decide), up_slot (by decide), up_slot (by decide), hy1, setA_ne (by omega), hz2, setA_ne (by omega), hz1, up_ne (by omega), hx9, setA_ne (by omega), hx8, up_slot (by decide), up_slot (by decide), up_same]
  · rw [hy2, up_slot (by decide), up_slot (by decide), up_slot (by decide), hy1, setA_ne (by omega), hz2, setA_ne (by omega), hz1, up_ne (by omega), hx9, setA_ne (by omega), hx8, up_slot (by decide), up_same]
  · rw [hy2, up_slot (by decide), up_slot (by decide), up_slot (by decide), hy1, setA_ne (by omega), hz2, setA_ne (by omega), hz1, up_ne (by omega), hx9, setA_ne (by omega), hx8, up_same]
  · rw [hy2, up_slot (by decide), up_slot (by decide), up_same]
  · rw [hy2, up_slot (by decide), up_same]
  · rw [hy2, up_same]
  · rw [hy2, up_ne (by omega), up_ne (by omega), up_ne (by omega), hy1, setA_ne (by omega), hz2, setA_ne (by omega), hz1, up_ne (by omega), hx9, setA_ne (by omega), hx8, up_ne (by omega), up_ne (by omega), up_ne (by omega), hx7, up_ne (by omega), hx6, setA_ne (by omega), hx5, setA_ne (by omega), hx4, setA_ne (by omega), hx3, setA_ne (by omega), hx2, setA_same, if_pos hj]
  · rw [hy2, up_ne (by omega), up_ne (by omega), up_ne (by omega), hy1, setA_ne (by omega), hz2, setA_ne (by omega), hz1, up_ne (by omega), hx9, setA_ne (by omega), hx8, up_ne (by omega), up_ne (by omega), up_ne (by omega), hx7, up_ne (by omega), hx6, setA_ne (by omega), hx5, setA_ne (by omega), hx4, setA_ne (by omega), hx3, setA_same, if_pos hj]
  · rw [hy2, up_ne (by omega), up_ne (by omega), up_ne (by omega), hy1, setA_ne (by omega), hz2, setA_ne (by omega), hz1, up_ne (by omega), hx9, setA_ne (by omega), hx8, up_ne (by omega), up_ne (by omega), up_ne (by omega), hx7, up_ne (by omega), hx6, setA_ne (by omega), hx5, setA_ne (by omega), hx4, setA_same, if_pos hj]
  · rw [hy2, up_ne (by omega), up_ne (by omega), up_ne (by omega), hy1, setA_ne (by omega), hz2, setA_ne (by omega), hz1, up_ne (by omega), hx9, setA_ne (by omega), hx8, up_ne (by omega), up_ne (by omega), up_ne (by omega), hx7, up_ne (by omega), hx6, setA_ne (by omega), hx5, setA_same, if_pos hj]
  · rw [hy2, up_ne (by omega), up_ne (by omega), up_ne (by omega), hy1, setA_ne (by omega), hz2, setA_ne (by omega), hz1, up_ne (by omega), hx9, setA_ne (by omega), hx8, up_ne (by omega), up_ne (by omega), up_ne (by omega), hx7, up_ne (by omega), hx6, setA_same, if_pos hj]
  · rw [hy2, up_ne (by omega), up_ne (by omega), up_ne (by omega), hy1, setA_ne (by omega), hz2, setA_ne (by omega), hz1, up_ne (by omega), hx9, setA_same, if_pos hj]
  · rw [hy2, up_ne (by omega), up_ne (by omega), up_ne (by omega), hy1, setA_ne (by omega), hz2, setA_ne (by omega), hz1, up_ne (by omega), hx9, setA_ne (by omega), hx8, up_ne (by omega), up_ne (by omega), up_ne (by omega), hx7, up_same]
  · rw [hy2, up_ne (by omega), up_ne (by omega), up_ne (by omega), hy1, setA_ne (by omega), hz2, setA_ne (by omega), hz1, up_same]
  · have e25 : y2 (D + 25) = z2 (D + 25) := by rw [hy2, up_ne (by omega), up_ne (by omega), up_ne (by omega), hy1, setA_ne (by omega)]
    have e26 : y2 (D + 26) = y1 (D + 26) := by rw [hy2, up_ne (by omega), up_ne (by omega), up_ne (by omega)]
    rw [e25, e26, show D + 25 = D + 23 + 2 from rfl, show D + 26 = D + 23 + 3 from rfl, hz2, hy1, setA_same, setA_same]
    exact ⟨rfl, rfl, rfl, rfl⟩
  · rw [hy2, up_ne (by omega), up_ne (by omega), up_ne (by omega), hy1, setA_ne (by omega), hz2, setA_ne (by omega), hz1, up_ne (by omega), hx9, setA_ne (by omega), hx8, up_ne (by omega), up_ne (by omega), up_ne (by omega), hx7, up_ne (by omega), hx6, setA_ne (by omega), hx5, setA_ne (by omega), hx4, setA_ne (by omega), hx3, setA_ne (by omega), hx2, setA_ne (by omega), hx1, up_ne (by omega), up_ne (by omega)]
/-- the class ahead of the first sign -/
theorem x_begin {N : Nat} (hN : 2000 ≤ N) {m : Mem} (r : Refs m) (ks : Kst m) (hD : D = 11 ∨ D = 40) {len : Nat} (hl : len ≤ 1600) (hb : ∀ j : Nat, j < len → 0 ≤ m 4 j ∧ m 4 j ≤ 255) {Q : Int × Mem → Prop} (h : ∀ (K : Nat) (m2 : Mem), Refs m2 → RP m2 (m 4) len K (sk (m 4) len 0) → Clr m2 D → CFr D m m2 → m2 5 9 = 0 → m2 5 10 = -1 → m2 5 11 = 0 → Wp ((X6_size N 5 D m2).bind fun p8 => if p8.1 = 0 then X6_read_J53 N 5 D p8.2 else (X6_close 5 p8.2).bind fun p20 => if p20.1 = 0 then X6_read_J53 N 5 D p20.2 else X6_read_J54 N 5 D 1 p20.2) Q) : Wp (X6_read N 5 4 (len : Int) D m) Q := by
  unfold X6_read
  refine wp_k k5r ?_
  refine wp_b (rc r 6 (by decide +kernel)) ?_
  obtain ⟨m1, K, e1, r1, cu, wd⟩ := x_cut hN r ks hl hb
  refine wp_b e1 ?_
  obtain ⟨m2, e2, r2, cl, o2⟩ := x_clear hN r1 hD
  refine wp_b e2 ?_
  refine wp_b (ptI (by decide +kernel) _ _) ?_
  refine wp_b (ptI (by decide +kernel) _ _) ?_
  refine wp_b (ptI (by decide +kernel) _ _) ?_
  obtain ⟨m3, hm3⟩ : ∃ m3, m3 = up (up (up m2 5 9 0) 5 10 (-1)) 5 11 0 := ⟨_, rfl⟩
  rw [← hm3]
  have f3 : ReF (fun j => 9 ≤ j ∧ j ≤ 11) m2 m3 := by rw [hm3]; exact ref_up (ref_up (ref_up (ref_refl _ _) (by omega) _) (by omega) _) (by omega) _
  have r3 := ref_refs (fun j h => by omega) f3 r2
  have wd2 : WD m2 (m 4) len K := by
    unfold WD WDs at wd ⊢
    rw [o2 6 (by omega), o2 8 (by omega)]
    exact wd
  have wd3 := wd_ref f3 wd2
  obtain ⟨m4, e4, d4, f4⟩ := x_goTo r3 wd3 (i := 0) (show 0 < K from wd2.2.1) (x := 0) rfl
  refine wp_b e4 ?_
  have v9 : m3 5 9 = 0 := by rw [hm3, up_slot (by decide), up_slot (by decide), up_same]
  have v10 : m3 5 10 = -1 := by rw [hm3, up_slot (by decide), up_same]
  have v11 : m3 5 11 = 0 := by rw [hm3, up_same]
  refine h K m4 (ref_refs (fun j h => by omega) f4 r3) ⟨0, d4, rfl, rfl, by rw [f4.2 9 (by omega), f4.2 10 (by omega)]; exact ⟨v9, v10⟩⟩ ?_ ?_ (by rw [f4.2 9 (by omega)]; exact v9) (by rw [f4.2 10 (by omega)]; exact v10) (by rw [f4.2 11 (by omega)]; exact v11)
  · have o4 : ∀ b, D ≤ b → m4 b = m2 b := fun b hb => by rw [f4.1 b (by omega), f3.1 b (by omega)]
    unfold Clr at cl ⊢
    rw [o4 D (by omega), o4 (D + 10) (by omega), o4 (D + 11) (by omega), o4 (D + 13) (by omega), o4 (D + 14) (by omega), o4 (D + 15) (by omega), o4 (D + 22) (by omega), o4 (D + 12) (by omega), o4 (D + 23) (by omega), o4 (D + 25) (by omega), o4 (D + 26) (by omega)]
    exact cl
  · intro a j h1 h2 h3 h4
    by_cases q : a = 5
    · rw [q, f4.2 j (fun u => h1 ⟨q, by omega⟩), f3.2 j (fun u => h1 ⟨q, by omega⟩), o2 5 (by omega)]
      exact cu 5 j (by omega) (by omega)
    · rw [f4.1 a q, f3.1 a q, o2 a h4]
      exact cu a j h2 (by omega)
