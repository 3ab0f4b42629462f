/-! the reference's bank under way: whether a told cell is free -/
def IB (m : Mem) (B : Nat) (I : Isl) (l : Lnd) : Prop := (B = 0 ∨ B = 1) ∧ m 264 40 = (B : Int) ∧ m 266 B = I 0 0 ∧ m 267 B = I 1 0 ∧ m 273 B = I 6 0 ∧ m 275 B = I 9 0 ∧ (∀ c : Nat, c < 42 → m 269 (42 * B + c) = l 0 c) ∧ (∀ c : Nat, c < 42 → m 270 (42 * B + c) = I 4 c) ∧ (∀ k : Nat, k < nK I → m 274 (5 * B + k) = I 7 k) ∧ ∀ t : Nat, t < nT I → m 278 (10 * B + t) = l 1 t
abbrev frT (I : Isl) (l : Lnd) (c : Int) : Prop := ¬l 0 c = 1 ∧ ¬I 4 c = 1 ∧ fnd (I 7) c (nK I) = -1 ∧ fnd (l 1) c (nT I) = -1
theorem frT_cont {I : Isl} {l : Lnd} {c : Int} (h : 0 ≤ c ∧ c < nC I) (h2 : c < 42) : cont I l c = 0 ↔ frT I l c := by
  have e : isC I c = 1 := bi_1.mpr h
  unfold cont
  rcases hasW_1 (l := l) h.1 h2 with ⟨w, w2⟩ | ⟨w, w2⟩
  · rw [if_neg (by omega), e, if_neg (by decide)]
    by_cases q : I 4 c = 1
    · rw [if_pos q]
      exact ⟨fun u => absurd u (by decide), fun u => absurd q u.2.1⟩
    · rw [if_neg q]
      by_cases q2 : fnd (l 1) c (nT I) = -1
      · rw [if_neg (show ¬¬fnd (l 1) c (nT I) = -1 from fun u => u q2)]
        by_cases q3 : fnd (I 7) c (nK I) = -1
        · rw [if_neg (show ¬¬fnd (I 7) c (nK I) = -1 from fun u => u q3)]
          exact ⟨fun _ => ⟨w2, q, q3, q2⟩, fun _ => rfl⟩
        · rw [if_pos q3]
          exact ⟨fun u => absurd u (by decide), fun u => absurd u.2.2.1 q3⟩
      · rw [if_pos q2]
        exact ⟨fun u => absurd u (by decide), fun u => absurd u.2.2.2 q2⟩
  · rw [if_pos w]
    exact ⟨fun u => absurd u (by decide), fun u => absurd w2 u.1⟩
theorem m_isFreeT {N : Nat} (hN : 2000 ≤ N) {m : Mem} (r : Refs m) {B : Nat} {I : Isl} {l : Lnd} (h : IB m B I l) (n : Cn I) {c : Int} (c0 : 0 ≤ c) (c1 : c < 42) : X11_isFreeTold N 264 c m = some (bi (frT I l c)) := by
  obtain ⟨n1, n2, n3, n4, n5, n6⟩ := id n
  obtain ⟨hB, i40, i66, i67, i73, i75, r69, r70, r74, r78⟩ := h
  have e69 := r69 c.toNat (by omega)
  have e70 := r70 c.toNat (by omega)
  rw [Int.toNat_of_nonneg c0] at e69 e70
  refine wp_eq ?_
  unfold X11_isFreeTold
  refine wp_k k264 ?_
  refine wp_b (rc r 269 (by decide +kernel)) ?_
  refine wp_b (g264 (by decide)) ?_
  rw [i40, wI_of2 (x := 42 * (B : Int)) (by omega) (by omega), wI_of2 (x := 42 * (B : Int) + c) (by omega) (by omega)]
  refine wp_b (arI 84 (by decide +kernel) (by omega) (by omega) m) ?_
  rw [show (42 * (B : Int) + c).toNat = 42 * B + c.toNat from by omega, e69]
  by_cases q : l 0 c = 1
  · rw [if_pos q]; exact wp_z0 (bi_f fun u => u.1 q)
  · rw [if_neg q]
    refine wp_b (rc r 270 (by decide +kernel)) ?_
    refine wp_b (g264 (by decide)) ?_
    rw [i40, wI_of2 (x := 42 * (B : Int)) (by omega) (by omega), wI_of2 (x := 42 * (B : Int) + c) (by omega) (by omega)]
    refine wp_b (arI 84 (by decide +kernel) (by omega) (by omega) m) ?_
    rw [show (42 * (B : Int) + c).toNat = 42 * B + c.toNat from by omega, e70]
    by_cases q2 : I 4 c = 1
    · rw [if_neg (fun u => u q2)]; exact wp_z0 (bi_f fun u => u.2.1 q2)
    · rw [if_pos q2]
      refine lp_w (fun j => fnd (I 7) c j = -1) (fun F i => X11_isFreeTold_L40 N (fun z15 z16 => X11_isFreeTold_L80 N m N z15 z16 0) m F 264 c i) (nK I) _ rfl (fun F j hj hS ih => ?_) (fun F hS => ?_) N (by omega)
      · show Wp (X11_isFreeTold_L40_b N _ m (X11_isFreeTold_L40 N _ m F) 264 c j) _
        unfold X11_isFreeTold_L40_b
        refine wp_b (gR21 r) ?_
        refine wp_b (g264 (by decide)) ?_
        rw [i40]
        refine wp_b (arI 2 (by decide +kernel) (by omega) (by omega) m) ?_
        rw [Int.toNat_natCast, i73, if_neg (by omega)]
        refine wp_b (rc r 274 (by decide +kernel)) ?_
        refine wp_b (g264 (by decide)) ?_
        rw [i40, wI_of2 (x := 5 * (B : Int)) (by omega) (by omega), wI_of2 (x := 5 * (B : Int) + (j : Int)) (by omega) (by omega)]
        refine wp_b (arI 10 (by decide +kernel) (by omega) (by omega) m) ?_
        rw [show (5 * (B : Int) + (j : Int)).toNat = 5 * B + j from by omega, r74 j hj]
        by_cases y : I 7 j = c
        · rw [if_neg (fun u => u y)]
          exact wp_z0 (bi_f fun u => by have := fnd_yes hS y hj; have := u.2.2.1; omega)
        · rw [if_pos y]
          exact ih _ (by first | omega | (simp (disch := omega) only [wI_of2] <;> omega)) (fnd_no hS y)
      · show Wp (X11_isFreeTold_L40_b N _ m (X11_isFreeTold_L40 N _ m F) 264 c (nK I)) _
        unfold X11_isFreeTold_L40_b
        refine wp_b (gR21 r) ?_
        refine wp_b (g264 (by decide)) ?_
        rw [i40]
        refine wp_b (arI 2 (by decide +kernel) (by omega) (by omega) m) ?_
        rw [Int.toNat_natCast, i73, if_pos (by omega)]
        show Wp (X11_isFreeTold_L80 N m N 264 c 0) _
        refine lp_w (fun j => fnd (l 1) c j = -1) (fun F i => X11_isFreeTold_L80 N m F 264 c i) (nT I) _ rfl (fun F j hj hS2 ih => ?_) (fun F hS2 => ?_) N (by omega)
        · show Wp (X11_isFreeTold_L80_b N m (X11_isFreeTold_L80 N m F) 264 c j) _
          unfold X11_isFreeTold_L80_b
          refine wp_b (gR23 r) ?_
          refine wp_b (g264 (by decide)) ?_
          rw [i40]
          refine wp_b (arI 2 (by decide +kernel) (by omega) (by omega) m) ?_
          rw [Int.toNat_natCast, i75, if_neg (by omega)]
          refine wp_b (rc r 278 (by decide +kernel)) ?_
          refine wp_b (g264 (by decide)) ?_
          rw [i40, wI_of2 (x := 10 * (B : Int)) (by omega) (by omega), wI_of2 (x := 10 * (B : Int) + (j : Int)) (by omega) (by omega)]
          refine wp_b (arI 20 (by decide +kernel) (by omega) (by omega) m) ?_
          rw [show (10 * (B : Int) + (j : Int)).toNat = 10 * B + j from by omega, r78 j hj]
          by_cases y : l 1 j = c
          · rw [if_neg (fun u => u y)]
            exact wp_z0 (bi_f fun u => by have := fnd_yes hS2 y hj; have := u.2.2.2; omega)
          · rw [if_pos y]
            exact ih _ (by first | omega | (simp (disch := omega) only [wI_of2] <;> omega)) (fnd_no hS2 y)
        · show Wp (X11_isFreeTold_L80_b N m (X11_isFreeTold_L80 N m F) 264 c (nT I)) _
          unfold X11_isFreeTold_L80_b
          refine wp_b (gR23 r) ?_
          refine wp_b (g264 (by decide)) ?_
          rw [i40]
          refine wp_b (arI 2 (by decide +kernel) (by omega) (by omega) m) ?_
          rw [Int.toNat_natCast, i75, if_pos (by omega)]
          exact wp_z1 (bi_t ⟨q, q2, hS, hS2⟩)
