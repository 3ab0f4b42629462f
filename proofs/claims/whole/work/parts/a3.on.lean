/-! on: what a tape must be; the class asks -/
theorem lp_w {γ : Type} (S : Nat → Prop) (L : Nat → Int → Option γ) (n : Nat) (Q : γ → Prop) (h0 : S 0) (hs : ∀ F j, j < n → S j → (∀ i : Int, i = (j : Int) + 1 → S (j + 1) → Wp (L F i) Q) → Wp (L (F + 1) j) Q) (he : ∀ F, S n → Wp (L (F + 1) n) Q) (F : Nat) (h : n + 1 ≤ F) : Wp (L F 0) Q :=
  lw_1 (fun j _ => S j) (fun F i _ => L F i) n Q (fun F j m hj hS ih => hs F j hj hS (fun i hi h2 => ih i m hi h2)) (fun F _ hS => he F hS) F (fun _ _ => 0) h h0
def tw (T : Nat → Int) (j : Nat) : Int := T j * 256 + T (j + 1)
def o1 (I : Isl) : Nat := 2 + (nC I).toNat
def o2 (I : Isl) : Nat := 2 + (nC I).toNat + nH I
/-- where a told cloth hangs -/
def hgC (I : Isl) (T : Nat → Int) (k : Nat) : Int := T (o1 I + k)
def okWl (I : Isl) (T : Nat → Int) : Prop := ∀ c : Nat, (c : Int) < nC I → T (2 + c) ≤ 1 ∧ (T (2 + c) = 1 → tkn I c = 0)
def okH1 (I : Isl) (T : Nat → Int) (k : Nat) : Prop := (0 ≤ hgC I T k ∧ hgC I T k < nC I) ∧ tkn I (hgC I T k) = 0 ∧ ¬T (2 + (hgC I T k).toNat) = 1 ∧ ∀ j : Nat, j < k → ¬hgC I T j = hgC I T k
def okH (I : Isl) (T : Nat → Int) : Prop := ∀ k : Nat, k < nH I → okH1 I T k
def okD (I : Isl) (T : Nat → Int) : Prop := ∀ c : Nat, c < nK I → tw T (o2 I + 2 * c) ≤ 9999
def okP (I : Isl) (T : Nat → Int) (len : Int) : Prop := 0 < I 0 0 ∧ len = ((imN I + 1 : Nat) : Int) ∧ chk T (imN I) = T (imN I) ∧ tw T 0 ≤ 9999 ∧ okD I T
def GoX (I : Isl) (T : Nat → Int) (len : Int) : Prop := okP I T len ∧ okWl I T ∧ okH I T
theorem x_clothAt {m : Mem} {P : Nat} {I : Isl} (b3 : B3 m P) (h1 : PD m P I) (z : Sz I) {k : Int} (k0 : 0 ≤ k) (k1 : k ≤ 100) : X10_clothAt 3 k m = some (2 + nC I + k) := by
  have z6 := z.2.2.2.2.2.1
  have z7 := z.2.2.2.2.2.2
  refine wp_eq ?_
  unfold X10_clothAt
  refine wp_k k3 ?_
  refine wp_b (b3_R b3) ?_
  refine wp_b (x_cells h1 z) ?_
  refine wp_b (v := 2 + nC I) (by unfold X10_wallAt; rw [wI_of2 (by omega) (by omega)]) ?_
  rw [wI_of2 (by omega) (by omega)]
  exact wp_some rfl
theorem x_dropsAt {m : Mem} {P : Nat} {I : Isl} (b3 : B3 m P) (h1 : PD m P I) (z : Sz I) (n : Cn I) {k : Int} (k0 : 0 ≤ k) (k1 : k ≤ 100) : X10_dropsAt 3 k m = some (2 + nC I + I 12 0 + 2 * k) := by
  have z6 := z.2.2.2.2.2.1
  have z7 := z.2.2.2.2.2.2
  obtain ⟨n1, n2, n3, n4, n5, n6⟩ := id n
  refine wp_eq ?_
  unfold X10_dropsAt
  refine wp_k k3 ?_
  refine wp_b (b3_R b3) ?_
  refine wp_b (pd_I h1 (by decide)) ?_
  refine wp_b (x_clothAt b3 h1 z (k := I 12 0) (by omega) (by omega)) ?_
  rw [wI_of2 (x := 2 * k) (by omega) (by omega), wI_of2 (by omega) (by omega)]
  exact wp_some rfl
theorem x_twoAt {m : Mem} (r : Refs m) {i : Int} {j : Nat} (hi : i = j) (hj : j < 1599) (b1 : 0 ≤ m 4 j ∧ m 4 j ≤ 255) (b2 : 0 ≤ m 4 (j + 1) ∧ m 4 (j + 1) ≤ 255) : X10_twoAt 3 i m = some (tw (m 4) j) := by
  subst hi
  refine wp_eq ?_
  unfold X10_twoAt
  refine wp_k k3 ?_
  refine wp_b (gX0 r) ?_
  refine wp_b (arI 1600 (by decide +kernel) (by omega) (by omega) m) ?_
  refine wp_b (gX0 r) ?_
  rw [wI_of2 (x := (j : Int) + 1) (by omega) (by omega)]
  refine wp_b (arI 1600 (by decide +kernel) (by omega) (by omega) m) ?_
  rw [Int.toNat_natCast, show ((j : Int) + 1).toNat = j + 1 from by omega, wI_of2 (x := m 4 j * 256) (by omega) (by omega), wI_of2 (by omega) (by omega)]
  exact wp_some rfl
theorem on_n {I : Isl} (z : Sz I) (n : Cn I) : (o1 I : Int) = 2 + nC I ∧ (o2 I : Int) = 2 + nC I + I 12 0 ∧ imN I = o2 I + 2 * nK I ∧ imN I ≤ 64 := by
  have e := im_n z n
  obtain ⟨n1, n2, n3, n4, n5, n6⟩ := id n
  have z6 := z.2.2.2.2.2.1
  have z7 := z.2.2.2.2.2.2
  unfold o1 o2
  omega
theorem x_wallsCanBe {N : Nat} (hN : 2000 ≤ N) {m : Mem} {P : Nat} {I : Isl} (r : Refs m) (b3 : B3 m P) (h1 : PD m P I) (z : Sz I) (n : Cn I) {Q : Int → Prop} (y : okWl I (m 4) → Q 1) (no : ¬okWl I (m 4) → Q 0) : Wp (X10_wallsCanBe N 3 m) Q := by
  have z6 := z.2.2.2.2.2.1
  have z7 := z.2.2.2.2.2.2
  have ec : (((nC I).toNat : Nat) : Int) = nC I := Int.toNat_of_nonneg z6
  unfold X10_wallsCanBe
  refine wp_k k3 ?_
  refine lp_w (fun j => ∀ c : Nat, c < j → m 4 (2 + c) ≤ 1 ∧ (m 4 (2 + c) = 1 → tkn I c = 0)) (fun F i => X10_wallsCanBe_L2 N m F 3 i) (nC I).toNat Q (fun c hc => absurd hc (Nat.not_lt_zero c)) (fun F j hj hS ih => ?_) (fun F hS => ?_) N (by omega)
  · show Wp (X10_wallsCanBe_L2_b N m (X10_wallsCanBe_L2 N m F) 3 j) Q
    unfold X10_wallsCanBe_L2_b
    refine wp_b (b3_R b3) ?_
    refine wp_b (x_cells h1 z) ?_
    rw [if_neg (by omega)]
    refine wp_b (gX0 r) ?_
    refine wp_b (v := 2 + (j : Int)) (by unfold X10_wallAt; rw [wI_of2 (by omega) (by omega)]) ?_
    refine wp_b (arI 1600 (by decide +kernel) (by omega) (by omega) m) ?_
    rw [show (2 + (j : Int)).toNat = 2 + j from by omega]
    have step : (m 4 (2 + j) ≤ 1 ∧ (m 4 (2 + j) = 1 → tkn I j = 0)) → Wp (X10_wallsCanBe_J46 N (X10_wallsCanBe_L2 N m F) 3 j m) Q := fun hj2 => by
      unfold X10_wallsCanBe_J46
      refine ih _ (by first | omega | (simp (disch := omega) only [wI_of2] <;> omega)) (fun c hc => ?_)
      by_cases e : c = j
      · rw [e]; exact hj2
      · exact hS c (by omega)
    by_cases q : 1 < m 4 (2 + j)
    · rw [if_pos q]
      exact wp_z0 (no fun u => by have := (u j (by omega)).1; omega)
    · rw [if_neg q]
      by_cases q2 : m 4 (2 + j) = 1
      · rw [if_neg (fun u => u q2)]
        refine wp_b (b3_R b3) ?_
        refine wp_b (x_isTaken hN r h1 z n j) ?_
        by_cases q3 : tkn I j = 0
        · rw [if_pos q3]
          exact step ⟨by omega, fun _ => q3⟩
        · rw [if_neg q3]
          exact wp_z0 (no fun u => q3 ((u j (by omega)).2 q2))
      · rw [if_pos q2]
        exact step ⟨by omega, fun u => absurd u q2⟩
  · show Wp (X10_wallsCanBe_L2_b N m (X10_wallsCanBe_L2 N m F) 3 (nC I).toNat) Q
    unfold X10_wallsCanBe_L2_b
    refine wp_b (b3_R b3) ?_
    refine wp_b (x_cells h1 z) ?_
    rw [if_pos (by omega)]
    exact wp_z1 (y fun c hc => hS c (by omega))
theorem x_clothsCanBe {N : Nat} (hN : 2000 ≤ N) {m : Mem} {P : Nat} {I : Isl} (r : Refs m) (b3 : B3 m P) (h1 : PD m P I) (z : Sz I) (n : Cn I) {Q : Int → Prop} (y : okH I (m 4) → Q 1) (no : ¬okH I (m 4) → Q 0) : Wp (X10_clothsCanBe N 3 m) Q := by
  have z6 := z.2.2.2.2.2.1
  have z7 := z.2.2.2.2.2.2
  obtain ⟨n1, n2, n3, n4, n5, n6⟩ := id n
  have on := on_n z n
  unfold X10_clothsCanBe
  refine wp_k k3 ?_
  have at' : ∀ k : Nat, k < nH I → X10_clothAt 3 k m = some (2 + nC I + (k : Int)) ∧ aldI 4 (2 + nC I + (k : Int)) m = some (hgC I (m 4) k) := fun k hk => by
    refine ⟨x_clothAt b3 h1 z (by omega) (by omega), ?_⟩
    rw [arI 1600 (by decide +kernel) (by omega) (by omega) m, show (2 + nC I + (k : Int)).toNat = o1 I + k from by omega]
    rfl
  refine lp_w (fun j => ∀ k : Nat, k < j → okH1 I (m 4) k) (fun F i => X10_clothsCanBe_L2 N m F 3 i) (nH I) Q (fun c hc => absurd hc (Nat.not_lt_zero c)) (fun F j hj hS ih => ?_) (fun F hS => ?_) N (by omega)
  · show Wp (X10_clothsCanBe_L2_b N m (X10_clothsCanBe_L2 N m F) 3 j) Q
    unfold X10_clothsCanBe_L2_b
    obtain ⟨a1, a2⟩ := at' j hj
    have bad : ¬okH1 I (m 4) j → Q 0 := fun u => no fun v => u (v j hj)
    refine wp_b (b3_R b3) ?_
    refine wp_b (pd_I h1 (by decide)) ?_
    rw [if_neg (by omega)]
    refine wp_b (gX0 r) ?_
    refine wp_b a1 ?_
    refine wp_b a2 ?_
    refine wp_b (b3_R b3) ?_
    refine wp_b (x_isCell h1 z _) ?_
    by_cases q : 0 ≤ hgC I (m 4) j ∧ hgC I (m 4) j < nC I
    · rw [show isC I (hgC I (m 4) j) = 1 from bi_1.mpr q, if_neg (by decide)]
      refine wp_b (b3_R b3) ?_
      refine wp_b (x_isTaken hN r h1 z n _) ?_
      by_cases q2 : tkn I (hgC I (m 4) j) = 0
      · rw [if_neg (fun u => u q2)]
        refine wp_b (gX0 r) ?_
        refine wp_b (v := 2 + hgC I (m 4) j) (by unfold X10_wallAt; rw [wI_of2 (by omega) (by omega)]) ?_
        refine wp_b (arI 1600 (by decide +kernel) (by omega) (by omega) m) ?_
        rw [show (2 + hgC I (m 4) j).toNat = 2 + (hgC I (m 4) j).toNat from by omega]
        by_cases q3 : m 4 (2 + (hgC I (m 4) j).toNat) = 1
        · rw [if_neg (fun u => u q3)]
          exact wp_z0 (bad fun u => u.2.2.1 q3)
        · rw [if_pos q3]
          refine lp_w (fun i => ∀ k : Nat, k < i → ¬hgC I (m 4) k = hgC I (m 4) j) (fun F2 i => X10_clothsCanBe_L63 N (fun z18 z19 => X10_clothsCanBe_L2 N m F z18 (wI (z19 + 1))) m F2 3 j (hgC I (m 4) j) i) j Q (fun c hc => absurd hc (Nat.not_lt_zero c)) (fun F2 i hi hS2 ih2 => ?_) (fun F2 hS2 => ?_) N (by omega)
          · show Wp (X10_clothsCanBe_L63_b N _ m (X10_clothsCanBe_L63 N _ m F2) 3 j (hgC I (m 4) j) i) Q
            unfold X10_clothsCanBe_L63_b
            obtain ⟨a3, a4⟩ := at' i (by omega)
            rw [if_neg (by omega)]
            refine wp_b (gX0 r) ?_
            refine wp_b a3 ?_
            refine wp_b a4 ?_
            by_cases q4 : hgC I (m 4) i = hgC I (m 4) j
            · rw [if_neg (fun u => u q4)]
              exact wp_z0 (bad fun u => u.2.2.2 i hi q4)
            · rw [if_pos q4]
              refine ih2 _ (by first | omega | (simp (disch := omega) only [wI_of2] <;> omega)) (fun c hc => ?_)
              by_cases e : c = i
              · rw [e]; exact q4
              · exact hS2 c (by omega)
          · show Wp (X10_clothsCanBe_L63_b N _ m (X10_clothsCanBe_L63 N _ m F2) 3 j (hgC I (m 4) j) j) Q
            unfold X10_clothsCanBe_L63_b
            rw [if_pos (Int.le_refl _)]
            show Wp (X10_clothsCanBe_L2 N m F 3 (wI ((j : Int) + 1))) Q
            refine ih _ (by first | omega | (simp (disch := omega) only [wI_of2] <;> omega)) (fun c hc => ?_)
            by_cases e : c = j
            · rw [e]; exact ⟨q, q2, q3, hS2⟩
            · exact hS c (by omega)
      · rw [if_pos q2]
        exact wp_z0 (bad fun u => q2 u.2.1)
    · rw [show isC I (hgC I (m 4) j) = 0 from bi_0.mpr q, if_pos rfl]
      exact wp_z0 (bad fun u => q u.1)
  · show Wp (X10_clothsCanBe_L2_b N m (X10_clothsCanBe_L2 N m F) 3 (nH I)) Q
    unfold X10_clothsCanBe_L2_b
    refine wp_b (b3_R b3) ?_
    refine wp_b (pd_I h1 (by decide)) ?_
    rw [if_pos (by omega)]
    exact wp_z1 (y hS)
theorem x_isImage {N : Nat} (hN : 2000 ≤ N) {m : Mem} {P : Nat} {I : Isl} (r : Refs m) (b3 : B3 m P) (h1 : PD m P I) (z : Sz I) (n : Cn I) {len : Int} (hb : ∀ j : Nat, (j : Int) < len → 0 ≤ m 4 j ∧ m 4 j ≤ 255) {Q : Int → Prop} (y : GoX I (m 4) len → Q 1) (no : ¬GoX I (m 4) len → Q 0) : Wp (X10_isImage N 3 len m) Q := by
  have z6 := z.2.2.2.2.2.1
  have z7 := z.2.2.2.2.2.2
  obtain ⟨n1, n2, n3, n4, n5, n6⟩ := id n
  obtain ⟨oa, ob, oc, od⟩ := on_n z n
  unfold X10_isImage
  refine wp_k k3 ?_
  refine wp_b (b3_R b3) ?_
  refine wp_b (pd_I h1 (by decide)) ?_
  refine wp_b (x_dropsAt b3 h1 z n (k := I 6 0) (by omega) (by omega)) ?_
  rw [show 2 + nC I + I 12 0 + 2 * I 6 0 = ((imN I : Nat) : Int) from by omega]
  refine wp_b (x_land b3 h1 z) ?_
  by_cases q0 : 0 < I 0 0
  · rw [← bi_t q0, if_neg (by decide), wI_of2 (x := ((imN I : Nat) : Int) + 1) (by omega) (by omega)]
    by_cases q1 : len = ((imN I + 1 : Nat) : Int)
    · rw [if_neg (fun u => u (by omega))]
      have bb : ∀ j : Nat, j ≤ imN I → 0 ≤ m 4 j ∧ m 4 j ≤ 255 := fun j hj => hb j (by omega)
      refine wp_b (gX0 r) ?_
      refine wp_b (x_checkOf hN (a := 4) (n := 1600) (q := imN I) (by decide +kernel) (by decide +kernel) (by omega) (by omega) (fun j hj => bb j (by omega))) ?_
      refine wp_b (gX0 r) ?_
      refine wp_b (arI 1600 (by decide +kernel) (by omega) (by omega) m) ?_
      rw [Int.toNat_natCast]
      by_cases q2 : chk (m 4) (imN I) = m 4 (imN I)
      · rw [if_pos q2]
        have i2 : 2 ≤ imN I := by omega
        refine wp_b (x_twoAt r (j := 0) rfl (by decide) (bb 0 (by omega)) (bb 1 (by omega))) ?_
        by_cases q3 : tw (m 4) 0 ≤ 9999
        · rw [if_pos q3]
          refine lp_w (fun j => ∀ c : Nat, c < j → tw (m 4) (o2 I + 2 * c) ≤ 9999) (fun F i => X10_isImage_L60 N _ m F 3 i) (nK I) Q (fun c hc => absurd hc (Nat.not_lt_zero c)) (fun F j hj hS ih => ?_) (fun F hS => ?_) N (by omega)
          · show Wp (X10_isImage_L60_b N _ m (X10_isImage_L60 N _ m F) 3 j) Q
            unfold X10_isImage_L60_b
            refine wp_b (b3_R b3) ?_
            refine wp_b (pd_I h1 (by decide)) ?_
            rw [if_neg (by omega)]
            refine wp_b (x_dropsAt b3 h1 z n (k := (j : Int)) (by omega) (by omega)) ?_
            refine wp_b (x_twoAt r (j := o2 I + 2 * j) (by omega) (by omega) (bb _ (by omega)) (bb _ (by omega))) ?_
            by_cases q4 : tw (m 4) (o2 I + 2 * j) ≤ 9999
            · rw [if_pos q4]
              refine ih _ (by first | omega | (simp (disch := omega) only [wI_of2] <;> omega)) (fun c hc => ?_)
              by_cases e : c = j
              · rw [e]; exact q4
              · exact hS c (by omega)
            · rw [if_neg q4]
              exact wp_z0 (no fun u => q4 (u.1.2.2.2.2 j hj))
          · show Wp (X10_isImage_L60_b N _ m (X10_isImage_L60 N _ m F) 3 (nK I)) Q
            unfold X10_isImage_L60_b
            refine wp_b (b3_R b3) ?_
            refine wp_b (pd_I h1 (by decide)) ?_
            rw [if_pos (by omega)]
            show Wp ((X10_wallsCanBe N 3 m).bind fun p17 => if p17 = 0 then retZ 0 else (X10_clothsCanBe N 3 m).bind fun p18 => if p18 = 0 then retZ 0 else retZ 1) Q
            refine wp_bw (x_wallsCanBe hN r b3 h1 z n (Q := fun v => v = 1 ∧ okWl I (m 4) ∨ v = 0 ∧ ¬okWl I (m 4)) (fun u => Or.inl ⟨rfl, u⟩) (fun u => Or.inr ⟨rfl, u⟩)) (fun v hv => ?_)
            rcases hv with ⟨hv, u⟩ | ⟨hv, u⟩
            · rw [hv, if_neg (by decide)]
              refine wp_bw (x_clothsCanBe hN r b3 h1 z n (Q := fun v => v = 1 ∧ okH I (m 4) ∨ v = 0 ∧ ¬okH I (m 4)) (fun u => Or.inl ⟨rfl, u⟩) (fun u => Or.inr ⟨rfl, u⟩)) (fun w hw => ?_)
              rcases hw with ⟨hw, u2⟩ | ⟨hw, u2⟩
              · rw [hw, if_neg (by decide)]
                exact wp_z1 (y ⟨⟨q0, q1, q2, q3, hS⟩, u, u2⟩)
              · rw [hw, if_pos rfl]
                exact wp_z0 (no fun g => u2 g.2.2)
            · rw [hv, if_pos rfl]
              exact wp_z0 (no fun g => u g.2.1)
        · rw [if_neg q3]
          exact wp_z0 (no fun u => q3 u.1.2.2.2.1)
      · rw [if_neg q2]
        exact wp_z0 (no fun u => q2 u.1.2.2.1)
    · rw [if_pos (fun u => q1 (by omega))]
      exact wp_z0 (no fun u => q1 u.1.2.1)
  · rw [← bi_f q0, if_pos rfl]
    exact wp_z0 (no fun u => q0 u.1.1)
