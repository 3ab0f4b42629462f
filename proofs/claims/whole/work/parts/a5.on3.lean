/-! on: the class lays the land; the reference asks and lays -/
theorem ld_st {m : Mem} {l : Lnd} (h : LD m 69 l) {k : Nat} (hk : k < 3) {i : Int} (i0 : 0 ≤ i) (i1 : i < lln k) (v : Int) : ∃ g, astI (69 + 1 + k) i v m = some (setA m (69 + 1 + k) g) ∧ LD (setA m (69 + 1 + k) g) 69 (updL l k i v) := by
  have sL := ld_S (L := 69) h.1 hk
  obtain ⟨g, e, a, q⟩ := ar_stE (a := 69 + 1 + k) (n := lln k) (i := i) sL.1 sL.2 (by omega) i0 i1 v m
  refine ⟨g, e, h.1, fun k2 i2 hk2 i20 i21 => ?_, ?_⟩
  · unfold updL
    by_cases y : k2 = k
    · subst y
      rw [setA_same]
      by_cases y2 : i2 = i
      · rw [if_pos ⟨rfl, y2⟩, y2]; exact a
      · rw [if_neg (fun x => y2 x.2), q _ (by omega)]; exact h.2.1 k2 i2 hk2 i20 i21
    · rw [if_neg (fun x => y x.1), setA_ne (by omega)]; exact h.2.1 k2 i2 hk2 i20 i21
  · rw [setA_ne (by omega), h.2.2]
    unfold updL
    rw [if_neg (by omega)]
theorem ld_eq {m : Mem} {l l2 : Lnd} (h : LD m 69 l) (e : l = l2) : LD m 69 l2 := by rw [← e]; exact h
/-- only the class's own land is changed -/
def LaF (m m2 : Mem) : Prop := ∀ a, ¬(69 ≤ a ∧ a ≤ 72) → m2 a = m a
theorem laf_set {m m2 : Mem} (h : LaF m m2) {k : Nat} (hk : k < 3) (g : Nat → Int) : LaF m (setA m2 (69 + 1 + k) g) := fun a ha => by rw [setA_ne (by omega)]; exact h a ha
theorem laf_c : ∀ k, k < 3 → (shK (69 + 1 + k) == 1) = true := by decide +kernel
theorem x_lays {N : Nat} (hN : 2000 ≤ N) {m : Mem} {P : Nat} {I : Isl} {l : Lnd} (r : Refs m) (b3 : B3 m P) (h1 : PD m P I) (hl : LD m 69 l) (z : Sz I) (n : Cn I) (cl : Cl I) (tc : Tc I l) (hb : ∀ j : Nat, j < imN I → 0 ≤ m 4 j ∧ m 4 j ≤ 255) {p : Int} {K : Nat → Mem → Option (Int × Mem)} {Q : Int × Mem → Prop} (go : ∀ m2, Refs m2 → LD m2 69 (onL I l (m 4) p) → LaF m m2 → Wp (K 3 m2) Q) : Wp (X10_on_L40 N (fun z16 m17 => X10_on_L77 N (fun z30 m31 => X10_on_L123 N K N z30 0 m31) N z16 0 m17) N 3 0 (up m 69 3 p)) Q := by
  have hP := b3.1
  have z6 := z.2.2.2.2.2.1
  have z7 := z.2.2.2.2.2.2
  have ec : (((nC I).toNat : Nat) : Int) = nC I := Int.toNat_of_nonneg z6
  obtain ⟨n1, n2, n3, n4, n5, n6⟩ := id n
  obtain ⟨oa, ob, oc, od⟩ := on_n z n
  have kn : ∀ {mm : Mem}, LaF m mm → Refs mm → B3 mm P ∧ PD mm P I ∧ mm 4 = m 4 := fun {mm} f rr => ⟨⟨hP, by rw [f 3 (by decide)]; exact b3.2⟩, pd_off h1 fun a _ _ _ _ _ => f a (by omega), f 4 (by decide)⟩
  have rset : ∀ {mm : Mem} {k : Nat}, k < 3 → Refs mm → ∀ g, Refs (setA mm (69 + 1 + k) g) := fun {mm k} hk rr g => refs_set rr (Or.inl (by have := laf_c k hk; simpa using this)) g
  refine lw_1 (fun j mm => LD mm 69 (oWl l (m 4) p j) ∧ Refs mm ∧ LaF m mm) (fun F i mm => X10_on_L40 N _ F 3 i mm) (nC I).toNat Q (fun F j mm hj hI ih => ?_) (fun F mm hI => ?_) N (up m 69 3 p) (by omega) ⟨⟨hl.1, fun k i hk i0 i1 => ?_, ?_⟩, refs_up r (by decide +kernel) p, fun a ha => by rw [up_setA, setA_ne (by omega)]⟩
  · obtain ⟨hd, rr, f⟩ := hI
    obtain ⟨b3m, hp, e4⟩ := kn f rr
    show Wp (X10_on_L40_b N _ (X10_on_L40 N _ F) 3 j mm) Q
    unfold X10_on_L40_b
    refine wp_b (b3_R b3m) ?_
    refine wp_b (x_cells hp z) ?_
    rw [if_neg (by omega)]
    refine wp_b (gX5 rr) ?_
    refine wp_b (ld_R rr hd (by decide)) ?_
    refine wp_b (gX0 rr) ?_
    refine wp_b (v := 2 + (j : Int)) (by unfold X10_wallAt; rw [wI_of2 (by omega) (by omega)]) ?_
    refine wp_b (arI 1600 (by decide +kernel) (by omega) (by omega) mm) ?_
    rw [show (2 + (j : Int)).toNat = 2 + j from by omega, e4]
    obtain ⟨g, e, h2⟩ := ld_st hd (k := 0) (by decide) (i := (j : Int)) (by omega) (by show (j : Int) < ((42 : Nat) : Int); omega) (m 4 (2 + j))
    refine wp_b e ?_
    exact ih _ _ (by first | omega | (simp (disch := omega) only [wI_of2] <;> omega)) ⟨ld_eq h2 (oW_s _ _ _ _), rset (by decide) rr g, laf_set f (by decide) g⟩
  · obtain ⟨hd, rr, f⟩ := hI
    obtain ⟨b3m, hp, e4⟩ := kn f rr
    show Wp (X10_on_L40_b N _ (X10_on_L40 N _ F) 3 (nC I).toNat mm) Q
    unfold X10_on_L40_b
    refine wp_b (b3_R b3m) ?_
    refine wp_b (x_cells hp z) ?_
    rw [if_pos (by omega)]
    refine lw_1 (fun j mm => LD mm 69 (oSl I l (m 4) p j) ∧ Refs mm ∧ LaF m mm) (fun F i mm => X10_on_L77 N _ F 3 i mm) (nH I) Q (fun F j mm hj hI ih => ?_) (fun F mm hI => ?_) N mm (by omega) ⟨hd, rr, f⟩
    · obtain ⟨hd, rr, f⟩ := hI
      obtain ⟨b3m, hp, e4⟩ := kn f rr
      have cc := cl_cell n cl tc (i := (j : Int)) (by omega) (by omega)
      show Wp (X10_on_L77_b N _ (X10_on_L77 N _ F) 3 j mm) Q
      unfold X10_on_L77_b
      refine wp_b (b3_R b3m) ?_
      refine wp_b (pd_I hp (by decide)) ?_
      rw [if_neg (by omega)]
      refine wp_b (gX5 rr) ?_
      refine wp_b (ld_R rr hd (by decide)) ?_
      refine wp_b (b3_R b3m) ?_
      refine wp_b (pd_R rr hp (by decide)) ?_
      refine wp_b (pd_r13 hp (by omega) (by omega)) ?_
      refine wp_b (gX0 rr) ?_
      refine wp_b (x_clothAt b3m hp z (k := (j : Int)) (by omega) (by omega)) ?_
      refine wp_b (arI 1600 (by decide +kernel) (by omega) (by omega) mm) ?_
      rw [show (2 + nC I + (j : Int)).toNat = o1 I + j from by omega, e4]
      obtain ⟨g, e, h2⟩ := ld_st hd (k := 1) (by decide) (i := I 13 j) cc.1.1 (by show I 13 j < ((10 : Nat) : Int); omega) (m 4 (o1 I + j))
      refine wp_b e ?_
      exact ih _ _ (by first | omega | (simp (disch := omega) only [wI_of2] <;> omega)) ⟨h2, rset (by decide) rr g, laf_set f (by decide) g⟩
    · obtain ⟨hd, rr, f⟩ := hI
      obtain ⟨b3m, hp, e4⟩ := kn f rr
      show Wp (X10_on_L77_b N _ (X10_on_L77 N _ F) 3 (nH I) mm) Q
      unfold X10_on_L77_b
      refine wp_b (b3_R b3m) ?_
      refine wp_b (pd_I hp (by decide)) ?_
      rw [if_pos (by omega)]
      refine lw_1 (fun j mm => LD mm 69 (oDl I l (m 4) p j) ∧ Refs mm ∧ LaF m mm) (fun F i mm => X10_on_L123 N K F 3 i mm) (nK I) Q (fun F j mm hj hI ih => ?_) (fun F mm hI => ?_) N mm (by omega) ⟨ld_eq hd (oD_0 _ _ _ _).symm, rr, f⟩
      · obtain ⟨hd, rr, f⟩ := hI
        obtain ⟨b3m, hp, e4⟩ := kn f rr
        show Wp (X10_on_L123_b N K (X10_on_L123 N K F) 3 j mm) Q
        unfold X10_on_L123_b
        refine wp_b (b3_R b3m) ?_
        refine wp_b (pd_I hp (by decide)) ?_
        rw [if_neg (by omega)]
        refine wp_b (gX5 rr) ?_
        refine wp_b (ld_R rr hd (by decide)) ?_
        refine wp_b (x_dropsAt b3m hp z n (k := (j : Int)) (by omega) (by omega)) ?_
        refine wp_b (x_twoAt rr (j := o2 I + 2 * j) (by omega) (by omega) (by rw [e4]; exact hb _ (by omega)) (by rw [e4]; exact hb _ (by omega))) ?_
        rw [e4]
        obtain ⟨g, e, h2⟩ := ld_st hd (k := 2) (by decide) (i := (j : Int)) (by omega) (by show (j : Int) < ((5 : Nat) : Int); omega) (tw (m 4) (o2 I + 2 * j))
        refine wp_b e ?_
        exact ih _ _ (by first | omega | (simp (disch := omega) only [wI_of2] <;> omega)) ⟨ld_eq h2 (oD_s _ _ _ _ _), rset (by decide) rr g, laf_set f (by decide) g⟩
      · obtain ⟨hd, rr, f⟩ := hI
        obtain ⟨b3m, hp, e4⟩ := kn f rr
        show Wp (X10_on_L123_b N K (X10_on_L123 N K F) 3 (nK I) mm) Q
        unfold X10_on_L123_b
        refine wp_b (b3_R b3m) ?_
        refine wp_b (pd_I hp (by decide)) ?_
        rw [if_pos (by omega)]
        exact go mm rr hd f
  · rw [oW_0 l (m 4) p k i (fun _ => i0), if_neg (by omega), up_setA, setA_ne (by omega)]
    exact hl.2.1 k i hk i0 i1
  · rw [up_same]; rfl
/-- the reference's two bytes -/
theorem ior_2 {a b : Int} (a0 : 0 ≤ a) (a1 : a ≤ 255) (b0 : 0 ≤ b) (b1 : b ≤ 255) : ior (ishl a 8) b = a * 256 + b := by
  obtain ⟨x, rfl⟩ : ∃ d : Nat, a = (d : Int) := ⟨a.toNat, (Int.toNat_of_nonneg a0).symm⟩
  obtain ⟨y, rfl⟩ : ∃ d : Nat, b = (d : Int) := ⟨b.toNat, (Int.toNat_of_nonneg b0).symm⟩
  have e1 : ishl (x : Int) 8 = ((x * 256 : Nat) : Int) := by
    show wI ((x : Int) * 2 ^ sI 8) = _
    rw [show (2 : Int) ^ sI 8 = 256 from by decide, wI_of2 (by omega) (by omega)]
    omega
  rw [e1]
  have e : ior ((x * 256 : Nat) : Int) (y : Int) = (BitVec.ofInt 32 ((x * 256 : Nat) : Int) ||| BitVec.ofInt 32 (y : Int)).toInt := rfl
  have n1 : (BitVec.ofInt 32 ((x * 256 : Nat) : Int)).toNat = x * 256 := by rw [BitVec.toNat_ofInt]; omega
  have n2 : (BitVec.ofInt 32 (y : Int)).toNat = y := by rw [BitVec.toNat_ofInt]; omega
  have s := Nat.shiftLeft_add_eq_or_of_lt (b := y) (i := 8) (by omega) x
  rw [Nat.shiftLeft_eq] at s
  have n3 : (BitVec.ofInt 32 ((x * 256 : Nat) : Int) ||| BitVec.ofInt 32 (y : Int)).toNat = x * 256 + y := by
    rw [BitVec.toNat_or, n1, n2]
    exact s.symm
  rw [e, BitVec.toInt_eq_toNat_of_lt (by rw [n3]; omega), n3]
  omega
theorem m_twoB {m : Mem} (r : Refs m) {i : Int} {j : Nat} (hi : i = j) (hj : j < 1599) (b1 : 0 ≤ m 265 j ∧ m 265 j ≤ 255) (b2 : 0 ≤ m 265 (j + 1) ∧ m 265 (j + 1) ≤ 255) : X11_twoBytes 264 i m = some (tw (m 265) j) := by
  subst hi
  refine wp_eq ?_
  unfold X11_twoBytes
  refine wp_k k264 ?_
  refine wp_b (gR0 r) ?_
  refine wp_b (arI 1800 (by decide +kernel) (by omega) (by omega) m) ?_
  refine wp_b (gR0 r) ?_
  rw [wI_of2 (x := (j : Int) + 1) (by omega) (by omega)]
  refine wp_b (arI 1800 (by decide +kernel) (by omega) (by omega) m) ?_
  rw [Int.toNat_natCast, show ((j : Int) + 1).toNat = j + 1 from by omega, ior_2 b1.1 b1.2 b2.1 b2.2]
  exact wp_some rfl
theorem m_isWall1 {m : Mem} {n : Nat} {l : Lnd} (r : Refs m) (h : MY m 1 l n) {c : Int} (c0 : 0 ≤ c) (c1 : c < 42) : X11_isWall 264 1 c m = some (hasW l c) := m_isWall (v := 1) r h c0 c1
theorem m_thingAt1 {N : Nat} (hN : 2000 ≤ N) {m : Mem} {b : Nat} {I : Isl} {l : Lnd} (r : Refs m) (h : MD m b I) (hl : MY m 1 l (nT I)) (n : Cn I) (c : Int) : X11_thingAt N 264 1 c m = some (fnd (l 1) c (nT I)) := m_thingAt (v := 1) hN r h hl n c
theorem m_copies10 {N : Nat} (hN : 2000 ≤ N) {m : Mem} {n : Nat} {l : Lnd} (r : Refs m) (h : MY m 0 l n) : Wp (X11_copies N 264 1 0 m) (fun m2 => MY m2 1 l n ∧ LyF 1 m m2) := m_copies (to := 1) (fr := 0) hN r h (by decide) (by decide)
theorem m_copies01 {N : Nat} (hN : 2000 ≤ N) {m : Mem} {n : Nat} {l : Lnd} (r : Refs m) (h : MY m 1 l n) : Wp (X11_copies N 264 0 1 m) (fun m2 => MY m2 0 l n ∧ LyF 0 m m2) := m_copies (to := 0) (fr := 1) hN r h (by decide) (by decide)
theorem hasW_1 {l : Lnd} {c : Int} (c0 : 0 ≤ c) (c1 : c < 42) : hasW l c = 0 ∧ ¬l 0 c = 1 ∨ hasW l c = 1 ∧ l 0 c = 1 := by
  by_cases q : l 0 c = 1
  · exact Or.inr ⟨bi_1.mpr ⟨c0, c1, q⟩, q⟩
  · exact Or.inl ⟨bi_0.mpr fun u => q u.2.2, q⟩
/-- the reference's judgement of the told land -/
theorem m_canBe {N : Nat} (hN : 2000 ≤ N) {m : Mem} {b : Nat} {I : Isl} {L : Lnd} (r : Refs m) (md : MD m b I) (my : MY m 1 L (nT I)) (z : Sz I) (n : Cn I) {Q : Int → Prop} (y : okBl I L → Q 1) (no : ¬okBl I L → Q 0) : Wp (X11_canBe N 264 m) Q := by
  have z6 := z.2.2.2.2.2.1
  have z7 := z.2.2.2.2.2.2
  have ec : (((nC I).toNat : Nat) : Int) = nC I := Int.toNat_of_nonneg z6
  obtain ⟨n1, n2, n3, n4, n5, n6⟩ := id n
  unfold X11_canBe
  refine wp_k k264 ?_
  refine lp_w (fun j => ∀ c : Nat, c < j → L 0 c = 1 → ¬I 4 c = 1 ∧ fnd (I 7) c (nK I) = -1) (fun F i => X11_canBe_L2 N _ m F 264 i) (nC I).toNat Q (fun c hc => absurd hc (Nat.not_lt_zero c)) (fun F j hj hS ih => ?_) (fun F hS => ?_) N (by omega)
  · show Wp (X11_canBe_L2_b N _ m (X11_canBe_L2 N _ m F) 264 j) Q
    unfold X11_canBe_L2_b
    have bad : ¬(L 0 j = 1 → ¬I 4 j = 1 ∧ fnd (I 7) j (nK I) = -1) → Q 0 := fun u => no fun v => u (v.1 j (by omega))
    have step : ∀ K, (L 0 j = 1 → ¬I 4 j = 1 ∧ fnd (I 7) j (nK I) = -1) → (∀ i : Int, i = (j : Int) + 1 → (∀ c : Nat, c < j + 1 → L 0 c = 1 → ¬I 4 c = 1 ∧ fnd (I 7) c (nK I) = -1) → Wp (X11_canBe_L2 N K m F 264 i) Q) → Wp (X11_canBe_J38 N (X11_canBe_L2 N K m F) 264 j m) Q := fun K hj2 ih => by
      unfold X11_canBe_J38
      refine ih _ (by first | omega | (simp (disch := omega) only [wI_of2] <;> omega)) (fun c hc => ?_)
      by_cases e : c = j
      · rw [e]; exact hj2
      · exact hS c (by omega)
    refine wp_b (m_cells r md z) ?_
    rw [if_neg (by omega)]
    refine wp_b (m_isWall1 r my (c := (j : Int)) (by omega) (by omega)) ?_
    rcases hasW_1 (l := L) (c := (j : Int)) (by omega) (by omega) with ⟨w, w2⟩ | ⟨w, w2⟩
    · rw [w, if_pos rfl]
      exact step _ (fun u => absurd u w2) ih
    · rw [w, if_neg (by decide)]
      refine wp_b (m_isHouse r md (c := (j : Int)) (by omega) (by omega)) ?_
      by_cases q : I 4 j = 1
      · rw [← bi_t q, if_pos (by decide)]
        exact wp_z0 (bad fun u => (u w2).1 q)
      · rw [← bi_f q, if_neg (fun u => u rfl)]
        refine wp_b (m_cisternAt hN r md n _) ?_
        by_cases q2 : fnd (I 7) j (nK I) = -1
        · rw [if_pos q2]
          exact step _ (fun _ => ⟨q, q2⟩) ih
        · rw [if_neg q2]
          exact wp_z0 (bad fun u => q2 (u w2).2)
  · show Wp (X11_canBe_L2_b N _ m (X11_canBe_L2 N _ m F) 264 (nC I).toNat) Q
    unfold X11_canBe_L2_b
    refine wp_b (m_cells r md z) ?_
    rw [if_pos (by omega)]
    have b1 : okB1 I L := fun c hc => hS c (by omega)
    show Wp (X11_canBe_L46 N m N 264 0) Q
    refine lp_w (fun j => ∀ t : Nat, t < j → okB2 I L t) (fun F i => X11_canBe_L46 N m F 264 i) (nT I) Q (fun c hc => absurd hc (Nat.not_lt_zero c)) (fun F j hj hS ih => ?_) (fun F hS => ?_) N (by omega)
    · show Wp (X11_canBe_L46_b N m (X11_canBe_L46 N m F) 264 j) Q
      unfold X11_canBe_L46_b
      have bad : ¬okB2 I L j → Q 0 := fun u => no fun v => u (v.2 j hj)
      have ml := my.2.2.1 j (by omega) (by omega)
      refine wp_b (gR23 r) ?_
      refine wp_b (md_bank md) ?_
      refine wp_b (md_s23 md) ?_
      rw [if_neg (by omega)]
      refine wp_b (gR52 r) ?_
      rw [wI_of2 (x := 10 + (j : Int)) (by omega) (by omega)]
      refine wp_b (arI 220 (by decide +kernel) (by omega) (by omega) m) ?_
      rw [show (10 + (j : Int)).toNat = 10 * 1 + (j : Int).toNat from by omega, ml]
      refine wp_b (m_isCell r md z _) ?_
      by_cases q : 0 ≤ L 1 j ∧ L 1 j < nC I
      · rw [show isC I (L 1 j) = 1 from bi_1.mpr q, if_neg (by decide)]
        refine wp_b (m_isWall1 r my (c := L 1 j) q.1 (by omega)) ?_
        rcases hasW_1 (l := L) (c := L 1 j) q.1 (by omega) with ⟨w, w2⟩ | ⟨w, w2⟩
        · rw [w, if_neg (fun u => u rfl)]
          refine wp_b (m_isHouse r md (c := L 1 j) q.1 (by omega)) ?_
          by_cases q2 : I 4 (L 1 j) = 1
          · rw [← bi_t q2, if_pos (by decide)]
            exact wp_z0 (bad fun u => u.2.2.1 q2)
          · rw [← bi_f q2, if_neg (fun u => u rfl)]
            refine wp_b (m_cisternAt hN r md n _) ?_
            by_cases q3 : fnd (I 7) (L 1 j) (nK I) = -1
            · rw [if_neg (fun u => u q3)]
              refine wp_b (m_thingAt1 hN r md my n _) ?_
              by_cases q4 : fnd (L 1) (L 1 j) (nT I) = j
              · rw [if_pos q4]
                refine ih _ (by first | omega | (simp (disch := omega) only [wI_of2] <;> omega)) (fun c hc => ?_)
                by_cases e : c = j
                · rw [e]; exact ⟨q, w2, q2, q3, q4⟩
                · exact hS c (by omega)
              · rw [if_neg q4]
                exact wp_z0 (bad fun u => q4 u.2.2.2.2)
            · rw [if_pos q3]
              exact wp_z0 (bad fun u => q3 u.2.2.2.1)
        · rw [w, if_pos (by decide)]
          exact wp_z0 (bad fun u => u.2.1 w2)
      · rw [show isC I (L 1 j) = 0 from bi_0.mpr q, if_pos rfl]
        exact wp_z0 (bad fun u => q u.1)
    · show Wp (X11_canBe_L46_b N m (X11_canBe_L46 N m F) 264 (nT I)) Q
      unfold X11_canBe_L46_b
      refine wp_b (gR23 r) ?_
      refine wp_b (md_bank md) ?_
      refine wp_b (md_s23 md) ?_
      rw [if_pos (by omega)]
      exact wp_z1 (y ⟨b1, hS⟩)
