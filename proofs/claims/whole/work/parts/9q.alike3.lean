/-! alike: the class tries all -/
def cR (I : Isl) (l : Lnd) : Nat → Int → Int
  | 0 => cms I l (I 15)
  | i + 1 => ad (cR I l i) (ner I (l 1 (I 13 i))) (-1 * Dh I l i (l 1 (I 13 i)))
def alR (I : Isl) (l : Lnd) : Nat → Int
  | 0 => dwA I l (I 15) (nT I)
  | i + 1 => alR I l i + -1 * Dh I l i (l 1 (I 13 i))
theorem ad_in {c : Int → Int} {a b : Int} (h : ∀ k, a ≤ c k ∧ c k ≤ b) {d x y : Int} (x0 : x ≤ 0) (y0 : 0 ≤ y) (hd : x ≤ d ∧ d ≤ y) (k0 : Int) : ∀ k, a + x ≤ ad c k0 d k ∧ ad c k0 d k ≤ b + y := fun k => by
  have q := h k
  unfold ad
  split <;> omega
theorem cR_in {I : Isl} (n : Cn I) (l : Lnd) : ∀ i : Nat, i ≤ 2 → (∀ k, -2400 ≤ cR I l i k ∧ cR I l i k ≤ 20000) ∧ -2400 ≤ alR I l i ∧ alR I l i ≤ 12000 := by
  have a0 : ∀ k, 0 ≤ cR I l 0 k ∧ cR I l 0 k ≤ 20000 := fun k => cms_in n l (I 15) k
  have b0 := dwA_in I l (I 15) (nT I)
  have n4 := n.2.2.2.1
  have d0 := Dh_in I l ((0 : Nat) : Int) (l 1 (I 13 ((0 : Nat) : Int)))
  have d1 := Dh_in I l ((1 : Nat) : Int) (l 1 (I 13 ((1 : Nat) : Int)))
  have a1 := ad_in a0 (d := -1 * Dh I l ((0 : Nat) : Int) (l 1 (I 13 ((0 : Nat) : Int)))) (x := -1188) (y := 0) (by decide) (by decide) (by omega) (ner I (l 1 (I 13 ((0 : Nat) : Int))))
  have a2 := ad_in a1 (d := -1 * Dh I l ((1 : Nat) : Int) (l 1 (I 13 ((1 : Nat) : Int)))) (x := -1188) (y := 0) (by decide) (by decide) (by omega) (ner I (l 1 (I 13 ((1 : Nat) : Int))))
  have e0 : alR I l 0 = dwA I l (I 15) (nT I) := rfl
  have e1 : alR I l 1 = alR I l 0 + -1 * Dh I l ((0 : Nat) : Int) (l 1 (I 13 ((0 : Nat) : Int))) := rfl
  have e2 : alR I l 2 = alR I l 1 + -1 * Dh I l ((1 : Nat) : Int) (l 1 (I 13 ((1 : Nat) : Int))) := rfl
  intro i hi
  have c : i = 0 ∨ i = 1 ∨ i = 2 := by omega
  rcases c with c | c | c <;> subst c
  · exact ⟨fun k => by have := a0 k; omega, by omega, by omega⟩
  · exact ⟨fun k => by have y : 0 + -1188 ≤ cR I l 1 k ∧ cR I l 1 k ≤ 20000 + 0 := a1 k; omega, by omega, by omega⟩
  · exact ⟨fun k => by have y : 0 + -1188 + -1188 ≤ cR I l 2 k ∧ cR I l 2 k ≤ 20000 + 0 + 0 := a2 k; omega, by omega, by omega⟩
theorem ad_back (c : Int → Int) (k0 d : Int) : ad (ad c k0 (1 * d)) k0 (-1 * d) = c := by
  funext k
  unfold ad
  split <;> omega
theorem hs_same {m m2 : Mem} {I : Isl} {l : Lnd} {c : Int → Int} {al : Int} {n' : Nat} (h2 : n' ≤ 2) (h : HS m I l c al n') (e : ∀ a, a = 250 ∨ 252 ≤ a ∧ a ≤ 255 → m2 a = m a) : HS m2 I l c al n' := by
  obtain ⟨s5, s4, sc, sn, sd⟩ := h
  exact ⟨by rw [e 250 (by omega)]; exact s5, by rw [e 250 (by omega)]; exact s4, fun k hk => by rw [e 255 (by omega)]; exact sc k hk, fun x hx => by rw [e 254 (by omega)]; exact sn x hx, fun i hi x hx => by rw [e (252 + i) (by omega)]; exact sd i hi x hx⟩
theorem x_prepH {N : Nat} (hN : 2000 ≤ N) {m : Mem} {P : Nat} {I : Isl} {l : Lnd} (kn : KN m P I l) (z : Sz I) (n : Cn I) (vl : Vl I) (kc : Kc I) (cl : Cl I) (tc : Tc I l) (hk : 0 < I 6 0) {q : Nat} (q2 : q ≤ 2) (q3 : (q : Int) ≤ I 12 0) : ∃ m2, X0_prepare N 250 P 69 159 (q : Int) m = some m2 ∧ HS m2 I l (cR I l q) (alR I l q) q ∧ HnF P m m2 := by
  have n3 := n.2.2.1
  have n4 := n.2.2.2.1
  have n6 := n.2.2.2.2.2
  have n5 := n.2.2.2.2.1
  have z7 := z.2.2.2.2.2.2
  have ec : (((nC I).toNat : Nat) : Int) = nC I := Int.toNat_of_nonneg z.2.2.2.2.2.1
  have hP : P = 11 ∨ P = 40 := kn.2.1.1
  have s9 := nt_S (T := 159) (Or.inl rfl)
  have X : Wp (X0_prepare N 250 P 69 159 (q : Int) m) (fun m2 => HS m2 I l (cR I l q) (alR I l q) q ∧ HnF P m m2) := by
    unfold X0_prepare
    refine wp_k k250 ?_
    refine wp_b (pd_I kn.2.1 (by decide)) ?_
    refine wp_b (h5P _ m) ?_
    have f1 : HnF P m (up m 250 5 (I 6 0)) := hnf_up (hnf_refl P m) (by decide) _
    have k1 := hn_kn n f1 kn
    refine wp_b (nt_R k1.1 (T := 159) (Or.inl rfl)).2.2.2.2.2.2.2.2 ?_
    refine wp_b (h3R k1.1) ?_
    refine wp_b (h3R k1.1) ?_
    refine wp_b (ar_len (a := 255) (n := 5) (by decide +kernel) (by decide +kernel)) ?_
    have cp := x_acopy (a := 159 + 42) (b := 255) (k := 5) (by decide +kernel) (by decide +kernel) (by decide) (by decide) (by decide) (by decide +kernel) (by decide +kernel) (up m 250 5 (I 6 0))
    refine wp_b cp ?_
    obtain ⟨mb, hmb⟩ : ∃ mb, mb = setA (up m 250 5 (I 6 0)) 255 (fun j => if j < (5 : Int).toNat then up m 250 5 (I 6 0) (159 + 42) j else up m 250 5 (I 6 0) 255 j) := ⟨_, rfl⟩
    rw [← hmb]
    have f2 : HnF P m mb := by rw [hmb]; exact hnf_set f1 (by decide) _
    have k2 := hn_kn n f2 kn
    refine wp_b (x_allByDawn hN (Or.inl rfl) k2.2.1 n k2.2.2.2) ?_
    refine wp_b (h4P _ mb) ?_
    have f3 : HnF P m (up mb 250 4 (dwA I l (I 15) (nT I))) := hnf_up f2 (by decide) _
    have c3 : ∀ k : Nat, k < 5 → up mb 250 4 (dwA I l (I 15) (nT I)) 255 k = cms I l (I 15) k := fun k hk2 => by
      rw [up_obj (by decide), hmb, setA_same]
      show (if k < 5 then up m 250 5 (I 6 0) (159 + 42) k else _) = _
      rw [if_pos hk2]
      exact k1.2.2.2.2.2 k hk2
    have s3 : up mb 250 4 (dwA I l (I 15) (nT I)) 250 5 = I 6 0 := by
      rw [up_slot (by decide), hmb, setA_ne (by decide), up_same]
    refine lw_1 (fun j mm => HnF P m mm ∧ mm 250 5 = I 6 0 ∧ mm 250 4 = dwA I l (I 15) (nT I) ∧ (∀ k : Nat, k < 5 → mm 255 k = cms I l (I 15) k) ∧ ∀ x : Nat, x < j → mm 254 x = ner I x) (fun F i mm => X0_prepare_L38 N _ F 250 P 69 159 (q : Int) i mm) (nC I).toNat _ (fun F j mm hj hI ih => ?_) (fun F mm hI => ?_) N _ (by omega) ⟨f3, s3, up_same _ _ _ _, c3, fun x hx => by omega⟩
    · obtain ⟨f, a5, a4, ac, an⟩ := hI
      have km := hn_kn n f kn
      show Wp (X0_prepare_L38_b N _ (X0_prepare_L38 N _ F) 250 P 69 159 (q : Int) j mm) _
      unfold X0_prepare_L38_b
      refine wp_b (x_cells km.2.1 z) ?_
      rw [if_neg (by omega)]
      refine wp_b (h2R km.1) ?_
      refine wp_b (x_ner hN km.1 km.2.1 z n kc (by omega) (by omega)) ?_
      obtain ⟨g1, e1, a1, k1⟩ := ar_stE (a := 254) (n := 42) (i := (j : Int)) (by decide +kernel) (by decide +kernel) (by decide) (by omega) (by omega) (ner I j) mm
      rw [Int.toNat_natCast] at a1 k1
      refine wp_b e1 ?_
      refine ih _ _ (by first | omega | (simp (disch := omega) only [wI_of2] <;> omega)) ⟨hnf_set f (by decide) g1, by rw [setA_ne (by decide)]; exact a5, by rw [setA_ne (by decide)]; exact a4, fun k hk2 => by rw [setA_ne (by decide)]; exact ac k hk2, fun x hx => ?_⟩
      rw [setA_same]
      by_cases u : x = j
      · rw [u]; exact a1
      · rw [k1 x u]; exact an x (by omega)
    · obtain ⟨f, a5, a4, ac, an⟩ := hI
      have km := hn_kn n f kn
      show Wp (X0_prepare_L38_b N _ (X0_prepare_L38 N _ F) 250 P 69 159 (q : Int) (nC I).toNat mm) _
      unfold X0_prepare_L38_b
      refine wp_b (x_cells km.2.1 z) ?_
      rw [if_pos (by omega)]
      refine lw_1 (fun i mk => HS mk I l (cR I l i) (alR I l i) i ∧ HnF P m mk) (fun F2 i mk => X0_prepare_L69 N F2 250 P 69 159 (q : Int) i mk) q _ (fun F2 i mk hi hI2 ih2 => ?_) (fun F2 mk hI2 => ?_) N mm (by omega) ⟨⟨a5, a4, ac, fun x hx => an x (by omega), fun i hi => by omega⟩, f⟩
      · obtain ⟨hs, f⟩ := hI2
        have km := hn_kn n f kn
        have cc := cl_cell n cl tc (i := (i : Int)) (by omega) (by omega)
        have ri := cR_in n l i (by omega)
        have srow : shK (252 + i) = 1 ∧ shN (252 + i) = 42 := by
          have : i = 0 ∨ i = 1 := by omega
          rcases this with e | e <;> subst e <;> decide +kernel
        show Wp (X0_prepare_L69_b N (X0_prepare_L69 N F2) 250 P 69 159 (q : Int) i mk) _
        unfold X0_prepare_L69_b
        rw [if_neg (by omega)]
        refine wp_b (pd_R km.1 km.2.1 (by decide)) ?_
        refine wp_b (pd_r13 km.2.1 (by omega) (by omega)) ?_
        refine lw_1 (fun x mz => HS mz I l (cR I l i) (alR I l i) i ∧ HnF P m mz ∧ ∀ y : Nat, y < x → mz (252 + i) y = Dh I l i y) (fun F3 x mz => X0_prepare_L88 N _ F3 250 P 69 159 (q : Int) i (I 13 i) x mz) (nC I).toNat _ (fun F3 x mz hx hI3 ih3 => ?_) (fun F3 mz hI3 => ?_) N mk (by omega) ⟨hs, f, fun y hy => by omega⟩
        · obtain ⟨hs, f, hd⟩ := hI3
          have kz := hn_kn n f kn
          have put : ∀ (mw : Mem) (v : Int), HS mw I l (cR I l i) (alR I l i) i → HnF P m mw → (∀ y : Nat, y < x → mw (252 + i) y = Dh I l i y) → v = Dh I l i x → Wp (X0_prepare_J143 N (X0_prepare_L88 N (fun z33 z34 z35 z36 z37 z38 z39 m40 =>
        (getR 1 1 z35 m40).bind fun t41 =>
        (aldI t41 z39 m40).bind fun t42 =>
        (X0_hangOn z33 z38 t42 (-1) m40).bind fun p43 =>
        X0_prepare_L69 N F2 z33 z34 z35 z36 z37 (wI (z38 + 1)) p43) F3) 250 P 69 159 (q : Int) i (I 13 i) x (252 + i) x v mw) (fun m2 => HS m2 I l (cR I l q) (alR I l q) q ∧ HnF P m m2) := by
            intro mw v hs2 f2 hd2 hv
            obtain ⟨g1, e1, a1, k1⟩ := ar_stE (a := 252 + i) (n := 42) (i := (x : Int)) srow.1 srow.2 (by omega) (by omega) (by omega) v mw
            rw [Int.toNat_natCast] at a1 k1
            unfold X0_prepare_J143
            refine wp_b e1 ?_
            refine ih3 _ _ (by first | omega | (simp (disch := omega) only [wI_of2] <;> omega)) ⟨?_, hnf_set f2 (by omega) g1, fun y hy => ?_⟩
            · obtain ⟨t5, t4, tc2, tn, td⟩ := hs2
              exact ⟨by rw [setA_ne (by omega)]; exact t5, by rw [setA_ne (by omega)]; exact t4, fun k hk2 => by rw [setA_ne (by omega)]; exact tc2 k hk2, fun y hy => by rw [setA_ne (by omega)]; exact tn y hy, fun j hj y hy => by rw [setA_ne (by omega)]; exact td j hj y hy⟩
            · rw [setA_same]
              by_cases u : y = x
              · rw [u, a1, hv]
              · rw [k1 y u]; exact hd2 y (by omega)
          show Wp (X0_prepare_L88_b N _ (X0_prepare_L88 N _ F3) 250 P 69 159 (q : Int) i (I 13 i) x mz) _
          unfold X0_prepare_L88_b
          refine wp_b (x_cells kz.2.1 z) ?_
          rw [if_neg (by omega)]
          refine wp_b (x_canHang hN kz z n cl tc (by omega) (by omega) x) ?_
          refine wp_b (h1R kz.1) ?_
          refine wp_b (hrow kz.1 (by omega)) ?_
          by_cases y : l 1 (I 13 i) = (x : Int) ∨ isF I l x = 1
          · rw [← bi_t y, if_neg (by decide)]
            refine wp_b (pd_R kz.1 kz.2.1 (by decide)) ?_
            refine wp_b (pd_r10 kz.2.1 cc.1.1 (by omega)) ?_
            have tk := vl.2.1 (I 13 i) cc.1.1 cc.1.2
            refine wp_bw (x_lie hN (T := 159) (w := 10) (Or.inl rfl) kz.2.1 kz.2.2.1 z vl kz.2.2.2.1 (c := (x : Int)) (tk := I 10 (I 13 i)) (by omega) (by omega) tk.1 tk.2 (by decide)) (fun p hp => ?_)
            obtain ⟨p1, p2, p3, p4⟩ := hp
            have p3' : ∀ a, ¬(a = 159 + 5 ∨ a = 159 + 7 + 10 ∨ a = 159 + 19 + 10 ∨ a = 159 + 31 + 10 ∨ a = P + 27 ∨ a = P + 27) → p.2 a = mz a := p3
            refine put p.2 p.1 (hs_same (by omega) hs (fun a ha => p3' a (by omega))) (fun a k hk2 => ?_) (fun y hy => by rw [p3' (252 + i) (by omega)]; exact hd y hy) (by rw [p1, Dh_can y]; rfl)
            rw [p3' a (fun u => hk2 (by unfold HnS; omega))]
            exact f a k hk2
          · rw [← bi_f y, if_pos rfl]
            exact put mz 0 hs f hd (if_neg y).symm
        · obtain ⟨hs, f, hd⟩ := hI3
          have kz := hn_kn n f kn
          have hs1 : HS mz I l (cR I l i) (alR I l i) (i + 1) := by
            obtain ⟨t5, t4, tc2, tn, td⟩ := hs
            refine ⟨t5, t4, tc2, tn, fun j hj y hy => ?_⟩
            by_cases u : j = i
            · rw [u]; exact hd y (by omega)
            · exact td j (by omega) y hy
          show Wp (X0_prepare_L88_b N _ (X0_prepare_L88 N _ F3) 250 P 69 159 (q : Int) i (I 13 i) (nC I).toNat mz) _
          unfold X0_prepare_L88_b
          refine wp_b (x_cells kz.2.1 z) ?_
          rw [if_pos (by omega)]
          refine wp_b (ld_R kz.1 kz.2.2.1 (by decide)) ?_
          refine wp_b (ld_r1 kz.2.2.1 cc.1.1 (by omega)) ?_
          obtain ⟨m2, e2, hs2, f2, _⟩ := x_hangOn kz z n hk hs1 (fun k => by have := ri.1 k; omega) (by omega) (by omega) (i := i) (by omega) cc.2.1 cc.2.2 (t := -1) (Or.inr rfl)
          refine wp_b e2 ?_
          refine ih2 _ _ (by first | omega | (simp (disch := omega) only [wI_of2] <;> omega)) ⟨hs2, hnf_trans f f2⟩
      · obtain ⟨hs, f⟩ := hI2
        show Wp (X0_prepare_L69_b N (X0_prepare_L69 N F2) 250 P 69 159 (q : Int) q mk) _
        unfold X0_prepare_L69_b
        rw [if_pos (Int.le_refl _)]
        exact wp_some ⟨hs, f⟩
  exact X
