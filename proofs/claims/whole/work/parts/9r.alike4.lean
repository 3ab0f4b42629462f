/-! alike: the class's answer -/
theorem ec_1 {I : Isl} {l : Lnd} (n : Cn I) (cl : Cl I) (tc : Tc I l) (h1 : 1 ≤ I 12 0) {x : Int} (hx : l 1 (I 13 0) = x ∨ isF I l x = 1) (k : Int) : ad (cR I l 1) (ner I x) (1 * Dh I l 0 x) k = cms I (mvL l (I 13 0) x) (I 15) k := by
  have c0 := cl_cell n cl tc (i := 0) (by omega) (by omega)
  rw [cms_mv c0.1.1 (by have := n.2.2.1; omega), ← Dh_can hx, ← Dh_can (i := 0) (Or.inl rfl), Int.one_mul]
  show ad (ad (cms I l (I 15)) (ner I (l 1 (I 13 ((0 : Nat) : Int)))) (-1 * Dh I l ((0 : Nat) : Int) (l 1 (I 13 ((0 : Nat) : Int))))) (ner I x) (Dh I l 0 x) k = _
  rw [Int.neg_one_mul]
  rfl
theorem ec_2 {I : Isl} {l : Lnd} (n : Cn I) (cl : Cl I) (tc : Tc I l) (h2 : 2 ≤ I 12 0) {x y : Int} (hx : l 1 (I 13 0) = x ∨ isF I l x = 1) (hy : l 1 (I 13 1) = y ∨ isF I l y = 1) (k : Int) : ad (ad (cR I l 2) (ner I x) (1 * Dh I l 0 x)) (ner I y) (1 * Dh I l 1 y) k = cms I (mvL (mvL l (I 13 0) x) (I 13 1) y) (I 15) k := by
  have c0 := cl_cell n cl tc (i := 0) (by omega) (by omega)
  have c1 := cl_cell n cl tc (i := 1) (by omega) (by omega)
  have ne : ¬I 13 1 = I 13 0 := fun e => by
    have := cl_inj n cl (i := 1) (j := 0) (by omega) (by omega) (by omega) (by omega) e
    omega
  have n3 := n.2.2.1
  have e1 : mvL l (I 13 0) x 1 (I 13 1) = l 1 (I 13 1) := by rw [mv_1, if_neg ne]
  rw [cms_mv c1.1.1 (by omega), e1, dq_mv, dq_mv, ← Dh_can hy, ← Dh_can (i := 1) (Or.inl rfl)]
  have e0 := ec_1 n cl tc (by omega) hx k
  unfold ad at e0 ⊢
  rw [← e0]
  have r2 : cR I l 2 k = cR I l 1 k + if k = ner I (l 1 (I 13 1)) then -1 * Dh I l 1 (l 1 (I 13 1)) else 0 := rfl
  rw [r2]
  generalize cR I l 1 k = A
  generalize Dh I l 1 (l 1 (I 13 1)) = B
  generalize Dh I l 0 x = C
  generalize Dh I l 1 y = D
  split <;> split <;> split <;> omega
theorem al_1 {I : Isl} {l : Lnd} (n : Cn I) (hk : 0 < I 6 0) {q : Nat} : alR I l q = pouS (cR I l q) (nK I) := by
  have e := n.1
  induction q with
  | zero => exact (allC_eq n hk l).symm
  | succ q ih =>
    have y := ner_ok n hk (l 1 (I 13 q))
    show alR I l q + -1 * Dh I l q (l 1 (I 13 q)) = pouS (ad (cR I l q) (ner I (l 1 (I 13 q))) (-1 * Dh I l q (l 1 (I 13 q)))) (nK I)
    rw [ad_sum, if_pos (by omega), ih]
theorem al_ad {I : Isl} (n : Cn I) (hk : 0 < I 6 0) {c : Int → Int} {al : Int} (h : al = pouS c (nK I)) (x d : Int) : al + d = pouS (ad c (ner I x) d) (nK I) := by
  have e := n.1
  have y := ner_ok n hk x
  rw [ad_sum, if_pos (by omega), h]
theorem x_tryRest {N : Nat} (hN : 2000 ≤ N) {m0 m : Mem} {P : Nat} {I : Isl} {l : Lnd} (k0 : KN m0 P I l) (f0 : HnF P m0 m) (z : Sz I) (n : Cn I) (cl : Cl I) (tc : Tc I l) (hk : 0 < I 6 0) {q : Nat} (q1 : q = 1 ∨ q = 2) (q3 : (q : Int) ≤ I 12 0) {x : Int} (x0 : 0 ≤ x) (x1 : x < nC I) (hx : l 1 (I 13 0) = x ∨ isF I l x = 1) {zz : Bst} (hs : HS m I l (ad (cR I l q) (ner I x) (1 * Dh I l 0 x)) (alR I l q + 1 * Dh I l 0 x) q) (bz : BZ m zz q) (s0 : m 256 0 = x) : ∃ m2, X0_tryRest N 250 P 69 (q : Int) m = some m2 ∧ HS m2 I l (ad (cR I l q) (ner I x) (1 * Dh I l 0 x)) (alR I l q + 1 * Dh I l 0 x) q ∧ BZ m2 (if (q : Int) = 1 then cmpB I (mvL l (I 13 0) x) x 0 zz else al2 I l x zz (nC I).toNat) q ∧ HnF P m0 m2 := by
  have z7 := z.2.2.2.2.2.2
  have ec : (((nC I).toNat : Nat) : Int) = nC I := Int.toNat_of_nonneg z.2.2.2.2.2.1
  have kn := hn_kn n f0 k0
  have a1 := al_ad n hk (al_1 (l := l) n hk (q := q)) x (1 * Dh I l 0 x)
  rcases q1 with q1 | q1
  · subst q1
    obtain ⟨m2, e2, hs2, bz2, f2, _⟩ := x_judge (P := P) (l2 := mvL l (I 13 0) x) (b := 0) hN kn.1 n hk (by decide) hs (ec_1 n cl tc q3 hx) (by
      rw [a1]
      unfold allC
      congr 1
      exact funext (ec_1 n cl tc q3 hx)) bz s0 (fun u => by omega)
    refine ⟨m2, ?_, hs2, ?_, hnf_trans f0 f2⟩
    · unfold X0_tryRest
      rw [if_pos k250, if_neg (by decide), e2]
      rfl
    · rw [if_pos (by decide)]
      exact bz2
  · subst q1
    have rr := cR_in n l 2 (by decide)
    have dx := Dh_in I l 0 x
    have X : Wp (X0_tryRest N 250 P 69 ((2 : Nat) : Int) m) (fun m2 => HS m2 I l (ad (cR I l 2) (ner I x) (1 * Dh I l 0 x)) (alR I l 2 + 1 * Dh I l 0 x) 2 ∧ BZ m2 (al2 I l x zz (nC I).toNat) 2 ∧ HnF P m0 m2) := by
      unfold X0_tryRest
      refine wp_k k250 ?_
      rw [if_pos (by decide)]
      refine lw_1 (fun y mm => HS mm I l (ad (cR I l 2) (ner I x) (1 * Dh I l 0 x)) (alR I l 2 + 1 * Dh I l 0 x) 2 ∧ BZ mm (al2 I l x zz y) 2 ∧ HnF P m0 mm ∧ mm 256 0 = x) (fun F y mm => X0_tryRest_L13 N F 250 P 69 y mm) (nC I).toNat _ (fun F y mm hy hI ih => ?_) (fun F mm hI => ?_) N m (by omega) ⟨hs, bz, f0, s0⟩
      · obtain ⟨hs, bz, f, s0⟩ := hI
        have km := hn_kn n f k0
        have es : al2 I l x zz (y + 1) = if ¬(y : Int) = x ∧ (l 1 (I 13 1) = (y : Int) ∨ isF I l y = 1) then cmpB I (mvL (mvL l (I 13 0) x) (I 13 1) y) x y (al2 I l x zz y) else al2 I l x zz y := rfl
        show Wp (X0_tryRest_L13_b N (X0_tryRest_L13 N F) 250 P 69 y mm) _
        unfold X0_tryRest_L13_b
        refine wp_b (x_cells km.2.1 z) ?_
        rw [if_neg (by omega)]
        refine wp_b (h6R km.1) ?_
        refine wp_b (arI 2 (by decide +kernel) (by decide) (by decide) mm) ?_
        rw [show (0 : Int).toNat = 0 from rfl, s0]
        have skip : ¬(¬(y : Int) = x ∧ (l 1 (I 13 1) = (y : Int) ∨ isF I l y = 1)) → Wp (X0_tryRest_J64 N (X0_tryRest_L13 N F) 250 P 69 y mm) (fun m2 => HS m2 I l (ad (cR I l 2) (ner I x) (1 * Dh I l 0 x)) (alR I l 2 + 1 * Dh I l 0 x) 2 ∧ BZ m2 (al2 I l x zz (nC I).toNat) 2 ∧ HnF P m0 m2) := by
          intro u
          unfold X0_tryRest_J64
          exact ih _ mm (by first | omega | (simp (disch := omega) only [wI_of2] <;> omega)) ⟨hs, by rw [es, if_neg u]; exact bz, f, s0⟩
        by_cases y1 : (y : Int) = x
        · rw [if_pos y1]
          exact skip (fun u => u.1 y1)
        · rw [if_neg y1]
          refine wp_b (x_canHang hN km z n cl tc (by omega) (by omega) y) ?_
          by_cases y2 : l 1 (I 13 1) = (y : Int) ∨ isF I l y = 1
          · rw [← bi_t y2, if_neg (by decide)]
            have dy := Dh_in I l 1 y
            have c1 := ad_in rr.1 (d := 1 * Dh I l 0 x) (x := 0) (y := 1188) (by decide) (by decide) (by omega) (ner I x)
            obtain ⟨m2, e2, hs2, f2, t1, t2, t3, t4, t5⟩ := x_hangOn km z n hk hs (fun k => by have := c1 k; omega) (by omega) (by decide) (i := 1) (by decide) (x := (y : Int)) (by omega) (by omega) (t := 1) (Or.inl rfl)
            refine wp_b e2 ?_
            have f3 := hnf_trans f f2
            have k3 := hn_kn n f3 k0
            have bz2 : BZ m2 (al2 I l x zz y) 2 := by
              unfold BZ
              rw [t3, t4, t5]
              exact bz
            have a2 := al_ad n hk a1 (y : Int) (1 * Dh I l 1 y)
            obtain ⟨m3, e3, hs3, bz3, f4, t6⟩ := x_judge (P := P) (l2 := mvL (mvL l (I 13 0) x) (I 13 1) y) (a := x) (b := (y : Int)) hN k3.1 n hk (by decide) hs2 (ec_2 n cl tc q3 hx y2) (by
              refine a2.trans ?_
              unfold allC
              congr 1
              exact funext (ec_2 n cl tc q3 hx y2)) bz2 (by rw [t2 0 (by decide)]; exact s0) (fun _ => t1)
            refine wp_b e3 ?_
            have f5 := hnf_trans f3 f4
            have k5 := hn_kn n f5 k0
            have c2 := ad_in c1 (d := 1 * Dh I l 1 y) (x := 0) (y := 1188) (by decide) (by decide) (by omega) (ner I y)
            obtain ⟨m6, e6, hs6, f6, u1, u2, u3, u4, u5⟩ := x_hangOn k5 z n hk hs3 (fun k => by
              have w : -2400 + 0 + 0 ≤ ad (ad (cR I l 2) (ner I x) (1 * Dh I l 0 x)) (ner I (y : Int)) (1 * Dh I l ((1 : Nat) : Int) y) k ∧ ad (ad (cR I l 2) (ner I x) (1 * Dh I l 0 x)) (ner I (y : Int)) (1 * Dh I l ((1 : Nat) : Int) y) k ≤ 20000 + 1188 + 1188 := c2 k
              omega) (by
              show -100000 ≤ alR I l 2 + 1 * Dh I l 0 x + 1 * Dh I l 1 y ∧ alR I l 2 + 1 * Dh I l 0 x + 1 * Dh I l 1 y ≤ 100000
              omega) (by decide) (i := 1) (by decide) (x := (y : Int)) (by omega) (by omega) (t := -1) (Or.inr rfl)
            refine wp_b e6 ?_
            have bk : ad (ad (ad (cR I l 2) (ner I x) (1 * Dh I l 0 x)) (ner I y) (1 * Dh I l 1 y)) (ner I y) (-1 * Dh I l 1 y) = ad (cR I l 2) (ner I x) (1 * Dh I l 0 x) := ad_back _ _ _
            have hs7 : HS m6 I l (ad (cR I l 2) (ner I x) (1 * Dh I l 0 x)) (alR I l 2 + 1 * Dh I l 0 x) 2 := by
              have w := hs6
              rw [show ad (ad (ad (cR I l 2) (ner I x) (1 * Dh I l 0 x)) (ner I (y : Int)) (1 * Dh I l ((1 : Nat) : Int) y)) (ner I (y : Int)) (-1 * Dh I l ((1 : Nat) : Int) y) = ad (cR I l 2) (ner I x) (1 * Dh I l 0 x) from bk] at w
              rw [show alR I l 2 + 1 * Dh I l 0 x + 1 * Dh I l ((1 : Nat) : Int) y + -1 * Dh I l ((1 : Nat) : Int) y = alR I l 2 + 1 * Dh I l 0 x from by omega] at w
              exact w
            unfold X0_tryRest_J64
            refine ih _ m6 (by first | omega | (simp (disch := omega) only [wI_of2] <;> omega)) ⟨hs7, ?_, hnf_trans f5 f6, by rw [u2 0 (by decide), t6, t2 0 (by decide)]; exact s0⟩
            rw [es, if_pos ⟨y1, y2⟩]
            unfold BZ
            rw [u3, u4, u5]
            exact bz3
          · rw [← bi_f y2, if_pos rfl]
            exact skip (fun u => y2 u.2)
      · obtain ⟨hs, bz, f, s0⟩ := hI
        have km := hn_kn n f k0
        show Wp (X0_tryRest_L13_b N (X0_tryRest_L13 N F) 250 P 69 (nC I).toNat mm) _
        unfold X0_tryRest_L13_b
        refine wp_b (x_cells km.2.1 z) ?_
        rw [if_pos (by omega)]
        exact wp_some ⟨hs, bz, f⟩
    obtain ⟨m2, e2, hs2, bz2, f2⟩ := X
    exact ⟨m2, e2, hs2, by rw [if_neg (by decide)]; exact bz2, f2⟩
theorem x_find {N : Nat} (hN : 2000 ≤ N) {m : Mem} {P : Nat} {I : Isl} {l : Lnd} (kn : KN m P I l) (z : Sz I) (n : Cn I) (vl : Vl I) (kc : Kc I) (cl : Cl I) (gl : GL I l) (hk : 0 < I 6 0) {q : Nat} (q1 : q = 1 ∨ q = 2) (q3 : (q : Int) ≤ I 12 0) (hg : HG m I l) : ∃ m2, X0_find N 250 P 69 159 (q : Int) m = some m2 ∧ HnF P m m2 ∧ HG m2 I l ∧ m2 250 8 = (alk I l q).1 ∧ m2 250 9 = (alk I l q).2.1 ∧ m2 257 0 = (alk I l q).2.2.1 ∧ (q = 2 → m2 257 1 = (alk I l q).2.2.2) := by
  have tc := gl.1
  have z7 := z.2.2.2.2.2.2
  have ec : (((nC I).toNat : Nat) : Int) = nC I := Int.toNat_of_nonneg z.2.2.2.2.2.1
  have rr := cR_in n l q (by omega)
  by_cases y : m 250 0 = (q : Int)
  · refine ⟨m, ?_, hnf_refl P m, hg, ?_⟩
    · unfold X0_find
      rw [if_pos k250, h0I, Option.bind_some, if_pos y]
    · unfold HG at hg
      rw [y] at hg
      rcases hg with g | ⟨_, _, _, g8, g9, g0, g1⟩
      · omega
      · exact ⟨g8, g9, g0, fun u => g1 (by omega)⟩
  · have X : Wp (X0_find N 250 P 69 159 (q : Int) m) (fun m2 => HnF P m m2 ∧ BZ m2 (alk I l q) q ∧ m2 250 0 = (q : Int)) := by
      unfold X0_find
      refine wp_k k250 ?_
      refine wp_b (h0I m) ?_
      rw [if_neg y, if_neg (by omega), if_neg (by omega)]
      refine wp_b (pd_I kn.2.1 (by decide)) ?_
      rw [if_pos q3]
      obtain ⟨m1, e1, hs1, f1⟩ := x_prepH hN kn z n vl kc cl tc hk (q := q) (by omega) q3
      refine wp_b e1 ?_
      refine wp_b (h8P _ m1) ?_
      have hs2 : HS (up m1 250 8 (-1)) I l (cR I l q) (alR I l q) q := by
        obtain ⟨s5, s4, sc, sn, sd⟩ := hs1
        have oo : ∀ a, ¬a = 250 → up m1 250 8 (-1) a = m1 a := fun a ha => by rw [up_setA, setA_ne ha]
        exact ⟨by rw [up_slot (by decide)]; exact s5, by rw [up_slot (by decide)]; exact s4, fun k hk => by rw [oo 255 (by decide)]; exact sc k hk, fun x hx => by rw [oo 254 (by decide)]; exact sn x hx, fun i hi x hx => by rw [oo (252 + i) (by omega)]; exact sd i hi x hx⟩
      refine lw_1 (fun x mm => HS mm I l (cR I l q) (alR I l q) q ∧ BZ mm (al1 I l q x) q ∧ HnF P m mm) (fun F x mm => X0_find_L48 N _ F 250 P 69 (q : Int) x mm) (nC I).toNat _ (fun F x mm hx hI ih => ?_) (fun F mm hI => ?_) N _ (by omega) ⟨hs2, ⟨up_same _ _ _ _, fun u => absurd rfl u⟩, hnf_up f1 (by decide) _⟩
      · obtain ⟨hs, bz, f⟩ := hI
        have km := hn_kn n f kn
        have es : al1 I l q (x + 1) = if l 1 (I 13 0) = (x : Int) ∨ isF I l x = 1 then (if (q : Int) = 1 then cmpB I (mvL l (I 13 0) x) x 0 (al1 I l q x) else al2 I l x (al1 I l q x) (nC I).toNat) else al1 I l q x := rfl
        show Wp (X0_find_L48_b N _ (X0_find_L48 N _ F) 250 P 69 (q : Int) x mm) _
        unfold X0_find_L48_b
        refine wp_b (x_cells km.2.1 z) ?_
        rw [if_neg (by omega)]
        refine wp_b (x_canHang hN km z n cl tc (i := 0) (by omega) (by omega) x) ?_
        by_cases y2 : l 1 (I 13 0) = (x : Int) ∨ isF I l x = 1
        · rw [← bi_t y2, if_neg (by decide)]
          have dx := Dh_in I l 0 x
          obtain ⟨m2, e2, hs3, f2, t1, t2, t3, t4, t5⟩ := x_hangOn km z n hk hs (fun k => by have := rr.1 k; omega) (by omega) (by omega) (i := 0) (by omega) (x := (x : Int)) (by omega) (by omega) (t := 1) (Or.inl rfl)
          refine wp_b e2 ?_
          have f3 := hnf_trans f f2
          have bz2 : BZ m2 (al1 I l q x) q := by
            unfold BZ
            rw [t3, t4, t5]
            exact bz
          obtain ⟨m4, e4, hs4, bz4, f4⟩ := x_tryRest hN kn f3 z n cl tc hk q1 q3 (x := (x : Int)) (by omega) (by omega) y2 hs3 bz2 t1
          refine wp_b e4 ?_
          have k4 := hn_kn n f4 kn
          have c1 := ad_in rr.1 (d := 1 * Dh I l 0 x) (x := 0) (y := 1188) (by decide) (by decide) (by omega) (ner I x)
          obtain ⟨m6, e6, hs6, f6, u1, u2, u3, u4, u5⟩ := x_hangOn k4 z n hk hs4 (fun k => by have := c1 k; omega) (by omega) (by omega) (i := 0) (by omega) (x := (x : Int)) (by omega) (by omega) (t := -1) (Or.inr rfl)
          refine wp_b e6 ?_
          have hs7 : HS m6 I l (cR I l q) (alR I l q) q := by
            have w := hs6
            rw [show ad (ad (cR I l q) (ner I (x : Int)) (1 * Dh I l 0 x)) (ner I (x : Int)) (-1 * Dh I l ((0 : Nat) : Int) x) = cR I l q from ad_back _ _ _] at w
            rw [show alR I l q + 1 * Dh I l 0 x + -1 * Dh I l ((0 : Nat) : Int) x = alR I l q from by
              show alR I l q + 1 * Dh I l 0 x + -1 * Dh I l 0 x = alR I l q
              omega] at w
            exact w
          unfold X0_find_J92
          refine ih _ m6 (by first | omega | (simp (disch := omega) only [wI_of2] <;> omega)) ⟨hs7, ?_, hnf_trans f4 f6⟩
          rw [es, if_pos y2]
          unfold BZ
          rw [u3, u4, u5]
          exact bz4
        · rw [← bi_f y2, if_pos rfl]
          unfold X0_find_J92
          exact ih _ mm (by first | omega | (simp (disch := omega) only [wI_of2] <;> omega)) ⟨hs, by rw [es, if_neg y2]; exact bz, f⟩
      · obtain ⟨hs, bz, f⟩ := hI
        have km := hn_kn n f kn
        show Wp (X0_find_L48_b N _ (X0_find_L48 N _ F) 250 P 69 (q : Int) (nC I).toNat mm) _
        unfold X0_find_L48_b
        refine wp_b (x_cells km.2.1 z) ?_
        rw [if_pos (by omega)]
        refine wp_b (h0P _ mm) ?_
        refine wp_some ⟨hnf_up f (by decide) _, ?_, up_same _ _ _ _⟩
        obtain ⟨b1, b2⟩ := bz
        refine ⟨by rw [up_slot (by decide)]; exact b1, fun u => ?_⟩
        obtain ⟨c1, c2, c3⟩ := b2 u
        exact ⟨by rw [up_slot (by decide)]; exact c1, by rw [up_obj (by decide)]; exact c2, fun v => by rw [up_obj (by decide)]; exact c3 v⟩
    obtain ⟨m2, e2, f2, ⟨b1, b2⟩, b3⟩ := X
    have no := alk_ok n z cl gl (k := (q : Int)) (by omega) (by omega) q3
    obtain ⟨c1, c2, c3⟩ := b2 no
    refine ⟨m2, e2, f2, ?_, b1, c1, c2, c3⟩
    unfold HG
    rw [b3]
    exact Or.inr ⟨by omega, q3, hk, b1, c1, c2, fun v => c3 (by omega)⟩
