/-! alike: the class -/
theorem k250 : shK 250 = 0 + 10 := by decide +kernel
theorem h0I (m : Mem) : getI 0 0 250 m = some (m 250 0) := gtI (by decide +kernel) m
theorem h4I (m : Mem) : getI 0 4 250 m = some (m 250 4) := gtI (by decide +kernel) m
theorem h5I (m : Mem) : getI 0 5 250 m = some (m 250 5) := gtI (by decide +kernel) m
theorem h8I (m : Mem) : getI 0 8 250 m = some (m 250 8) := gtI (by decide +kernel) m
theorem h9I (m : Mem) : getI 0 9 250 m = some (m 250 9) := gtI (by decide +kernel) m
theorem h0P (v : Int) (m : Mem) : putI 0 0 250 v m = some (up m 250 0 v) := ptI (by decide +kernel) v m
theorem h4P (v : Int) (m : Mem) : putI 0 4 250 v m = some (up m 250 4 v) := ptI (by decide +kernel) v m
theorem h5P (v : Int) (m : Mem) : putI 0 5 250 v m = some (up m 250 5 v) := ptI (by decide +kernel) v m
theorem h8P (v : Int) (m : Mem) : putI 0 8 250 v m = some (up m 250 8 v) := ptI (by decide +kernel) v m
theorem h9P (v : Int) (m : Mem) : putI 0 9 250 v m = some (up m 250 9 v) := ptI (by decide +kernel) v m
theorem h1R {m : Mem} (r : Refs m) : getR 0 1 250 m = some 251 := rc r 251 (by decide +kernel)
theorem h2R {m : Mem} (r : Refs m) : getR 0 2 250 m = some 254 := rc r 254 (by decide +kernel)
theorem h3R {m : Mem} (r : Refs m) : getR 0 3 250 m = some 255 := rc r 255 (by decide +kernel)
theorem h6R {m : Mem} (r : Refs m) : getR 0 6 250 m = some 256 := rc r 256 (by decide +kernel)
theorem h7R {m : Mem} (r : Refs m) : getR 0 7 250 m = some 257 := rc r 257 (by decide +kernel)
theorem hrow_c : ∀ i, i < 2 → (isCon 251 i && (shK 251 == 3 || shK 251 == 4) && decide (i < shN 251) && decide (252 + i ≠ 0) && mo LM 251 i == ((252 + i : Nat) : Int)) = true := by decide +kernel
theorem hrow {m : Mem} (r : Refs m) {i : Nat} (hi : i < 2) : aldR 251 (i : Int) m = some (252 + i) := by
  have q := hrow_c i hi
  exact rca r (i := (i : Int)) rfl (252 + i) q
/-- what may change while hanging is tried -/
def HnS (P a k : Nat) : Prop := (a = 250 ∧ (k = 0 ∨ k = 4 ∨ k = 5 ∨ k = 8 ∨ k = 9)) ∨ (252 ≤ a ∧ a ≤ 257) ∨ a = 164 ∨ a = 176 ∨ a = 188 ∨ a = 200 ∨ a = P + 27 ∨ a = P + 27
def HnF (P : Nat) (m m2 : Mem) : Prop := ∀ a k, ¬HnS P a k → m2 a k = m a k
theorem hnf_refl (P : Nat) (m : Mem) : HnF P m m := fun _ _ _ => rfl
theorem hnf_trans {P : Nat} {m m2 m3 : Mem} (f : HnF P m m2) (g : HnF P m2 m3) : HnF P m m3 := fun a k h => by rw [g a k h, f a k h]
theorem hnf_set {P : Nat} {m m2 : Mem} (f : HnF P m m2) {a : Nat} (h : 252 ≤ a ∧ a ≤ 257) (g : Nat → Int) : HnF P m (setA m2 a g) := fun b k hk => by
  rw [setA_ne (fun e => hk (Or.inr (Or.inl (by rw [e]; exact h))))]
  exact f b k hk
theorem hnf_up {P : Nat} {m m2 : Mem} (f : HnF P m m2) {j : Nat} (h : j = 0 ∨ j = 4 ∨ j = 5 ∨ j = 8 ∨ j = 9) (v : Int) : HnF P m (up m2 250 j v) := fun b k hk => by
  unfold up
  rw [if_neg (fun e => hk (Or.inl ⟨e.1, by rw [e.2]; exact h⟩))]
  exact f b k hk
theorem hns_scr {P a k : Nat} (h : HnS P a k) : Scr P a k := by
  rcases h with h | h | h | h | h | h | h | h
  · exact scr_9 h
  · exact scr_10 h
  · exact scr_2 (by omega)
  · exact scr_2 (by omega)
  · exact scr_2 (by omega)
  · exact scr_2 (by omega)
  · exact scr_13 h
  · exact scr_14 h
/-- what the class's trying rests on -/
def KN (m : Mem) (P : Nat) (I : Isl) (l : Lnd) : Prop := Refs m ∧ PD m P I ∧ LD m 69 l ∧ NX m 159 P I l (I 15)
theorem hnf_ro {P : Nat} {m m2 : Mem} (f : HnF P m m2) (a : Nat) (h : ∀ k, ¬HnS P a k) : m2 a = m a := funext fun k => f a k (h k)
theorem hn_kn {P : Nat} {m m2 : Mem} {I : Isl} {l : Lnd} (n : Cn I) (f : HnF P m m2) (k : KN m P I l) : KN m2 P I l := by
  obtain ⟨r, h1, hl, nx⟩ := k
  have hP := h1.1
  have n9 := n.2.2.2.1
  have r2 : Refs m2 := refs_of r (fun a k hk => f a k (fun y => by rw [scr_ref hP (hns_scr y)] at hk; exact absurd hk (by decide)))
  have ro : ∀ a, (a < 250 ∧ ¬a = 164 ∧ ¬a = 176 ∧ ¬a = 188 ∧ ¬a = 200 ∧ ¬a = P + 27 ∧ ¬a = P + 27) → m2 a = m a := fun a ha => hnf_ro f a (fun k => by unfold HnS; omega)
  refine ⟨r2, pd_off h1 (fun a _ _ _ _ _ => ro a (by omega)), ld_off hl (fun a _ _ => ro a (by omega)), ?_⟩
  obtain ⟨⟨n1, n2, n3, n4, n5, n6⟩, n7, n8⟩ := nx
  refine ⟨⟨r2, sd_off n2 (fun q q1 q2 => ro q (by omega)), sd_off n3 (fun q q1 q2 => ro q (by omega)), ?_, ?_, ?_⟩, fun t ht => lay_off (n7 t ht) ⟨ro (159 + 7 + t) (by omega), ro (159 + 19 + t) (by omega), ro (159 + 31 + t) (by omega)⟩, ?_⟩
  · rw [ro (159 + 1) (by omega)]; exact n4
  · rw [ro (159 + 2) (by omega)]; exact n5
  · rw [ro (159 + 4) (by omega)]; exact n6
  · rw [ro (159 + 42) (by omega)]; exact n8
def Dh (I : Isl) (l : Lnd) (i x : Int) : Int := if l 1 (I 13 i) = x ∨ isF I l x = 1 then dq I l (I 13 i) x else 0
theorem Dh_in (I : Isl) (l : Lnd) (i x : Int) : 0 ≤ Dh I l i x ∧ Dh I l i x ≤ 1188 := by
  have y := (dwt_in I l (I 15) x (I 10 (I 13 i)) 12).1
  unfold Dh dq
  split <;> omega
theorem Dh_can {I : Isl} {l : Lnd} {i x : Int} (h : l 1 (I 13 i) = x ∨ isF I l x = 1) : Dh I l i x = dq I l (I 13 i) x := if_pos h
/-- drops by cistern, all of them, the nearest ones, what the first cloths bring -/
def HS (m : Mem) (I : Isl) (l : Lnd) (c : Int → Int) (al : Int) (n : Nat) : Prop := m 250 5 = I 6 0 ∧ m 250 4 = al ∧ (∀ k : Nat, k < 5 → m 255 k = c k) ∧ (∀ x : Nat, (x : Int) < nC I → m 254 x = ner I x) ∧ ∀ i : Nat, i < n → ∀ x : Nat, (x : Int) < nC I → m (252 + i) x = Dh I l i x
theorem x_canHang {N : Nat} (hN : 2000 ≤ N) {m : Mem} {P : Nat} {I : Isl} {l : Lnd} (kn : KN m P I l) (z : Sz I) (n : Cn I) (cl : Cl I) (tc : Tc I l) {i : Int} (i0 : 0 ≤ i) (i1 : i < I 12 0) (x : Int) : X0_canHang N P 69 i x m = some (bi (l 1 (I 13 i) = x ∨ isF I l x = 1)) := by
  obtain ⟨r, h1, hl, nx⟩ := kn
  have cc := cl_cell n cl tc i0 i1
  obtain ⟨n1, n2, n3, n4, n5, n6⟩ := id n
  refine wp_eq ?_
  unfold X0_canHang
  refine wp_b (ld_R r hl (by decide)) ?_
  refine wp_b (pd_R r h1 (by decide)) ?_
  refine wp_b (pd_r13 h1 i0 (by omega)) ?_
  refine wp_b (ld_r1 hl cc.1.1 (by omega)) ?_
  by_cases q : l 1 (I 13 i) = x
  · rw [if_pos q]
    unfold X0_canHang_J24
    exact wp_z1 (bi_t (Or.inl q))
  · rw [if_neg q]
    refine wp_b (x_isFree hN r h1 hl z n x) ?_
    have fi : isF I l x = 0 ∨ isF I l x = 1 := bi_in _
    rcases fi with y | y
    · rw [if_pos y]
      exact wp_z0 (bi_f (fun u => by rcases u with u | u <;> omega))
    · rw [if_neg (by omega)]
      unfold X0_canHang_J24
      exact wp_z1 (bi_t (Or.inr y))
theorem x_hangOn {m : Mem} {P : Nat} {I : Isl} {l : Lnd} {c : Int → Int} {al : Int} {n' : Nat} (kn : KN m P I l) (z : Sz I) (n : Cn I) (hk : 0 < I 6 0) (hs : HS m I l c al n') (hc : ∀ k, -100000 ≤ c k ∧ c k ≤ 100000) (ha : -100000 ≤ al ∧ al ≤ 100000) (h2 : n' ≤ 2) {i : Nat} (hi : i < n') {x : Int} (x0 : 0 ≤ x) (x1 : x < nC I) {t : Int} (ht : t = 1 ∨ t = -1) : ∃ m2, X0_hangOn 250 (i : Int) x t m = some m2 ∧ HS m2 I l (ad c (ner I x) (t * Dh I l i x)) (al + t * Dh I l i x) n' ∧ HnF P m m2 ∧ m2 256 i = x ∧ (∀ j, ¬j = i → m2 256 j = m 256 j) ∧ m2 250 8 = m 250 8 ∧ m2 250 9 = m 250 9 ∧ m2 257 = m 257 := by
  obtain ⟨r, _, _, _⟩ := kn
  obtain ⟨s5, s4, sc, sn, sd⟩ := hs
  have hi2 : i < 2 := by omega
  have z7 := z.2.2.2.2.2.2
  have ex : ((x.toNat : Nat) : Int) = x := Int.toNat_of_nonneg x0
  have nk := ner_ok n hk x
  obtain ⟨n1, n2, n3, n4, n5, n6⟩ := id n
  have ek : (((ner I x).toNat : Nat) : Int) = ner I x := Int.toNat_of_nonneg nk.1
  have d := Dh_in I l i x
  have cb := hc (ner I x)
  have e254 : m 254 x.toNat = ner I x := by
    have y := sn x.toNat (by omega)
    rw [ex] at y
    exact y
  have e255 : m 255 (ner I x).toNat = c (ner I x) := by
    have y := sc (ner I x).toNat (by omega)
    rw [ek] at y
    exact y
  have e252 : m (252 + i) x.toNat = Dh I l i x := by
    have y := sd i hi x.toNat (by omega)
    rw [ex] at y
    exact y
  have srow : (shK (252 + i) == 1 && shN (252 + i) == 42) = true := by
    have : i = 0 ∨ i = 1 := by omega
    rcases this with e | e <;> subst e <;> decide +kernel
  have td : t * Dh I l i x = Dh I l i x ∨ t * Dh I l i x = -Dh I l i x := by
    rcases ht with e | e
    · rw [e, Int.one_mul]; exact Or.inl rfl
    · rw [e, Int.neg_one_mul]; exact Or.inr rfl
  obtain ⟨g1, e1, a1, k1⟩ := ar_stE (a := 255) (n := 5) (i := ner I x) (by decide +kernel) (by decide +kernel) (by decide) nk.1 (by omega) (c (ner I x) + t * Dh I l i x) m
  have r1 : Refs (setA m 255 g1) := refs_set r (by decide +kernel) g1
  have r2 : Refs (up (setA m 255 g1) 250 4 (al + t * Dh I l i x)) := refs_up r1 (by decide +kernel) _
  obtain ⟨g2, e2, a2, k2⟩ := ar_stE (a := 256) (n := 2) (i := (i : Int)) (by decide +kernel) (by decide +kernel) (by decide) (by omega) (by omega) x (up (setA m 255 g1) 250 4 (al + t * Dh I l i x))
  rw [Int.toNat_natCast] at a2 k2
  have oo : ∀ a, ¬a = 250 → ¬a = 255 → ¬a = 256 → setA (up (setA m 255 g1) 250 4 (al + t * Dh I l i x)) 256 g2 a = m a := fun a q1 q2 q3 => by
    rw [setA_ne q3, up_setA, setA_ne q1, setA_ne q2]
  have o250 : ∀ j, ¬j = 4 → setA (up (setA m 255 g1) 250 4 (al + t * Dh I l i x)) 256 g2 250 j = m 250 j := fun j hj => by
    rw [setA_ne (by decide), up_at, if_neg hj, setA_ne (by decide)]
  refine ⟨setA (up (setA m 255 g1) 250 4 (al + t * Dh I l i x)) 256 g2, ?_, ⟨?_, ?_, fun k hk2 => ?_, fun y hy => ?_, fun j hj y hy => ?_⟩, hnf_set (hnf_up (hnf_set (hnf_refl P m) (by decide) g1) (by decide) _) (by decide) g2, ?_, fun j hj => ?_, o250 8 (by decide), o250 9 (by decide), oo 257 (by decide) (by decide) (by decide)⟩
  · refine wp_eq ?_
    unfold X0_hangOn
    refine wp_k k250 ?_
    refine wp_b (h2R r) ?_
    refine wp_b (arI 42 (by decide +kernel) x0 (by omega) m) ?_
    rw [e254, if_neg (by omega)]
    refine wp_b (h5I m) ?_
    rw [s5, if_neg (by omega)]
    refine wp_b (h3R r) ?_
    refine wp_b (arI 5 (by decide +kernel) nk.1 (by omega) m) ?_
    refine wp_b (h1R r) ?_
    refine wp_b (hrow r hi2) ?_
    refine wp_b (arI 42 srow x0 (by omega) m) ?_
    rw [e255, e252, wI_of2 (x := t * Dh I l i x) (by omega) (by omega), wI_of2 (x := c (ner I x) + t * Dh I l i x) (by omega) (by omega)]
    refine wp_b e1 ?_
    refine wp_b (h4I _) ?_
    refine wp_b (h1R r1) ?_
    refine wp_b (hrow r1 hi2) ?_
    refine wp_b (arI 42 srow x0 (by omega) _) ?_
    rw [setA_ne (show ¬250 = 255 from by decide), setA_ne (show ¬252 + i = 255 from by omega), e252, s4, wI_of2 (x := t * Dh I l i x) (by omega) (by omega), wI_of2 (x := al + t * Dh I l i x) (by omega) (by omega)]
    refine wp_b (h4P _ _) ?_
    unfold X0_hangOn_J61
    refine wp_b (h6R r2) ?_
    refine wp_b e2 ?_
    exact wp_some rfl
  · rw [o250 5 (by decide)]; exact s5
  · rw [setA_ne (by decide), up_same]
  · rw [setA_ne (by decide), up_setA, setA_ne (by decide), setA_same]
    unfold ad
    by_cases q : (k : Int) = ner I x
    · rw [if_pos q, q, show k = (ner I x).toNat from by omega, a1]
    · rw [if_neg q, k1 k (by omega), sc k hk2, Int.add_zero]
  · rw [oo 254 (by decide) (by decide) (by decide)]; exact sn y hy
  · rw [oo (252 + j) (by omega) (by omega) (by omega)]; exact sd j hj y hy
  · rw [setA_same]; exact a2
  · rw [setA_same, k2 j hj, up_setA, setA_ne (by decide), setA_ne (by decide)]
/-- the best so far, as the class has it -/
def BZ (m : Mem) (z : Bst) (n : Nat) : Prop := m 250 8 = z.1 ∧ (¬z.1 = -1 → m 250 9 = z.2.1 ∧ m 257 0 = z.2.2.1 ∧ (n = 2 → m 257 1 = z.2.2.2))
theorem x_spread {N : Nat} (hN : 2000 ≤ N) {m : Mem} {I : Isl} {c : Int → Int} (r : Refs m) (n : Cn I) (hk : 0 < I 6 0) (s5 : m 250 5 = I 6 0) (sc : ∀ k : Nat, k < 5 → m 255 k = c k) (hc : ∀ k, 0 ≤ c k ∧ c k ≤ 20000) : X0_spread N 250 m = some (mxTo c (nK I - 1) - mnTo c (nK I - 1)) := by
  have ek : ((nK I : Nat) : Int) = I 6 0 := n.1.symm
  have n2 := n.2.1
  have mi := mx_in c hc
  unfold X0_spread
  rw [if_pos k250, h3R r, Option.bind_some, arI 5 (by decide +kernel) (by decide) (by decide), Option.bind_some, Option.bind_some, arI 5 (by decide +kernel) (by decide) (by decide), Option.bind_some, show (0 : Int).toNat = 0 from rfl, sc 0 (by decide)]
  refine lp_3 (fun j => mxTo c j) (fun j => mnTo c j) Tr (fun F x y i => X0_spread_L16 N _ m F 250 x y (i + 1)) (nK I - 1) _ (tr 0) (fun F j hj _ ih => ?_) (fun F _ => ?_) N (by omega)
  · refine wp_eq ?_
    show Wp (X0_spread_L16_b N _ m (X0_spread_L16 N _ m F) 250 (mxTo c j) (mnTo c j) ((j : Int) + 1)) _
    unfold X0_spread_L16_b
    refine wp_b (h5I m) ?_
    rw [s5, if_neg (by omega)]
    refine wp_b (h3R r) ?_
    refine wp_b (arI 5 (by decide +kernel) (by omega) (by omega) m) ?_
    refine wp_b (h3R r) ?_
    refine wp_b (arI 5 (by decide +kernel) (by omega) (by omega) m) ?_
    have e := sc (j + 1) (by omega)
    rw [show ((j : Int) + 1).toNat = j + 1 from by omega, e, wI_of2 (x := (j : Int) + 1 + 1) (by omega) (by omega)]
    exact wp_of (ih (mxTo c (j + 1)) (mnTo c (j + 1)) ((j : Int) + 1) rfl rfl rfl (tr _)) rfl
  · have b := mi (nK I - 1)
    refine wp_eq ?_
    show Wp (X0_spread_L16_b N _ m (X0_spread_L16 N _ m F) 250 (mxTo c (nK I - 1)) (mnTo c (nK I - 1)) (((nK I - 1 : Nat) : Int) + 1)) _
    unfold X0_spread_L16_b
    refine wp_b (h5I m) ?_
    rw [s5, if_pos (by omega)]
    show Wp (some (wI (mxTo c (nK I - 1) - mnTo c (nK I - 1)))) _
    rw [wI_of2 (by omega) (by omega)]
    exact wp_some rfl
theorem x_judge {N : Nat} (hN : 2000 ≤ N) {m : Mem} {P : Nat} {I : Isl} {l l2 : Lnd} {c : Int → Int} {al : Int} {n' : Nat} {z : Bst} {a b : Int} (r : Refs m) (n : Cn I) (hk : 0 < I 6 0) (h2 : n' ≤ 2) (hs : HS m I l c al n') (ec : ∀ k, c k = cms I l2 (I 15) k) (ea : al = allC I l2) (bz : BZ m z n') (s0 : m 256 0 = a) (s1 : n' = 2 → m 256 1 = b) : ∃ m2, X0_judge N 250 m = some m2 ∧ HS m2 I l c al n' ∧ BZ m2 (cmpB I l2 a b z) n' ∧ HnF P m m2 ∧ m2 256 = m 256 := by
  obtain ⟨s5, s4, sc, sn, sd⟩ := id hs
  have efn : c = fun k => cms I l2 (I 15) k := funext ec
  have sp : X0_spread N 250 m = some (sprd I l2) := by
    have y := x_spread hN r n hk s5 sc (fun k => by rw [ec]; exact cms_in n l2 (I 15) k)
    rw [y, efn]
    rfl
  have si := sprd_in n l2
  have stay : ¬(z.1 = -1 ∨ sprd I l2 < z.1 ∨ sprd I l2 = z.1 ∧ z.2.1 < allC I l2) → ∃ m2, X0_judge_J44 N 250 (sprd I l2) m = some m2 ∧ HS m2 I l c al n' ∧ BZ m2 (cmpB I l2 a b z) n' ∧ HnF P m m2 ∧ m2 256 = m 256 := by
    intro q
    refine ⟨m, ?_, hs, ?_, hnf_refl P m, rfl⟩
    · unfold X0_judge_J44 X0_judge_J45
      rw [if_pos rfl]
    · unfold cmpB
      rw [if_neg q]
      exact bz
  have take : (z.1 = -1 ∨ sprd I l2 < z.1 ∨ sprd I l2 = z.1 ∧ z.2.1 < allC I l2) → ∃ m2, X0_judge_J40 N 250 (sprd I l2) m = some m2 ∧ HS m2 I l c al n' ∧ BZ m2 (cmpB I l2 a b z) n' ∧ HnF P m m2 ∧ m2 256 = m 256 := by
    intro q
    have r1 : Refs (up m 250 8 (sprd I l2)) := refs_up r (by decide +kernel) _
    have r2 : Refs (up (up m 250 8 (sprd I l2)) 250 9 al) := refs_up r1 (by decide +kernel) _
    have cp := x_acopy (a := 256) (b := 257) (k := 2) (by decide +kernel) (by decide +kernel) (by decide) (by decide) (by decide) (by decide +kernel) (by decide +kernel) (up (up m 250 8 (sprd I l2)) 250 9 al)
    obtain ⟨m3, hm3⟩ : ∃ m3, m3 = setA (up (up m 250 8 (sprd I l2)) 250 9 al) 257 (fun j => if j < (2 : Int).toNat then up (up m 250 8 (sprd I l2)) 250 9 al 256 j else up (up m 250 8 (sprd I l2)) 250 9 al 257 j) := ⟨_, rfl⟩
    have oo : ∀ x, ¬x = 250 → ¬x = 257 → m3 x = m x := fun x q1 q2 => by
      rw [hm3, setA_ne q2, up_setA, setA_ne q1, up_setA, setA_ne q1]
    have o250 : ∀ j, ¬j = 8 → ¬j = 9 → m3 250 j = m 250 j := fun j j1 j2 => by
      rw [hm3, setA_ne (by decide), up_at, if_neg j2, up_at, if_neg j1]
    have e257 : ∀ j, j < 2 → m3 257 j = m 256 j := fun j hj => by
      rw [hm3, setA_same]
      show (if j < 2 then up (up m 250 8 (sprd I l2)) 250 9 al 256 j else _) = _
      rw [if_pos hj, up_obj (by decide), up_obj (by decide)]
    refine ⟨m3, ?_, ⟨?_, ?_, fun k hk2 => ?_, fun y hy => ?_, fun j hj y hy => ?_⟩, ?_, ?_, oo 256 (by decide) (by decide)⟩
    · refine wp_eq ?_
      unfold X0_judge_J40 X0_judge_J45
      rw [if_neg (by decide)]
      refine wp_b (h8P _ m) ?_
      refine wp_b (h4I _) ?_
      rw [up_slot (by decide), s4]
      refine wp_b (h9P _ _) ?_
      refine wp_b (h6R r2) ?_
      refine wp_b (h7R r2) ?_
      refine wp_b cp ?_
      rw [← hm3]
      exact wp_some rfl
    · rw [o250 5 (by decide) (by decide)]; exact s5
    · rw [o250 4 (by decide) (by decide)]; exact s4
    · rw [oo 255 (by decide) (by decide)]; exact sc k hk2
    · rw [oo 254 (by decide) (by decide)]; exact sn y hy
    · rw [oo (252 + j) (by omega) (by omega)]; exact sd j hj y hy
    · unfold cmpB
      rw [if_pos q]
      refine ⟨?_, fun _ => ⟨?_, ?_, fun hn2 => ?_⟩⟩
      · show m3 250 8 = sprd I l2
        rw [hm3, setA_ne (by decide), up_slot (by decide), up_same]
      · show m3 250 9 = allC I l2
        rw [hm3, setA_ne (by decide), up_same, ea]
      · show m3 257 0 = a
        rw [e257 0 (by decide), s0]
      · show m3 257 1 = b
        rw [e257 1 (by decide), s1 hn2]
    · intro x k hk2
      by_cases q1 : x = 250
      · subst q1
        exact o250 k (fun u => hk2 (Or.inl ⟨rfl, by omega⟩)) (fun u => hk2 (Or.inl ⟨rfl, by omega⟩))
      · by_cases q2 : x = 257
        · exact absurd (Or.inr (Or.inl (by omega))) hk2
        · rw [oo x q1 q2]
  obtain ⟨b1, b2⟩ := bz
  have fin : ∀ (x : Option Mem), x = X0_judge N 250 m → (∃ m2, x = some m2 ∧ HS m2 I l c al n' ∧ BZ m2 (cmpB I l2 a b z) n' ∧ HnF P m m2 ∧ m2 256 = m 256) → ∃ m2, X0_judge N 250 m = some m2 ∧ HS m2 I l c al n' ∧ BZ m2 (cmpB I l2 a b z) n' ∧ HnF P m m2 ∧ m2 256 = m 256 := fun x e h => by rw [← e]; exact h
  have exp : ∀ x, (if z.1 = -1 then X0_judge_J40 N 250 (sprd I l2) m else if sprd I l2 < z.1 then X0_judge_J40 N 250 (sprd I l2) m else if ¬sprd I l2 = z.1 then X0_judge_J44 N 250 (sprd I l2) m else if al ≤ m 250 9 then X0_judge_J44 N 250 (sprd I l2) m else X0_judge_J40 N 250 (sprd I l2) m) = x → X0_judge N 250 m = x := by
    intro x hx
    unfold X0_judge
    rw [if_pos k250, sp]
    simp only [Option.bind_some, h8I, h4I, h9I, b1, s4]
    exact hx
  by_cases q1 : z.1 = -1
  · exact fin _ (exp _ (if_pos q1)).symm (take (Or.inl q1))
  · obtain ⟨b3, b4, b5⟩ := b2 q1
    by_cases q2 : sprd I l2 < z.1
    · exact fin _ (exp _ (by rw [if_neg q1, if_pos q2])).symm (take (Or.inr (Or.inl q2)))
    · by_cases q3 : sprd I l2 = z.1
      · by_cases q4 : z.2.1 < allC I l2
        · exact fin _ (exp _ (by rw [if_neg q1, if_neg q2, if_neg (fun u => u q3), if_neg (by omega)])).symm (take (Or.inr (Or.inr ⟨q3, q4⟩)))
        · exact fin _ (exp _ (by rw [if_neg q1, if_neg q2, if_neg (fun u => u q3), if_pos (by omega)])).symm (stay (by omega))
      · exact fin _ (exp _ (by rw [if_neg q1, if_neg q2, if_pos q3])).symm (stay (by omega))
