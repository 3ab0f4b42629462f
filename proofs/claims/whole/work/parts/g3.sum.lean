/-! products and sums are read by both -/
variable {T : Nat → Int} {len K D B S So p p2 ko f0 : Nat} {co : Int → Int} {s : Int} {m0 n0 : Mem} {I : Isl} {l : Lnd}
theorem add_one {x : Int} (hx : x ≤ 1599) (h0 : 0 ≤ x) : wI (x + 1) = x + 1 := wI_of2 (by omega) (by omega)
/-- what is read behind an operator is joined by the class -/
theorem b_joinX {m n : Mem} {a k R e q q2 o : Nat} {c : Int} (hc : isOpS c) (h : MS T len K D B S So p p2 co ko f0 s m0 n0 I l m n a k R (e + 2)) (pn : PenG m n S f0 (q + 1) q2 R) (hR : R + (q2 - (q + 1)) = k) (e94 : n 294 q = cdS (-c)) (hd : 2 ≤ dpt (cM m S f0) k) : ∃ m2, X7_add S (wI (-c)) m = some (1, m2) ∧ MS T len K D B S So p p2 co ko f0 s m0 n0 I l m2 n a (k + 1) R (e + 1) ∧ PenG m2 n S f0 q q2 R ∧ R + (q2 - q) = k + 1 ∧ dpt (cM m2 S f0) (k + 1) = dpt (cM m S f0) k - 1 := by
  obtain ⟨sS, s1, s2, s3, s4, s5, s6⟩ := sc_S h.1.2.2.1
  have bd := (ms_B h).2.2.2.1
  have al := (ms_B h).2.2.2.2.2
  obtain ⟨x1, x2, x3⟩ := cdS_sg hc
  have cb : 37 ≤ c ∧ c ≤ 47 := by rcases hc with z | z | z | z | z <;> omega
  rw [wI_of2 (x := -c) (by omega) (by omega)]
  obtain ⟨m2, e2, a1, a2, a3, a4, r2⟩ := x_addC h.1.1 sS s5 h.2.2.1 (show f0 + k < 1600 from by omega) (-c)
  obtain ⟨h2, d2⟩ := ms_addX (e := e + 1) (v := -c) h a1 a2 a3 a4 r2 (Or.inr ⟨x2, hd⟩)
  have p1 := pn.1
  refine ⟨m2, e2, h2, ⟨by omega, fun i hi => ?_⟩, by omega, by rw [d2, if_pos x3]⟩
  by_cases y : i < q2 - (q + 1)
  · obtain ⟨z1, z2⟩ := pn.2 i y
    rw [a3 (R + i) (by omega)]
    exact ⟨z1, z2⟩
  · have ei : R + i = k := by omega
    rw [show q2 - 1 - i = q from by omega, ei, a2]
    exact ⟨e94, by omega⟩
theorem prod_loop {N F0 : Nat} (hN : 2000 ≤ N) {self : Nat → Nat → Int → Mem → Option (Int × Mem)} {nn : Mem} {a0 e o q b : Nat} {d : Int} (ho : o ≤ 7) (hq : q ≤ 2 * o + 1) (IH : o < 7 → SumOk T len K D B S So p p2 co ko f0 s m0 n0 I l N self (o + 1)) (hd : d ≤ 3 * o + 2) (hd1 : 1 ≤ d) : ∀ (w Fc F : Nat) (l4 : Int) (m n : Mem) (a k R q2 : Nat), len - a ≤ w → w < Fc → 0 ≤ l4 → l4 + (len - a : Nat) ≤ 1599 → MS T len K D B S So p p2 co ko f0 s m0 n0 I l m n a k R (e + 1) → SSt n o q2 → PenG m n S f0 q q2 R → R + (q2 - q) = k → q2 ≤ q + 1 → (∀ i, q ≤ i → i < q2 → ¬(n 294 i = 10 ∨ n 294 i = 11)) → n 264 48 = 1 → dpt (cM m S f0) k = d → n 293 o = (b : Int) → (q = b ∨ (q = b + 1 ∧ (n 294 b = 10 ∨ n 294 b = 11))) → len + 2 ≤ F + a → Lr N F0 nn = Lr N F n → a0 < a → KpF nn n o q → Wp (X6_product_L10 N self Fc 5 S (o : Int) 1 l4 m) (fun r => Fau D B m0 n0 N F0 nn r ∨ Hdd T len K D B S So p p2 co ko f0 s m0 n0 I l N F0 nn a0 (e + 1) o q 1 d (fun x => x = 42 ∨ x = 47 ∨ x = 37) r) := by
  intro w
  induction w with
  | zero =>
    intro Fc F l4 m n a k R q2 hw hFc hl0 hl h st pn hR hq2 rk e48 dd e93 hb hF el la kp
    obtain ⟨Fc, rfl⟩ : ∃ f, Fc = f + 1 := ⟨Fc - 1, by omega⟩
    have al := (ms_B h).2.2.2.2.2.1
    have rs := h.2.1.2
    show Wp (X6_product_L10_b N self (X6_product_L10 N self Fc) 5 S (o : Int) 1 l4 m) _
    unfold X6_product_L10_b
    rw [if_neg (by omega), if_neg (by decide)]
    refine wp_b (p_isSign h.2.1.1 42 47 37) ?_
    have k0 : kdP T len a = (0, (len : Int)) := by
      show kdC T len false a = _
      unfold kdC
      rw [if_pos (by omega)]
    have no : ¬((kdP T len a).1 = 5 ∧ ((kdP T len a).2 = 42 ∨ (kdP T len a).2 = 47 ∨ (kdP T len a).2 = 37)) := fun u => by rw [k0] at u; exact absurd u.1 (by show ¬(0 : Int) = 5; decide)
    rw [← bi_f no, if_pos rfl]
    refine wp_b (v := 1) rfl ?_
    refine wp_some (Or.inr ⟨rfl, n, F, a, k, R, q2, el, la, hF, h, st, pn, hR, hq2, e48, dd, kp, fun x hx u => ?_, fun _ => rk⟩)
    have := rs_end rs (show ¬rsg T len a = 0 from by have := u.2.1; omega)
    omega
  | succ w ih =>
    intro Fc F l4 m n a k R q2 hw hFc hl0 hl h st pn hR hq2 rk e48 dd e93 hb hF el la kp
    obtain ⟨Fc, rfl⟩ : ∃ f, Fc = f + 1 := ⟨Fc - 1, by omega⟩
    have al := (ms_B h).2.2.2.2.2.1
    have bd := (ms_B h).2.2.2.1
    have rs := h.2.1.2
    show Wp (X6_product_L10_b N self (X6_product_L10 N self Fc) 5 S (o : Int) 1 l4 m) _
    unfold X6_product_L10_b
    rw [if_neg (by omega), if_neg (by decide)]
    refine wp_b (p_isSign h.2.1.1 42 47 37) ?_
    by_cases cc : (kdP T len a).1 = 5 ∧ ((kdP T len a).2 = 42 ∨ (kdP T len a).2 = 47 ∨ (kdP T len a).2 = 37)
    rotate_left
    · rw [← bi_f cc, if_pos rfl]
      refine wp_b (v := 1) rfl ?_
      refine wp_some (Or.inr ⟨rfl, n, F, a, k, R, q2, el, la, hF, h, st, pn, hR, hq2, e48, dd, kp, fun x hx u => ?_, fun _ => rk⟩)
      have kd := (sgn_same al x).mpr u
      exact cc ⟨by rw [kd], by rw [kd]; exact hx⟩
    rw [← bi_t cc, if_neg (by decide)]
    obtain ⟨c, hc⟩ : ∃ c, c = (kdP T len a).2 := ⟨_, rfl⟩
    rw [← hc] at cc
    have kd : kdP T len a = (5, c) := Prod.ext cc.1 hc.symm
    have sg := (sgn_same al c).mp kd
    have oc : isOpS c := by unfold isOpS; omega
    have lt : a < len := rs_end rs (by have := sg.2.1; omega)
    have nx1 := nx_in (T := T) lt
    refine wp_b (gtI (by decide +kernel) _) ?_
    refine wp_b (gtI (by decide +kernel) _) ?_
    rw [(p_kind h.2.1.1).2.1, ← hc]
    obtain ⟨m2, e2, rp2, f2⟩ := p_next h.1.1 h.2.1.1 (by rw [kd]; show ¬(5 : Int) = 0; decide) (by rw [kd]; show ¬(5 : Int) = 6; decide) (by rw [kd]; exact fun u => absurd (congrArg Prod.fst u) (by show ¬(5 : Int) = 2; decide))
    refine wp_b e2 ?_
    rw [if_neg (show ¬((1 : Int), m2).1 = 0 from by show ¬(1 : Int) = 0; decide)]
    obtain ⟨n2, eg, g8, h2, st2, e94, y2, kp2⟩ := b_opstep hN (show o < 19 from by omega) (by omega) (show b ≤ q from by omega) h sg oc st e93 pn hR (fun i i0 i1 => Or.inr (rk i i0 i1)) (by
      rcases hb with z | ⟨z1, z2⟩
      · exact Or.inl z
      · exact Or.inr ⟨by omega, by omega, by rw [show q - 1 = b from by omega]; exact z2⟩) f2 rp2
    obtain ⟨F, rfl⟩ := ms_F h hF
    have el2 : Lr N F0 nn = Lr N (F + 1) n2 := by rw [el]; exact l_go e48 eg g8
    have hD : D = 11 ∨ D = 40 := h.1.2.2.1.1
    obtain ⟨sS, s1, s2, s3, s4, s5, s6⟩ := sc_S h.1.2.2.1
    have cm : cM m2 S f0 = cM m S f0 := by unfold cM; rw [f2.1 (S + 1) (by omega)]
    have J77 : ∀ mm : Mem, Fau D B m0 n0 N F0 nn (0, mm) → Wp (X6_product_J77 N self (X6_product_L10 N self Fc) 5 S (o : Int) l4 mm) (fun r => Fau D B m0 n0 N F0 nn r ∨ Hdd T len K D B S So p p2 co ko f0 s m0 n0 I l N F0 nn a0 (e + 1) o q 1 d (fun x => x = 42 ∨ x = 47 ∨ x = 37) r) := fun mm fa => by
      unfold X6_product_J77 X6_product_J78
      obtain ⟨Fc, rfl⟩ : ∃ f, Fc = f + 1 := ⟨Fc - 1, by omega⟩
      rw [add_one (by omega) hl0]
      show Wp (X6_product_L10_b N self (X6_product_L10 N self Fc) 5 S (o : Int) 0 (l4 + 1) mm) _
      unfold X6_product_L10_b
      by_cases z : 1600 ≤ l4 + 1
      · rw [if_pos z]; exact wp_b (v := 0) rfl (wp_some (Or.inl fa))
      · rw [if_neg z, if_pos rfl]; exact wp_b (v := 0) rfl (wp_some (Or.inl fa))
    refine wp_bw (b_part hN (F := F + 1) (e := e + 1) (q := q + 1) ho (by omega) IH (ms_e h2 (by omega)) (by omega) st2 y2 (by rw [cm, dd]; exact hd)) (fun v hv => ?_)
    rcases hv with fa | ⟨v1, n3, F3, a3, k3, el3, la3, hF3, h3, st3, y3, dd3, kp3⟩
    · rw [fa.1, if_pos rfl]
      exact J77 v.2 (fau_tr el2 ⟨rfl, fa.2⟩)
    rw [v1, if_neg (by decide)]
    rw [cm, dd] at dd3
    have e94' : n3 294 q = cdS (-c) := by rw [kp3.2 q (by omega)]; exact e94
    obtain ⟨m4, e4, h4, pn4, hR4, d4⟩ := b_joinX (o := o) (q := q) (q2 := q + 1) oc h3 ⟨by omega, fun i hi => by omega⟩ (by omega) e94' (by rw [dd3]; omega)
    refine wp_b e4 ?_
    rw [if_neg (show ¬((1 : Int), m4).1 = 0 from by show ¬(1 : Int) = 0; decide)]
    unfold X6_product_J78
    rw [add_one (by omega) hl0]
    have kpq : KpF nn n3 o q := kp_trans kp (kp_trans kp2 kp3 (Nat.le_refl _) (by omega)) (Nat.le_refl _) (Nat.le_refl _)
    have kp23 : KpF n n3 o q := kp_trans kp2 kp3 (Nat.le_refl _) (by omega)
    have al3 := (ms_B h3).2.2.2.2.2.1
    refine ih Fc F3 (l4 + 1) m4 n3 a3 (k3 + 1) k3 (q + 1) (by omega) (by omega) (by omega) (by omega) h4 st3 pn4 hR4 (by omega) (fun i i0 i1 => ?_) y3 (by rw [d4, dd3]; omega) (by rw [(kp23.1 o (Nat.le_refl _)).2.2]; exact e93) ?_ hF3 (by rw [el2]; exact el3) (by omega) kpq
    · rw [show i = q from by omega, e94', (cdS_sg oc).1]
      have : c = 42 ∨ c = 47 ∨ c = 37 := cc.2
      rcases this with z | z | z <;> subst z <;> decide
    · rcases hb with z | ⟨z1, z2⟩
      · exact Or.inl z
      · exact Or.inr ⟨z1, by rw [kp23.2 b (by omega)]; exact z2⟩
theorem b_prod {N F : Nat} (hN : 2000 ≤ N) {self : Nat → Nat → Int → Mem → Option (Int × Mem)} {m n : Mem} {a k e o q b : Nat} (ho : o ≤ 7) (hq : q ≤ 2 * o + 1) (IH : o < 7 → SumOk T len K D B S So p p2 co ko f0 s m0 n0 I l N self (o + 1)) (h : MS T len K D B S So p p2 co ko f0 s m0 n0 I l m n a k k (e + 1)) (hF : len + 2 ≤ F + a) (st : SSt n o q) (e48 : n 264 48 = 0) (e93 : n 293 o = (b : Int)) (hb : q = b ∨ (q = b + 1 ∧ (n 294 b = 10 ∨ n 294 b = 11))) (hd : dpt (cM m S f0) k ≤ 3 * o + 1) : Wp (X6_product N self 5 S (o : Int) m) (fun r => Fau D B m0 n0 N F n r ∨ Hdd T len K D B S So p p2 co ko f0 s m0 n0 I l N F n a (e + 1) o q 1 (dpt (cM m S f0) k + 1) (fun x => x = 42 ∨ x = 47 ∨ x = 37) r) := by
  have bd := (ms_B h).2.2.2.1
  have al0 := (ms_B h).2.2.2.2.2
  have w3 := h.2.2.2.2.2.2.1 k (Nat.le_refl _)
  unfold X6_product
  refine wp_k k5r ?_
  refine wp_bw (b_part hN (F := F) ho (by omega) IH h hF st e48 (by omega)) (fun v hv => ?_)
  rcases hv with fa | ⟨v1, n3, F3, a3, k3, el3, la3, hF3, h3, st3, y3, dd3, kp3⟩
  · rw [fa.1]
    obtain ⟨M, rfl⟩ : ∃ f, N = f + 1 := ⟨N - 1, by omega⟩
    show Wp (X6_product_L10_b (M + 1) self (X6_product_L10 (M + 1) self M) 5 S (o : Int) 0 0 v.2) _
    unfold X6_product_L10_b
    rw [if_neg (by decide), if_pos rfl]
    exact wp_b (v := 0) rfl (wp_some (Or.inl ⟨rfl, fa.2⟩))
  · rw [v1]
    have al3 := (ms_B h3).2.2.2.2.2.1
    exact prod_loop hN ho hq IH (by omega) (by omega) (len - a3) N F3 0 v.2 n3 a3 k3 k3 q (Nat.le_refl _) (by omega) (by decide) (by omega) h3 st3 (pen_0 _ _ _ _ _ _) (by omega) (by omega) (fun i i0 i1 => by omega) y3 dd3 (by rw [(kp3.1 o (Nat.le_refl _)).2.2]; exact e93) (by
      rcases hb with z | ⟨z1, z2⟩
      · exact Or.inl z
      · exact Or.inr ⟨z1, by rw [kp3.2 b (by omega)]; exact z2⟩) hF3 el3 la3 kp3
theorem sum_loop {N F0 : Nat} (hN : 2000 ≤ N) {self : Nat → Nat → Int → Mem → Option (Int × Mem)} {nn : Mem} {a0 e o q : Nat} {d : Int} (ho : o ≤ 7) (hq : q ≤ 2 * o) (IH : o < 7 → SumOk T len K D B S So p p2 co ko f0 s m0 n0 I l N self (o + 1)) (hd : d ≤ 3 * o + 1) (hd1 : 1 ≤ d) : ∀ (w Fc F : Nat) (l4 : Int) (m n : Mem) (a k R q2 : Nat), len - a ≤ w → w < Fc → 0 ≤ l4 → l4 + (len - a : Nat) ≤ 1599 → MS T len K D B S So p p2 co ko f0 s m0 n0 I l m n a k R (e + 1) → SSt n o q2 → PenG m n S f0 q q2 R → R + (q2 - q) = k → q2 ≤ q + 2 → n 264 48 = 1 → dpt (cM m S f0) k = d → n 293 o = (q : Int) → (∀ x, x = 42 ∨ x = 47 ∨ x = 37 → ¬isS T len a x) → len + 2 ≤ F + a → Lr N F0 nn = Lr N F n → a0 < a → KpF nn n o q → Wp (X6_sum_L10 N self Fc 5 S (o : Int) 1 l4 m) (fun r => Fau D B m0 n0 N F0 nn r ∨ Hdd T len K D B S So p p2 co ko f0 s m0 n0 I l N F0 nn a0 (e + 1) o q 2 d isOpS r) := by
  intro w
  induction w with
  | zero =>
    intro Fc F l4 m n a k R q2 hw hFc hl0 hl h st pn hR hq2 e48 dd e93 ns hF el la kp
    obtain ⟨Fc, rfl⟩ : ∃ f, Fc = f + 1 := ⟨Fc - 1, by omega⟩
    have al := (ms_B h).2.2.2.2.2.1
    have rs := h.2.1.2
    show Wp (X6_sum_L10_b N self (X6_sum_L10 N self Fc) 5 S (o : Int) 1 l4 m) _
    unfold X6_sum_L10_b
    rw [if_neg (by omega), if_neg (by decide)]
    refine wp_b (p_isSign h.2.1.1 43 45 45) ?_
    have k0 : kdP T len a = (0, (len : Int)) := by
      show kdC T len false a = _
      unfold kdC
      rw [if_pos (by omega)]
    have no : ¬((kdP T len a).1 = 5 ∧ ((kdP T len a).2 = 43 ∨ (kdP T len a).2 = 45 ∨ (kdP T len a).2 = 45)) := fun u => by rw [k0] at u; exact absurd u.1 (by show ¬(0 : Int) = 5; decide)
    rw [← bi_f no, if_pos rfl]
    refine wp_b (v := 1) rfl ?_
    refine wp_some (Or.inr ⟨rfl, n, F, a, k, R, q2, el, la, hF, h, st, pn, hR, hq2, e48, dd, kp, fun x hx u => ?_, fun u => absurd u (by decide)⟩)
    have := rs_end rs (show ¬rsg T len a = 0 from by have := u.2.1; omega)
    omega
  | succ w ih =>
    intro Fc F l4 m n a k R q2 hw hFc hl0 hl h st pn hR hq2 e48 dd e93 ns hF el la kp
    obtain ⟨Fc, rfl⟩ : ∃ f, Fc = f + 1 := ⟨Fc - 1, by omega⟩
    have al := (ms_B h).2.2.2.2.2.1
    have bd := (ms_B h).2.2.2.1
    have rs := h.2.1.2
    show Wp (X6_sum_L10_b N self (X6_sum_L10 N self Fc) 5 S (o : Int) 1 l4 m) _
    unfold X6_sum_L10_b
    rw [if_neg (by omega), if_neg (by decide)]
    refine wp_b (p_isSign h.2.1.1 43 45 45) ?_
    by_cases cc : (kdP T len a).1 = 5 ∧ ((kdP T len a).2 = 43 ∨ (kdP T len a).2 = 45 ∨ (kdP T len a).2 = 45)
    rotate_left
    · rw [← bi_f cc, if_pos rfl]
      refine wp_b (v := 1) rfl ?_
      refine wp_some (Or.inr ⟨rfl, n, F, a, k, R, q2, el, la, hF, h, st, pn, hR, hq2, e48, dd, kp, fun x hx u => ?_, fun u => absurd u (by decide)⟩)
      have kd := (sgn_same al x).mpr u
      rcases hx with z | z | z | z | z
      · exact cc ⟨by rw [kd], by rw [kd]; exact Or.inl z⟩
      · exact cc ⟨by rw [kd], by rw [kd]; exact Or.inr (Or.inl z)⟩
      · exact ns x (Or.inl z) u
      · exact ns x (Or.inr (Or.inl z)) u
      · exact ns x (Or.inr (Or.inr z)) u
    rw [← bi_t cc, if_neg (by decide)]
    obtain ⟨c, hc⟩ : ∃ c, c = (kdP T len a).2 := ⟨_, rfl⟩
    rw [← hc] at cc
    have kd : kdP T len a = (5, c) := Prod.ext cc.1 hc.symm
    have sg := (sgn_same al c).mp kd
    have c2 : c = 43 ∨ c = 45 := by omega
    have oc : isOpS c := by unfold isOpS; omega
    have lt : a < len := rs_end rs (by have := sg.2.1; omega)
    have nx1 := nx_in (T := T) lt
    refine wp_b (gtI (by decide +kernel) _) ?_
    refine wp_b (gtI (by decide +kernel) _) ?_
    rw [(p_kind h.2.1.1).2.1, ← hc]
    obtain ⟨m2, e2, rp2, f2⟩ := p_next h.1.1 h.2.1.1 (by rw [kd]; show ¬(5 : Int) = 0; decide) (by rw [kd]; show ¬(5 : Int) = 6; decide) (by rw [kd]; exact fun u => absurd (congrArg Prod.fst u) (by show ¬(5 : Int) = 2; decide))
    refine wp_b e2 ?_
    rw [if_neg (show ¬((1 : Int), m2).1 = 0 from by show ¬(1 : Int) = 0; decide)]
    obtain ⟨n2, eg, g8, h2, st2, e94, y2, kp2⟩ := b_opstep hN (show o < 19 from by omega) (by omega) (Nat.le_refl q) h sg oc st e93 pn hR (fun i i0 i1 => Or.inl c2) (Or.inl rfl) f2 rp2
    obtain ⟨F, rfl⟩ := ms_F h hF
    have el2 : Lr N F0 nn = Lr N (F + 1) n2 := by rw [el]; exact l_go e48 eg g8
    have hD : D = 11 ∨ D = 40 := h.1.2.2.1.1
    obtain ⟨sS, s1, s2, s3, s4, s5, s6⟩ := sc_S h.1.2.2.1
    have cm : cM m2 S f0 = cM m S f0 := by unfold cM; rw [f2.1 (S + 1) (by omega)]
    have J77 : ∀ mm : Mem, Fau D B m0 n0 N F0 nn (0, mm) → Wp (X6_sum_J77 N self (X6_sum_L10 N self Fc) 5 S (o : Int) l4 mm) (fun r => Fau D B m0 n0 N F0 nn r ∨ Hdd T len K D B S So p p2 co ko f0 s m0 n0 I l N F0 nn a0 (e + 1) o q 2 d isOpS r) := fun mm fa => by
      unfold X6_sum_J77 X6_sum_J78
      obtain ⟨Fc, rfl⟩ : ∃ f, Fc = f + 1 := ⟨Fc - 1, by omega⟩
      rw [add_one (by omega) hl0]
      show Wp (X6_sum_L10_b N self (X6_sum_L10 N self Fc) 5 S (o : Int) 0 (l4 + 1) mm) _
      unfold X6_sum_L10_b
      by_cases z : 1600 ≤ l4 + 1
      · rw [if_pos z]; exact wp_b (v := 0) rfl (wp_some (Or.inl fa))
      · rw [if_neg z, if_pos rfl]; exact wp_b (v := 0) rfl (wp_some (Or.inl fa))
    have op10 : n2 294 q = 10 ∨ n2 294 q = 11 := by
      rw [e94, (cdS_sg oc).1]
      rcases c2 with z | z
      · rw [if_pos z]; exact Or.inl rfl
      · rw [if_neg (by omega), if_pos z]; exact Or.inr rfl
    refine wp_bw (b_prod hN (F := F + 1) (e := e + 1) (q := q + 1) (b := q) ho (by omega) IH (ms_e h2 (by omega)) (by omega) st2 y2 (by rw [(kp2.1 o (Nat.le_refl _)).2.2]; exact e93) (Or.inr ⟨rfl, op10⟩) (by rw [cm, dd]; exact hd)) (fun v hv => ?_)
    rcases hv with fa | ⟨v1, n3, F3, a3, k3, R3, q3, el3, la3, hF3, h3, st3, pn3, hR3, hq3, y3, dd3, kp3, ns3, _⟩
    · rw [fa.1, if_pos rfl]
      exact J77 v.2 (fau_tr el2 ⟨rfl, fa.2⟩)
    rw [v1, if_neg (by decide)]
    rw [cm, dd] at dd3
    have e94' : n3 294 q = cdS (-c) := by rw [kp3.2 q (by omega)]; exact e94
    obtain ⟨m4, e4, h4, pn4, hR4, d4⟩ := b_joinX (o := o) oc h3 pn3 hR3 e94' (by rw [dd3]; omega)
    refine wp_b e4 ?_
    rw [if_neg (show ¬((1 : Int), m4).1 = 0 from by show ¬(1 : Int) = 0; decide)]
    unfold X6_sum_J78
    rw [add_one (by omega) hl0]
    have kp23 : KpF n n3 o q := kp_trans kp2 kp3 (Nat.le_refl _) (by omega)
    have al3 := (ms_B h3).2.2.2.2.2.1
    exact ih Fc F3 (l4 + 1) m4 n3 a3 (k3 + 1) R3 q3 (by omega) (by omega) (by omega) (by omega) h4 st3 pn4 hR4 (by omega) y3 (by rw [d4, dd3]; omega) (by rw [(kp23.1 o (Nat.le_refl _)).2.2]; exact e93) ns3 hF3 (by rw [el2]; exact el3) (by omega) (kp_trans kp kp23 (Nat.le_refl _) (Nat.le_refl _))
theorem b_sumC {N : Nat} (hN : 2000 ≤ N) {self : Nat → Nat → Int → Mem → Option (Int × Mem)} {o : Nat} (ho : o ≤ 7) (IH : o < 7 → SumOk T len K D B S So p p2 co ko f0 s m0 n0 I l N self (o + 1)) : SumOk T len K D B S So p p2 co ko f0 s m0 n0 I l N (X6_sum_c N self) o := by
  intro F m n a k e q h st hq e48 e93 hd hF
  have bd := (ms_B h).2.2.2.1
  have al0 := (ms_B h).2.2.2.2.2
  have w3 := h.2.2.2.2.2.2.1 k (Nat.le_refl _)
  unfold X6_sum_c
  refine wp_k k5r ?_
  refine wp_bw (b_prod hN (F := F) ho (by omega) IH h hF st e48 e93 (Or.inl rfl) (by omega)) (fun v hv => ?_)
  rcases hv with fa | ⟨v1, n3, F3, a3, k3, R3, q3, el3, la3, hF3, h3, st3, pn3, hR3, hq3, y3, dd3, kp3, ns3, _⟩
  · rw [fa.1]
    obtain ⟨M, rfl⟩ : ∃ f, N = f + 1 := ⟨N - 1, by omega⟩
    show Wp (X6_sum_L10_b (M + 1) self (X6_sum_L10 (M + 1) self M) 5 S (o : Int) 0 0 v.2) _
    unfold X6_sum_L10_b
    rw [if_neg (by decide), if_pos rfl]
    exact wp_b (v := 0) rfl (wp_some (Or.inl ⟨rfl, fa.2⟩))
  · rw [v1]
    have al3 := (ms_B h3).2.2.2.2.2.1
    exact sum_loop hN ho hq IH (by omega) (by omega) (len - a3) N F3 0 v.2 n3 a3 k3 R3 q3 (Nat.le_refl _) (by omega) (by decide) (by omega) h3 st3 pn3 hR3 (by omega) y3 dd3 (by rw [(kp3.1 o (Nat.le_refl _)).2.2]; exact e93) ns3 hF3 el3 la3 kp3
theorem b_sum {N : Nat} (hN : 2000 ≤ N) : ∀ d o : Nat, o + d = 10 → o ≤ 7 → SumOk T len K D B S So p p2 co ko f0 s m0 n0 I l N (X6_sum N d) o := by
  intro d
  induction d with
  | zero => intro o h1 h2; omega
  | succ d ih =>
    intro o h1 h2
    exact b_sumC hN h2 (fun h => ih (o + 1) (by omega) (by omega))
