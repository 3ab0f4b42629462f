/-! both read a name -/
variable {T : Nat → Int} {len K D B : Nat} {m0 n0 : Mem}
def kn5 (I : Isl) (x : Int) : Prop := fnd (I 8) x (nK I) = -1 ∧ fnd (I 14) x (nH I) = -1
theorem x_knows {N : Nat} (hN : 2000 ≤ N) {m : Mem} (r : Refs m) {I : Isl} (h : PD m D I) (n : Cn I) (x : Int) : Wp (X5_knows N D x m) (fun v => (v = 0 ∧ kn5 I x) ∨ (v = 1 ∧ ¬kn5 I x)) := by
  obtain ⟨n1, n2, n3, n4, n5, n6⟩ := id n
  unfold X5_knows
  refine wp_k (pd_K h) ?_
  refine lp_w (fun j => fnd (I 8) x j = -1) (fun F i => X5_knows_L2 N (fun z6 z7 => X5_knows_L30 N m N z6 z7 0) m F D x i) (nK I) _ rfl (fun F j hj hS ih => ?_) (fun F hS => ?_) N (by omega)
  · show Wp (X5_knows_L2_b N _ m (X5_knows_L2 N _ m F) D x j) _
    unfold X5_knows_L2_b
    refine wp_b (pd_I h (k := 6) (by decide)) ?_
    rw [if_neg (by omega)]
    refine wp_b (pd_R r h (k := 8) (by decide)) ?_
    refine wp_b (pd_r8 h (by omega) (by omega)) ?_
    by_cases y : I 8 j = x
    · rw [if_neg (fun u => u y)]
      exact wp_z1 (Or.inr ⟨rfl, fun u => by have := fnd_yes hS y hj; have := u.1; omega⟩)
    · rw [if_pos y]
      exact ih _ (by first | omega | (simp (disch := omega) only [wI_of2] <;> omega)) (fnd_no hS y)
  · show Wp (X5_knows_L2_b N _ m (X5_knows_L2 N _ m F) D x (nK I)) _
    unfold X5_knows_L2_b
    refine wp_b (pd_I h (k := 6) (by decide)) ?_
    rw [if_pos (by omega)]
    show Wp (X5_knows_L30 N m N D x 0) _
    refine lp_w (fun j => fnd (I 14) x j = -1) (fun F i => X5_knows_L30 N m F D x i) (nH I) _ rfl (fun F j hj hS2 ih => ?_) (fun F hS2 => ?_) N (by omega)
    · show Wp (X5_knows_L30_b N m (X5_knows_L30 N m F) D x j) _
      unfold X5_knows_L30_b
      refine wp_b (pd_I h (k := 12) (by decide)) ?_
      rw [if_neg (by omega)]
      refine wp_b (pd_R r h (k := 14) (by decide)) ?_
      refine wp_b (pd_r14 h (by omega) (by omega)) ?_
      by_cases y : I 14 j = x
      · rw [if_neg (fun u => u y)]
        exact wp_z1 (Or.inr ⟨rfl, fun u => by have := fnd_yes hS2 y hj; have := u.2; omega⟩)
      · rw [if_pos y]
        exact ih _ (by first | omega | (simp (disch := omega) only [wI_of2] <;> omega)) (fnd_no hS2 y)
    · show Wp (X5_knows_L30_b N m (X5_knows_L30 N m F) D x (nH I)) _
      unfold X5_knows_L30_b
      refine wp_b (pd_I h (k := 12) (by decide)) ?_
      rw [if_pos (by omega)]
      exact wp_z0 (Or.inl ⟨rfl, hS, hS2⟩)
theorem m_isNamed {N : Nat} (hN : 2000 ≤ N) {n : Mem} (r : Refs n) {I : Isl} {l : Lnd} (h : RW n B I l) (c : Cn I) (w : Int) : Wp (X11_isNamed N 264 w n) (fun v => (v = 0 ∧ (∀ k : Nat, k < nK I → ¬n 289 (5 * B + k) = w) ∧ ∀ t : Nat, t < nT I → I 11 t = 0 → ¬n 290 (10 * B + t) = w) ∨ (v = 1 ∧ ¬((∀ k : Nat, k < nK I → ¬n 289 (5 * B + k) = w) ∧ ∀ t : Nat, t < nT I → I 11 t = 0 → ¬n 290 (10 * B + t) = w))) := by
  obtain ⟨n1, n2, n3, n4, n5, n6⟩ := id c
  obtain ⟨⟨hB, i40, i66, i67, i73, i75, _⟩, _, ty, _⟩ := h
  unfold X11_isNamed
  refine wp_k k264 ?_
  refine lp_w (fun j => ∀ k : Nat, k < j → ¬n 289 (5 * B + k) = w) (fun F i => X11_isNamed_L2 N (fun z9 z10 => X11_isNamed_L43 N n N z9 z10 0) n F 264 w i) (nK I) _ (fun k hk => absurd hk (Nat.not_lt_zero k)) (fun F j hj hS ih => ?_) (fun F hS => ?_) N (by omega)
  · show Wp (X11_isNamed_L2_b N _ n (X11_isNamed_L2 N _ n F) 264 w j) _
    unfold X11_isNamed_L2_b
    refine wp_b (gR21 r) ?_
    refine wp_b (g264 (by decide)) ?_
    rw [i40]
    refine wp_b (arI 2 (by decide +kernel) (by omega) (by omega) n) ?_
    rw [Int.toNat_natCast, i73, if_neg (by omega)]
    refine wp_b (gR37 r) ?_
    refine wp_b (g264 (by decide)) ?_
    rw [i40, wI_of2 (x := 5 * (B : Int)) (by omega) (by omega), wI_of2 (x := 5 * (B : Int) + (j : Int)) (by omega) (by omega)]
    refine wp_b (arL 10 (by decide +kernel) (by omega) (by omega) n) ?_
    rw [show (5 * (B : Int) + (j : Int)).toNat = 5 * B + j from by omega]
    by_cases y : n 289 (5 * B + j) = w
    · rw [if_neg (fun u => u (lcm_eq.mpr y))]
      exact wp_z1 (Or.inr ⟨rfl, fun u => u.1 j hj y⟩)
    · rw [if_pos (fun u => y (lcm_eq.mp u))]
      refine ih _ (by first | omega | (simp (disch := omega) only [wI_of2] <;> omega)) (fun k hk => ?_)
      by_cases z : k = j
      · rw [z]; exact y
      · exact hS k (by omega)
  · show Wp (X11_isNamed_L2_b N _ n (X11_isNamed_L2 N _ n F) 264 w (nK I)) _
    unfold X11_isNamed_L2_b
    refine wp_b (gR21 r) ?_
    refine wp_b (g264 (by decide)) ?_
    rw [i40]
    refine wp_b (arI 2 (by decide +kernel) (by omega) (by omega) n) ?_
    rw [Int.toNat_natCast, i73, if_pos (by omega)]
    show Wp (X11_isNamed_L43 N n N 264 w 0) _
    refine lp_w (fun j => ∀ t : Nat, t < j → I 11 t = 0 → ¬n 290 (10 * B + t) = w) (fun F i => X11_isNamed_L43 N n F 264 w i) (nT I) _ (fun k hk => absurd hk (Nat.not_lt_zero k)) (fun F j hj hS2 ih => ?_) (fun F hS2 => ?_) N (by omega)
    · show Wp (X11_isNamed_L43_b N n (X11_isNamed_L43 N n F) 264 w j) _
      have on : ¬(I 11 j = 0 ∧ n 290 (10 * B + j) = w) → Wp (X11_isNamed_L43 N n F 264 w (wI ((j : Int) + 1))) (fun v => (v = 0 ∧ (∀ k : Nat, k < nK I → ¬n 289 (5 * B + k) = w) ∧ ∀ t : Nat, t < nT I → I 11 t = 0 → ¬n 290 (10 * B + t) = w) ∨ (v = 1 ∧ ¬((∀ k : Nat, k < nK I → ¬n 289 (5 * B + k) = w) ∧ ∀ t : Nat, t < nT I → I 11 t = 0 → ¬n 290 (10 * B + t) = w))) := fun u => ih _ (by first | omega | (simp (disch := omega) only [wI_of2] <;> omega)) (fun t ht s0 => by
        by_cases z : t = j
        · rw [z] at s0 ⊢; exact fun v => u ⟨s0, v⟩
        · exact hS2 t (by omega) s0)
      unfold X11_isNamed_L43_b
      simp only [X11_isNamed_J94]
      refine wp_b (gR23 r) ?_
      refine wp_b (g264 (by decide)) ?_
      rw [i40]
      refine wp_b (arI 2 (by decide +kernel) (by omega) (by omega) n) ?_
      rw [Int.toNat_natCast, i75, if_neg (by omega)]
      refine wp_b (gR24 r) ?_
      refine wp_b (g264 (by decide)) ?_
      rw [i40, wI_of2 (x := 10 * (B : Int)) (by omega) (by omega), wI_of2 (x := 10 * (B : Int) + (j : Int)) (by omega) (by omega)]
      refine wp_b (arI 20 (by decide +kernel) (by omega) (by omega) n) ?_
      rw [show (10 * (B : Int) + (j : Int)).toNat = 10 * B + j from by omega, (ty j hj).1]
      by_cases y : I 11 j = 0
      · rw [if_neg (fun u => u y)]
        refine wp_b (gR38 r) ?_
        refine wp_b (g264 (by decide)) ?_
        rw [i40, wI_of2 (x := 10 * (B : Int)) (by omega) (by omega), wI_of2 (x := 10 * (B : Int) + (j : Int)) (by omega) (by omega)]
        refine wp_b (arL 20 (by decide +kernel) (by omega) (by omega) n) ?_
        rw [show (10 * (B : Int) + (j : Int)).toNat = 10 * B + j from by omega]
        by_cases y2 : n 290 (10 * B + j) = w
        · rw [if_neg (fun u => u (lcm_eq.mpr y2))]
          exact wp_z1 (Or.inr ⟨rfl, fun u => u.2 j hj y y2⟩)
        · rw [if_pos (fun u => y2 (lcm_eq.mp u))]
          exact on (fun u => y2 u.2)
      · rw [if_pos y]
        exact on (fun u => y u.1)
    · show Wp (X11_isNamed_L43_b N n (X11_isNamed_L43 N n F) 264 w (nT I)) _
      unfold X11_isNamed_L43_b
      refine wp_b (gR23 r) ?_
      refine wp_b (g264 (by decide)) ?_
      rw [i40]
      refine wp_b (arI 2 (by decide +kernel) (by omega) (by omega) n) ?_
      rw [Int.toNat_natCast, i75, if_pos (by omega)]
      exact wp_z0 (Or.inl ⟨rfl, hS, hS2⟩)
theorem nm_inj {x x2 y y2 : Int} (h : Nm x y) (g : Nm x2 y2) : x = x2 ↔ y = y2 := by
  obtain ⟨L, l1, l6, lo, ex, ey⟩ := h
  obtain ⟨M, k1, k6, ko, ex2, ey2⟩ := g
  subst ex ey ex2 ey2
  constructor
  · intro u
    have : kf L 6 = kf M 6 := by rw [kf_pk5 l6, kf_pk5 k6]; omega
    rw [lst_ext lo ko l6 k6 (kf_inj lo ko 6 this)]
  · intro u
    rw [pk8_inj _ _ _ rfl lo ko (by omega)]
/-- both know the same names -/
theorem kn_same {n : Mem} {I : Isl} (h : MN n B I) (c : Cn I) (cl : Cl I) {x y : Int} (g : Nm x y) : kn5 I x ↔ ((∀ k : Nat, k < nK I → ¬n 289 (5 * B + k) = y) ∧ ∀ t : Nat, t < nT I → I 11 t = 0 → ¬n 290 (10 * B + t) = y) := by
  obtain ⟨n1, n2, n3, n4, n5, n6⟩ := id c
  obtain ⟨_, hk, ht⟩ := h
  constructor
  · intro ⟨u, v⟩
    refine ⟨fun k k1 e => ?_, fun t t1 s e => ?_⟩
    · have ex := (nm_inj (hk k k1) g).mpr e
      rcases Nat.eq_zero_or_pos (nK I) with z | z
      · omega
      · have nf : ∀ j : Nat, j < nK I → ¬I 8 j = x := fun j hj ej => by
          have : ∀ d, ¬fnd (I 8) x (j + 1 + d) = -1 := by
            intro d
            have one : ¬fnd (I 8) x (j + 1) = -1 := by
              show ¬(if fnd (I 8) x j = -1 then (if I 8 j = x then (j : Int) else -1) else fnd (I 8) x j) = -1
              by_cases q : fnd (I 8) x j = -1
              · rw [if_pos q, if_pos ej]; omega
              · rw [if_neg q]; exact q
            rw [fnd_more one d]; exact one
          have w := this (nK I - (j + 1))
          rw [show j + 1 + (nK I - (j + 1)) = nK I from by omega] at w
          exact w u
        exact nf k k1 ex
    · have ex := (nm_inj (ht t t1 s) g).mpr e
      have lt := clTo_lt9 I t1 s
      have ge := (clTo_in I t).1
      have ch := cl.1
      have nf : ∀ j : Nat, j < nH I → ¬I 14 j = x := fun j hj ej => by
        have one : ¬fnd (I 14) x (j + 1) = -1 := by
          show ¬(if fnd (I 14) x j = -1 then (if I 14 j = x then (j : Int) else -1) else fnd (I 14) x j) = -1
          by_cases q : fnd (I 14) x j = -1
          · rw [if_pos q, if_pos ej]; omega
          · rw [if_neg q]; exact q
        have w : ¬fnd (I 14) x (j + 1 + (nH I - (j + 1))) = -1 := by rw [fnd_more one _]; exact one
        rw [show j + 1 + (nH I - (j + 1)) = nH I from by omega] at w
        exact w v
      have := nf (clTo I t).toNat (by omega)
      rw [Int.toNat_of_nonneg ge] at this
      exact this ex
  · intro ⟨u, v⟩
    refine ⟨fnd_none fun k k1 e => u k k1 ((nm_inj (hk k k1) g).mp e), fnd_none fun j j1 e => ?_⟩
    obtain ⟨t, t1, s, ct, _⟩ := cl_ok c cl (k := (j : Int)) (by omega) (by omega)
    refine v t t1 s ((nm_inj (ht t t1 s) g).mp ?_)
    rw [ct]; exact e
theorem b_name {N : Nat} (hN : 2000 ≤ N) {m n : Mem} {a : Nat} {I : Isl} {l : Lnd} (p : JP T len K m n a) (s : JS D B m0 n0 m n I l) : Wp (X6_name N 5 D m) (fun v => Wp (X11_fresh N 264 n) (fun q => (v.1 = 1 ∧ JP T len K v.2 q.2 (nx T len a) ∧ JS D B m0 n0 v.2 q.2 I l ∧ a < nx T len a ∧ Nm (v.2 5 7) q.1 ∧ v.2 5 11 = m 5 11 ∧ ∀ b, ¬b = 264 → q.2 b = n b) ∨ (v.1 = 0 ∧ No D B m0 n0 v.2 q.2 I l))) := by
  obtain ⟨r, r2, rp, rs⟩ := p
  have al := rp_le rp
  obtain ⟨ps, ld, rw', gw, cf, rf⟩ := id s
  obtain ⟨z, w, cn, kc, vl, cl, _⟩ := gw
  obtain ⟨i, d, pe, k, kz⟩ := id rp
  have e := rp_kd (m := m) (K := K) pe k
  have tq := rp_pl al pe k
  have h2 := d.2.2.2.1
  have h4 := d.2.2.2.2.2
  rw [e] at h2 h4
  -- what the reference does of what is no name
  have bad : ¬(kdP T len a).1 = 3 → Wp (X11_fresh N 264 n) (fun q => q.2 = Bl n 1 (tkQ T len a)) := fun u => by
    have J68 : ∀ n1 : Mem, FS n1 → n1 = Bl n 1 (tkQ T len a) → Wp (X11_fresh_J68 N 264 n1) (fun q => q.2 = Bl n 1 (tkQ T len a)) := fun n1 f g => by
      unfold X11_fresh_J68
      refine wp_b (g264 (by decide)) ?_
      refine wp_b (g264 (by decide)) ?_
      rw [if_pos (by have : 0 < n1 264 8 := f; omega)]
      exact wp_some g
    have J32 : rlx T len a = -1 → Wp (X11_fresh_J32 N 264 n) (fun q => q.2 = Bl n 1 (tkQ T len a)) := fun q => by
      unfold X11_fresh_J32
      refine wp_b (g264 (by decide)) ?_
      rw [rs.1.1]
      refine wp_b (m_blame0 rs.2.1 _ _) ?_
      have fs := bl_fs n (k := 1) (by decide) (a : Int)
      unfold X11_fresh_J41
      refine wp_b (g264 (by decide)) ?_
      rw [if_pos (by unfold FS at fs; omega)]
      exact J68 _ fs (by rw [tkQ_1 q])
    unfold X11_fresh
    refine wp_k k264 ?_
    by_cases q : rlx T len a = -1
    · refine wp_b (m_lex1 rs q) ?_
      refine wp_b (g264 (by decide)) ?_
      rw [rs.2.1, if_pos (by decide)]
      refine wp_b (g264 (by decide)) ?_
      rw [rs.1.2.1]
      by_cases q2 : rsg T len a = 1
      · rw [if_neg (fun v => v q2)]
        refine wp_b (g264 (by decide)) ?_
        have lt := rs_end rs (by omega)
        rw [(rs.1.2.2.2.2 lt).2]
        refine wp_b (m_isOwn _ _) ?_
        rcases sign_is T al with h | h | h | h | h | h
        · have := h.1; omega
        · obtain ⟨_, p, _, rl⟩ := h; omega
        · obtain ⟨_, i', hi', kk, rl, sg, wd⟩ := h
          rw [wd]
          have o : ow8 ((pk8 (owT.getD i' []) : Nat) : Int) := (ow8_ow (owT_ok i' hi').1).mpr (owN_at hi' rfl)
          rw [← bi_t o, if_neg (by decide)]
          exact J32 q
        · obtain ⟨_, L, lo, l1, l6, no, kk, _⟩ := h
          rw [kk] at u
          exact absurd rfl u
        · obtain ⟨_, v, _, _, _, sg, _⟩ := h; omega
        · obtain ⟨_, _, _, sg, _⟩ := h; omega
      · rw [if_pos q2]
        exact J32 q
    · refine wp_b (m_lex0 rs q) ?_
      have fs := bl_fs n (k := 1) (by decide) (tkQ T len a)
      refine wp_b (g264 (by decide)) ?_
      rw [if_neg (by unfold FS at fs; omega)]
      exact wp_some rfl
  unfold X6_name
  refine wp_k k5r ?_
  refine wp_b (gtI (by decide +kernel) _) ?_
  rw [h2]
  by_cases q : (kdP T len a).1 = 3
  · rw [if_pos q]
    rcases sign_is T al with h | h | h | h | h | h
    · rw [h.2.1] at q; exact absurd q (by show ¬(0 : Int) = 3; decide)
    · obtain ⟨_, p, kk, _⟩ := h; rw [kk] at q; exact absurd q (by show ¬(6 : Int) = 3; decide)
    · obtain ⟨_, i', _, kk, _⟩ := h; rw [kk] at q; exact absurd q (by show ¬(2 : Int) = 3; decide)
    · obtain ⟨lt, L, lo, l1, l6, no, kk, rl, sg, wd⟩ := h
      have nm : Nm ((pk5 L : Nat) : Int) ((pk8 L : Nat) : Int) := ⟨L, l1, l6, lo, rfl, rfl⟩
      have ks := kn_same rw'.2.2.2.2.2.2.1 cn cl nm
      have ev : (kdP T len a).2 = ((pk5 L : Nat) : Int) := by rw [kk]
      refine wp_b (gtI (by decide +kernel) _) ?_
      rw [h4, ev]
      refine wp_b (ptI (by decide +kernel) _ _) ?_
      obtain ⟨m3, hm3⟩ : ∃ m3, m3 = up m 5 7 ((pk5 L : Nat) : Int) := ⟨_, rfl⟩
      rw [← hm3]
      have f3 : ReF (fun j => 1 ≤ j ∧ j ≤ 8) m m3 := by rw [hm3]; exact ref_up (ref_refl _ m) (by omega) _
      have v7 : m3 5 7 = ((pk5 L : Nat) : Int) := by rw [hm3, up_same]
      have r3 := ref_refs (fun j h => by omega) f3 r
      have d3 : RD m3 T len K i := ⟨wd_ref f3 d.1, d.2.1, by rw [hm3, up_slot (by decide)]; exact d.2.2.1, by rw [hm3, up_slot (by decide)]; exact d.2.2.2.1, by rw [hm3, up_slot (by decide)]; exact d.2.2.2.2.1, by rw [hm3, up_slot (by decide)]; exact d.2.2.2.2.2⟩
      refine wp_b (gtI (by decide +kernel) _) ?_
      rw [v7]
      refine wp_bw (x_knows hN r3 (pd_rf f3 ps.1) cn _) (fun v hv => ?_)
      -- the reference up to its answer
      have ref : ∀ {Q : Int × Mem → Prop}, (kn5 I ((pk5 L : Nat) : Int) → ∀ n2, AhF n n2 → RS n2 T len (nx T len a) → Refs n2 → Q (((pk8 L : Nat) : Int), n2)) → (¬kn5 I ((pk5 L : Nat) : Int) → ∀ v, Q (v, Bl n 2 (a : Int))) → Wp (X11_fresh N 264 n) Q := fun {Q} y no' => by
        unfold X11_fresh
        refine wp_k k264 ?_
        refine wp_b (m_lex1 rs rl) ?_
        refine wp_b (g264 (by decide)) ?_
        rw [rs.2.1, if_pos (by decide)]
        refine wp_b (g264 (by decide)) ?_
        rw [rs.1.2.1, if_neg (fun v => v sg)]
        refine wp_b (g264 (by decide)) ?_
        have w7 := (rs.1.2.2.2.2 lt).2
        rw [w7, wd]
        refine wp_b (m_isOwn _ _) ?_
        rw [← bi_f (fun o => (ow8_ow lo).mp o no), if_pos rfl]
        unfold X11_fresh_J41
        refine wp_b (g264 (by decide)) ?_
        rw [rs.2.1, if_neg (fun v => v rfl)]
        refine wp_b (g264 (by decide)) ?_
        rw [w7, wd]
        refine wp_bw (m_isNamed hN r2 rw' cn _) (fun v hv => ?_)
        rcases hv with ⟨v0, hv⟩ | ⟨v1, hv⟩
        · rw [v0, if_pos rfl]
          unfold X11_fresh_J68
          refine wp_b (g264 (by decide)) ?_
          refine wp_b (g264 (by decide)) ?_
          rw [rs.2.1, if_neg (fun v => v rfl)]
          obtain ⟨n2, e2, f2, rs2, rr⟩ := m_goN hN r2 rs lt
          refine wp_b e2 ?_
          rw [w7, wd]
          exact wp_some (y (ks.mpr hv) n2 f2 rs2 rr)
        · rw [v1, if_neg (by decide)]
          refine wp_b (g264 (by decide)) ?_
          rw [rs.1.1]
          refine wp_b (m_blame0 rs.2.1 _ _) ?_
          have fs := bl_fs n (k := 2) (by decide) (a : Int)
          unfold X11_fresh_J68
          refine wp_b (g264 (by decide)) ?_
          refine wp_b (g264 (by decide)) ?_
          rw [if_pos (by unfold FS at fs; omega)]
          exact wp_some (no' (fun u => hv (ks.mp u)) _)
      rcases hv with ⟨v0, hv⟩ | ⟨v1, hv⟩
      · rw [v0, if_pos rfl]
        refine wp_b (gtI (by decide +kernel) _) ?_
        obtain ⟨m4, e4, d4, f4⟩ := x_goNext r3 d3 (by rw [e, kk]; show ¬(3 : Int) = 0; decide) (by rw [e, kk]; show ¬(3 : Int) = 6; decide)
        refine wp_b e4 ?_
        refine wp_b (v := 1) rfl ?_
        refine wp_some ?_
        refine ref (fun _ n2 f2 rs2 rr => ?_) (fun u => absurd hv u)
        have f34 : ReF (fun j => 1 ≤ j ∧ j ≤ 8) m m4 := ref_trans f3 f4 (fun j h => h) (fun j h => by omega)
        exact Or.inl ⟨rfl, ⟨ref_refs (fun j h => by omega) f34 r, rr, rp_next (m := m) pe k (by rw [kk]; exact fun u => absurd (congrArg Prod.fst u) (by show ¬(3 : Int) = 2; decide)) d4 (by show m4 5 9 = 0 ∧ m4 5 10 = -1; rw [f34.2 9 (by omega), f34.2 10 (by omega)]; exact kz), rs2⟩, js_mv (fun j h => h.1) s f34 f2, (nx_in lt).1, by show Nm (m4 5 7) _; rw [show m4 5 7 = ((pk5 L : Nat) : Int) from by rw [f4.2 7 (by omega)]; exact v7]; exact nm, f34.2 11 (by omega), f2.1⟩
      · rw [v1, if_neg (by decide)]
        refine wp_b (gtI (by decide +kernel) _) ?_
        rw [d3.2.2.2.2.1, pe]
        obtain ⟨m4, e4, t4⟩ := x_refuseR m3 2 (a : Int)
        refine wp_b e4 ?_
        refine wp_b (v := 0) rfl ?_
        refine wp_some ?_
        refine ref (fun u => absurd u hv) (fun _ v => ?_)
        exact Or.inr ⟨rfl, no_of (by decide) r r2 s (told_tr f3 (fun j h => by omega) t4) ⟨n, ahf_refl n, rfl⟩⟩
    · obtain ⟨_, v, _, kk, _⟩ := h; rw [kk] at q; exact absurd q (by show ¬(1 : Int) = 3; decide)
    · obtain ⟨_, kk, _⟩ := h; rw [kk] at q; exact absurd q (by show ¬(5 : Int) = 3; decide)
  · rw [if_neg q]
    obtain ⟨m2, e2, t⟩ := x_unexpected d
    rw [tq] at t
    refine wp_b e2 ?_
    refine wp_b (v := 0) rfl ?_
    refine wp_some ?_
    refine wp_c (bad q) (fun v hv => Or.inr ⟨rfl, ?_⟩)
    rw [hv]
    exact no_of (by decide) r r2 s t ⟨n, ahf_refl n, rfl⟩
