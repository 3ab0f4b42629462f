/-! a sum under way: what the reference does behind a part -/
variable {T : Nat → Int} {len K D B S So p p2 ko f0 : Nat} {co : Int → Int} {s : Int} {m0 n0 : Mem} {I : Isl} {l : Lnd}
/-- operators that the class has added already and the reference holds back -/
def PenG (m n : Mem) (S f0 q1 q2 R : Nat) : Prop := q1 ≤ q2 ∧ ∀ i : Nat, i < q2 - q1 → n 294 (q2 - 1 - i) = cdS (m (S + 1) (f0 + (R + i))) ∧ m (S + 1) (f0 + (R + i)) < 0
theorem pen_0 (m n : Mem) (S f0 q R : Nat) : PenG m n S f0 q q R := ⟨Nat.le_refl _, fun i hi => by omega⟩
theorem ms_e {m n : Mem} {a k R e e2 : Nat} (h : MS T len K D B S So p p2 co ko f0 s m0 n0 I l m n a k R e) (b : f0 + k + e2 ≤ a) : MS T len K D B S So p p2 co ko f0 s m0 n0 I l m n a k R e2 := ⟨h.1, h.2.1, h.2.2.1, h.2.2.2.1, ⟨b, h.2.2.2.2.1.2⟩, h.2.2.2.2.2⟩
theorem ms_B {m n : Mem} {a k R e : Nat} (h : MS T len K D B S So p p2 co ko f0 s m0 n0 I l m n a k R e) : (B = 0 ∨ B = 1) ∧ n 264 40 = (B : Int) ∧ n 264 39 = ((f0 + R : Nat) : Int) ∧ f0 + k + e ≤ a ∧ R ≤ k ∧ a ≤ len ∧ len ≤ 1600 := ⟨h.1.2.2.2.2.1.1.1, h.1.2.2.2.2.1.1.2.1, h.2.2.2.1.1, h.2.2.2.2.1.1, h.2.2.2.2.1.2, h.2.1.2.2.2.2.2.1, h.2.1.2.2.2.2.2.2.1⟩
theorem m_rank (x : Int) (n : Mem) : X11_rank x n = some (if x = 10 ∨ x = 11 then 5 else 6) := by
  refine wp_eq ?_
  unfold X11_rank X11_rank_J12
  by_cases q : x = 10
  · rw [if_pos q, if_pos (Or.inl q)]; exact wp_some rfl
  · rw [if_neg q]
    by_cases q2 : x = 11
    · rw [if_neg (fun u => u q2), if_pos (Or.inr q2)]; exact wp_some rfl
    · rw [if_pos q2, if_neg (by omega)]; exact wp_some rfl
/-- one look of joins -/
theorem j_body {N : Nat} {n : Mem} (r : Refs n) {o q b : Nat} (st : SSt n o q) (ho : o < 19) (hq : q ≤ 490) (e93 : n 293 o = (b : Int)) (least : Int) (r0 : Nat → Int → Mem → Option Mem) : X11_joins_L0_b N r0 264 least n = if q ≤ b then some n else if (if n 294 (q - 1) = 10 ∨ n 294 (q - 1) = 11 then (5 : Int) else 6) < least then some n else (X11_add 264 (n 294 (q - 1)) 0 (up n 264 47 ((q - 1 : Nat) : Int))).bind fun p28 => r0 264 least p28 := by
  obtain ⟨s1, s2, s3⟩ := st
  unfold X11_joins_L0_b
  rw [g264 (by decide), Option.bind_some, gR43 r, Option.bind_some, g264 (by decide), Option.bind_some, s1, s3, wI_of2 (x := ((o + 1 : Nat) : Int) - 1) (by omega) (by omega), arI 20 (by decide +kernel) (by omega) (by omega) n, Option.bind_some, show (((o + 1 : Nat) : Int) - 1).toNat = o from by omega, e93]
  by_cases y : q ≤ b
  · rw [if_pos (by omega), if_pos y]
  · rw [if_neg (by omega), if_neg y, gR46 r, Option.bind_some, Option.bind_some, wI_of2 (x := (q : Int) - 1) (by omega) (by omega), arI 500 (by decide +kernel) (by omega) (by omega) n, Option.bind_some, show ((q : Int) - 1).toNat = q - 1 from by omega, m_rank, Option.bind_some]
    by_cases z : (if n 294 (q - 1) = 10 ∨ n 294 (q - 1) = 11 then (5 : Int) else 6) < least
    · rw [if_pos z, if_pos z]
    · have ra : Refs (up n 264 47 ((q - 1 : Nat) : Int)) := refs_up r (by decide +kernel) _
      rw [if_neg z, if_neg z, Option.bind_some, wI_of2 (x := (q : Int) - 1) (by omega) (by omega), show (q : Int) - 1 = ((q - 1 : Nat) : Int) from by omega, p264 (by decide), Option.bind_some, gR46 ra, Option.bind_some, g264 (by decide), Option.bind_some, up_same, arI 500 (by decide +kernel) (by omega) (by omega) _, Option.bind_some, Int.toNat_natCast, up_ne (show ¬294 = 264 from by decide)]
theorem j_first {N : Nat} (least : Int) (n : Mem) : X11_joins N 264 least n = X11_joins_L0_b N (X11_joins_L0 N N) 264 least n := by
  unfold X11_joins X11_joins_L0_b
  rw [if_pos k264]
/-- joins goes down to q1 -/
theorem b_joinsL {N : Nat} {m : Mem} {a k e o q1 b : Nat} {least : Int} (ho : o < 19) (hk : k ≤ 1599) (hb : b ≤ q1) : ∀ (d F : Nat) (n : Mem) (q2 R : Nat), q2 - q1 = d → q2 ≤ 490 → d < F → MS T len K D B S So p p2 co ko f0 s m0 n0 I l m n a k R e → SSt n o q2 → n 293 o = (b : Int) → PenG m n S f0 q1 q2 R → R + (q2 - q1) ≤ k → (∀ i, q1 ≤ i → i < q2 → least ≤ 5 ∨ ¬(n 294 i = 10 ∨ n 294 i = 11)) → least ≤ 6 → (q1 = b ∨ (b < q1 ∧ 5 < least ∧ (n 294 (q1 - 1) = 10 ∨ n 294 (q1 - 1) = 11))) → ∃ n2, X11_joins_L0_b N (X11_joins_L0 N F) 264 least n = some n2 ∧ MS T len K D B S So p p2 co ko f0 s m0 n0 I l m n2 a k (R + (q2 - q1)) e ∧ SSt n2 o q1 ∧ n2 264 48 = n 264 48 ∧ KpF n n2 19 q1 := by
  intro d
  induction d with
  | zero =>
    intro F n q2 R hd hq hF h st e93 pn hR rk l6 hs
    have eq : q2 = q1 := by have := pn.1; omega
    subst eq
    refine ⟨n, ?_, by rw [show R + (q2 - q2) = R from by omega]; exact h, st, rfl, kp_refl _ _ _⟩
    rw [j_body h.1.2.1 st ho hq e93]
    rcases hs with hs | ⟨h1, h2, h3⟩
    · rw [if_pos (by omega)]
    · rw [if_neg (by omega), if_pos (by rw [if_pos h3]; exact h2)]
  | succ d ih =>
    intro F n q2 R hd hq hF h st e93 pn hR rk l6 hs
    obtain ⟨hB, i40, i39, bd, hRk, al, hl⟩ := ms_B h
    have rn := h.1.2.1
    obtain ⟨pq1, pq2⟩ := pn.2 0 (by omega)
    have hrk : ¬(if n 294 (q2 - 1) = 10 ∨ n 294 (q2 - 1) = 11 then (5 : Int) else 6) < least := by
      have := rk (q2 - 1) (by omega) (by omega)
      by_cases z : n 294 (q2 - 1) = 10 ∨ n 294 (q2 - 1) = 11
      · rw [if_pos z]
        rcases this with t | t
        · omega
        · exact absurd z t
      · rw [if_neg z]; omega
    rw [j_body rn st ho hq e93, if_neg (by omega), if_neg hrk]
    obtain ⟨n1, hn1⟩ : ∃ n1, n1 = up n 264 47 ((q2 - 1 : Nat) : Int) := ⟨_, rfl⟩
    have r1 : Refs n1 := by rw [hn1]; exact refs_up rn (by decide +kernel) _
    have o1 : ∀ b, ¬b = 264 → n1 b = n b := fun b hb => by rw [hn1, up_ne hb]
    have o1j : ∀ j, ¬j = 47 → n1 264 j = n 264 j := fun j hj => by rw [hn1, up_at, if_neg hj]
    have h1 : MS T len K D B S So p p2 co ko f0 s m0 n0 I l m n1 a k R e := ms_st h r1 (fun b hb _ => o1 b hb) (fun j hj => o1j j (by omega))
    rw [← hn1, m_addC r1 hB (by rw [o1j 40 (by decide)]; exact i40) (x := f0 + R) (by rw [o1j 39 (by decide)]; exact i39) (by omega) _ _, Option.bind_some]
    have e94 : n 294 (q2 - 1) = cdS (m (S + 1) (f0 + R)) := by
      have := pq1
      rw [show q2 - 1 - 0 = q2 - 1 from by omega, show R + 0 = R from by omega] at this
      exact this
    have neg : m (S + 1) (f0 + R) < 0 := by rw [show R + 0 = R from by omega] at pq2; exact pq2
    have h2 : MS T len K D B S So p p2 co ko f0 s m0 n0 I l m (addM n1 B (f0 + R) (n 294 (q2 - 1)) 0) a k (R + 1) e := ms_addR h1 (by omega) e94 (fun u => by omega) (by omega)
    obtain ⟨oA, oA2, _⟩ := addM_o n1 B (f0 + R) (n 294 (q2 - 1)) 0
    obtain ⟨n2, hn2⟩ : ∃ n2, n2 = addM n1 B (f0 + R) (n 294 (q2 - 1)) 0 := ⟨_, rfl⟩
    rw [← hn2] at h2 oA oA2 ⊢
    have k2 : ∀ b, 291 ≤ b → b ≤ 294 → n2 b = n b := fun b hb1 hb2 => by rw [oA b (by omega) (by omega) (by omega), o1 b (by omega)]
    have st2 : SSt n2 o (q2 - 1) := ⟨by rw [oA2 44 (by decide), o1j 44 (by decide)]; exact st.1, by rw [oA2 45 (by decide), o1j 45 (by decide)]; exact st.2.1, by rw [oA2 47 (by decide), hn1, up_same]⟩
    obtain ⟨F, rfl⟩ : ∃ f, F = f + 1 := ⟨F - 1, by omega⟩
    obtain ⟨n3, e3, h3, s3, g3, kp3⟩ := ih F n2 (q2 - 1) (R + 1) (by omega) (by omega) (by omega) h2 st2 (by rw [k2 293 (by decide) (by decide)]; exact e93) ⟨by omega, fun i hi => by
      obtain ⟨x1, x2⟩ := pn.2 (i + 1) (by omega)
      rw [k2 294 (by decide) (by decide), show q2 - 1 - 1 - i = q2 - 1 - (i + 1) from by omega, show R + 1 + i = R + (i + 1) from by omega]
      exact ⟨x1, x2⟩⟩ (by omega) (fun i i0 i1 => by rw [k2 294 (by decide) (by decide)]; exact rk i i0 (by omega)) l6 (by rw [k2 294 (by decide) (by decide)]; exact hs)
    refine ⟨n3, e3, by rw [show R + (q2 - q1) = R + 1 + (q2 - 1 - q1) from by omega]; exact h3, s3, by rw [g3, oA2 48 (by decide), o1j 48 (by decide)], kp_trans (kp_o k2 19 q1) kp3 (Nat.le_refl _) (Nat.le_refl _)⟩
theorem b_joins {N : Nat} (hN : 2000 ≤ N) {m n : Mem} {a k R e o q1 q2 b : Nat} {least : Int} (ho : o < 19) (hq : q2 ≤ 490) (hb : b ≤ q1) (hk : k ≤ 1599) (h : MS T len K D B S So p p2 co ko f0 s m0 n0 I l m n a k R e) (st : SSt n o q2) (e93 : n 293 o = (b : Int)) (pn : PenG m n S f0 q1 q2 R) (hR : R + (q2 - q1) ≤ k) (rk : ∀ i, q1 ≤ i → i < q2 → least ≤ 5 ∨ ¬(n 294 i = 10 ∨ n 294 i = 11)) (l6 : least ≤ 6) (hs : q1 = b ∨ (b < q1 ∧ 5 < least ∧ (n 294 (q1 - 1) = 10 ∨ n 294 (q1 - 1) = 11))) : ∃ n2, X11_joins N 264 least n = some n2 ∧ MS T len K D B S So p p2 co ko f0 s m0 n0 I l m n2 a k (R + (q2 - q1)) e ∧ SSt n2 o q1 ∧ n2 264 48 = n 264 48 ∧ KpF n n2 19 q1 := by
  rw [j_first]
  exact b_joinsL ho hk hb (q2 - q1) N n q2 R rfl hq (by omega) h st e93 pn hR rk l6 hs
/-- an operator is held back -/
theorem b_holds {N : Nat} (hN : 2000 ≤ N) {m n m2 : Mem} {a k R e o q : Nat} (h : MS T len K D B S So p p2 co ko f0 s m0 n0 I l m n a k R e) (lt : a < len) (st : SSt n o q) (hq : q ≤ 490) (f : ReF J14 m m2) (rp : RP m2 T len K (nx T len a)) (op : Int) : ∃ n2, X11_goesOn_J159 N 264 264 op n = some (1, n2) ∧ n2 264 8 = 0 ∧ MS T len K D B S So p p2 co ko f0 s m0 n0 I l m2 n2 (nx T len a) k R e ∧ SSt n2 o (q + 1) ∧ n2 294 q = op ∧ n2 264 48 = 0 ∧ KpF n n2 o q := by
  obtain ⟨s1, s2, s3⟩ := st
  have rn := h.1.2.1
  obtain ⟨n1, hn1⟩ : ∃ n1, n1 = up (up n 294 q op) 264 47 ((q + 1 : Nat) : Int) := ⟨_, rfl⟩
  have r1 : Refs n1 := by rw [hn1]; exact refs_up (refs_arr rn (by decide +kernel) _ _) (by decide +kernel) _
  have o1 : ∀ b, ¬b = 264 → ¬b = 294 → n1 b = n b := fun b hb hb2 => by rw [hn1, up_ne hb, up_ne hb2]
  have o1j : ∀ j, ¬j = 47 → n1 264 j = n 264 j := fun j hj => by rw [hn1, up_at, if_neg hj, up_ne (by decide)]
  have h1 : MS T len K D B S So p p2 co ko f0 s m0 n0 I l m n1 a k R e := ms_st h r1 (fun b hb hb2 => o1 b hb (by omega)) (fun j hj => o1j j (by omega))
  obtain ⟨n2, e2, f2, rs2, r2⟩ := m_goN hN r1 h1.2.1.2 lt
  have h2 : MS T len K D B S So p p2 co ko f0 s m0 n0 I l m2 n2 (nx T len a) k R e := ms_mv (fun j h => by omega) h1 f f2 rp rs2 (by have := nx_in (T := T) lt; omega) r2
  obtain ⟨n3, hn3⟩ : ∃ n3, n3 = up n2 264 48 0 := ⟨_, rfl⟩
  have r3 : Refs n3 := by rw [hn3]; exact refs_up r2 (by decide +kernel) _
  have o3 : ∀ b, ¬b = 264 → n3 b = n2 b := fun b hb => by rw [hn3, up_ne hb]
  have o3j : ∀ j, ¬j = 48 → n3 264 j = n2 264 j := fun j hj => by rw [hn3, up_at, if_neg hj]
  refine ⟨n3, ?_, by rw [o3j 8 (by decide)]; exact rs2.2.1, ms_st h2 r3 (fun b hb _ => o3 b hb) (fun j hj => o3j j (by omega)), ⟨by rw [o3j 44 (by decide), f2.2 44 (by decide), o1j 44 (by decide)]; exact s1, by rw [o3j 45 (by decide), f2.2 45 (by decide), o1j 45 (by decide)]; exact s2, by rw [o3j 47 (by decide), f2.2 47 (by decide), hn1, up_same]⟩, by rw [o3 294 (by decide), f2.1 294 (by decide), hn1, up_ne (by decide), up_same], by rw [hn3, up_same], ⟨fun j _ => ⟨by rw [o3 291 (by decide), f2.1 291 (by decide), o1 291 (by decide) (by decide)], by rw [o3 292 (by decide), f2.1 292 (by decide), o1 292 (by decide) (by decide)], by rw [o3 293 (by decide), f2.1 293 (by decide), o1 293 (by decide) (by decide)]⟩, fun j hj => by rw [o3 294 (by decide), f2.1 294 (by decide), hn1, up_ne (by decide), up_at, if_neg (by omega)]⟩⟩
  refine wp_eq ?_
  unfold X11_goesOn_J159 X11_holdsBack
  rw [if_pos k264, gR46 rn, Option.bind_some, g264 (by decide), Option.bind_some, s3, asI 500 (by decide +kernel) (by omega) (by omega) _ _, Option.bind_some, Int.toNat_natCast, g264 (by decide), Option.bind_some, up_ne (show ¬264 = 294 from by decide), s3, wI_of2 (x := (q : Int) + 1) (by omega) (by omega), p264 (by decide), Option.bind_some, show (q : Int) + 1 = ((q + 1 : Nat) : Int) from by omega, ← hn1, Option.bind_some]
  refine wp_b e2 ?_
  refine wp_b (ptZ0 (g264_c 48 (by decide)) _) ?_
  rw [← hn3]
  refine wp_b (v := 1) rfl ?_
  exact wp_some rfl
