/-! a sum told: dew, dries -/
variable {T : Nat → Int} {len K D B S So p p2 ko f0 : Nat} {co : Int → Int} {s : Int} {m0 n0 : Mem} {I : Isl} {l : Lnd}
def Hf (T : Nat → Int) (len K D B : Nat) (m0 n0 : Mem) (v : Int × Mem) (n2 : Mem) : Prop := v.1 = 1 ∧ ∃ a', RP v.2 T len K a' ∧ ¬rlx T len a' = -1 ∧ Refs v.2 ∧ Refs n2 ∧ (n2 264 8 = 1 ∧ n2 264 9 = tkQ T len a') ∧ CFr D m0 v.2 ∧ RF B n0 n2
def Po2 (T : Nat → Int) (len K D B : Nat) (m0 n0 : Mem) (a : Nat) (s : Int) (v : Int × Mem) (n2 : Mem) : Prop := Po T len K D B m0 n0 a s v n2 ∨ Hf T len K D B m0 n0 v n2
theorem wrap2 {X : Option (Int × Mem)} {Y : Option Mem} {a : Nat} {s : Int} (h : Wp X (fun v => Wp Y (fun w => Po2 T len K D B m0 n0 a s v w))) : Wp (two X) (fun v => Wp Y (fun w => Po2 T len K D B m0 n0 a s v w)) := by
  refine wp_bw h (fun v hv => ?_)
  refine wp_c (P := fun q => q = (v.1, v.2)) ?_ (fun q e => by rw [e]; exact hv)
  obtain ⟨w, _, po⟩ := hv
  rcases po with (⟨e, _⟩ | ⟨e, _⟩) | ⟨e, _⟩
  · rw [e, if_neg (by decide)]
    exact wp_b (v := 1) rfl (wp_some rfl)
  · rw [e, if_pos rfl]
    exact wp_b (v := 0) rfl (wp_some rfl)
  · rw [e, if_neg (by decide)]
    exact wp_b (v := 1) rfl (wp_some rfl)
def dI (I : Isl) (x : Nat) (c : Int → Int) (n : Nat) : Isl := fun k i => if k = x then c i else if k = x + 1 ∧ i = 0 then (n : Int) else I k i
theorem pd_c {m : Mem} {D : Nat} {I I2 : Isl} (h : PD m D I) (e : ∀ k, k ≤ 21 → I2 k = I k) : PD m D I2 := by
  obtain ⟨h1, h2, h3, h4, h5⟩ := h
  have en : nC I2 = nC I := by unfold nC; rw [e 0 (by decide), e 1 (by decide)]
  refine ⟨h1, fun k c => ?_, fun k i i0 i1 => ?_, fun s c s0 s1 c0 c1 => ?_, fun i i0 i1 => by rw [e 21 (by decide)]; exact h5 i i0 i1⟩
  · rw [e k (by unfold isPS at c; simp only [Bool.or_eq_true, beq_iff_eq] at c; omega)]; exact h2 k c
  · rw [e k (by have := rln_lt (k := k) (by omega); omega)]; exact h3 k i i0 i1
  · have : nbr I2 s c = nbr I s c := by unfold nbr cellAt; rw [e 0 (by decide), e 1 (by decide)]
    rw [this]
    exact h4 s c s0 s1 c0 (by rw [← en]; exact c1)
theorem dI_k {I : Isl} {x : Nat} {c : Int → Int} {n k : Nat} (h : ¬k = x) (h2 : ¬k = x + 1) : dI I x c n k = I k := by
  funext i
  unfold dI
  rw [if_neg h, if_neg (fun u => h2 u.1)]
theorem dI_x (I : Isl) (x : Nat) (c : Int → Int) (n : Nat) : dI I x c n x = c := by
  funext i
  exact if_pos rfl
theorem dI_n (I : Isl) (x : Nat) (c : Int → Int) (n : Nat) : dI I x c n (x + 1) 0 = (n : Int) := by
  unfold dI
  rw [if_neg (by omega), if_pos ⟨rfl, rfl⟩]
/-- the reference around its reading of a sum -/
def rdS (N f1 f2 : Nat) (n : Mem) : Option Mem := (getR 11 f1 264 n).bind fun t5 => (getI 11 40 264 n).bind fun t6 => (getI 11 39 264 n).bind fun t7 => (astI t5 t6 t7 n).bind fun m8 => (X11_reads N 264 m8).bind fun p9 => (getR 11 f2 264 p9).bind fun t10 => (getI 11 40 264 p9).bind fun t11 => (getI 11 39 264 p9).bind fun t12 => (astI t10 t11 t12 p9).bind fun m13 => some m13
def Own (D S So p p2 x pa pb f1 f2 : Nat) : Prop := (x = 22 ∧ S = D + 23 ∧ So = 1 ∧ pa = 280 ∧ pb = 281 ∧ p = 282 ∧ p2 = 283 ∧ f1 = 28 ∧ f2 = 29) ∨ (x = 24 ∧ S = D + 23 ∧ So = 0 ∧ pa = 282 ∧ pb = 283 ∧ p = 280 ∧ p2 = 281 ∧ f1 = 30 ∧ f2 = 31)
theorem own_R {pa pb f1 f2 x : Nat} (w : Own D S So p p2 x pa pb f1 f2) {n : Mem} (r : Refs n) : getR 11 f1 264 n = some pa ∧ getR 11 f2 264 n = some pb := by
  rcases w with ⟨_, _, _, e1, e2, _, _, e3, e4⟩ | ⟨_, _, _, e1, e2, _, _, e3, e4⟩ <;> subst e1 e2 e3 e4
  · exact ⟨gR28 r, gR29 r⟩
  · exact ⟨gR30 r, gR31 r⟩
theorem own_st {pa pb f1 f2 x : Nat} (w : Own D S So p p2 x pa pb f1 f2) (hB : B = 0 ∨ B = 1) (v : Int) (m : Mem) : astI pa (B : Int) v m = some (up m pa B v) ∧ astI pb (B : Int) v m = some (up m pb B v) := by
  rcases w with ⟨_, _, _, e1, e2, _⟩ | ⟨_, _, _, e1, e2, _⟩ <;> subst e1 e2
  · exact ⟨wst1 (by decide +kernel) hB v m, wst1 (by decide +kernel) hB v m⟩
  · exact ⟨wst1 (by decide +kernel) hB v m, wst1 (by decide +kernel) hB v m⟩
theorem own_r {pa pb f1 f2 x : Nat} (w : Own D S So p p2 x pa pb f1 f2) {n : Mem} (r : Refs n) (v : Int) : Refs (up n pa B v) ∧ Refs (up n pb B v) := by
  rcases w with ⟨_, _, _, e1, e2, _⟩ | ⟨_, _, _, e1, e2, _⟩ <;> subst e1 e2
  · exact ⟨refs_arr r (by decide +kernel) _ _, refs_arr r (by decide +kernel) _ _⟩
  · exact ⟨refs_arr r (by decide +kernel) _ _, refs_arr r (by decide +kernel) _ _⟩
theorem b_sumSt {N : Nat} (hN : 4000 ≤ N) {m n : Mem} {a a0 : Nat} {x pa pb f1 f2 : Nat} (w : Own D S So p p2 x pa pb f1 f2) (jp : JP T len K m n a) (js : JS D B m0 n0 m n I l) (e11 : m 5 11 = s) (hs : SD m S So co ko) (hk : LnS m S So f0 0) (ot : SM n B p p2 co ko ∧ (¬n p B = -1 → n p B + ko ≤ (f0 : Int))) (e39 : n 264 39 = (f0 : Int)) (hco : (x = 22 → co = I 24 ∧ ko = nR I) ∧ (x = 24 → co = I 22 ∧ ko = nD I)) (f0k : ko = f0) (bd : f0 + 1 ≤ a) (la : a0 < a) : Wp (X6_sum N 10 5 S 0 m) (fun v => Wp (rdS N f1 f2 n) (fun n2 => Po2 T len K D B m0 n0 a0 s v n2)) := by
  have hN2 : 2000 ≤ N := by omega
  obtain ⟨⟨pd, sd1, sd2⟩, ld, rw', gw, cf, rf⟩ := id js
  have hD := pd.1
  obtain ⟨r, rn, rp, rs⟩ := id jp
  have hB := rw'.1.1
  have i40 := rw'.1.2.1
  have al := rs.2.2.2.2
  have hp : (pa = 280 ∨ pa = 282) ∧ pb = pa + 1 ∧ (p = 280 ∨ p = 282) ∧ p2 = p + 1 ∧ ¬p = pa := by unfold Own at w; omega
  have sc : SC D S So p p2 := ⟨hD, by unfold Own at w; omega⟩
  have ibk : inBk B pb B := Or.inl ⟨Or.inr (Or.inr (Or.inr (Or.inr (Or.inr (Or.inr ⟨by omega, by omega⟩))))), rfl⟩
  have ibka : inBk B pa B := Or.inl ⟨Or.inr (Or.inr (Or.inr (Or.inr (Or.inr (Or.inr ⟨by omega, by omega⟩))))), rfl⟩
  unfold rdS
  refine wp_r (own_R w rn).1 ?_
  refine wp_r (g264 (by decide)) ?_
  refine wp_r (g264 (by decide)) ?_
  rw [i40, e39]
  refine wp_r (own_st w hB _ n).1 ?_
  obtain ⟨n1, hn1⟩ : ∃ n1, n1 = up n pa B (f0 : Int) := ⟨_, rfl⟩
  have r1 : Refs n1 := by rw [hn1]; exact (own_r w rn _).1
  have o1 : ∀ b, ¬b = pa → n1 b = n b := fun b hb => by rw [hn1, up_ne hb]
  rw [← hn1]
  have rw0 : RW0 n1 B I l := by
    have h0 : RW0 n B I l := ⟨rw'.1, rw'.2.1, rw'.2.2.1, rw'.2.2.2.1, rw'.2.2.2.2.1, rw'.2.2.2.2.2.1, rw'.2.2.2.2.2.2.1⟩
    exact rw0_off h0 (by rw [o1 264 (by omega)]) (fun b b1 b2 h3 h4 => o1 b (by omega))
  have rf1 : RF B n0 n1 := by rw [hn1]; exact rf_st rf ibka _
  have oth1 : Oth n1 B p p2 co ko f0 := by
    have x1 : n1 p = n p := o1 p (by omega)
    have x2 : n1 p2 = n p2 := o1 p2 (by omega)
    refine ⟨⟨?_, by rw [x1]; exact ot.2⟩, by rw [show 562 - p = pa from by omega, hn1, up_same]⟩
    have sm := ot.1
    unfold SM CdM at sm ⊢
    rw [x1, x2, o1 287 (by omega), o1 288 (by omega)]
    exact sm
  have h0 : MS T len K D B S So p p2 co ko f0 s m0 n0 I l m n1 a 0 0 1 := ⟨⟨r, r1, sc, ⟨pd, ld, hs⟩, rw0, oth1, cf, rf1, e11⟩, ⟨rp, rs_off rs (fun j _ => by rw [o1 264 (by omega)]) (o1 265 (by omega))⟩, hk, ⟨by rw [o1 264 (by omega), e39, Nat.add_zero], fun i hi => absurd hi (Nat.not_lt_zero i)⟩, ⟨by omega, Nat.le_refl _⟩, ⟨fun i hi => absurd hi (Nat.not_lt_zero i), fun i hi => by
    have : i = 0 := by omega
    subst this
    exact (by show (0 : Int) ≤ 0 ∧ (0 : Int) ≤ 63; decide), fun i hi => absurd hi (Nat.not_lt_zero i)⟩⟩
  -- the stack is laid anew
  obtain ⟨n2, hn2⟩ : ∃ n2, n2 = up (up (up (up n1 264 44 0) 264 45 0) 264 47 0) 264 48 0 := ⟨_, rfl⟩
  have r2 : Refs n2 := by rw [hn2]; exact refs_up (refs_up (refs_up (refs_up r1 (by decide +kernel) _) (by decide +kernel) _) (by decide +kernel) _) (by decide +kernel) _
  have o2 : ∀ b, ¬b = 264 → n2 b = n1 b := fun b hb => by rw [hn2, up_ne hb, up_ne hb, up_ne hb, up_ne hb]
  have o2j : ∀ j, ¬(j = 44 ∨ j = 45 ∨ j = 47 ∨ j = 48) → n2 264 j = n1 264 j := fun j hj => by rw [hn2, up_at, if_neg (by omega), up_at, if_neg (by omega), up_at, if_neg (by omega), up_at, if_neg (by omega)]
  have h2 : MS T len K D B S So p p2 co ko f0 s m0 n0 I l m n2 a 0 0 1 := ms_st h0 r2 (fun b hb _ => o2 b hb) o2j
  obtain ⟨n3, e3, r3, g1, g2, g3, g4, g5, g6⟩ := m_pushes r2 (d := 0) (q := 0) (by rw [hn2, up_slot (by decide), up_slot (by decide), up_slot (by decide), up_same]; rfl) (by rw [hn2, up_slot (by decide), up_same]; rfl) (by decide) 0
  have h3 : MS T len K D B S So p p2 co ko f0 s m0 n0 I l m n3 a 0 0 1 := ms_st h2 r3 (fun b hb hb2 => g6 b hb (by omega) (by omega)) (fun j hj => g4 j (by omega))
  have st3 : SSt n3 0 0 := ⟨g3, by rw [g4 45 (by decide), hn2, up_slot (by decide), up_slot (by decide), up_same]; rfl, by rw [g4 47 (by decide), hn2, up_slot (by decide), up_same]; rfl⟩
  have y3 : n3 264 48 = 0 := by rw [g4 48 (by decide), hn2, up_same]
  have e8 : n1 264 8 = 0 := by rw [o1 264 (by omega)]; exact rs.2.1
  have reads : ∀ z, Lr N N n3 = some z → X11_reads N 264 n1 = some z := fun z hz => by
    unfold X11_reads
    rw [if_pos k264, g264 (by decide), Option.bind_some, e8, if_pos (by decide), p264 (by decide), Option.bind_some, p264 (by decide), Option.bind_some, p264 (by decide), Option.bind_some, ptZ0 (g264_c 48 (by decide)), Option.bind_some, ← hn2, e3, Option.bind_some]
    exact hz
  -- what is written behind
  have fin : ∀ (z : Mem) {Q : Mem → Prop}, Lr N N n3 = some z → Refs z → z 264 40 = (B : Int) → Q (up z pb B (z 264 39)) → Wp ((X11_reads N 264 n1).bind fun p9 => (getR 11 f2 264 p9).bind fun t10 => (getI 11 40 264 p9).bind fun t11 => (getI 11 39 264 p9).bind fun t12 => (astI t10 t11 t12 p9).bind fun m13 => some m13) Q := fun z Q hz rz z40 hQ => by
    refine wp_b (reads z hz) ?_
    refine wp_b (own_R w rz).2 ?_
    refine wp_b (g264 (by decide)) ?_
    refine wp_b (g264 (by decide)) ?_
    rw [z40]
    refine wp_b (own_st w hB _ z).2 ?_
    exact wp_some hQ
  have jfb : ∀ (mm z : Mem), JF D B m0 n0 mm z → JF D B m0 n0 mm (up z pb B (z 264 39)) := fun mm z ⟨⟨f, p', hf, x1, x2, x3, x4⟩, y1, y2, y3, y4⟩ => ⟨⟨f, p', hf, x1, x2, by rw [up_ne (by omega)]; exact x3, by rw [up_ne (by omega)]; exact x4⟩, y1, (own_r w y2 _).2, y3, rf_st y4 ibk _⟩
  refine wp_c (b_sum hN2 10 0 rfl (by decide) N m n3 a 0 0 0 h3 st3 (by decide) y3 g2 (by show (0 : Int) ≤ 3 * 0; decide) (by omega)) (fun v hv => ?_)
  · show Wp _ _
    rcases hv with ⟨v0, z, ez, jf⟩ | ⟨v1, n4, F4, a4, k4, R4, q4, el4, la4, hF4, h4, st4, pn4, hR4, hq4, y4, dd4, kp4, ns4, _⟩
    · have z40 : z 264 40 = (B : Int) := by
        have y1 := jf.2.2.2.2 264 40 (by unfold mayR; omega) (by omega) (by unfold inBk; omega)
        have y2 := rf 264 40 (by unfold mayR; omega) (by omega) (by unfold inBk; omega)
        rw [y1, ← y2]; exact i40
      exact fin (Q := fun n2 => Po2 T len K D B m0 n0 a0 s v n2) z ez jf.2.2.1 z40 (Or.inl (Or.inr ⟨v0, jfb _ _ jf⟩))
    · obtain ⟨F4, rfl⟩ := ms_F h4 hF4
      have al4 := (ms_B h4).2.2.2
      by_cases rl : rlx T len a4 = -1
      · obtain ⟨n5, e5, h5⟩ := b_end hN2 (by omega) (by omega) h4 rl ns4 st4 (by rw [(kp4.1 0 (Nat.le_refl _)).2.2, g2]; rfl) (by rw [(kp4.1 0 (Nat.le_refl _)).1]; exact g1) pn4 (by omega)
        obtain ⟨hB5, i405, i395, bd5, _, _, _⟩ := ms_B h5
        have ez : Lr N N n3 = some n5 := by rw [el4]; exact l_go0 y4 e5
        refine fin (Q := fun n2 => Po2 T len K D B m0 n0 a0 s v n2) n5 ez h5.1.2.1 i405 (Or.inl (Or.inl ⟨v1, a4, dI I x (cM v.2 S f0) k4, l, by omega, ?_⟩))
        obtain ⟨⟨r5, rn5, _, ⟨pd5, ld5, so5⟩, rw5, ot5, cf5, rf5, e115⟩, ⟨rp5, rs5⟩, hk5, ⟨c51, c52⟩, _, wf5⟩ := h5
        have dd : dpt (cM v.2 S f0) k4 = 1 := dd4
        have k0 : 0 < k4 := by
          rcases Nat.eq_zero_or_pos k4 with u | u
          · rw [u] at dd; exact absurd dd (by show ¬(0 : Int) = 1; decide)
          · exact u
        have wf : WF (cM v.2 S f0) k4 := ⟨by omega, wf5.1, wf5.2.1, wf5.2.2, fun _ => dd⟩
        rw [i395]
        obtain ⟨n6, hn6⟩ : ∃ n6, n6 = up n5 pb B ((f0 + k4 : Nat) : Int) := ⟨_, rfl⟩
        have r6 : Refs n6 := by rw [hn6]; exact (own_r w rn5 _).2
        have o6 : ∀ b, ¬b = pb → n6 b = n5 b := fun b hb => by rw [hn6, up_ne hb]
        have rf6 : RF B n0 n6 := by rw [hn6]; exact rf_st rf5 ibk _
        rw [← hn6]
        have pa5 : n6 pa B = (f0 : Int) := by
          have := ot5.2
          rw [show 562 - p = pa from by omega] at this
          rw [o6 pa (by omega)]; exact this
        have pb6 : n6 pb B = ((f0 + k4 : Nat) : Int) := by rw [hn6, up_same]
        have sm6 : SM n6 B pa pb (cM v.2 S f0) k4 ∧ (¬n6 pa B = -1 → n6 pa B + k4 ≤ n6 264 39) := by
          refine ⟨Or.inr ⟨by rw [pa5]; omega, k0, by rw [pb6, pa5]; omega, by rw [pa5]; omega, by rw [pa5]; omega, fun i i0 i1 => ?_⟩, fun _ => by rw [pa5, o6 264 (by omega), i395]; omega⟩
          obtain ⟨x1, x2⟩ := c52 i.toNat (by omega)
          rw [pa5, o6 287 (by omega), o6 288 (by omega), show 1600 * B + ((f0 : Int) + i).toNat = 1600 * B + f0 + i.toNat from by omega]
          exact ⟨x1, x2⟩
        have ot6 : Oth n6 B p p2 co ko f0 := oth_off ot5 (by rw [o6 p (by omega)]) (by rw [o6 p2 (by omega)]) (by rw [o6 (562 - p) (by omega)]) (fun y _ => ⟨by rw [o6 287 (by omega)], by rw [o6 288 (by omega)]⟩)
        have sdS : SD v.2 S (1 - So) (cM v.2 S f0) k4 := ⟨(sc_S sc).1, by omega, so5.2.2.1, f0, ⟨by rw [hk5.1]; exact Int.le_refl _, by rw [hk5.1]; omega⟩, hk5.2.2.1, hk5.2.2.2.1, fun i i0 i1 => rfl⟩
        have rw6 : RW0 n6 B I l := rw0_off rw5 (by rw [o6 264 (by omega)]) (fun b b1 b2 h3 h4 => o6 b (by omega))
        obtain ⟨ib6, r68, r67, r79, s8, w71, mn6⟩ := rw6
        obtain ⟨z, ww, cn, kc, ⟨vh, vt, vd, vr, hh⟩, cl, cm, ap, rest⟩ := gw
        have n39 : n6 264 39 = ((f0 + k4 : Nat) : Int) := by rw [o6 264 (by omega)]; exact i395
        refine ⟨⟨r5, r6, rp5, rs_off rs5 (fun j _ => by rw [o6 264 (by omega)]) (o6 265 (by omega))⟩, ?_⟩
        rcases w with ⟨w1, w2, w3, w4, w5, w6, w7, _⟩ | ⟨w1, w2, w3, w4, w5, w6, w7, _⟩
        · subst w1 w2 w3 w4 w5 w6 w7
          obtain ⟨hc1, hc2⟩ := hco.1 rfl
          subst hc1 hc2
          have eD : nD (dI I 22 (cM v.2 (D + 23) f0) k4) = k4 := by
            show (dI I 22 (cM v.2 (D + 23) f0) k4 23 0).toNat = k4
            rw [show dI I 22 (cM v.2 (D + 23) f0) k4 23 0 = (k4 : Int) from dI_n I 22 _ _]
            omega
          have e22 : dI I 22 (cM v.2 (D + 23) f0) k4 22 = cM v.2 (D + 23) f0 := dI_x I 22 _ _
          refine ⟨⟨⟨pd_c pd5 (fun k hk => dI_k (by omega) (by omega)), by rw [eD, e22]; exact sdS, so5⟩, ld5, ⟨ib6, r68, r67, r79, s8, w71, ⟨mn6.1, mn6.2.1, ?_⟩, by rw [eD, e22]; exact sm6, ⟨ot6.1.1, ?_⟩, ?_⟩, ⟨z, ww, cn, kc, ⟨vh, vt, by rw [eD, e22]; exact wf, vr, hh⟩, ?_, cm, ap, rest⟩, cf5, rf6⟩, e115, ?_⟩
          · rw [clTo_c (dI_k (by decide) (by decide))]; exact mn6.2.2
          · intro u
            have := ot6.1.2 u
            rw [n39]
            show n6 282 B + ((nR I : Nat) : Int) ≤ _
            omega
          · rw [n39, eD]
            show _ = ((k4 + nR I : Nat) : Int)
            omega
          · unfold Cl
            rw [clTo_c (dI_k (by decide) (by decide))]; exact cl
          · rw [eD]
            show k4 + nR I ≤ a4
            omega
        · subst w1 w2 w3 w4 w5 w6 w7
          obtain ⟨hc1, hc2⟩ := hco.2 rfl
          subst hc1 hc2
          have eR : nR (dI I 24 (cM v.2 (D + 23) f0) k4) = k4 := by
            show (dI I 24 (cM v.2 (D + 23) f0) k4 25 0).toNat = k4
            rw [show dI I 24 (cM v.2 (D + 23) f0) k4 25 0 = (k4 : Int) from dI_n I 24 _ _]
            omega
          have e24 : dI I 24 (cM v.2 (D + 23) f0) k4 24 = cM v.2 (D + 23) f0 := dI_x I 24 _ _
          refine ⟨⟨⟨pd_c pd5 (fun k hk => dI_k (by omega) (by omega)), so5, by rw [eR, e24]; exact sdS⟩, ld5, ⟨ib6, r68, r67, r79, s8, w71, ⟨mn6.1, mn6.2.1, ?_⟩, ⟨ot6.1.1, ?_⟩, by rw [eR, e24]; exact sm6, ?_⟩, ⟨z, ww, cn, kc, ⟨vh, vt, vd, by rw [eR, e24]; exact wf, hh⟩, ?_, cm, ap, rest⟩, cf5, rf6⟩, e115, ?_⟩
          · rw [clTo_c (dI_k (by decide) (by decide))]; exact mn6.2.2
          · intro u
            have := ot6.1.2 u
            rw [n39]
            show n6 280 B + ((nD I : Nat) : Int) ≤ _
            omega
          · rw [n39, eR]
            show _ = ((nD I + k4 : Nat) : Int)
            omega
          · unfold Cl
            rw [clTo_c (dI_k (by decide) (by decide))]; exact cl
          · rw [eR]
            show nD I + k4 ≤ a4
            omega
      · have eg := g_lex (N := N) h4.2.1.2 rl
        have ez : Lr N N n3 = some (Bl n4 1 (tkQ T len a4)) := by rw [el4]; exact l_go0 y4 eg
        have rb := bl_refs h4.1.2.1 1 (tkQ T len a4)
        have rfb : RF B n0 (Bl n4 1 (tkQ T len a4)) := rf_up h4.1.2.2.2.2.2.2.2.1 (fun b j h1 _ _ => by
          by_cases qq : b = 264
          · rw [qq, bl_at (fun u => h1 ⟨qq, by omega⟩)]
          · rw [bl_ne qq])
        obtain ⟨z, hz⟩ : ∃ z, z = Bl n4 1 (tkQ T len a4) := ⟨_, rfl⟩
        have z8 : z 264 8 = 1 ∧ z 264 9 = tkQ T len a4 := by rw [hz]; exact bl_8 _ _ _
        have z40 : z 264 40 = (B : Int) := by rw [hz, bl_at (by decide)]; exact (ms_B h4).2.1
        rw [← hz] at ez rb rfb
        have y1 : Refs (up z pb B (z 264 39)) := (own_r (B := B) w rb _).2
        have y2 : up z pb B (z 264 39) 264 8 = 1 ∧ up z pb B (z 264 39) 264 9 = tkQ T len a4 := by rw [up_ne (show ¬264 = pb from by omega)]; exact z8
        have y3' : RF B n0 (up z pb B (z 264 39)) := rf_st rfb ibk _
        have y4' : CFr D m0 v.2 := h4.1.2.2.2.2.2.2.1
        have hf : Hf T len K D B m0 n0 v (up z pb B (z 264 39)) := by
          unfold Hf
          exact ⟨v1, a4, h4.2.1.1, rl, h4.1.1, y1, y2, y4', y3'⟩
        exact fin (Q := fun n2 => Po2 T len K D B m0 n0 a0 s v n2) z ez rb z40 (Or.inr hf)
