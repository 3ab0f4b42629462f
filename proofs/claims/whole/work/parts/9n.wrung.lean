/-! wrung -/
abbrev unl (T : Nat → Int) (n : Nat) (bd : Int) : Prop := ∀ i : Nat, i < n → T i < bd ∧ ∀ j : Nat, j < i → ¬T j = T i
theorem x_unlike {N : Nat} (hN : 2000 ≤ N) {m : Mem} (r : Refs m) {len : Nat} (hl : len ≤ 1600) (bd : Int) : X10_unlikeBytes N 3 (len : Int) bd m = some (bi (unl (m 4) len bd)) := by
  unfold X10_unlikeBytes
  rw [if_pos k3]
  refine lp_0 (fun i => unl (m 4) i bd) (fun F i => X10_unlikeBytes_L2 N m F 3 len bd i) len _ (fun i hi => by omega) (fun F i hi hS ih => ?_) (fun F hS => ?_) N (by omega)
  · refine wp_eq ?_
    show Wp (X10_unlikeBytes_L2_b N m (X10_unlikeBytes_L2 N m F) 3 len bd i) _
    unfold X10_unlikeBytes_L2_b
    rw [if_neg (by omega)]
    refine wp_b (gX0 r) ?_
    refine wp_b (arI 1600 (by decide +kernel) (by omega) (by omega) m) ?_
    rw [Int.toNat_natCast]
    by_cases q : m 4 i < bd
    · rw [if_pos q]
      refine wp_of (lp_0 (fun j => ∀ k : Nat, k < j → ¬m 4 k = m 4 i) (fun F2 j => X10_unlikeBytes_L22 N (fun z9 z10 z11 z12 => X10_unlikeBytes_L2 N m F z9 z10 z11 (wI (z12 + 1))) m F2 3 len bd i j) i (bi (unl (m 4) len bd)) (fun k hk => by omega) (fun F2 j hj hS2 ih2 => ?_) (fun F2 hS2 => ?_) N (by omega)) rfl
      · refine wp_eq ?_
        show Wp (X10_unlikeBytes_L22_b N _ m (X10_unlikeBytes_L22 N _ m F2) 3 len bd i j) _
        unfold X10_unlikeBytes_L22_b
        rw [if_neg (by omega)]
        refine wp_b (gX0 r) ?_
        refine wp_b (arI 1600 (by decide +kernel) (by omega) (by omega) m) ?_
        refine wp_b (gX0 r) ?_
        refine wp_b (arI 1600 (by decide +kernel) (by omega) (by omega) m) ?_
        rw [Int.toNat_natCast, Int.toNat_natCast]
        by_cases y : m 4 j = m 4 i
        · rw [if_neg (fun u => u y)]
          exact wp_z0 (bi_f (fun u => (u i hi).2 j hj y))
        · rw [if_pos y]
          refine wp_of (ih2 _ (by first | omega | (simp (disch := omega) only [wI_of2] <;> omega)) (fun k hk => ?_)) rfl
          by_cases e : k = j
          · rw [e]; exact y
          · exact hS2 k (by omega)
      · refine wp_eq ?_
        show Wp (X10_unlikeBytes_L22_b N _ m (X10_unlikeBytes_L22 N _ m F2) 3 len bd i i) _
        unfold X10_unlikeBytes_L22_b
        rw [if_pos (Int.le_refl _)]
        show Wp (X10_unlikeBytes_L2 N m F 3 len bd (wI ((i : Int) + 1))) _
        refine wp_of (ih _ (by first | omega | (simp (disch := omega) only [wI_of2] <;> omega)) (fun k hk => ?_)) rfl
        by_cases e : k = i
        · rw [e]; exact ⟨q, hS2⟩
        · exact hS k (by omega)
    · rw [if_neg q]
      exact wp_z0 (bi_f (fun u => q (u i hi).1))
  · refine wp_eq ?_
    show Wp (X10_unlikeBytes_L2_b N m (X10_unlikeBytes_L2 N m F) 3 len bd len) _
    unfold X10_unlikeBytes_L2_b
    rw [if_pos (Int.le_refl _)]
    exact wp_z1 (bi_t hS)
/-- the set of those that were there -/
def wsk (T : Nat → Int) : Nat → Nat
  | 0 => 0
  | k + 1 => wsk T k ||| 2 ^ (T k).toNat
theorem wsk_bit (T : Nat → Int) (c : Nat) : ∀ k, (wsk T k).testBit c = true ↔ ∃ i, i < k ∧ (T i).toNat = c := by
  intro k
  induction k with
  | zero =>
    show (Nat.testBit 0 c = true) ↔ _
    rw [Nat.zero_testBit]
    exact ⟨fun h => absurd h (by decide), fun ⟨i, hi, _⟩ => by omega⟩
  | succ k ih =>
    show ((wsk T k ||| 2 ^ (T k).toNat).testBit c = true) ↔ _
    rw [Nat.testBit_or, Nat.testBit_two_pow, Bool.or_eq_true, ih, decide_eq_true_eq]
    constructor
    · intro h
      rcases h with ⟨i, hi, e⟩ | e
      · exact ⟨i, by omega, e⟩
      · exact ⟨k, by omega, e⟩
    · intro ⟨i, hi, e⟩
      by_cases q : i = k
      · rw [q] at e; exact Or.inr e
      · exact Or.inl ⟨i, by omega, e⟩
theorem wsk_lt (T : Nat → Int) (h : ∀ k, (T k).toNat < 10) : ∀ k, wsk T k < 1024 := by
  intro k
  induction k with
  | zero => exact (by decide : (0 : Nat) < 1024)
  | succ k ih =>
    show wsk T k ||| 2 ^ (T k).toNat < 2 ^ 10
    refine Nat.or_lt_two_pow (show wsk T k < 2 ^ 10 from ih) ?_
    exact Nat.pow_lt_pow_right (by decide) (h k)
/-- the reference's end of wrung -/
def wrK2 (N : Nat) : Nat → Int → Mem → Option (Int × Mem) := fun z24 z25 m26 =>
            (X11_nightAsTold N z24 0 m26).bind fun p27 =>
            (X11_gotBy N z24 z25 p27).bind fun p28 =>
            some (p28, p27)
def wrK (N : Nat) : Nat → Int → Int → Mem → Option (Int × Mem) := fun z15 z16 z17 m18 =>
      if ¬ z17 = 0 then (
        X11_wrung_L105 N (wrK2 N) N z15 z16 0 m18
      ) else (
        (X11_refuses z15 5 m18).bind fun p29 =>
        some (p29.1, p29.2)
      )
theorem m_wrJ {N : Nat} (hN : 2000 ≤ N) {m : Mem} (r : Refs m) {n : Nat} (hn : n ≤ 10) {T : Nat → Int} (ht : ∀ i : Nat, i < n → m 265 i = T i ∧ 0 ≤ T i) {Q : Int × Mem → Prop} (h1 : unl T n n → Wp (X11_wrung_L105 N (wrK2 N) N 264 n 0 m) Q) (h0 : ¬unl T n n → Wp ((X11_refuses 264 5 m).bind fun p29 => some (p29.1, p29.2)) Q) : Wp (X11_wrung_J23 N 264 n 1 m) Q := by
  unfold X11_wrung_J23
  show Wp (X11_wrung_L29 N (wrK N) N 264 n 1 0 0 m) Q
  obtain ⟨T2, hT2⟩ : ∃ T2 : Nat → Int, T2 = fun i => if i < n ∧ T i < n then T i else 0 := ⟨_, rfl⟩
  have e2 : ∀ i, i < n → T i < n → T2 i = T i := fun i hi hb => by rw [hT2]; exact if_pos ⟨hi, hb⟩
  have b2 : ∀ i, (T2 i).toNat < 10 := fun i => by
    rw [hT2]
    show ((if i < n ∧ T i < n then T i else 0)).toNat < 10
    split <;> omega
  have kb : ¬unl T n n → Wp (wrK N 264 n 0 m) Q := fun hu => by
    unfold wrK
    rw [if_neg (by decide)]
    exact h0 hu
  refine lw_2 (fun j (x : Int × Int) mm => mm = m ∧ (x = (1, ((wsk T2 j : Nat) : Int)) ∧ unl T j n ∨ x.1 = 0 ∧ ¬unl T n n)) (fun F x i mm => X11_wrung_L29 N (wrK N) F 264 n x.1 x.2 i mm) n Q (fun F j x mm hj hI ih => ?_) (fun F x mm hI => ?_) N (1, 0) m (by omega) ⟨rfl, Or.inl ⟨rfl, fun i hi => by omega⟩⟩
  · obtain ⟨hm, hx⟩ := hI
    subst hm
    show Wp (X11_wrung_L29_b N (wrK N) (X11_wrung_L29 N (wrK N) F) 264 n x.1 x.2 j mm) Q
    unfold X11_wrung_L29_b
    rw [if_neg (by omega)]
    rcases hx with ⟨hx, hu⟩ | ⟨hx, hu⟩
    · subst hx
      have ml := wsk_lt T2 b2 j
      have tj := ht j hj
      rw [if_neg (show ¬(1 : Int) = 0 from by decide)]
      refine wp_b (gR0 r) ?_
      refine wp_b (arI 1800 (by decide +kernel) (by omega) (by omega) mm) ?_
      rw [Int.toNat_natCast, tj.1]
      have no : ¬unl T n n → Wp (X11_wrung_J68 N (X11_wrung_L29 N (wrK N) F) 264 n ((wsk T2 j : Nat) : Int) j mm) Q := by
        intro hu2
        unfold X11_wrung_J68 X11_wrung_J69 X11_wrung_J86
        rw [if_pos rfl]
        exact ih (0, ((wsk T2 j : Nat) : Int)) _ mm (by first | omega | (simp (disch := omega) only [wI_of2] <;> omega)) ⟨rfl, Or.inr ⟨rfl, hu2⟩⟩
      by_cases q : T j < n
      · rw [if_neg (by omega)]
        refine wp_b (gR0 r) ?_
        refine wp_b (arI 1800 (by decide +kernel) (by omega) (by omega) mm) ?_
        have et : (((T j).toNat : Nat) : Int) = T j := Int.toNat_of_nonneg tj.2
        rw [Int.toNat_natCast, tj.1]
        have bc := bit_c _ ml (T j).toNat (by omega)
        rw [et] at bc
        rw [show iand (ishr ((1 : Int), ((wsk T2 j : Nat) : Int)).2 (T j)) 1 = tbt (wsk T2 j) (T j).toNat from bc]
        have mb := wsk_bit T2 (T j).toNat j
        by_cases y : (wsk T2 j).testBit (T j).toNat = true
        · rw [show tbt (wsk T2 j) (T j).toNat = 1 from if_pos y, if_pos (by decide)]
          obtain ⟨i, hi, e⟩ := mb.mp y
          refine no (fun u => (u j hj).2 i hi ?_)
          have ui := hu i hi
          rw [e2 i (by omega) ui.1] at e
          have := (ht i (by omega)).2
          omega
        · rw [show tbt (wsk T2 j) (T j).toNat = 0 from if_neg y, if_neg (by decide)]
          unfold X11_wrung_J69 X11_wrung_J86
          rw [if_neg (by decide)]
          refine wp_b (gR0 r) ?_
          refine wp_b (arI 1800 (by decide +kernel) (by omega) (by omega) mm) ?_
          have oc := or_c _ ml (T j).toNat (by omega)
          rw [et] at oc
          rw [Int.toNat_natCast, tj.1]
          rw [show ior ((1 : Int), ((wsk T2 j : Nat) : Int)).2 (ishl 1 (T j)) = ((wsk T2 j ||| 2 ^ (T j).toNat : Nat) : Int) from oc]
          refine ih (1, ((wsk T2 j ||| 2 ^ (T j).toNat : Nat) : Int)) _ mm (by first | omega | (simp (disch := omega) only [wI_of2] <;> omega)) ⟨rfl, Or.inl ⟨?_, fun i hi => ?_⟩⟩
          · show _ = (1, ((wsk T2 j ||| 2 ^ (T2 j).toNat : Nat) : Int))
            rw [e2 j hj q]
          · by_cases e : i = j
            · rw [e]
              refine ⟨q, fun k hk ek => y (mb.mpr ⟨k, hk, ?_⟩)⟩
              rw [e2 k (by omega) (hu k hk).1, ek]
            · exact hu i (by omega)
      · rw [if_pos (by omega)]
        exact no (fun u => q (u j hj).1)
    · rw [if_pos hx, hx]
      exact kb hu
  · obtain ⟨hm, hx⟩ := hI
    subst hm
    show Wp (X11_wrung_L29_b N (wrK N) (X11_wrung_L29 N (wrK N) F) 264 n x.1 x.2 n mm) Q
    unfold X11_wrung_L29_b
    rw [if_pos (Int.le_refl _)]
    rcases hx with ⟨hx, hu⟩ | ⟨hx, hu⟩
    · subst hx
      unfold wrK
      rw [if_pos (show ¬(1 : Int) = 0 from by decide)]
      exact h1 hu
    · rw [hx]
      exact kb hu
theorem m_wrJ0 {N : Nat} (hN : 2000 ≤ N) {m : Mem} {n : Int} {Q : Int × Mem → Prop} (h0 : Wp ((X11_refuses 264 5 m).bind fun p29 => some (p29.1, p29.2)) Q) : Wp (X11_wrung_J23 N 264 n 0 m) Q := by
  unfold X11_wrung_J23
  show Wp (X11_wrung_L29 N (wrK N) N 264 n 0 0 0 m) Q
  obtain ⟨F, rfl⟩ : ∃ F, N = F + 1 := ⟨N - 1, by omega⟩
  show Wp (X11_wrung_L29_b (F + 1) (wrK (F + 1)) (X11_wrung_L29 (F + 1) (wrK (F + 1)) F) 264 n 0 0 0 m) Q
  unfold X11_wrung_L29_b
  have k : Wp (wrK (F + 1) 264 n 0 m) Q := by
    unfold wrK
    rw [if_neg (by decide)]
    exact h0
  by_cases q : n ≤ 0
  · rw [if_pos q]; exact k
  · rw [if_neg q, if_pos rfl]; exact k
/-- the tapes emptied -/
def emp (m : Mem) : Mem := up (up m 3 1 0) 264 1 0
theorem emp_ro (m : Mem) (a : Nat) (h : ¬a = 3) (h2 : ¬a = 264) : emp m a = m a := by
  unfold emp
  rw [up_setA, setA_ne h2, up_setA, setA_ne h]
theorem emp_at (m : Mem) (a k : Nat) (h : ¬(a = 3 ∧ k = 1 ∨ a = 264 ∧ k = 1)) : emp m a k = m a k := by
  unfold emp up
  rw [if_neg (by omega), if_neg (by omega)]
theorem inv_emp {m : Mem} {P b : Nat} {I : Isl} {l : Lnd} {s : Int} (h : InvP m P b I l s) : InvP (emp m) P b I l s := by
  have r := h.1
  refine inv_t h (refs_up (refs_up r (by decide +kernel) 0) (by decide +kernel) 0) (fun a k hk => emp_at m a k (by omega)) (te_0 ?_ (up_same _ _ _ _))
  show up (up m 3 1 0) 264 1 0 3 1 = 0
  rw [up_obj (by decide), up_same]
/-- what the class knows, its tape emptied alone -/
theorem x_emp {m : Mem} {P b : Nat} {I : Isl} {l : Lnd} {s : Int} (h : InvP m P b I l s) : Refs (up m 3 1 0) ∧ B3 (up m 3 1 0) P ∧ PS (up m 3 1 0) P I ∧ LD (up m 3 1 0) 69 l ∧ TO (up m 3 1 0) P I l := by
  obtain ⟨r, ⟨b3, bb, b4, ps, md, mn⟩, ⟨z, n, kc, vl, cl, fx, cm⟩, ⟨hl, my, gl⟩, pa, to, zz, hg, wk, se, rd, te, fe, oe, kst⟩ := id h; have h1 := ps.1; have tc := gl.1; have hs := vl.2.2.2.2
  have hP := b3.1
  have n9 := n.2.2.2.1
  have r2 : Refs (up m 3 1 0) := refs_up r (by decide +kernel) 0
  have ro : ∀ a, ¬a = 3 → up m 3 1 0 a = m a := fun a ha => by rw [up_setA, setA_ne ha]
  refine ⟨r2, ⟨hP, by rw [up_slot (by decide)]; exact b3.2⟩, ⟨pd_off h1 fun a _ _ _ _ _ => ro a (by omega), sd_off ps.2.1 (fun q q1 q2 => ro q (by omega)), sd_off ps.2.2 (fun q q1 q2 => ro q (by omega))⟩, ld_off hl fun a _ _ => ro a (by omega), ?_⟩
  have e12 : up m 3 1 0 3 12 = m 3 12 := up_slot (by decide) _ _ _ _
  obtain ⟨t1, t2, t3⟩ := to
  refine ⟨by rw [ro 161 (by decide)]; exact t1, by rw [e12]; exact t2, fun q => ?_⟩
  rw [e12] at q
  exact nx_off n (t3 q) r2 (fun a ha => ro a (by omega))
theorem up_comm {a b : Nat} (h : ¬a = b) (m : Mem) (k j : Nat) (v w : Int) : up (up m a k v) b j w = up (up m b j w) a k v := by
  funext x y
  unfold up
  by_cases q1 : x = a ∧ y = k
  · have q2 : ¬(x = b ∧ y = j) := fun u => h (q1.1.symm.trans u.1)
    simp only [if_pos q1, if_neg q2]
  · by_cases q2 : x = b ∧ y = j
    · simp only [if_pos q2, if_neg q1]
    · simp only [if_neg q2, if_neg q1]
/-- a refusal behind the emptied tapes -/
theorem ref_emp {m : Mem} {P b : Nat} {I : Isl} {l : Lnd} {s : Int} (h : InvP m P b I l s) : ∃ m1 m2, X10_refuse 3 5 (up m 3 1 0) = some (-1, m1) ∧ X11_refuses 264 5 (up m1 264 1 0) = some (-1, m2) ∧ m1 264 1 = m 264 1 ∧ (∀ a, 264 ≤ a → m1 a = m a) ∧ Refs m1 ∧ Inv m2 := by
  have r := h.1
  have r1 : Refs (up m 3 1 0) := refs_up r (by decide +kernel) 0
  have e1 : X10_refuse 3 5 (up m 3 1 0) = some (-1, up (up m 3 1 0) 263 5 (wI (up m 3 1 0 263 5 + 1))) := refuse_x r1 (s := 5) (by decide) (by decide)
  have he := inv_emp h
  obtain ⟨_, e2, i2⟩ := ref_x he (k := 5) (by decide)
  have hi : ∀ a, 264 ≤ a → up (up m 3 1 0) 263 5 (wI (up m 3 1 0 263 5 + 1)) a = m a := fun a ha => by
    rw [up_setA, setA_ne (by omega), up_setA, setA_ne (by omega)]
  refine ⟨_, both (emp m) 5, e1, ?_, by rw [hi 264 (by decide)], hi, refs_arr r1 (by decide +kernel) _ _, i2⟩
  have eq : up (up (up m 3 1 0) 263 5 (wI (up m 3 1 0 263 5 + 1))) 264 1 0 = up (emp m) 263 5 (wI (emp m 263 5 + 1)) := by
    have e : emp m 263 5 = up m 3 1 0 263 5 := by rw [emp_ro m 263 (by decide) (by decide), up_obj (by decide)]
    rw [up_comm (by decide), e]
    rfl
  rw [eq]
  exact e2
theorem wrung_ok {N : Nat} (hN : 2000 ≤ N) {m : Mem} (h : Inv m) : ∃ v m1 m2, X10_wrung N 3 m = some (v, m1) ∧ X11_wrung N 264 m1 = some (v, m2) ∧ Inv m2 := by
  obtain ⟨P, b, I, l, s, h⟩ := h
  obtain ⟨rx, b3x, psx, hlx, tox⟩ := x_emp h
  obtain ⟨r, ⟨b3, bb, b4, ps, md, mn⟩, ⟨z, n, kc, vl, cl, fx, cm⟩, ⟨hl, my, gl⟩, pa, to, zz, hg, wk, se, rd, te, fe, oe, kst⟩ := id h; have h1 := ps.1; have tc := gl.1; have hs := vl.2.2.2.2
  obtain ⟨n1, n2, n3, n4, n5, n6⟩ := id n
  have ek : ((nH I : Nat) : Int) = I 12 0 := Int.toNat_of_nonneg (by omega)
  have hP := b3.1
  obtain ⟨t1, t2, t3, t4⟩ := id te
  have g1 : getI 10 1 3 m = some (m 3 1) := gtI (by decide +kernel) m
  have p1 : putI 10 1 3 0 m = some (up m 3 1 0) := ptI (by decide +kernel) 0 m
  by_cases q : m 3 1 = I 12 0 ∧ unl (m 4) (nH I) (I 12 0)
  · obtain ⟨q1, q2⟩ := q
    have T0 : ∀ i : Nat, i < nH I → 0 ≤ m 4 i ∧ m 4 i < I 12 0 := fun i hi => ⟨(t4 i (by omega)).2.1, (q2 i hi).1⟩
    have X : Wp (X10_wrung N 3 m) (fun p => p.1 = rowS I l (m 4) (nH I) ∧ Refs p.2 ∧ (∀ a, ¬(a = 3 ∨ ToS P a ∨ 246 ≤ a ∧ a ≤ 248) → p.2 a = m a) ∧ (∀ j, ¬(j = 1 ∨ j = 12) → p.2 3 j = m 3 j) ∧ p.2 3 1 = 0 ∧ (∀ k, ¬(k = 2 ∨ k = 3) → p.2 246 k = m 246 k) ∧ TO p.2 P I l) := by
      unfold X10_wrung
      refine wp_k k3 ?_
      refine wp_b g1 ?_
      refine wp_b p1 ?_
      refine wp_b (b3_R b3x) ?_
      refine wp_b (pd_I psx.1 (by decide)) ?_
      rw [if_neg (fun u => u q1)]
      refine wp_b (b3_R b3x) ?_
      refine wp_b (pd_I psx.1 (by decide)) ?_
      have xu := x_unlike hN rx (len := nH I) (by omega) (I 12 0)
      rw [ek, show (up m 3 1 0) 4 = m 4 from by rw [up_setA, setA_ne (by decide)], ← bi_t q2] at xu
      rw [q1]
      refine wp_b xu ?_
      rw [if_pos (by decide)]
      refine wp_b (gX13 rx) ?_
      refine wp_b (b3_R b3x) ?_
      refine wp_b (gX5 rx) ?_
      refine wp_bw (x_told hN rx b3x psx hlx z n vl kc tc tox) (fun w hw => ?_)
      obtain ⟨w1, nx, w12, f⟩ := hw
      rw [w1]
      have fa : ∀ a, ¬a = 3 → ¬ToS P a → w.2 a = up m 3 1 0 a := f.1
      have nT : ∀ a, a < 160 → ¬a = P + 27 → ¬a = P + 27 → ¬ToS P a := fun a a1 a2 a3 => by unfold ToS PasS; omega
      have hp2 : PD w.2 P I := pd_off psx.1 fun a _ _ _ _ _ => fa a (by omega) (nT a (by omega) (by omega) (by omega))
      have hl2 : LD w.2 69 l := ld_off hlx fun a _ _ => fa a (by omega) (nT a (by omega) (by omega) (by omega))
      obtain ⟨m2, e2, wr, r2, f2⟩ := x_prep0 hN nx.1.1 hp2 hl2 z n cl tc nx
      refine wp_b e2 ?_
      have ro2 : ∀ a, ¬(246 ≤ a ∧ a ≤ 248) → m2 a = w.2 a := fun a ha => funext fun k => f2 a k (fun u => ha (by unfold PrS at u; omega))
      have e4 : m2 4 = m 4 := by rw [ro2 4 (by decide), fa 4 (by decide) (nT 4 (by decide) (by omega) (by omega)), up_setA, setA_ne (by decide)]
      have go : Wp (X10_wrung_L65 N N 3 (I 12 0) 0 0 m2) (fun p => p.1 = rowS I l (m 4) (nH I) ∧ p.2 = m2) := by
        refine lw_2 (fun j x mm => x = rowS I l (m 4) j ∧ mm = m2) (fun F x i mm => X10_wrung_L65 N F 3 (I 12 0) x i mm) (nH I) _ (fun F j x mm hj hI ih => ?_) (fun F x mm hI => ?_) N 0 m2 (by omega) ⟨rfl, rfl⟩
        · obtain ⟨hx, hm⟩ := hI
          subst hm
          subst hx
          have tj := T0 j hj
          have a := rowS_in I l (m 4) (nH I) j (by omega)
          have a2 := rowS_in I l (m 4) (nH I) (j + 1) (by omega)
          have e : rowS I l (m 4) (j + 1) = rowS I l (m 4) j + gtC I l (m 4 j) j := rfl
          show Wp (X10_wrung_L65_b N (X10_wrung_L65 N F) 3 (I 12 0) (rowS I l (m 4) j) j mm) _
          unfold X10_wrung_L65_b
          rw [if_neg (by omega)]
          refine wp_b (gX13 r2) ?_
          refine wp_b (gX0 r2) ?_
          refine wp_b (arI 1600 (by decide +kernel) (by omega) (by omega) mm) ?_
          rw [Int.toNat_natCast, e4]
          refine wp_b (x_gotFrom r2 wr z n cl tc cm tj.1 tj.2 (by omega) (by omega)) ?_
          exact ih _ _ mm (by first | omega | (simp (disch := omega) only [wI_of2] <;> omega)) ⟨by rw [e]; exact wI_of2 (by omega) (by omega), rfl⟩
        · obtain ⟨hx, hm⟩ := hI
          show Wp (X10_wrung_L65_b N (X10_wrung_L65 N F) 3 (I 12 0) x (nH I) mm) _
          unfold X10_wrung_L65_b
          rw [if_pos (by omega)]
          exact wp_some ⟨hx, hm⟩
      refine wp_c go (fun p hp => ⟨hp.1, ?_⟩)
      rw [hp.2]
      have e3 : ∀ j, ¬j = 12 → m2 3 j = up m 3 1 0 3 j := fun j hj => by rw [ro2 3 (by decide)]; exact f.2 j hj
      refine ⟨r2, fun a ha => ?_, fun j hj => ?_, ?_, fun k hk => ?_, ⟨?_, ?_, fun _ => nx_off n nx r2 (fun a ha => ro2 a (by omega))⟩⟩
      · rw [ro2 a (fun u => ha (Or.inr (Or.inr u))), fa a (fun u => ha (Or.inl u)) (fun u => ha (Or.inr (Or.inl u))), up_setA, setA_ne (fun u => ha (Or.inl u))]
      · rw [e3 j (fun u => hj (Or.inr u)), up_at, if_neg (fun u => hj (Or.inl u))]
      · rw [e3 1 (by decide), up_same]
      · rw [f2 246 k (fun u => by unfold PrS at u; omega), fa 246 (by decide) (by unfold ToS PasS; omega), up_setA, setA_ne (by decide)]
      · rw [ro2 161 (by decide)]
        exact nx.1.2.2.2.2.1 0 (by decide)
      · rw [ro2 3 (by decide)]
        exact Or.inl w12
    obtain ⟨⟨v1, m1⟩, ex, x1, r1, f1, f3, f31, f246, to1⟩ := X
    have x1' : v1 = rowS I l (m 4) (nH I) := x1
    subst x1'
    replace f1 : ∀ a, ¬(a = 3 ∨ ToS P a ∨ 246 ≤ a ∧ a ≤ 248) → m1 a = m a := f1
    replace f3 : ∀ j, ¬(j = 1 ∨ j = 12) → m1 3 j = m 3 j := f3
    replace f31 : m1 3 1 = 0 := f31
    have nT : ∀ a, 202 ≤ a → ¬(a = 3 ∨ ToS P a ∨ 246 ≤ a ∧ a ≤ 248) ∨ 246 ≤ a ∧ a ≤ 248 := fun a ha => by unfold ToS PasS; omega
    have hi : ∀ a, 249 ≤ a → m1 a = m a := fun a ha => f1 a (by unfold ToS PasS; omega)
    -- the memory between, both tapes empty
    obtain ⟨mb, hmb⟩ : ∃ mb, mb = up m1 264 1 0 := ⟨_, rfl⟩
    have rb : Refs mb := by rw [hmb]; exact refs_up r1 (by decide +kernel) 0
    have lb : ∀ a, ¬a = 264 → mb a = m1 a := fun a ha => by rw [hmb, up_setA, setA_ne ha]
    have lb4 : ∀ k, ¬k = 1 → mb 264 k = m 264 k := fun k hk => by rw [hmb, up_at, if_neg hk, hi 264 (by decide)]
    have lb41 : mb 264 1 = 0 := by rw [hmb, up_same]
    have hb : InvP mb P b I l s := by
      refine inv_g h rb (fun a k hk => ?_) (to_off n hP to1 rb (fun a ha => lb a (by omega))) (hg_off hg (by rw [lb 250 (by decide), hi 250 (by decide)]) (by rw [lb 257 (by decide), hi 257 (by decide)])) (wk_off wk (by rw [lb 258 (by decide), hi 258 (by decide)]) (by rw [lb 258 (by decide), hi 258 (by decide)]) (lb4 72 (by decide)) (by rw [lb 261 (by decide), hi 261 (by decide)]) (by rw [lb 309 (by decide), hi 309 (by decide)])) (se_off se (by rw [lb 3 (by decide), f3 8 (by decide)]) (lb4 56 (by decide))) (rd_off rd (by rw [lb 263 (by decide), hi 263 (by decide)]) (by rw [lb 295 (by decide), hi 295 (by decide)])) (te_0 (by rw [lb 3 (by decide), f31]) lb41) (oe_off oe (by rw [lb 3 (by decide), f3 17 (by decide)]) (lb4 77 (by decide)) (by rw [lb 262 (by decide), hi 262 (by decide)]) (by rw [lb 312 (by decide), hi 312 (by decide)]))
      by_cases y : a = 264
      · subst y
        exact lb4 k (fun u => hk (Or.inr (Or.inr (Or.inr (Or.inr (Or.inr (Or.inl ⟨rfl, Or.inl u⟩)))))))
      · rw [lb a y]
        by_cases y2 : a = 3
        · subst y2
          refine f3 k (fun u => ?_)
          rcases u with u | u
          · exact hk (Or.inr (Or.inr (Or.inr (Or.inr (Or.inl ⟨rfl, Or.inl u⟩)))))
          · exact hk (Or.inl (scr_1 ⟨rfl, u⟩))
        · by_cases y3 : a = 246
          · subst y3
            exact f246 k (fun u => hk (Or.inl (scr_7 ⟨rfl, u⟩)))
          · rw [f1 a (fun u => ?_)]
            rcases u with u | u | u
            · exact y2 u
            · exact hk (Or.inl (scr_told u))
            · exact hk (Or.inl (scr_8 (by omega)))
    have Mm : Wp (X11_wrung N 264 m1) (fun p => p.1 = rowS I l (m 4) (nH I) ∧ Inv p.2) := by
      have h := hb
      have e265 : mb 265 = m 265 := by rw [lb 265 (by decide), hi 265 (by decide)]
      have T1 : ∀ i : Nat, i < nH I → m 265 i = m 4 i ∧ 0 ≤ m 4 i := fun i hi => ⟨(t4 i (by omega)).1.symm, (T0 i hi).1⟩
      unfold X11_wrung
      refine wp_k k264 ?_
      refine wp_b (g264 (by decide)) ?_
      refine wp_b (p264 (by decide) 0 m1) ?_
      rw [← hmb]
      refine wp_b (m_cloths hN h.1 h.2.1.2.2.2.2.1 n cl) ?_
      rw [hi 264 (by decide), if_neg (fun u => u (by omega)), ← t1, q1, ← ek]
      refine m_wrJ hN h.1 (n := nH I) (by omega) (T := m 4) (fun i hi => by rw [e265]; exact T1 i hi) (fun _ => ?_) (fun u => absurd (by rw [ek]; exact q2) u)
      refine lw_1 (fun j mm => RwF mb mm ∧ ∀ i : Nat, i < j → mm 306 i = m 4 i) (fun F i mm => X11_wrung_L105 N (wrK2 N) F 264 (nH I) i mm) (nH I) _ (fun F j mm hj hI ih => ?_) (fun F mm hI => ?_) N mb (by omega) ⟨fun _ _ => rfl, fun i hi => by omega⟩
      · obtain ⟨f, hr⟩ := hI
        have rm := rwf_refs f h.1
        show Wp (X11_wrung_L105_b N (wrK2 N) (X11_wrung_L105 N (wrK2 N) F) 264 (nH I) j mm) _
        unfold X11_wrung_L105_b
        rw [if_neg (by omega)]
        refine wp_b (gR67 rm) ?_
        refine wp_b (gR0 rm) ?_
        refine wp_b (arI 1800 (by decide +kernel) (by omega) (by omega) mm) ?_
        rw [Int.toNat_natCast, f 265 (by decide), e265, (T1 j hj).1]
        obtain ⟨g1, e1, a1, k1⟩ := ar_stE (a := 306) (n := 10) (i := (j : Int)) (by decide +kernel) (by decide +kernel) (by decide) (by omega) (by omega) (m 4 j) mm
        rw [Int.toNat_natCast] at a1 k1
        refine wp_b e1 ?_
        refine ih _ _ (by first | omega | (simp (disch := omega) only [wI_of2] <;> omega)) ⟨rwf_set f (Or.inl rfl) g1, fun i hi => ?_⟩
        rw [setA_same]
        by_cases u : i = j
        · rw [u]; exact a1
        · rw [k1 i u]; exact hr i (by omega)
      · obtain ⟨f, hr⟩ := hI
        show Wp (X11_wrung_L105_b N (wrK2 N) (X11_wrung_L105 N (wrK2 N) F) 264 (nH I) (nH I) mm) _
        unfold X11_wrung_L105_b
        rw [if_pos (Int.le_refl _)]
        have hm : InvP mm P b I l s := inv_m h (fun a k hk => rwf_scr f hk) (fun a ha => f a (by omega))
        unfold wrK2
        obtain ⟨m3, md3⟩ := m_told (v := 0) hN hm.1 hm.2.1.2.2.2.2.1 hm.2.2.2.1.2.1 z n vl tc
        obtain ⟨e3, f4, nm⟩ := md3
        have h3 : InvP m3 P b I l s := inv_m hm (fun a k hk => sc_ntf f4 hk) (fun a ha => f4.1 a (by omega))
        refine wp_b e3 ?_
        have e306 : m3 306 = mm 306 := f4.1 306 (by decide)
        refine wp_b (m_gotBy hN ⟨h3.1, h3.2.1.2.2.2.2.1, h3.2.2.2.1.2.1, nm⟩ z n cl tc cm (q := nH I) (by omega) (fun j hj => by rw [e306, hr j hj]; exact T0 j hj)) ?_
        refine wp_some ⟨?_, P, b, I, l, s, h3⟩
        show rowS I l (m3 306) (nH I) = rowS I l (m 4) (nH I)
        rw [e306]
        unfold rowS
        exact sumTo_same (fun j hj => by
          show gtC I l (mm 306 j) j = gtC I l (m 4 j) j
          rw [hr j hj])
    obtain ⟨⟨v2, m2⟩, ey, y1, i2⟩ := Mm
    have y1' : v2 = rowS I l (m 4) (nH I) := y1
    subst y1'
    exact ⟨_, m1, m2, ex, ey, i2⟩
  · obtain ⟨m1, m2, e1, e2, e3, hi, r1, i2⟩ := ref_emp h
    refine ⟨-1, m1, m2, ?_, ?_, i2⟩
    · have tail : Wp (X10_wrung_J36 N 3 (up m 3 1 0)) (fun r => r = ((-1 : Int), m1)) := by
        unfold X10_wrung_J36
        refine wp_b e1 ?_
        exact wp_some rfl
      refine wp_eq ?_
      unfold X10_wrung
      refine wp_k k3 ?_
      refine wp_b g1 ?_
      refine wp_b p1 ?_
      refine wp_b (b3_R b3x) ?_
      refine wp_b (pd_I psx.1 (by decide)) ?_
      by_cases y : m 3 1 = I 12 0
      · rw [if_neg (fun u => u y)]
        refine wp_b (b3_R b3x) ?_
        refine wp_b (pd_I psx.1 (by decide)) ?_
        have xu := x_unlike hN rx (len := nH I) (by omega) (I 12 0)
        rw [ek, show (up m 3 1 0) 4 = m 4 from by rw [up_setA, setA_ne (by decide)], ← bi_f (fun u => q ⟨y, u⟩)] at xu
        rw [y]
        refine wp_b xu ?_
        rw [if_neg (by decide)]
        exact tail
      · rw [if_pos y]
        exact tail
    · have rb : Refs (up m1 264 1 0) := refs_up r1 (by decide +kernel) 0
      have mdb : MD (up m1 264 1 0) b I := md_off md (by rw [up_slot (by decide), hi 264 (by decide)]) (fun a _ _ => by rw [up_setA, setA_ne (by omega), hi a (by omega)])
      have tail : Wp ((X11_refuses 264 5 (up m1 264 1 0)).bind fun p29 => some (p29.1, p29.2)) (fun r => r = ((-1 : Int), m2)) := by
        refine wp_b e2 ?_
        exact wp_some rfl
      refine wp_eq ?_
      unfold X11_wrung
      refine wp_k k264 ?_
      refine wp_b (g264 (by decide)) ?_
      refine wp_b (p264 (by decide) 0 m1) ?_
      refine wp_b (m_cloths hN rb mdb n cl) ?_
      rw [e3, ← t1]
      by_cases y : m 3 1 = I 12 0
      · rw [if_neg (fun u => u y), y, ← ek]
        refine m_wrJ hN rb (n := nH I) (by omega) (T := m 4) (fun i hi2 => ?_) (fun u => absurd ⟨y, by rw [← ek]; exact u⟩ q) (fun _ => tail)
        have w := t4 i (by omega)
        rw [up_setA, setA_ne (by decide), hi 265 (by decide)]
        exact ⟨w.1.symm, w.2.1⟩
      · rw [if_pos y]
        exact m_wrJ0 hN tail
