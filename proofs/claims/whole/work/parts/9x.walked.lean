/-! walked -/
def bgW (I : Isl) (l : Lnd) (T : Nat → Int) (n : Nat) : Nat → Int := fun i => if edB I (T i) = true ∧ ¬hasW l (T i) = 1 then WY (okW I l T) n (n - 1) (0 ||| 2 ^ i) i else 0
theorem bgW_0 (I : Isl) (l : Lnd) (T : Nat → Int) (n i : Nat) : 0 ≤ bgW I l T n i := by
  unfold bgW
  split
  · exact WY_0 _ _ _ _ _
  · exact Int.le_refl 0
theorem bgW_in (I : Isl) (l : Lnd) (T : Nat → Int) {n : Nat} (hn : n < 11) (i : Nat) (hi : i < n) : 0 ≤ bgW I l T n i ∧ bgW I l T n i ≤ 362880 := by
  have o := one_c hn hi
  unfold bgW
  split
  · exact WY_in (okW I l T) hn (by omega) o.2 (by omega)
  · decide
/-- where a cell has a wall there is no walk -/
theorem bgW_wall {I : Isl} {l : Lnd} {T : Nat → Int} {n q : Nat} (hn : n < 11) (hq : q < n) (hw : hasW l (T q) = 1) : ∀ i, i < n → bgW I l T n i = 0 := by
  intro i hi
  have o := one_c hn hi
  unfold bgW
  by_cases u : edB I (T i) = true ∧ ¬hasW l (T i) = 1
  · rw [if_pos u]
    have ne : ¬i = q := fun e => by rw [e] at u; exact u.2 hw
    refine WY_no (okW I l T) hn hq (fun a => ?_) (n - 1) (0 ||| 2 ^ i) i (by omega) o.2 ?_
    · unfold okW
      rw [decide_eq_true hw, Bool.not_true, Bool.and_false, Bool.false_and]
    · rw [Nat.testBit_or, Nat.zero_testBit, Nat.testBit_two_pow, Bool.false_or, decide_eq_false_iff_not]
      exact ne
  · rw [if_neg u]
/-- where none has one both count alike -/
theorem okW_c {I : Isl} {l : Lnd} {T : Nat → Int} {n : Nat} (hw : ∀ j, j < n → ¬hasW l (T j) = 1) : ∀ a t, a < n → t < n → okW I l T a t = ajS I T a t := by
  intro a t ha ht
  unfold okW ajS
  rw [decide_eq_false (hw a ha), decide_eq_false (hw t ht)]
  rfl
theorem bgW_c {I : Isl} {l : Lnd} {T : Nat → Int} {n : Nat} (hw : ∀ j, j < n → ¬hasW l (T j) = 1) (i : Nat) (hi : i < n) : bgW I l T n i = bgT I T n i := by
  unfold bgW bgT
  by_cases u : edB I (T i) = true
  · rw [if_pos ⟨u, hw i hi⟩, if_pos u]
    exact WY_c (okW_c hw) _ _ i hi
  · rw [if_neg (fun v => u v.1), if_neg u]
theorem fz_c {f g : Nat → Int} : ∀ n, (∀ t, t < n → f t = g t) → fz f n = fz g n := by
  intro n
  induction n with
  | zero => intro _; rfl
  | succ n ih =>
    intro h
    rw [fz_s, fz_s, ih (fun t ht => h t (by omega)), h n (by omega)]
theorem m_canBegin {m : Mem} {b : Nat} {I : Isl} {l : Lnd} {T : Nat → Int} {n : Nat} (z : Sz I) (k : MK m b I l T n) (tb : Wtb m (okW I l T) n 1) {i : Nat} (hi : i < n) : X11_canBegin 264 (i : Int) m = some (if bgW I l T n i = 0 then 0 else 1) := by
  obtain ⟨r, md, my, n10, hT, hC⟩ := id k
  have z7 := z.2.2.2.2.2.2
  have o := one_c (n := n) (by omega) hi
  have ti := hC i hi
  have wi := hasW_in l (T i)
  have p := p2_10 n (by omega)
  have pi : 1 ≤ 2 ^ i := Nat.one_le_two_pow
  have e0 : 0 ||| 2 ^ i = 2 ^ i := Nat.zero_or _
  have w := tb (2 ^ i) i pi (by rw [← e0]; exact o.2) hi
  have wy := WY_0 (okW I l T) n (n - 1) (0 ||| 2 ^ i) i
  rw [← e0, o.1] at w
  have bl : 2 ^ i < 1024 := by have := o.2; rw [e0] at this; omega
  refine wp_eq ?_
  unfold X11_canBegin
  refine wp_k k264 ?_
  refine wp_b (gR74 r) ?_
  refine wp_b (arI 10 (by decide +kernel) (by omega) (by omega) m) ?_
  rw [Int.toNat_natCast, hT i hi]
  refine wp_b (m_isEdge r md z ti.1 ti.2) ?_
  by_cases q1 : edB I (T i) = true
  · rw [if_pos q1, if_neg (by decide)]
    refine wp_b (gR74 r) ?_
    refine wp_b (arI 10 (by decide +kernel) (by omega) (by omega) m) ?_
    rw [Int.toNat_natCast, hT i hi]
    refine wp_b (m_isWall0 r my ti.1 (by omega)) ?_
    by_cases q2 : hasW l (T i) = 1
    · rw [if_pos (by omega), if_pos (show bgW I l T n i = 0 from if_neg (fun u => u.2 q2))]
      exact wp_z0 rfl
    · have eb : bgW I l T n i = WY (okW I l T) n (n - 1) (0 ||| 2 ^ i) i := if_pos ⟨q1, q2⟩
      rw [if_neg (by omega)]
      refine wp_b (gR75 r) ?_
      rw [shl_c i (by omega), wI_of2 (x := 10 * ((2 ^ i : Nat) : Int)) (by omega) (by omega), wI_of2 (x := 10 * ((2 ^ i : Nat) : Int) + (i : Int)) (by omega) (by omega)]
      refine wp_b (arI 10240 (by decide +kernel) (by omega) (by omega) m) ?_
      rw [show (10 * ((2 ^ i : Nat) : Int) + (i : Int)).toNat = 10 * (0 ||| 2 ^ i) + i from by rw [e0]; omega, w, eb]
      by_cases q3 : WY (okW I l T) n (n - 1) (0 ||| 2 ^ i) i = 0
      · rw [if_pos (by omega), if_pos q3]
        exact wp_z0 rfl
      · rw [if_neg (by omega), if_neg q3]
        exact wp_z1 rfl
  · rw [if_neg q1, if_pos rfl, if_pos (show bgW I l T n i = 0 from if_neg (fun u => q1 u.1))]
    exact wp_z0 rfl
theorem m_findsFirst {N : Nat} (hN : 2000 ≤ N) {m : Mem} {b : Nat} {I : Isl} {l : Lnd} {T : Nat → Int} {n : Nat} (z : Sz I) (hn : 2 ≤ n) (k : MK m b I l T n) (tb : Wtb m (okW I l T) n 1) (pos : 0 < sumTo (bgW I l T n) n) : ∃ g, X11_findsFirst N 264 (n : Int) m = some (setA m 309 g) ∧ ∀ j, j < n → g j = T ((fz (bgW I l T n) n :: FW (okW I l T) n (n - 1) (0 ||| 2 ^ fz (bgW I l T n) n) (fz (bgW I l T n) n)).getD j 0) := by
  obtain ⟨r, md, my, n10, hT, hC⟩ := id k
  have p := p2_10 n (by omega)
  have szn := sum_fz (bgW_0 I l T n) n
  have ln := fz_le (bgW I l T n) n
  have fl : fz (bgW I l T n) n < n := by
    rcases Nat.lt_or_ge (fz (bgW I l T n) n) n with w | w
    · exact w
    · have := szn.1.mp (by omega)
      omega
  obtain ⟨f, hf⟩ : ∃ f, f = fz (bgW I l T n) n := ⟨_, rfl⟩
  rw [← hf] at fl ⊢
  have nf : ¬bgW I l T n f = 0 := by rw [hf]; exact fz_at (by rw [← hf]; exact fl)
  have lo : ∀ j, j < f → bgW I l T n j = 0 := by rw [hf]; exact fz_lo
  have o := one_c (n := n) (by omega) fl
  have e0 : 0 ||| 2 ^ f = 2 ^ f := Nat.zero_or _
  have w0 : 0 < WY (okW I l T) n (n - 1) (0 ||| 2 ^ f) f := by
    have a := WY_0 (okW I l T) n (n - 1) (0 ||| 2 ^ f) f
    unfold bgW at nf
    by_cases u : edB I (T f) = true ∧ ¬hasW l (T f) = 1
    · rw [if_pos u] at nf; omega
    · rw [if_neg u] at nf; exact absurd rfl nf
  -- how one goes on from a set and a cell
  have step : ∀ (rr : Nat) (s a i : Nat) (mm : Mem) (g : Nat → Int), mm = setA m 309 g → i + rr = n → 1 ≤ i → a < n → s < 2 ^ n → pop s = i → 0 < WY (okW I l T) n rr s a → ∀ F, rr + 1 ≤ F → ∃ g2, X11_findsFirst_L35 N F 264 (n : Int) (a : Int) (s : Int) (i : Int) mm = some (setA m 309 g2) ∧ (∀ j, j < i → g2 j = g j) ∧ ∀ j, i ≤ j → j < n → g2 j = T ((FW (okW I l T) n rr s a).getD (j - i) 0) := by
    intro rr
    induction rr with
    | zero =>
      intro s a i mm g hm hi h1 ha hs hp hw F hF
      obtain ⟨F, rfl⟩ : ∃ F2, F = F2 + 1 := ⟨F - 1, by omega⟩
      refine ⟨g, ?_, fun j _ => rfl, fun j a b => by omega⟩
      refine wp_eq ?_
      show Wp (X11_findsFirst_L35_b N (X11_findsFirst_L35 N F) 264 (n : Int) (a : Int) (s : Int) (i : Int) mm) _
      unfold X11_findsFirst_L35_b
      rw [if_pos (by omega)]
      exact wp_some hm
    | succ rr ih =>
      intro s a i mm g hm hi h1 ha hs hp hw F hF
      obtain ⟨F, rfl⟩ : ∃ F2, F = F2 + 1 := ⟨F - 1, by omega⟩
      have f1 : WyF m mm := by rw [hm]; exact wyf_set (fun _ _ => rfl) (Or.inl rfl) g
      have kk := wyf_mk f1 k
      have tm : Wtb mm (okW I l T) n 1 := by
        intro s2 c a1 a2 a3
        rw [hm, setA_ne (by decide)]
        exact tb s2 c a1 a2 a3
      have st := sum_fz (wyT_0 (okW I l T) n rr s a) n
      have tl := fz_le (wyT (okW I l T) n rr s a) n
      rw [WY_s] at hw
      have tn : fz (wyT (okW I l T) n rr s a) n < n := by
        rcases Nat.lt_or_ge (fz (wyT (okW I l T) n rr s a) n) n with w | w
        · exact w
        · have := st.1.mp (by omega)
          omega
      obtain ⟨t, ht⟩ : ∃ t, t = fz (wyT (okW I l T) n rr s a) n := ⟨_, rfl⟩
      have nt : ¬wyT (okW I l T) n rr s a t = 0 := by rw [ht]; exact fz_at tn
      have lt : ∀ j, j < t → wyT (okW I l T) n rr s a j = 0 := by rw [ht]; exact fz_lo
      rw [← ht] at tn
      have X : Wp (X11_findsFirst_L35 N (F + 1) 264 (n : Int) (a : Int) (s : Int) (i : Int) mm) (fun m2 => ∃ g2, m2 = setA m 309 g2 ∧ (∀ j, j < i → g2 j = g j) ∧ ∀ j, i ≤ j → j < n → g2 j = T ((FW (okW I l T) n (rr + 1) s a).getD (j - i) 0)) := by
        show Wp (X11_findsFirst_L35_b N (X11_findsFirst_L35 N F) 264 (n : Int) (a : Int) (s : Int) (i : Int) mm) _
        unfold X11_findsFirst_L35_b
        rw [if_neg (by omega)]
        refine lw_1 (fun c mk => mk = mm ∧ c ≤ t) (fun F2 c mk => X11_findsFirst_L44 N (X11_findsFirst_L35 N F) F2 264 (n : Int) (a : Int) (s : Int) (i : Int) c mk) n _ (fun F2 c mk hc hI ih2 => ?_) (fun F2 mk hI => ?_) N mm (by omega) ⟨rfl, Nat.zero_le _⟩
        · obtain ⟨hk2, hct⟩ := hI
          subst hk2
          have miss : wyT (okW I l T) n rr s a c = 0 → Wp (X11_findsFirst_J94 N (X11_findsFirst_L44 N (X11_findsFirst_L35 N F) F2) 264 (n : Int) (a : Int) (s : Int) (i : Int) c mk) (fun m2 => ∃ g2, m2 = setA m 309 g2 ∧ (∀ j, j < i → g2 j = g j) ∧ ∀ j, i ≤ j → j < n → g2 j = T ((FW (okW I l T) n (rr + 1) s a).getD (j - i) 0)) := fun y => by
            unfold X11_findsFirst_J94
            refine ih2 _ mk (by first | omega | (simp (disch := omega) only [wI_of2] <;> omega)) ⟨rfl, ?_⟩
            by_cases e : c = t
            · rw [e] at y; exact absurd y nt
            · omega
          show Wp (X11_findsFirst_L44_b N (X11_findsFirst_L35 N F) (X11_findsFirst_L44 N (X11_findsFirst_L35 N F) F2) 264 (n : Int) (a : Int) (s : Int) (i : Int) c mk) _
          unfold X11_findsFirst_L44_b
          rw [bit_c s (by omega) c (by omega)]
          by_cases q : s.testBit c = true
          · rw [show tbt s c = 1 from if_pos q, if_pos rfl]
            exact miss (by unfold wyT; rw [if_neg (fun u => by rw [q] at u; exact absurd u.1 (by decide))])
          · have qf : s.testBit c = false := by simpa using q
            rw [show tbt s c = 0 from if_neg q, if_neg (by decide)]
            refine wp_b (gR74 kk.1) ?_
            refine wp_b (arI 10 (by decide +kernel) (by omega) (by omega) mk) ?_
            refine wp_b (gR74 kk.1) ?_
            refine wp_b (arI 10 (by decide +kernel) (by omega) (by omega) mk) ?_
            have ta := hC a ha
            have tc := hC c hc
            rw [Int.toNat_natCast, Int.toNat_natCast, kk.2.2.2.2.1 a ha, kk.2.2.2.2.1 c hc]
            refine wp_b (m_isStep kk.1 kk.2.1 kk.2.2.1 z ta.1 ta.2 tc.1 tc.2) ?_
            by_cases y : okW I l T a c = true
            · have w := w_or (s := s) (c := c) (by omega) (by omega) qf
              have wl := w_lt (n := n) (s := s) (by omega) hc
              have ew : wyT (okW I l T) n rr s a c = WY (okW I l T) n rr (s ||| 2 ^ c) c := if_pos ⟨qf, y⟩
              rw [if_pos (show (!decide (hasW l (T a) = 1) && !decide (hasW l (T c) = 1) && decide (stp I (T a) (T c) = 1)) = true from y), if_neg (by decide)]
              refine wp_b (gR75 kk.1) ?_
              rw [or_c s (by omega) c (by omega), wI_of2 (x := 10 * ((s ||| 2 ^ c : Nat) : Int)) (by omega) (by omega), wI_of2 (x := 10 * ((s ||| 2 ^ c : Nat) : Int) + (c : Int)) (by omega) (by omega)]
              refine wp_b (arI 10240 (by decide +kernel) (by omega) (by omega) mk) ?_
              rw [show (10 * ((s ||| 2 ^ c : Nat) : Int) + (c : Int)).toNat = 10 * (s ||| 2 ^ c) + c from by omega, tm (s ||| 2 ^ c) c (by omega) wl hc, w.1, show n - (pop s + 1) = rr from by omega, ← ew]
              by_cases q3 : wyT (okW I l T) n rr s a c = 0
              · rw [if_neg (fun u => u q3)]
                exact miss q3
              · have ct : c = t := by
                  rcases Nat.lt_or_ge c t with u | u
                  · exact absurd (lt c u) q3
                  · omega
                rw [if_pos q3]
                refine wp_b (gR73 kk.1) ?_
                refine wp_b (gR74 kk.1) ?_
                refine wp_b (arI 10 (by decide +kernel) (by omega) (by omega) mk) ?_
                rw [Int.toNat_natCast, kk.2.2.2.2.1 c hc]
                obtain ⟨g3, e3, a3, k3⟩ := ar_stE (a := 309) (n := 10) (i := (i : Int)) (by decide +kernel) (by decide +kernel) (by decide) (by omega) (by omega) (T c) mk
                rw [Int.toNat_natCast] at a3 k3
                refine wp_b e3 ?_
                rw [wI_of2 (x := (i : Int) + 1) (by omega) (by omega)]
                have wpos : 0 < WY (okW I l T) n rr (s ||| 2 ^ c) c := by
                  have := WY_0 (okW I l T) n rr (s ||| 2 ^ c) c
                  omega
                obtain ⟨g4, e4, x1, x2⟩ := ih (s ||| 2 ^ c) c (i + 1) (setA mk 309 g3) g3 (by rw [hm, setA_setA]) (by omega) (by omega) hc wl (by omega) wpos F (by omega)
                rw [show ((i + 1 : Nat) : Int) = (i : Int) + 1 from by omega] at e4
                refine wp_of e4 ⟨g4, rfl, fun j hj => ?_, fun j h2 h3 => ?_⟩
                · rw [x1 j (by omega), k3 j (by omega), hm, setA_same]
                · have ef : FW (okW I l T) n (rr + 1) s a = c :: FW (okW I l T) n rr (s ||| 2 ^ c) c := by
                    show fz (wyT (okW I l T) n rr s a) n :: _ = _
                    rw [← ht, ← ct]
                  rw [ef]
                  by_cases e : j = i
                  · rw [e, Nat.sub_self, x1 i (by omega), a3]
                    rfl
                  · rw [x2 j (by omega) h3, show j - i = (j - (i + 1)) + 1 from by omega]
                    rfl
            · rw [if_neg (show ¬(!decide (hasW l (T a) = 1) && !decide (hasW l (T c) = 1) && decide (stp I (T a) (T c) = 1)) = true from y), if_pos rfl]
              exact miss (by unfold wyT; rw [if_neg (fun u => y u.2)])
        · exfalso
          have := hI.2
          omega
      obtain ⟨m2, e2, g2, hg2, x1, x2⟩ := X
      subst hg2
      exact ⟨g2, e2, x1, x2⟩
  have X : Wp (X11_findsFirst N 264 (n : Int) m) (fun m2 => ∃ g, m2 = setA m 309 g ∧ ∀ j, j < n → g j = T ((f :: FW (okW I l T) n (n - 1) (0 ||| 2 ^ f) f).getD j 0)) := by
    unfold X11_findsFirst
    refine wp_k k264 ?_
    refine lw_1 (fun c mk => mk = m ∧ c ≤ f) (fun F2 c mk => X11_findsFirst_L2 N _ F2 264 (n : Int) c mk) n _ (fun F2 c mk hc hI ih2 => ?_) (fun F2 mk hI => ?_) N m (by omega) ⟨rfl, Nat.zero_le _⟩
    · obtain ⟨hk2, hcf⟩ := hI
      subst hk2
      show Wp (X11_findsFirst_L2_b N _ (X11_findsFirst_L2 N _ F2) 264 (n : Int) c mk) _
      unfold X11_findsFirst_L2_b
      refine wp_b (m_canBegin z k tb hc) ?_
      by_cases q : bgW I l T n c = 0
      · rw [if_pos q, if_neg (fun u => u rfl)]
        refine ih2 _ mk (by first | omega | (simp (disch := omega) only [wI_of2] <;> omega)) ⟨rfl, ?_⟩
        by_cases e : c = f
        · rw [e] at q; exact absurd q nf
        · omega
      · have cf : c = f := by
          rcases Nat.lt_or_ge c f with u | u
          · exact absurd (lo c u) q
          · omega
        rw [if_neg q, if_pos (by decide), cf]
        show Wp ((getR 11 73 264 mk).bind fun t7 => (getR 11 74 264 mk).bind fun t8 => (aldI t8 (f : Int) mk).bind fun t9 => (astI t7 0 t9 mk).bind fun m10 => X11_findsFirst_L35 N N 264 (n : Int) (f : Int) (ishl 1 (f : Int)) 1 m10) _
        refine wp_b (gR73 r) ?_
        refine wp_b (gR74 r) ?_
        refine wp_b (arI 10 (by decide +kernel) (by omega) (by omega) mk) ?_
        rw [Int.toNat_natCast, hT f fl]
        obtain ⟨g3, e3, a3, k3⟩ := ar_stE (a := 309) (n := 10) (i := 0) (by decide +kernel) (by decide +kernel) (by decide) (by decide) (by decide) (T f) mk
        refine wp_b e3 ?_
        rw [shl_c f (by omega)]
        obtain ⟨g4, e4, x1, x2⟩ := step (n - 1) (2 ^ f) f 1 (setA mk 309 g3) g3 rfl (by omega) (by decide) fl (by rw [← e0]; exact o.2) (by rw [← e0]; exact o.1) (by rw [← e0]; exact w0) N (by omega)
        refine wp_of e4 ⟨g4, rfl, fun j hj => ?_⟩
        rw [e0]
        by_cases e : j = 0
        · rw [e, x1 0 (by decide)]
          exact a3
        · rw [x2 j (by omega) hj, show j = (j - 1) + 1 from by omega, Nat.add_sub_cancel]
          rfl
    · exfalso
      have := hI.2
      omega
  obtain ⟨m2, e2, g2, hg2, x2⟩ := X
  subst hg2
  exact ⟨g2, e2, x2⟩
/-- whether a meadow can be told -/
def mdw (T : Nat → Int) (n : Nat) (bd : Int) : Prop := (2 ≤ n ∧ n ≤ 10) ∧ unl T n bd
theorem m_canL {N : Nat} (hN : 2000 ≤ N) {m : Mem} {b : Nat} {I : Isl} (r : Refs m) (md : MD m b I) (z : Sz I) {n : Nat} (hn : n ≤ 1600) {T : Nat → Int} (ht : ∀ i : Nat, i < n → m 265 i = T i ∧ 0 ≤ T i) {K : Nat → Int → Int → Mem → Option (Int × Mem)} {Q : Int × Mem → Prop} (h1 : mdw T n (nC I) → Wp (K 264 n 1 m) Q) (h0 : ¬mdw T n (nC I) → Wp (K 264 n 0 m) Q) : Wp (X11_walked_L20 N K N 264 (n : Int) (bi (2 ≤ (n : Int) ∧ (n : Int) ≤ 10)) 0 m) Q := by
  have bn := bi_in (2 ≤ (n : Int) ∧ (n : Int) ≤ 10)
  refine lw_2 (fun j x mm => mm = m ∧ (x = 1 ∧ (2 ≤ n ∧ n ≤ 10) ∧ unl T j (nC I) ∨ x = 0 ∧ ¬mdw T n (nC I))) (fun F x i mm => X11_walked_L20 N K F 264 (n : Int) x i mm) n Q (fun F j x mm hj hI ih => ?_) (fun F x mm hI => ?_) N _ m (by omega) ⟨rfl, ?_⟩
  · obtain ⟨hm, hx⟩ := hI
    subst hm
    show Wp (X11_walked_L20_b N K (X11_walked_L20 N K F) 264 (n : Int) x j mm) Q
    unfold X11_walked_L20_b
    rw [if_neg (by omega)]
    rcases hx with ⟨hx, nn, hu⟩ | ⟨hx, hu⟩
    · subst hx
      have tj := ht j hj
      rw [if_neg (by decide)]
      refine wp_b (gR0 r) ?_
      refine wp_b (arI 1800 (by decide +kernel) (by omega) (by omega) mm) ?_
      rw [Int.toNat_natCast, tj.1]
      refine wp_b (m_isCell r md z (T j)) ?_
      refine lw_2 (fun i y mk => mk = mm ∧ (y = 1 ∧ T j < nC I ∧ (∀ k : Nat, k < i → ¬T k = T j) ∨ y = 0 ∧ ¬mdw T n (nC I))) (fun F2 y i mk => X11_walked_L43 N _ F2 264 (n : Int) y j i mk) j Q (fun F2 i y mk hi hI2 ih2 => ?_) (fun F2 y mk hI2 => ?_) N _ mm (by omega) ⟨rfl, ?_⟩
      · obtain ⟨hk, hy⟩ := hI2
        subst hk
        have zero : ¬mdw T n (nC I) → Wp (X11_walked_J73 N (X11_walked_L43 N (fun z14 z15 z16 z17 m18 => X11_walked_L20 N K F z14 z15 z16 (wI (z17 + 1)) m18) F2) 264 (n : Int) j i mk) Q := fun u => by
          unfold X11_walked_J73 X11_walked_J74
          exact ih2 0 _ mk (by first | omega | (simp (disch := omega) only [wI_of2] <;> omega)) ⟨rfl, Or.inr ⟨rfl, u⟩⟩
        show Wp (X11_walked_L43_b N _ (X11_walked_L43 N _ F2) 264 (n : Int) y j i mk) Q
        unfold X11_walked_L43_b
        rw [if_neg (by omega)]
        rcases hy with ⟨hy, hb, hn2⟩ | ⟨hy, hn2⟩
        · subst hy
          have ti := ht i (by omega)
          rw [if_neg (by decide)]
          refine wp_b (gR0 r) ?_
          refine wp_b (arI 1800 (by decide +kernel) (by omega) (by omega) mk) ?_
          refine wp_b (gR0 r) ?_
          refine wp_b (arI 1800 (by decide +kernel) (by omega) (by omega) mk) ?_
          rw [Int.toNat_natCast, Int.toNat_natCast, ti.1, tj.1]
          by_cases e : T i = T j
          · rw [if_pos e]
            exact zero (fun u => (u.2 j hj).2 i hi e)
          · rw [if_neg e]
            unfold X11_walked_J74
            refine ih2 1 _ mk (by first | omega | (simp (disch := omega) only [wI_of2] <;> omega)) ⟨rfl, Or.inl ⟨rfl, hb, fun k hk2 => ?_⟩⟩
            by_cases e2 : k = i
            · rw [e2]; exact e
            · exact hn2 k (by omega)
        · rw [if_pos hy]
          exact zero hn2
      · obtain ⟨hk, hy⟩ := hI2
        subst hk
        show Wp (X11_walked_L43_b N _ (X11_walked_L43 N _ F2) 264 (n : Int) y j j mk) Q
        unfold X11_walked_L43_b
        rw [if_pos (Int.le_refl _)]
        show Wp (X11_walked_L20 N K F 264 (n : Int) y (wI ((j : Int) + 1)) mk) Q
        refine ih y _ mk (by first | omega | (simp (disch := omega) only [wI_of2] <;> omega)) ⟨rfl, ?_⟩
        rcases hy with ⟨hy, hb, hn2⟩ | ⟨hy, hn2⟩
        · refine Or.inl ⟨hy, nn, fun i hi => ?_⟩
          by_cases e : i = j
          · rw [e]; exact ⟨hb, hn2⟩
          · exact hu i (by omega)
        · exact Or.inr ⟨hy, hn2⟩
      · by_cases c : 0 ≤ T j ∧ T j < nC I
        · exact Or.inl ⟨bi_1.mpr c, c.2, fun k hk => absurd hk (Nat.not_lt_zero k)⟩
        · exact Or.inr ⟨bi_0.mpr c, fun u => c ⟨tj.2, (u.2 j hj).1⟩⟩
    · rw [if_pos hx, hx]
      exact h0 hu
  · obtain ⟨hm, hx⟩ := hI
    subst hm
    show Wp (X11_walked_L20_b N K (X11_walked_L20 N K F) 264 (n : Int) x n mm) Q
    unfold X11_walked_L20_b
    rw [if_pos (Int.le_refl _)]
    rcases hx with ⟨hx, nn, hu⟩ | ⟨hx, hu⟩
    · rw [hx]; exact h1 ⟨nn, hu⟩
    · rw [hx]; exact h0 hu
  · by_cases c : 2 ≤ (n : Int) ∧ (n : Int) ≤ 10
    · exact Or.inl ⟨bi_1.mpr c, by omega, fun i hi => absurd hi (Nat.not_lt_zero i)⟩
    · exact Or.inr ⟨bi_0.mpr c, fun u => c (by have := u.1; omega)⟩
theorem lsI_lt {T : Nat → Int} {n i k : Nat} (hi : i < n) (h : T i < T k) : sumTo (lsI T (T i)) n < sumTo (lsI T (T k)) n := by
  have a : ∀ c, sumTo (lsI T (T i)) c ≤ sumTo (lsI T (T k)) c ∧ (i < c → sumTo (lsI T (T i)) c < sumTo (lsI T (T k)) c) := by
    intro c
    induction c with
    | zero => exact ⟨Int.le_refl _, fun u => absurd u (Nat.not_lt_zero _)⟩
    | succ c ih =>
      have t1 : lsI T (T i) c ≤ lsI T (T k) c := by
        unfold lsI
        split <;> split <;> omega
      show sumTo (lsI T (T i)) c + lsI T (T i) c ≤ sumTo (lsI T (T k)) c + lsI T (T k) c ∧ (i < c + 1 → sumTo (lsI T (T i)) c + lsI T (T i) c < sumTo (lsI T (T k)) c + lsI T (T k) c)
      refine ⟨by omega, fun u => ?_⟩
      by_cases e : i = c
      · have t2 : lsI T (T i) c = 0 := by unfold lsI; rw [← e]; exact if_neg (by omega)
        have t3 : lsI T (T k) c = 1 := by unfold lsI; rw [← e]; exact if_pos h
        have := ih.1
        omega
      · have := ih.2 (by omega)
        omega
  exact (a n).2 hi
theorem lsI_bd (T : Nat → Int) (x : Int) (n : Nat) (k : Nat) (hk : k ≤ n) : 0 ≤ sumTo (lsI T x) k ∧ sumTo (lsI T x) k ≤ 1 * k := sumTo_bd (fun j _ => lsI_in T x j) k hk
theorem lsI_n {T : Nat → Int} {n k : Nat} (hk : k < n) : sumTo (lsI T (T k)) n < n := by
  have a : ∀ c, sumTo (lsI T (T k)) c ≤ c ∧ (k < c → sumTo (lsI T (T k)) c < c) := by
    intro c
    induction c with
    | zero => exact ⟨Int.le_refl _, fun u => absurd u (Nat.not_lt_zero _)⟩
    | succ c ih =>
      have t := lsI_in T (T k) c
      show sumTo (lsI T (T k)) c + lsI T (T k) c ≤ ((c + 1 : Nat) : Int) ∧ (k < c + 1 → sumTo (lsI T (T k)) c + lsI T (T k) c < ((c + 1 : Nat) : Int))
      refine ⟨by omega, fun u => ?_⟩
      by_cases e : k = c
      · have t2 : lsI T (T k) c = 0 := by unfold lsI; rw [← e]; exact if_neg (by omega)
        have := ih.1
        omega
      · have := ih.2 (by omega)
        omega
  exact (a n).2 hk
/-- the reference's cells in their order -/
theorem m_rankL {N : Nat} (hN : 2000 ≤ N) {m : Mem} (r : Refs m) {n : Nat} (hn : n ≤ 10) {T : Nat → Int} (ht : ∀ i : Nat, i < n → m 265 i = T i) (un : ∀ i, i < n → ∀ j, j < i → ¬T j = T i) {K : Nat → Int → Mem → Option (Int × Mem)} {Q : Int × Mem → Prop} (hK : ∀ g : Nat → Int, (∀ k, k < n → g (sumTo (lsI T (T k)) n).toNat = T k) → Wp (K 264 n (setA m 310 g)) Q) : Wp (X11_walked_L99 N K N 264 (n : Int) 0 m) Q := by
  refine lw_1 (fun i mm => ∃ g, mm = setA m 310 g ∧ ∀ k, k < i → g (sumTo (lsI T (T k)) n).toNat = T k) (fun F i mm => X11_walked_L99 N K F 264 (n : Int) i mm) n Q (fun F i mm hi hI ih => ?_) (fun F mm hI => ?_) N m (by omega) ⟨m 310, (setA_self m 310).symm, fun k hk => absurd hk (Nat.not_lt_zero k)⟩
  · obtain ⟨g, hm, hg⟩ := hI
    have rm : Refs mm := by rw [hm]; exact refs_set r (by decide +kernel) g
    have e265 : mm 265 = m 265 := by rw [hm, setA_ne (by decide)]
    have li := lsI_n (T := T) hi
    have li0 := (lsI_bd T (T i) n n (Nat.le_refl n)).1
    show Wp (X11_walked_L99_b N K (X11_walked_L99 N K F) 264 (n : Int) i mm) Q
    unfold X11_walked_L99_b
    rw [if_neg (by omega)]
    refine lw_2 (fun c x mk => mk = mm ∧ x = sumTo (lsI T (T i)) c) (fun F2 x c mk => X11_walked_L110 N _ F2 264 (n : Int) i x c mk) n Q (fun F2 c x mk hc hI2 ih2 => ?_) (fun F2 x mk hI2 => ?_) N 0 mm (by omega) ⟨rfl, rfl⟩
    · obtain ⟨hk, hx⟩ := hI2
      subst hk
      subst hx
      have b1 := lsI_bd T (T i) n c (by omega)
      have es : sumTo (lsI T (T i)) (c + 1) = sumTo (lsI T (T i)) c + lsI T (T i) c := rfl
      show Wp (X11_walked_L110_b N _ (X11_walked_L110 N _ F2) 264 (n : Int) i (sumTo (lsI T (T i)) c) c mk) Q
      unfold X11_walked_L110_b X11_walked_J139
      rw [if_neg (by omega)]
      refine wp_b (gR0 rm) ?_
      refine wp_b (arI 1800 (by decide +kernel) (by omega) (by omega) mk) ?_
      refine wp_b (gR0 rm) ?_
      refine wp_b (arI 1800 (by decide +kernel) (by omega) (by omega) mk) ?_
      rw [Int.toNat_natCast, Int.toNat_natCast, e265, ht i hi, ht c hc]
      by_cases y : T i ≤ T c
      · rw [if_pos y]
        refine ih2 _ _ mk (by first | omega | (simp (disch := omega) only [wI_of2] <;> omega)) ⟨rfl, ?_⟩
        rw [es, show lsI T (T i) c = 0 from if_neg (by omega)]
        exact wI_of2 (by omega) (by omega)
      · rw [if_neg y]
        refine ih2 _ _ mk (by first | omega | (simp (disch := omega) only [wI_of2] <;> omega)) ⟨rfl, ?_⟩
        rw [es, show lsI T (T i) c = 1 from if_pos (by omega)]
        exact wI_of2 (by omega) (by omega)
    · obtain ⟨hk, hx⟩ := hI2
      subst hk
      subst hx
      show Wp (X11_walked_L110_b N _ (X11_walked_L110 N _ F2) 264 (n : Int) i (sumTo (lsI T (T i)) n) n mk) Q
      unfold X11_walked_L110_b
      rw [if_pos (Int.le_refl _)]
      show Wp ((getR 11 74 264 mk).bind fun t36 => (getR 11 0 264 mk).bind fun t37 => (aldI t37 (i : Int) mk).bind fun t38 => (astI t36 (sumTo (lsI T (T i)) n) t38 mk).bind fun m39 => X11_walked_L99 N K F 264 (n : Int) (wI ((i : Int) + 1)) m39) Q
      refine wp_b (gR74 rm) ?_
      refine wp_b (gR0 rm) ?_
      refine wp_b (arI 1800 (by decide +kernel) (by omega) (by omega) mk) ?_
      rw [Int.toNat_natCast, e265, ht i hi]
      obtain ⟨g1, e1, a1, k1⟩ := ar_stE (a := 310) (n := 10) (i := sumTo (lsI T (T i)) n) (by decide +kernel) (by decide +kernel) (by decide) li0 (by omega) (T i) mk
      refine wp_b e1 ?_
      refine ih _ _ (by first | omega | (simp (disch := omega) only [wI_of2] <;> omega)) ⟨g1, by rw [hm, setA_setA], fun k hk => ?_⟩
      by_cases e : k = i
      · rw [e]; exact a1
      · have ne := un i hi k (by omega)
        have b0 := (lsI_bd T (T k) n n (Nat.le_refl n)).1
        have d : ¬sumTo (lsI T (T k)) n = sumTo (lsI T (T i)) n := fun u => by
          rcases Int.lt_or_gt_of_ne ne with v | v
          · have := lsI_lt (T := T) (n := n) (i := k) (k := i) (by omega) v
            omega
          · have := lsI_lt (T := T) (n := n) (i := i) (k := k) hi v
            omega
        rw [k1 _ (by omega), hm, setA_same]
        exact hg k (by omega)
  · obtain ⟨g, hm, hg⟩ := hI
    show Wp (X11_walked_L99_b N K (X11_walked_L99 N K F) 264 (n : Int) n mm) Q
    unfold X11_walked_L99_b
    rw [if_pos (Int.le_refl _), hm]
    exact hK g hg
