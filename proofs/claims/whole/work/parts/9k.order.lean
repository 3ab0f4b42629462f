/-! the class's best order -/
def gI (I : Isl) (l : Lnd) : Nat → Nat → Int := fun c k => gtC I l (c : Int) (k : Int)
theorem gI_0 (I : Isl) (l : Lnd) (c k : Nat) : 0 ≤ gI I l c k := (gtC_in I l c k).1
theorem mxF_le {g : Nat → Nat → Int} (hg : ∀ c k, g c k ≤ 1188) (n : Nat) : ∀ r w, mxF g n r w ≤ 1188 * r := by
  intro r
  induction r with
  | zero => intro w; exact Int.le_refl 0
  | succ r ih =>
    intro w
    have key : ∀ c, hmx (hB g n r w) (okB w) c ≤ 1188 * ((r : Int) + 1) := by
      intro c
      induction c with
      | zero => show (0 : Int) ≤ _; omega
      | succ c ihc =>
        rw [hmx_s]
        have a := ih (w ||| 2 ^ c)
        have b := hg c (pop w)
        have e : hB g n r w c = g c (pop w) + mxF g n r (w ||| 2 ^ c) := rfl
        split <;> omega
    have := key n
    rw [mxF_s]
    omega
/-- the class's table of the sets above one -/
def Tbl (m : Mem) (I : Isl) (l : Lnd) (u : Nat) : Prop := ∀ w : Nat, u ≤ w → w < 2 ^ nH I → m 249 w = mxF (gI I l) (nH I) (nH I - pop w) w
theorem wr_set {m : Mem} {I : Isl} {l : Lnd} (w : WR m I l) (g : Nat → Int) : WR (setA m 249 g) I l := by
  obtain ⟨a, b, c⟩ := w
  refine ⟨by rw [setA_ne (by decide)]; exact a, by rw [setA_ne (by decide)]; exact b, fun i i0 i1 => ?_⟩
  rw [setA_ne (by decide), setA_ne (by decide)]
  exact c i i0 i1
theorem x_gotBy {m : Mem} {I : Isl} {l : Lnd} (r : Refs m) (w : WR m I l) (z : Sz I) (n : Cn I) (cl : Cl I) (tc : Tc I l) (cm : Cm I) (h6 : nH I < 7) {u c : Nat} (hu : u < 2 ^ nH I) (hc : c < nH I) (ht : u.testBit c = false) (tb : Tbl m I l (u + 1)) : X9_gotBy 246 (c : Int) (u : Int) m = some (hB (gI I l) (nH I) (nH I - pop u - 1) u c) := by
  obtain ⟨n1, n2, n3, n4, n5, n6⟩ := id n
  have ek : ((nH I : Nat) : Int) = I 12 0 := Int.toNat_of_nonneg (by omega)
  have p64 := p2_64 (nH I) h6
  have fo := fin_or (nH I) h6 u (by omega) c (by omega) hc hu ht
  have fp := fin_pop (nH I) h6 u (by omega) hu
  have a := gtC_in I l (c : Int) ((pop u : Nat) : Int)
  have b0 := mxF_0 (gI I l) (nH I) (nH I - pop (u ||| 2 ^ c)) (u ||| 2 ^ c)
  have b1 := mxF_le (g := gI I l) (fun c k => (gtC_in I l c k).2) (nH I) (nH I - pop (u ||| 2 ^ c)) (u ||| 2 ^ c)
  refine wp_eq ?_
  unfold X9_gotBy
  refine wp_k k246 ?_
  refine wp_b (x_bc (w := u) (by omega) m) ?_
  refine wp_b (x_gotFrom r w z n cl tc cm (by omega) (by omega) (by omega) (by omega)) ?_
  refine wp_b (w4R r) ?_
  rw [or_c u (by omega) c (by omega)]
  refine wp_b (arI 64 (by decide +kernel) (by omega) (by omega) m) ?_
  rw [Int.toNat_natCast, tb (u ||| 2 ^ c) (by omega) fo.2.1, wI_of2 (by omega) (by omega)]
  refine wp_some ?_
  unfold hB gI
  rw [fo.2.2, show nH I - (pop u + 1) = nH I - pop u - 1 from by omega]
theorem x_findOrder {N : Nat} (hN : 2000 ≤ N) {m : Mem} {I : Isl} {l : Lnd} (r : Refs m) (w : WR m I l) (z : Sz I) (n : Cn I) (cl : Cl I) (tc : Tc I l) (cm : Cm I) (h6 : nH I < 7) : ∃ g, X9_findOrder N 246 m = some (setA m 249 g) ∧ Tbl (setA m 249 g) I l 0 := by
  obtain ⟨n1, n2, n3, n4, n5, n6⟩ := id n
  have ek : ((nH I : Nat) : Int) = I 12 0 := Int.toNat_of_nonneg (by omega)
  have p64 := p2_64 (nH I) h6
  have pp : 1 ≤ 2 ^ nH I := Nat.one_le_two_pow
  have sh : ishl 1 (I 12 0) = ((2 ^ nH I : Nat) : Int) := by rw [← ek]; exact shl_c (nH I) (by omega)
  have X : Wp (X9_findOrder N 246 m) (fun m2 => ∃ g, m2 = setA m 249 g ∧ Tbl m2 I l 0) := by
    unfold X9_findOrder
    refine wp_k k246 ?_
    refine wp_b (w2I m) ?_
    rw [w.1, if_pos (by omega)]
    refine wp_b (w2I m) ?_
    refine wp_b (w4R r) ?_
    rw [w.1, sh, wI_of2 (x := ((2 ^ nH I : Nat) : Int) - 1) (by omega) (by omega), wI_of2 (x := ((2 ^ nH I : Nat) : Int) - 1 - 1) (by omega) (by omega)]
    obtain ⟨g, e, a4, k4⟩ := ar_stE (a := 249) (n := 64) (i := ((2 ^ nH I : Nat) : Int) - 1) (by decide +kernel) (by decide +kernel) (by decide) (by omega) (by omega) 0 m
    refine wp_b e ?_
    have go := lw_1 (fun j mm => ∃ g, mm = setA m 249 g ∧ Tbl mm I l (2 ^ nH I - 1 - j)) (fun F i mm => X9_findOrder_L30 N F 246 (((2 ^ nH I : Nat) : Int) - 1 - 1 - i) mm) (2 ^ nH I - 1) (fun m2 => ∃ g, m2 = setA m 249 g ∧ Tbl m2 I l 0) (fun F j mm hj hI ih => ?_) (fun F mm hI => ?_) N (setA m 249 g) (by omega) ⟨g, rfl, fun u hu hu2 => ?_⟩
    · rw [Int.sub_zero] at go
      exact go
    · obtain ⟨g, hm, tb⟩ := hI
      obtain ⟨u, hu⟩ : ∃ u : Nat, u + j + 2 = 2 ^ nH I := ⟨2 ^ nH I - 2 - j, by omega⟩
      have eu : ((2 ^ nH I : Nat) : Int) - 1 - 1 - (j : Int) = (u : Int) := by omega
      have tb1 : Tbl mm I l (u + 1) := fun w hw hw2 => tb w (by omega) hw2
      have fp := fin_pop (nH I) h6 u (by omega) (by omega)
      have hlt : pop u < nH I := by
        rcases Nat.lt_or_ge (pop u) (nH I) with q | q
        · exact q
        · have := fp.2.1 (by omega)
          omega
      obtain ⟨rr, hr⟩ : ∃ rr, nH I - pop u = rr + 1 := ⟨nH I - pop u - 1, by omega⟩
      show Wp (X9_findOrder_L30_b N (X9_findOrder_L30 N F) 246 (((2 ^ nH I : Nat) : Int) - 1 - 1 - (j : Int)) mm) _
      rw [eu]
      unfold X9_findOrder_L30_b
      rw [if_neg (by omega)]
      have rm : Refs mm := by rw [hm]; exact refs_set r (by decide +kernel) g
      refine wp_b (w4R rm) ?_
      obtain ⟨g2, e2, a5, k5⟩ := ar_stE (a := 249) (n := 64) (i := (u : Int)) (by decide +kernel) (by decide +kernel) (by decide) (by omega) (by omega) 0 mm
      rw [Int.toNat_natCast] at a5 k5
      refine wp_b e2 ?_
      refine lw_1 (fun c mk => ∃ g, mk = setA m 249 g ∧ Tbl mk I l (u + 1) ∧ mk 249 u = hmx (hB (gI I l) (nH I) rr u) (okB u) c) (fun F2 i mk => X9_findOrder_L43 N _ F2 246 u i mk) (nH I) _ (fun F2 c mk hc hI2 ih2 => ?_) (fun F2 mk hI2 => ?_) N (setA mm 249 g2) (by omega) ⟨g2, by rw [hm, setA_setA], fun w hw hw2 => ?_, ?_⟩
      · obtain ⟨g3, hm3, tb3, e3⟩ := hI2
        have r3 : Refs mk := by rw [hm3]; exact refs_set r (by decide +kernel) g3
        have w3 : WR mk I l := by rw [hm3]; exact wr_set w g3
        show Wp (X9_findOrder_L43_b N _ (X9_findOrder_L43 N _ F2) 246 u c mk) _
        unfold X9_findOrder_L43_b
        refine wp_b (w2I mk) ?_
        rw [w3.1, if_neg (by omega), bit_c u (by omega) c (by omega)]
        by_cases t : u.testBit c = true
        · have ot : ¬okB u c = true := by unfold okB; rw [t]; decide
          rw [show tbt u c = 1 from if_pos t, if_pos (by decide)]
          unfold X9_findOrder_J80
          exact ih2 _ mk (by first | omega | (simp (disch := omega) only [wI_of2] <;> omega)) ⟨g3, hm3, tb3, by rw [e3, hmx_s, if_neg ot]⟩
        · have tf : u.testBit c = false := by simpa using t
          have ot : okB u c = true := by unfold okB; rw [tf]; rfl
          rw [show tbt u c = 0 from if_neg t, if_neg (by decide)]
          refine wp_b (w4R r3) ?_
          refine wp_b (w4R r3) ?_
          refine wp_b (arI 64 (by decide +kernel) (by omega) (by omega) mk) ?_
          rw [Int.toNat_natCast, e3]
          refine wp_b (x_gotBy r3 w3 z n cl tc cm h6 (by omega) hc tf tb3) ?_
          rw [show nH I - pop u - 1 = rr from by omega]
          obtain ⟨g6, e6, a6, k6⟩ := ar_stE (a := 249) (n := 64) (i := (u : Int)) (by decide +kernel) (by decide +kernel) (by decide) (by omega) (by omega) (max (hmx (hB (gI I l) (nH I) rr u) (okB u) c) (hB (gI I l) (nH I) rr u c)) mk
          rw [Int.toNat_natCast] at a6 k6
          refine wp_b e6 ?_
          unfold X9_findOrder_J80
          refine ih2 _ _ (by first | omega | (simp (disch := omega) only [wI_of2] <;> omega)) ⟨g6, by rw [hm3, setA_setA], fun w hw hw2 => ?_, ?_⟩
          · rw [setA_same, k6 w (by omega)]
            exact tb3 w hw hw2
          · rw [setA_same, a6, hmx_s, if_pos ot]
      · obtain ⟨g3, hm3, tb3, e3⟩ := hI2
        have r3 : Refs mk := by rw [hm3]; exact refs_set r (by decide +kernel) g3
        have w3 : WR mk I l := by rw [hm3]; exact wr_set w g3
        show Wp (X9_findOrder_L43_b N _ (X9_findOrder_L43 N _ F2) 246 u (nH I) mk) _
        unfold X9_findOrder_L43_b
        refine wp_b (w2I mk) ?_
        rw [w3.1, if_pos (by omega)]
        show Wp (X9_findOrder_L30 N F 246 (wI ((u : Int) + (-1))) mk) _
        rw [wI_of2 (x := (u : Int) + (-1)) (by omega) (by omega), show (u : Int) + (-1) = ((2 ^ nH I : Nat) : Int) - 1 - 1 - ((j : Int) + 1) from by omega]
        refine ih ((j : Int) + 1) mk rfl ⟨g3, hm3, fun w hw hw2 => ?_⟩
        by_cases y : w = u
        · rw [y, e3, hr, mxF_s]
        · exact tb3 w (by omega) hw2
      · rw [setA_same, k5 w (by omega)]
        exact tb1 w hw hw2
      · rw [setA_same, a5]
        rfl
    · obtain ⟨g, hm, tb⟩ := hI
      show Wp (X9_findOrder_L30_b N (X9_findOrder_L30 N F) 246 (((2 ^ nH I : Nat) : Int) - 1 - 1 - ((2 ^ nH I - 1 : Nat) : Int)) mm) _
      unfold X9_findOrder_L30_b
      rw [if_pos (by omega)]
      exact wp_some ⟨g, hm, fun w hw hw2 => tb w (by omega) hw2⟩
    · have y : u = 2 ^ nH I - 1 := by omega
      have fp := fin_pop (nH I) h6 u (by omega) hu2
      have : pop u = nH I := by
        rcases Nat.lt_or_ge (pop u) (nH I) with q | q
        · obtain ⟨c, hc, ht⟩ := fp.2.2 q
          have fo := fin_or (nH I) h6 u (by omega) c (by omega) hc hu2 ht
          omega
        · omega
      rw [this, Nat.sub_self, setA_same, y, show 2 ^ nH I - 1 = (((2 ^ nH I : Nat) : Int) - 1).toNat from by omega, a4]
      rfl
  obtain ⟨m2, e, g, hg, tb⟩ := X
  subst hg
  exact ⟨g, e, tb⟩
theorem mxF_ok {g : Nat → Nat → Int} (g0 : ∀ c k, 0 ≤ g c k) {n : Nat} (hn : n < 7) {u : Nat} (hu : u < 2 ^ n) {r : Nat} (hp : pop u + (r + 1) = n) : cho g n r u < n ∧ u.testBit (cho g n r u) = false ∧ hB g n r u (cho g n r u) = mxF g n (r + 1) u := by
  have p64 := p2_64 n hn
  have fp := fin_pop n hn u (by omega) hu
  obtain ⟨d, hd, td⟩ := fp.2.2 (by omega)
  have fs := hmx_fs (hB g n r u) (okB u) (fun c => by
    have := g0 c (pop u)
    have := mxF_0 g n r (u ||| 2 ^ c)
    show 0 ≤ g c (pop u) + mxF g n r (u ||| 2 ^ c)
    omega) n ⟨d, hd, by unfold okB; rw [td]; rfl⟩
  have a := hfs_at _ _ _ _ fs
  have a1 : okB u (cho g n r u) = true := a.1
  unfold okB at a1
  exact ⟨fs, by simpa using a1, a.2⟩
theorem x_nextBy {N : Nat} (hN : 2000 ≤ N) {m : Mem} {I : Isl} {l : Lnd} (r : Refs m) (w : WR m I l) (z : Sz I) (n : Cn I) (cl : Cl I) (tc : Tc I l) (cm : Cm I) (h6 : nH I < 7) (tbl : Tbl m I l 0) {u rr : Nat} (hu : u < 2 ^ nH I) (hp : pop u + (rr + 1) = nH I) : X9_nextBy N 246 (u : Int) m = some ((cho (gI I l) (nH I) rr u : Nat) : Int) := by
  obtain ⟨n1, n2, n3, n4, n5, n6⟩ := id n
  have ek : ((nH I : Nat) : Int) = I 12 0 := Int.toNat_of_nonneg (by omega)
  have p64 := p2_64 (nH I) h6
  have ok := mxF_ok (gI_0 I l) h6 hu hp
  unfold X9_nextBy
  rw [if_pos k246]
  refine lp_0 (fun c => hfs (hB (gI I l) (nH I) rr u) (okB u) (mxF (gI I l) (nH I) (rr + 1) u) c = c ∧ c ≤ cho (gI I l) (nH I) rr u) (fun F i => X9_nextBy_L2 N m F 246 u i) (nH I) _ ⟨rfl, Nat.zero_le _⟩ (fun F c hc hS ih => ?_) (fun F hS => ?_) N (by omega)
  · obtain ⟨hS, hle⟩ := hS
    have es := hfs_s (hB (gI I l) (nH I) rr u) (okB u) (mxF (gI I l) (nH I) (rr + 1) u) c
    rw [if_neg (by omega)] at es
    -- behind c the first one stays
    have stay : ∀ d, hfs (hB (gI I l) (nH I) rr u) (okB u) (mxF (gI I l) (nH I) (rr + 1) u) (c + 1) = c → hfs (hB (gI I l) (nH I) rr u) (okB u) (mxF (gI I l) (nH I) (rr + 1) u) (c + 1 + d) = c := by
      intro d q
      induction d with
      | zero => exact q
      | succ d ihd =>
        show hfs _ _ _ ((c + 1 + d) + 1) = c
        rw [hfs_s, if_pos (by omega)]
        exact ihd
    have hit : (okB u c = true ∧ hB (gI I l) (nH I) rr u c = mxF (gI I l) (nH I) (rr + 1) u) → cho (gI I l) (nH I) rr u = c := by
      intro q
      rw [if_pos q] at es
      have y := stay (nH I - (c + 1)) es
      rw [show c + 1 + (nH I - (c + 1)) = nH I from by omega] at y
      exact y
    have miss : ¬(okB u c = true ∧ hB (gI I l) (nH I) rr u c = mxF (gI I l) (nH I) (rr + 1) u) → hfs (hB (gI I l) (nH I) rr u) (okB u) (mxF (gI I l) (nH I) (rr + 1) u) (c + 1) = c + 1 ∧ c + 1 ≤ cho (gI I l) (nH I) rr u := by
      intro q
      rw [if_neg q] at es
      refine ⟨es, ?_⟩
      by_cases y : cho (gI I l) (nH I) rr u = c
      · exfalso
        rw [y] at ok
        exact q ⟨by unfold okB; rw [ok.2.1]; rfl, ok.2.2⟩
      · omega
    refine wp_eq ?_
    show Wp (X9_nextBy_L2_b N m (X9_nextBy_L2 N m F) 246 u c) _
    unfold X9_nextBy_L2_b
    refine wp_b (w2I m) ?_
    rw [w.1, if_neg (by omega), bit_c u (by omega) c (by omega)]
    by_cases t : u.testBit c = true
    · have ot : ¬okB u c = true := by unfold okB; rw [t]; decide
      rw [show tbt u c = 1 from if_pos t, if_pos (by decide)]
      unfold X9_nextBy_J35
      exact wp_of (ih _ (by first | omega | (simp (disch := omega) only [wI_of2] <;> omega)) (miss (fun q => ot q.1))) rfl
    · have tf : u.testBit c = false := by simpa using t
      have ot : okB u c = true := by unfold okB; rw [tf]; rfl
      rw [show tbt u c = 0 from if_neg t, if_neg (by decide)]
      refine wp_b (x_gotBy r w z n cl tc cm h6 hu hc tf (fun w _ hw2 => tbl w (Nat.zero_le _) hw2)) ?_
      refine wp_b (w4R r) ?_
      refine wp_b (arI 64 (by decide +kernel) (by omega) (by omega) m) ?_
      rw [Int.toNat_natCast, tbl u (Nat.zero_le _) hu, show nH I - pop u - 1 = rr from by omega, show nH I - pop u = rr + 1 from by omega]
      by_cases q : hB (gI I l) (nH I) rr u c = mxF (gI I l) (nH I) (rr + 1) u
      · rw [if_neg (fun v => v q)]
        exact wp_some (by rw [hit ⟨ot, q⟩])
      · rw [if_pos q]
        unfold X9_nextBy_J35
        exact wp_of (ih _ (by first | omega | (simp (disch := omega) only [wI_of2] <;> omega)) (miss (fun v => q v.2))) rfl
  · exfalso
    have := hS.2
    have := ok.1
    omega
/-- what the class has wrung behind so many -/
def grW (g : Nat → Nat → Int) (n : Nat) : Nat → Nat
  | 0 => 0
  | i + 1 => grW g n i ||| 2 ^ cho g n (n - i - 1) (grW g n i)
theorem grW_ok {g : Nat → Nat → Int} (g0 : ∀ c k, 0 ≤ g c k) {n : Nat} (hn : n < 7) : ∀ i, i ≤ n → pop (grW g n i) = i ∧ grW g n i < 2 ^ n := by
  intro i
  induction i with
  | zero => intro _; exact ⟨pop_0, Nat.two_pow_pos n⟩
  | succ i ih =>
    intro hi
    obtain ⟨a, b⟩ := ih (by omega)
    have p64 := p2_64 n hn
    have ok := mxF_ok g0 hn b (r := n - i - 1) (by omega)
    have fo := fin_or n hn (grW g n i) (by omega) _ (by omega) ok.1 b ok.2.1
    exact ⟨by show pop (grW g n i ||| 2 ^ _) = _; omega, fo.2.1⟩
theorem gls_at {g : Nat → Nat → Int} {n : Nat} : ∀ (d i k : Nat), i + d = n → k < d → (gls g n d (grW g n i)).getD k 0 = cho g n (n - (i + k) - 1) (grW g n (i + k)) := by
  intro d
  induction d with
  | zero => intro i k _ hk; omega
  | succ d ih =>
    intro i k hi hk
    have e : n - i - 1 = d := by omega
    have e2 : grW g n i ||| 2 ^ cho g n d (grW g n i) = grW g n (i + 1) := by
      show _ = grW g n i ||| 2 ^ cho g n (n - i - 1) (grW g n i)
      rw [e]
    show (cho g n d (grW g n i) :: gls g n d (grW g n i ||| 2 ^ cho g n d (grW g n i))).getD k 0 = _
    rw [e2]
    cases k with
    | zero =>
      show cho g n d (grW g n i) = cho g n (n - (i + 0) - 1) (grW g n (i + 0))
      rw [Nat.add_zero, e]
    | succ k =>
      show (gls g n d (grW g n (i + 1))).getD k 0 = _
      rw [ih (i + 1) k (by omega) (by omega), show i + 1 + k = i + (k + 1) from by omega]
theorem x_wrungAt {N : Nat} (hN : 2000 ≤ N) {m : Mem} {I : Isl} {l : Lnd} (r : Refs m) (w : WR m I l) (z : Sz I) (n : Cn I) (cl : Cl I) (tc : Tc I l) (cm : Cm I) (h6 : nH I < 7) (tbl : Tbl m I l 0) {k : Nat} (hk : k < nH I) : X9_wrungAt N 246 (k : Int) m = some (((gls (gI I l) (nH I) (nH I) 0).getD k 0 : Nat) : Int) := by
  obtain ⟨n1, n2, n3, n4, n5, n6⟩ := id n
  have ek : ((nH I : Nat) : Int) = I 12 0 := Int.toNat_of_nonneg (by omega)
  have p64 := p2_64 (nH I) h6
  have el := gls_at (g := gI I l) (n := nH I) (nH I) 0 k (by omega) hk
  rw [Nat.zero_add] at el
  have el' : (gls (gI I l) (nH I) (nH I) 0).getD k 0 = cho (gI I l) (nH I) (nH I - k - 1) (grW (gI I l) (nH I) k) := el
  rw [el']
  unfold X9_wrungAt
  rw [if_pos k246]
  refine lp_3 (fun j => ((grW (gI I l) (nH I) j : Nat) : Int)) (fun j => if j = 0 then (-1 : Int) else ((cho (gI I l) (nH I) (nH I - j) (grW (gI I l) (nH I) (j - 1)) : Nat) : Int)) Tr (fun F x y i => X9_wrungAt_L7 N m F 246 k x y i) (k + 1) _ (tr 0) (fun F j hj _ ih => ?_) (fun F _ => ?_) N (by omega)
  · obtain ⟨g1, g2⟩ := grW_ok (gI_0 I l) h6 j (by omega)
    have ok := mxF_ok (gI_0 I l) h6 g2 (r := nH I - j - 1) (by omega)
    have fo := fin_or (nH I) h6 (grW (gI I l) (nH I) j) (by omega) _ (by omega) ok.1 g2 ok.2.1
    refine wp_eq ?_
    show Wp (X9_wrungAt_L7_b N m (X9_wrungAt_L7 N m F) 246 k ((grW (gI I l) (nH I) j : Nat) : Int) _ j) _
    unfold X9_wrungAt_L7_b
    rw [if_neg (by omega)]
    refine wp_b (w2I m) ?_
    rw [w.1, if_neg (by omega)]
    refine wp_b (x_nextBy hN r w z n cl tc cm h6 tbl g2 (rr := nH I - j - 1) (by omega)) ?_
    rw [if_pos (by omega)]
    unfold X9_wrungAt_J41
    rw [or_c _ (by omega) _ (by omega)]
    refine wp_of (ih _ _ _ rfl ?_ (by first | omega | (simp (disch := omega) only [wI_of2] <;> omega)) (tr _)) rfl
    show _ = if j + 1 = 0 then (-1 : Int) else ((cho (gI I l) (nH I) (nH I - (j + 1)) (grW (gI I l) (nH I) (j + 1 - 1)) : Nat) : Int)
    rw [if_neg (by omega), Nat.add_sub_cancel, show nH I - (j + 1) = nH I - j - 1 from by omega]
  · refine wp_eq ?_
    show Wp (X9_wrungAt_L7_b N m (X9_wrungAt_L7 N m F) 246 k ((grW (gI I l) (nH I) (k + 1) : Nat) : Int) (if k + 1 = 0 then (-1 : Int) else ((cho (gI I l) (nH I) (nH I - (k + 1)) (grW (gI I l) (nH I) (k + 1 - 1)) : Nat) : Int)) ((k + 1 : Nat) : Int)) _
    unfold X9_wrungAt_L7_b
    rw [if_pos (by omega), if_neg (by omega), Nat.add_sub_cancel, show nH I - (k + 1) = nH I - k - 1 from by omega]
    exact wp_some rfl
theorem x_mostGot {m : Mem} {I : Isl} {l : Lnd} (r : Refs m) (tbl : Tbl m I l 0) : X9_mostGot 246 m = some (mxF (gI I l) (nH I) (nH I) 0) := by
  refine wp_eq ?_
  unfold X9_mostGot
  refine wp_k k246 ?_
  refine wp_b (w4R r) ?_
  refine wp_b (arI 64 (by decide +kernel) (by decide) (by decide) m) ?_
  have y := tbl 0 (Nat.le_refl 0) (Nat.two_pow_pos _)
  rw [pop_0, Nat.sub_zero] at y
  exact wp_some y
