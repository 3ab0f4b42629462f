/-! order, wrung -/
/-- beside the two rows of the reference nothing changed -/
def RwF (m m2 : Mem) : Prop := ∀ a, ¬(a = 306 ∨ a = 307) → m2 a = m a
theorem rwf_set {m m2 : Mem} (f : RwF m m2) {a : Nat} (h : a = 306 ∨ a = 307) (g : Nat → Int) : RwF m (setA m2 a g) := fun x hx => by
  rw [setA_ne (by omega)]
  exact f x hx
theorem rwf_rk {m m2 : Mem} {b : Nat} {I : Isl} {l : Lnd} (f : RwF m m2) (r2 : Refs m2) (k : RK m b I l) : RK m2 b I l := by
  obtain ⟨r, md, my, nm⟩ := k
  exact ⟨r2, md_off md (by rw [f 264 (by decide)]) (fun a _ _ => f a (by omega)), ml_off my (fun a _ _ => f a (by omega)), nm_off nm (fun a _ _ => f a (by omega))⟩
theorem rwf_refs {m m2 : Mem} (f : RwF m m2) (r : Refs m) : Refs m2 := refs_of r fun a k hk => by
  by_cases q : a = 306 ∨ a = 307
  · rcases q with q | q <;> subst q
    · exact absurd hk (by rw [arr_ref (by decide +kernel)]; decide)
    · exact absurd hk (by rw [arr_ref (by decide +kernel)]; decide)
  · rw [f a q]
theorem rwf_scr {P a k : Nat} {m m2 : Mem} (f : RwF m m2) (h : ¬Scr P a k) : m2 a k = m a k := by
  rw [f a (fun u => h (scr_16 (by omega)))]
/-- the end of order in the reference -/
def orK : Nat → Int → Int → Mem → Option (Int × Mem) := fun z26 z27 z28 m29 =>
          if ¬ z27 = (-1) then (
            (getR 11 68 z26 m29).bind fun t30 =>
            (aldI t30 z27 m29).bind fun t31 =>
            some (t31, m29)
          ) else (
            some (z28, m29)
          )
def foB (g : Nat → Nat → Int) (L : List (List Nat)) (z : Int × List Nat) : Int × List Nat := L.foldl (stB 0 [] g 0) z
theorem vl_row {m : Mem} {I : Isl} {l : Lnd} {p : List Nat} {n : Nat} (hp : p.length = n) (rp : RowP m n p) : vl (gI I l) 0 p = rowS I l (m 306) n := by
  rw [vl_sum, hp]
  unfold rowS
  exact sumTo_same (fun j hj => by
    show gtC I l ((p.getD j 0 : Nat) : Int) ((0 + j : Nat) : Int) = gtC I l (m 306 j) j
    rw [rp j hj, Nat.zero_add])
theorem m_ordS {N : Nat} (hN : 2000 ≤ N) {mt mm : Mem} {b : Nat} {I : Isl} {l : Lnd} (r : Refs mt) (rk : RK mt b I l) (z : Sz I) (n : Cn I) (cl : Cl I) (tc : Tc I l) (cm : Cm I) (h6 : nH I < 7) {k : Int} {F : Nat} {p : List Nat} {bs : Int} {bl : List Nat} (hp : p.length = nH I) (hc : ∀ j : Nat, j < nH I → p.getD j 0 < nH I) (rp : RowP mm (nH I) p) (f : RwF mt mm) (hb : -1 ≤ bs) (hbl : bs = -1 ∨ ∀ j : Nat, j < nH I → mm 307 j = ((bl.getD j 0 : Nat) : Int)) {Q : Int × Mem → Prop} (hQ : ∀ (mm2 : Mem) (bs2 : Int) (bl2 : List Nat), (bs2, bl2) = stB 0 [] (gI I l) 0 (bs, bl) p → 0 ≤ bs2 → RowP mm2 (nH I) p → RwF mt mm2 → (∀ j : Nat, j < nH I → mm2 307 j = ((bl2.getD j 0 : Nat) : Int)) → Wp ((X11_nextOrder N 264 (nH I) mm2).bind fun p23 => X11_order_L59 N orK F 264 k (nH I) bs2 p23.1 p23.2) Q) : Wp (X11_order_L59 N orK (F + 1) 264 k (nH I) bs 1 mm) Q := by
  obtain ⟨n1, n2, n3, n4, n5, n6⟩ := id n
  have ek : ((nH I : Nat) : Int) = I 12 0 := Int.toNat_of_nonneg (by omega)
  have rm := rwf_refs f r
  have vin := rowS_in I l (mm 306) (nH I) (nH I) (Nat.le_refl _)
  have ev : vl (gI I l) 0 p = rowS I l (mm 306) (nH I) := vl_row hp rp
  have es : stB 0 [] (gI I l) 0 (bs, bl) p = if bs < rowS I l (mm 306) (nH I) then (rowS I l (mm 306) (nH I), p) else (bs, bl) := by
    unfold stB
    rw [ev, Int.zero_add]
    rfl
  rw [es] at hQ
  show Wp (X11_order_L59_b N orK (X11_order_L59 N orK F) 264 k (nH I) bs 1 mm) Q
  unfold X11_order_L59_b
  rw [if_neg (by decide)]
  refine wp_b (m_gotBy hN (rwf_rk f rm rk) z n cl tc cm (q := nH I) (by omega) (fun j hj => ?_)) ?_
  · have y := hc j hj
    rw [rp j hj]
    omega
  by_cases y : bs < rowS I l (mm 306) (nH I)
  · rw [if_pos y] at hQ
    refine lw_1 (fun j mk => RowP mk (nH I) p ∧ RwF mt mk ∧ ∀ i : Nat, i < j → mk 307 i = ((p.getD i 0 : Nat) : Int)) (fun F2 i mk => X11_order_L74 N _ F2 264 k (nH I) bs (rowS I l (mm 306) (nH I)) i mk) (nH I) _ (fun F2 j mk hj hI ih => ?_) (fun F2 mk hI => ?_) N mm (by omega) ⟨rp, f, fun i hi => by omega⟩
    · obtain ⟨rp2, f2, h2⟩ := hI
      have r2 := rwf_refs f2 r
      show Wp (X11_order_L74_b N _ (X11_order_L74 N _ F2) 264 k (nH I) bs (rowS I l (mm 306) (nH I)) j mk) _
      unfold X11_order_L74_b
      rw [if_neg (by omega), if_neg (by omega)]
      refine wp_b (gR68 r2) ?_
      refine wp_b (gR67 r2) ?_
      refine wp_b (arI 10 (by decide +kernel) (by omega) (by omega) mk) ?_
      rw [Int.toNat_natCast, rp2 j hj]
      obtain ⟨g1, e1, a1, k1⟩ := ar_stE (a := 307) (n := 10) (i := (j : Int)) (by decide +kernel) (by decide +kernel) (by decide) (by omega) (by omega) ((p.getD j 0 : Nat) : Int) mk
      rw [Int.toNat_natCast] at a1 k1
      refine wp_b e1 ?_
      refine ih _ _ (by first | omega | (simp (disch := omega) only [wI_of2] <;> omega)) ⟨fun i hi => by rw [setA_ne (by decide)]; exact rp2 i hi, rwf_set f2 (Or.inr rfl) g1, fun i hi => ?_⟩
      rw [setA_same]
      by_cases u : i = j
      · rw [u]; exact a1
      · rw [k1 i u]; exact h2 i (by omega)
    · obtain ⟨rp2, f2, h2⟩ := hI
      show Wp (X11_order_L74_b N _ (X11_order_L74 N _ F2) 264 k (nH I) bs (rowS I l (mm 306) (nH I)) (nH I) mk) _
      unfold X11_order_L74_b
      rw [if_pos (Int.le_refl _)]
      show Wp (if rowS I l (mm 306) (nH I) ≤ bs then _ else _) _
      rw [if_neg (by omega)]
      unfold X11_order_J118
      exact hQ mk _ p rfl vin.1 rp2 f2 h2
  · rw [if_neg y] at hQ
    have hb2 : 0 ≤ bs := by omega
    have hbl2 : ∀ j : Nat, j < nH I → mm 307 j = ((bl.getD j 0 : Nat) : Int) := by
      rcases hbl with u | u
      · omega
      · exact u
    have now : Wp (X11_order_J118 N (X11_order_L59 N orK F) 264 k (nH I) bs mm) Q := by
      unfold X11_order_J118
      exact hQ mm bs bl rfl hb2 rp f hbl2
    obtain ⟨F2, hF2⟩ : ∃ F2, N = F2 + 1 := ⟨N - 1, by omega⟩
    have go : ∀ K : Nat → Int → Int → Int → Int → Mem → Option (Int × Mem), Wp (K 264 k (nH I) bs (rowS I l (mm 306) (nH I)) mm) Q → Wp (X11_order_L74 N K (F2 + 1) 264 k (nH I) bs (rowS I l (mm 306) (nH I)) 0 mm) Q := by
      intro K hK
      show Wp (X11_order_L74_b N K (X11_order_L74 N K F2) 264 k (nH I) bs (rowS I l (mm 306) (nH I)) 0 mm) Q
      unfold X11_order_L74_b
      by_cases u : ((nH I : Nat) : Int) ≤ 0
      · rw [if_pos u]; exact hK
      · rw [if_neg u, if_pos (by omega)]; exact hK
    rw [← hF2] at go
    refine go _ ?_
    show Wp (if rowS I l (mm 306) (nH I) ≤ bs then _ else _) _
    rw [if_pos (by omega)]
    exact now
theorem chn_p {n : Nat} {p : List Nat} {t : List (List Nat)} (h : chn n (p :: t) = true) : p.length = n ∧ (∀ j : Nat, j < n → p.getD j 0 < n) ∧ (t = [] → lst1 n p = true) ∧ ∀ q t2, t = q :: t2 → nxt1 n p q = true ∧ chn n t = true := by
  have h2 : ((p.length == n) && p.all (fun c => decide (c < n)) && (match t with
    | [] => lst1 n p
    | q :: _ => nxt1 n p q && chn n t)) = true := by
    cases t <;> exact h
  rw [Bool.and_eq_true, Bool.and_eq_true] at h2
  obtain ⟨⟨a, c⟩, d⟩ := h2
  have a2 : p.length = n := by simpa using a
  refine ⟨a2, fun j hj => ?_, fun e => ?_, fun q t2 e => ?_⟩
  · rw [List.all_eq_true] at c
    rw [List.getD_eq_getElem?_getD, List.getElem?_eq_getElem (by omega)]
    have y := c p[j] (List.getElem_mem _)
    simpa using y
  · subst e
    exact d
  · subst e
    have d2 : (nxt1 n p q && chn n (q :: t2)) = true := d
    rw [Bool.and_eq_true] at d2
    exact d2
theorem m_ordL {N : Nat} (hN : 2000 ≤ N) {mt : Mem} {b : Nat} {I : Isl} {l : Lnd} (r : Refs mt) (rk : RK mt b I l) (z : Sz I) (n : Cn I) (cl : Cl I) (tc : Tc I l) (cm : Cm I) (h6 : nH I < 7) {k : Int} (hk : k = -1 ∨ 0 ≤ k ∧ k < I 12 0) : ∀ (t : List (List Nat)) (p : List Nat) (F : Nat) (mm : Mem) (bs : Int) (bl : List Nat), chn (nH I) (p :: t) = true → t.length + 2 ≤ F → RowP mm (nH I) p → RwF mt mm → -1 ≤ bs → (bs = -1 ∨ ∀ j : Nat, j < nH I → mm 307 j = ((bl.getD j 0 : Nat) : Int)) → Wp (X11_order_L59 N orK F 264 k (nH I) bs 1 mm) (fun w => w.1 = (if k = -1 then (foB (gI I l) (p :: t) (bs, bl)).1 else (((foB (gI I l) (p :: t) (bs, bl)).2.getD k.toNat 0 : Nat) : Int)) ∧ RwF mt w.2) := by
  obtain ⟨n1, n2, n3, n4, n5, n6⟩ := id n
  have ek : ((nH I : Nat) : Int) = I 12 0 := Int.toNat_of_nonneg (by omega)
  intro t
  induction t with
  | nil =>
    intro p F mm bs bl hc hF rp f hb hbl
    obtain ⟨c1, c2, c3, c4⟩ := chn_p hc
    obtain ⟨F, rfl⟩ : ∃ F2, F = F2 + 1 + 1 := ⟨F - 2, by simp at hF; omega⟩
    refine m_ordS hN r rk z n cl tc cm h6 c1 c2 rp f hb hbl (fun mm2 bs2 bl2 e h0 rp2 f2 hb2 => ?_)
    have r2 := rwf_refs f2 r
    refine wp_b (m_next_last hN r2 h6 rp2 (c3 rfl)) ?_
    show Wp (X11_order_L59_b N orK (X11_order_L59 N orK F) 264 k (nH I) bs2 0 mm2) _
    unfold X11_order_L59_b
    rw [if_pos rfl]
    unfold orK
    have ef : foB (gI I l) [p] (bs, bl) = (bs2, bl2) := e.symm
    rw [ef]
    by_cases y : k = -1
    · rw [if_neg (fun u => u y), if_pos y]
      exact wp_some ⟨rfl, f2⟩
    · rw [if_pos y, if_neg y]
      refine wp_b (gR68 r2) ?_
      refine wp_b (arI 10 (by decide +kernel) (by omega) (by omega) mm2) ?_
      exact wp_some ⟨hb2 k.toNat (by omega), f2⟩
  | cons q t ih =>
    intro p F mm bs bl hc hF rp f hb hbl
    obtain ⟨c1, c2, c3, c4⟩ := chn_p hc
    obtain ⟨c5, c6⟩ := c4 q t rfl
    obtain ⟨F, rfl⟩ : ∃ F2, F = F2 + 1 := ⟨F - 1, by omega⟩
    refine m_ordS hN r rk z n cl tc cm h6 c1 c2 rp f hb hbl (fun mm2 bs2 bl2 e h0 rp2 f2 hb2 => ?_)
    have r2 := rwf_refs f2 r
    obtain ⟨g, eg, rp3⟩ := m_next_step hN r2 h6 rp2 c5
    refine wp_b eg ?_
    have f3 := rwf_set f2 (Or.inl rfl) g
    have go := ih q F (setA mm2 306 g) bs2 bl2 c6 (by simp at hF; omega) rp3 f3 (by omega) (Or.inr (fun j hj => by rw [setA_ne (by decide)]; exact hb2 j hj))
    have ef : foB (gI I l) (p :: q :: t) (bs, bl) = foB (gI I l) (q :: t) (bs2, bl2) := by
      rw [e]
      rfl
    rw [ef]
    exact go
theorem EN_len : ∀ n, n < 7 → (EN n n 0).length ≤ 720 := by decide +kernel
theorem m_order {N : Nat} (hN : 2000 ≤ N) {m mt : Mem} {b : Nat} {I : Isl} {l : Lnd} (et : X11_nightAsTold N 264 0 m = some mt) (r : Refs mt) (rk : RK mt b I l) (z : Sz I) (n : Cn I) (cl : Cl I) (tc : Tc I l) (cm : Cm I) (h6 : nH I < 7) {k : Int} (hk : k = -1 ∨ 0 ≤ k ∧ k < I 12 0) : Wp (X11_order_J29 N 264 k (nH I) m) (fun w => w.1 = (if k = -1 then mxF (gI I l) (nH I) (nH I) 0 else (((gls (gI I l) (nH I) (nH I) 0).getD k.toNat 0 : Nat) : Int)) ∧ RwF mt w.2) := by
  have cc := chn_c (nH I) h6
  rw [Bool.and_eq_true] at cc
  obtain ⟨c1, c2⟩ := cc
  have ll := EN_len (nH I) h6
  have be := best_EN (g := gI I l) (gI_0 I l) h6
  obtain ⟨p, t, ep⟩ : ∃ p t, EN (nH I) (nH I) 0 = p :: t := by
    cases e : EN (nH I) (nH I) 0 with
    | nil => rw [e] at c1; exact absurd (show false = true from c1) (by decide)
    | cons p t => exact ⟨p, t, rfl⟩
  rw [ep] at c1 c2 ll be
  have hp : p = List.range (nH I) := by simpa using c2
  unfold X11_order_J29
  refine wp_b et ?_
  refine lw_1 (fun j mm => RwF mt mm ∧ ∀ i : Nat, i < j → mm 306 i = (i : Int)) (fun F i mm => X11_order_L36 N _ F 264 k (nH I) i mm) (nH I) _ (fun F j mm hj hI ih => ?_) (fun F mm hI => ?_) N mt (by omega) ⟨fun _ _ => rfl, fun i hi => by omega⟩
  · obtain ⟨f, hr⟩ := hI
    show Wp (X11_order_L36_b N _ (X11_order_L36 N _ F) 264 k (nH I) j mm) _
    unfold X11_order_L36_b
    rw [if_neg (by omega)]
    refine wp_b (gR67 (rwf_refs f r)) ?_
    obtain ⟨g1, e1, a1, k1⟩ := ar_stE (a := 306) (n := 10) (i := (j : Int)) (by decide +kernel) (by decide +kernel) (by decide) (by omega) (by omega) (j : Int) mm
    rw [Int.toNat_natCast] at a1 k1
    refine wp_b e1 ?_
    refine ih _ _ (by first | omega | (simp (disch := omega) only [wI_of2] <;> omega)) ⟨rwf_set f (Or.inl rfl) g1, fun i hi => ?_⟩
    rw [setA_same]
    by_cases u : i = j
    · rw [u]; exact a1
    · rw [k1 i u]; exact hr i (by omega)
  · obtain ⟨f, hr⟩ := hI
    show Wp (X11_order_L36_b N _ (X11_order_L36 N _ F) 264 k (nH I) (nH I) mm) _
    unfold X11_order_L36_b
    rw [if_pos (Int.le_refl _)]
    show Wp (X11_order_L59 N orK N 264 k (nH I) (-1) 1 mm) _
    have go := m_ordL hN r rk z n cl tc cm h6 hk t p N mm (-1) [] c1 (by simp at ll; omega) (fun j hj => by
      rw [hr j hj, hp, List.getD_eq_getElem?_getD, List.getElem?_range hj]
      rfl) f (by decide) (Or.inl rfl)
    have eb : foB (gI I l) (p :: t) (-1, []) = (mxF (gI I l) (nH I) (nH I) 0, gls (gI I l) (nH I) (nH I) 0) := be
    rw [eb] at go
    exact go
theorem order_ok {N : Nat} (hN : 2000 ≤ N) {m : Mem} (h : Inv m) (k : Int) : ∃ v m1 m2, X10_order N 3 k m = some (v, m1) ∧ X11_order N 264 k m1 = some (v, m2) ∧ Inv m2 := by
  obtain ⟨P, b, I, l, s, h⟩ := h
  have hn : Cn I := h.2.2.1.2.1
  obtain ⟨n1, n2, n3, n4, n5, n6⟩ := id hn
  have ek : ((nH I : Nat) : Int) = I 12 0 := Int.toNat_of_nonneg (by omega)
  by_cases q : I 12 0 ≤ 6 ∧ -1 ≤ k ∧ k < I 12 0
  · obtain ⟨q6, k0, k1⟩ := q
    have h6 : nH I < 7 := by omega
    refine comb (P := P) (b := b) (I := I) (l := l) (s := s) (if k = -1 then mxF (gI I l) (nH I) (nH I) 0 else (((gls (gI I l) (nH I) (nH I) 0).getD k.toNat 0 : Nat) : Int)) ?_ (fun m1 h => ?_)
    · obtain ⟨mt, et, ht, nx, _⟩ := i_told2 hN h
      obtain ⟨m2, e2, wr, h2, nx2, _⟩ := x_prepare hN ht nx
      have hz : Sz I := h.2.2.1.1
      have hcl : Cl I := h.2.2.1.2.2.2.2.1
      have hcm : Cm I := h.2.2.1.2.2.2.2.2.2
      have htc : Tc I l := h.2.2.2.1.2.2.1
      obtain ⟨g, e3, tbl⟩ := x_findOrder hN h2.1 wr hz hn hcl htc hcm h6
      have wr3 := wr_set wr g
      have h3 : InvP (setA m2 249 g) P b I l s := inv_x h2 (fun a j hj => by rw [setA_ne (fun u => hj (scr_8 (by omega)))]) (fun a ha => by rw [setA_ne (by have := h2.2.1.1.1; omega)]) (setA_ne (by decide) _ _) (setA_ne (by decide) _ _)
      obtain ⟨r, ⟨b3, bb, b4, ps, md, mn⟩, ⟨z, n, kc, vl, cl, fx, cm⟩, ⟨hl, my, gl⟩, pa, to, zz, hg, wk, se, rd, te, fe, oe, kst⟩ := id h; have h1 := ps.1; have tc := gl.1; have hs := vl.2.2.2.2
      unfold X10_order
      refine wp_k k3 ?_
      refine wp_b (b3_R b3) ?_
      refine wp_b (pd_I h1 (by decide)) ?_
      rw [if_neg (by omega), if_neg (by omega)]
      refine wp_b (b3_R b3) ?_
      refine wp_b (pd_I h1 (by decide)) ?_
      rw [if_pos k1]
      refine wp_b (gX13 r) ?_
      refine wp_b (b3_R b3) ?_
      refine wp_b (gX5 r) ?_
      refine wp_b et ?_
      refine wp_b e2 ?_
      refine wp_b (gX13 h2.1) ?_
      refine wp_b e3 ?_
      by_cases y : k = -1
      · rw [if_neg (fun u => u y), if_pos y]
        refine wp_b (gX13 h3.1) ?_
        refine wp_b (x_mostGot h3.1 tbl) ?_
        exact wp_some ⟨rfl, h3⟩
      · have kk : ((k.toNat : Nat) : Int) = k := Int.toNat_of_nonneg (by omega)
        have wa := x_wrungAt hN h3.1 wr3 hz hn hcl htc hcm h6 tbl (k := k.toNat) (by omega)
        rw [kk] at wa
        rw [if_pos y, if_neg y]
        refine wp_b (gX13 h3.1) ?_
        refine wp_b wa ?_
        exact wp_some ⟨rfl, h3⟩
    · obtain ⟨r, ⟨b3, bb, b4, ps, md, mn⟩, ⟨z, n, kc, vl, cl, fx, cm⟩, ⟨hl, my, gl⟩, pa, to, zz, hg, wk, se, rd, te, fe, oe, kst⟩ := id h; have h1 := ps.1; have tc := gl.1; have hs := vl.2.2.2.2
      obtain ⟨mt, et, ht, nm, _⟩ := i_mtold hN h
      have J := m_order hN et ht.1 ⟨ht.1, ht.2.1.2.2.2.2.1, ht.2.2.2.1.2.1, nm⟩ z n cl tc cm h6 (k := k) (by omega)
      obtain ⟨w, ew, w1, w2⟩ := J
      have fin : Wp (X11_order_J29 N 264 k (nH I) m1) (fun p => p.1 = (if k = -1 then mxF (gI I l) (nH I) (nH I) 0 else (((gls (gI I l) (nH I) (nH I) 0).getD k.toNat 0 : Nat) : Int)) ∧ Inv p.2) := wp_of ew ⟨w1, P, b, I, l, s, inv_m ht (fun a k hk => rwf_scr w2 hk) (fun a ha => w2 a (by omega))⟩
      unfold X11_order
      refine wp_k k264 ?_
      refine wp_b (m_cloths hN r md n cl) ?_
      rw [if_neg (by omega), ← ek]
      by_cases y : k = -1
      · rw [if_pos y]; exact fin
      · rw [if_neg y, wI_of2 (x := ((nH I : Nat) : Int) - 1) (by omega) (by omega)]
        refine wp_b (m_is _ _ _ _) ?_
        rw [← bi_t (show 0 ≤ k ∧ k ≤ ((nH I : Nat) : Int) - 1 from by omega), if_pos (by decide)]
        exact fin
  · refine comb (P := P) (b := b) (I := I) (l := l) (s := s) (-1) ?_ (fun m1 h => ?_)
    · obtain ⟨r, ⟨b3, bb, b4, ps, md, mn⟩, ⟨z, n, kc, vl, cl, fx, cm⟩, ⟨hl, my, gl⟩, pa, to, zz, hg, wk, se, rd, te, fe, oe, kst⟩ := id h; have h1 := ps.1; have tc := gl.1; have hs := vl.2.2.2.2
      unfold X10_order
      refine wp_k k3 ?_
      refine wp_b (b3_R b3) ?_
      refine wp_b (pd_I h1 (by decide)) ?_
      by_cases y : 6 < I 12 0
      · rw [if_pos y]; exact wp_some ⟨rfl, h⟩
      · rw [if_neg y]
        by_cases y2 : k < -1
        · rw [if_pos y2]; exact wp_some ⟨rfl, h⟩
        · rw [if_neg y2]
          refine wp_b (b3_R b3) ?_
          refine wp_b (pd_I h1 (by decide)) ?_
          rw [if_neg (by omega)]
          exact wp_some ⟨rfl, h⟩
    · obtain ⟨r, ⟨b3, bb, b4, ps, md, mn⟩, ⟨z, n, kc, vl, cl, fx, cm⟩, ⟨hl, my, gl⟩, pa, to, zz, hg, wk, se, rd, te, fe, oe, kst⟩ := id h; have h1 := ps.1; have tc := gl.1; have hs := vl.2.2.2.2
      unfold X11_order
      refine wp_k k264 ?_
      refine wp_b (m_cloths hN r md n cl) ?_
      by_cases y : 6 < I 12 0
      · rw [if_pos y]; exact wp_some ⟨rfl, P, b, I, l, s, h⟩
      · rw [if_neg y, if_neg (by omega), wI_of2 (x := I 12 0 - 1) (by omega) (by omega)]
        refine wp_b (m_is _ _ _ _) ?_
        rw [← bi_f (show ¬(0 ≤ k ∧ k ≤ I 12 0 - 1) from by omega), if_neg (by decide)]
        exact wp_some ⟨rfl, P, b, I, l, s, h⟩
