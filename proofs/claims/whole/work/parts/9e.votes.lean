/-! best, votes -/
/-- the best wall so far and what is gained -/
def bsT (I : Isl) (l : Lnd) (k : Int) : Nat → Int × Int
  | 0 => (-1, 0)
  | c + 1 => if hasW l c = 1 ∧ (bsT I l k c).2 < gn I l c k then ((c : Int), gn I l c k) else bsT I l k c
theorem bsT_in {I : Isl} (n : Cn I) (l : Lnd) (k : Int) (c : Nat) : 0 ≤ (bsT I l k c).2 := by
  induction c with
  | zero => exact Int.le_refl 0
  | succ c ih =>
    show 0 ≤ (if hasW l c = 1 ∧ (bsT I l k c).2 < gn I l c k then ((c : Int), gn I l c k) else bsT I l k c).2
    by_cases q : hasW l c = 1 ∧ (bsT I l k c).2 < gn I l c k
    · rw [if_pos q]
      show 0 ≤ gn I l c k
      omega
    · rw [if_neg q]; exact ih
theorem bsT_s (I : Isl) (l : Lnd) (k : Int) (c : Nat) : bsT I l k (c + 1) = if hasW l c = 1 ∧ (bsT I l k c).2 < gn I l c k then ((c : Int), gn I l c k) else bsT I l k c := rfl
theorem best_ok {N : Nat} (hN : 2000 ≤ N) {m : Mem} (h : Inv m) (k : Int) : ∃ v m1 m2, X10_best N 3 k m = some (v, m1) ∧ X11_best N 264 k m1 = some (v, m2) ∧ Inv m2 := by
  obtain ⟨P, b, I, l, s, h⟩ := h
  by_cases q : 0 ≤ k ∧ k < I 6 0
  · obtain ⟨k0, k1⟩ := q
    have hz : Sz I := h.2.2.1.1
    have hn : Cn I := h.2.2.1.2.1
    have ec : (((nC I).toNat : Nat) : Int) = nC I := Int.toNat_of_nonneg hz.2.2.2.2.2.1
    have z7 := hz.2.2.2.2.2.2
    refine comb (P := P) (b := b) (I := I) (l := l) (s := s) (bsT I l k (nC I).toNat).1 ?_ (fun m1 h => ?_)
    · obtain ⟨mt, et, ht, nx, _⟩ := i_told2 hN h
      have go : Wp (X10_best_L26 N N 3 k 159 0 (-1) 0 mt) (fun p => p.1 = (bsT I l k (nC I).toNat).1 ∧ InvP p.2 P b I l s) := by
        refine lw_2 (fun j (x : Int × Int) mm => x = bsT I l k j ∧ InvP mm P b I l s ∧ ∀ i : Nat, i < 5 → mm 201 i = cms I l (I 15) i) (fun F x i mm => X10_best_L26 N F 3 k 159 x.2 x.1 i mm) (nC I).toNat _ (fun F j x mm hj hI ih => ?_) (fun F x mm hI => ?_) N (-1, 0) mt (by omega) ⟨rfl, ht, nx.2.2⟩
        · obtain ⟨hx, h, h201⟩ := hI
          subst hx
          have bn := bsT_in hn l k j
          obtain ⟨r, ⟨b3, bb, b4, ps, md, mn⟩, ⟨z, n, kc, vl, cl, fx, cm⟩, ⟨hl, my, gl⟩, pa, to, zz, hg, wk, se, rd, te, fe, oe, kst⟩ := id h; have h1 := ps.1; have tc := gl.1; have hs := vl.2.2.2.2
          show Wp (X10_best_L26_b N (X10_best_L26 N F) 3 k 159 (bsT I l k j).2 (bsT I l k j).1 j mm) _
          unfold X10_best_L26_b
          refine wp_b (b3_R b3) ?_
          refine wp_b (x_cells h1 z) ?_
          rw [if_neg (by omega)]
          refine wp_b (gX5 r) ?_
          refine wp_b (x_hasWall r hl j) ?_
          by_cases hw : hasW l j = 1
          · rw [if_neg (by omega)]
            obtain ⟨m2, e2, h2, nx2, f2⟩ := i_passW hN h hw
            have h201' : ∀ i : Nat, i < 5 → m2 201 i = cms I l (I 15) i := fun i hi => by
              rw [f2 201 (by omega)]; exact h201 i hi
            refine wp_b e2 ?_
            refine wp_b (i_gain h2 (c := j) k0 k1 nx2.2.2 h201') ?_
            unfold X10_best_J77 X10_best_J86
            by_cases y : (bsT I l k j).2 < gn I l j k
            · rw [if_neg (by omega), show max (gn I l j k) (bsT I l k j).2 = gn I l j k from by omega]
              exact ih ((j : Int), gn I l j k) _ m2 (by first | omega | (simp (disch := omega) only [wI_of2] <;> omega)) ⟨by rw [bsT_s, if_pos ⟨hw, y⟩], h2, h201'⟩
            · rw [if_pos (by omega), show max (gn I l j k) (bsT I l k j).2 = (bsT I l k j).2 from by omega]
              exact ih (bsT I l k j) _ m2 (by first | omega | (simp (disch := omega) only [wI_of2] <;> omega)) ⟨by rw [bsT_s, if_neg (fun u => y u.2)], h2, h201'⟩
          · have wi := hasW_in l j
            rw [if_pos (by omega)]
            unfold X10_best_J86
            exact ih (bsT I l k j) _ mm (by first | omega | (simp (disch := omega) only [wI_of2] <;> omega)) ⟨by rw [bsT_s, if_neg (fun u => hw u.1)], h, h201⟩
        · obtain ⟨hx, h, h201⟩ := hI
          subst hx
          obtain ⟨r, ⟨b3, bb, b4, ps, md, mn⟩, ⟨z, n, kc, vl, cl, fx, cm⟩, ⟨hl, my, gl⟩, pa, to, zz, hg, wk, se, rd, te, fe, oe, kst⟩ := id h; have h1 := ps.1; have tc := gl.1; have hs := vl.2.2.2.2
          show Wp (X10_best_L26_b N (X10_best_L26 N F) 3 k 159 (bsT I l k (nC I).toNat).2 (bsT I l k (nC I).toNat).1 (nC I).toNat mm) _
          unfold X10_best_L26_b
          refine wp_b (b3_R b3) ?_
          refine wp_b (x_cells h1 z) ?_
          rw [if_pos (by omega)]
          exact wp_some ⟨rfl, h⟩
      obtain ⟨r, ⟨b3, bb, b4, ps, md, mn⟩, ⟨z, n, kc, vl, cl, fx, cm⟩, ⟨hl, my, gl⟩, pa, to, zz, hg, wk, se, rd, te, fe, oe, kst⟩ := id h; have h1 := ps.1; have tc := gl.1; have hs := vl.2.2.2.2
      unfold X10_best
      refine wp_k k3 ?_
      refine wp_b (b3_R b3) ?_
      refine wp_b (x_isCistern h1 k) ?_
      rw [← bi_t ⟨k0, k1⟩, if_pos (by decide)]
      refine wp_b et ?_
      exact go
    · have go : Wp (X11_best_L17 N N 264 k (-1) 0 0 m1) (fun p => p.1 = (bsT I l k (nC I).toNat).1 ∧ InvP p.2 P b I l s) := by
        refine lw_2 (fun j (x : Int × Int) mm => x = bsT I l k j ∧ InvP mm P b I l s) (fun F x i mm => X11_best_L17 N F 264 k x.1 x.2 i mm) (nC I).toNat _ (fun F j x mm hj hI ih => ?_) (fun F x mm hI => ?_) N (-1, 0) m1 (by omega) ⟨rfl, h⟩
        · obtain ⟨hx, h⟩ := hI
          subst hx
          have bn := bsT_in hn l k j
          obtain ⟨r, ⟨b3, bb, b4, ps, md, mn⟩, ⟨z, n, kc, vl, cl, fx, cm⟩, ⟨hl, my, gl⟩, pa, to, zz, hg, wk, se, rd, te, fe, oe, kst⟩ := id h; have h1 := ps.1; have tc := gl.1; have hs := vl.2.2.2.2
          show Wp (X11_best_L17_b N (X11_best_L17 N F) 264 k (bsT I l k j).1 (bsT I l k j).2 j mm) _
          unfold X11_best_L17_b
          refine wp_b (m_cells r md z) ?_
          rw [if_neg (by omega)]
          refine wp_b (m_isWall0 r my (by omega) (by omega)) ?_
          by_cases hw : hasW l j = 1
          · rw [if_neg (by omega)]
            obtain ⟨m2, e2, h2, _⟩ := i_without hN h hw k
            refine wp_b e2 ?_
            show Wp (X11_best_J47 N (X11_best_L17 N F) 264 k (bsT I l k j).1 (bsT I l k j).2 j (gn I l j k) m2) _
            unfold X11_best_J47 X11_best_J64
            by_cases y : (bsT I l k j).2 < gn I l j k
            · rw [if_pos y]
              exact ih ((j : Int), gn I l j k) _ m2 (by first | omega | (simp (disch := omega) only [wI_of2] <;> omega)) ⟨by rw [bsT_s, if_pos ⟨hw, y⟩], h2⟩
            · rw [if_neg y]
              exact ih (bsT I l k j) _ m2 (by first | omega | (simp (disch := omega) only [wI_of2] <;> omega)) ⟨by rw [bsT_s, if_neg (fun u => y u.2)], h2⟩
          · have wi := hasW_in l j
            rw [if_pos (by omega)]
            unfold X11_best_J47 X11_best_J64
            rw [if_neg (by omega)]
            exact ih (bsT I l k j) _ mm (by first | omega | (simp (disch := omega) only [wI_of2] <;> omega)) ⟨by rw [bsT_s, if_neg (fun u => hw u.1)], h⟩
        · obtain ⟨hx, h⟩ := hI
          subst hx
          obtain ⟨r, ⟨b3, bb, b4, ps, md, mn⟩, ⟨z, n, kc, vl, cl, fx, cm⟩, ⟨hl, my, gl⟩, pa, to, zz, hg, wk, se, rd, te, fe, oe, kst⟩ := id h; have h1 := ps.1; have tc := gl.1; have hs := vl.2.2.2.2
          show Wp (X11_best_L17_b N (X11_best_L17 N F) 264 k (bsT I l k (nC I).toNat).1 (bsT I l k (nC I).toNat).2 (nC I).toNat mm) _
          unfold X11_best_L17_b
          refine wp_b (m_cells r md z) ?_
          rw [if_pos (by omega)]
          exact wp_some ⟨rfl, h⟩
      obtain ⟨r, ⟨b3, bb, b4, ps, md, mn⟩, ⟨z, n, kc, vl, cl, fx, cm⟩, ⟨hl, my, gl⟩, pa, to, zz, hg, wk, se, rd, te, fe, oe, kst⟩ := id h; have h1 := ps.1; have tc := gl.1; have hs := vl.2.2.2.2
      unfold X11_best
      refine wp_k k264 ?_
      refine wp_b (m_isCistern r md k) ?_
      rw [← bi_t ⟨k0, k1⟩, if_pos (by decide)]
      exact wp_c go (fun p hp => ⟨hp.1, P, b, I, l, s, hp.2⟩)
  · refine comb (P := P) (b := b) (I := I) (l := l) (s := s) (-1) ?_ (fun m1 h => ?_)
    · obtain ⟨r, ⟨b3, bb, b4, ps, md, mn⟩, ⟨z, n, kc, vl, cl, fx, cm⟩, ⟨hl, my, gl⟩, pa, to, zz, hg, wk, se, rd, te, fe, oe, kst⟩ := id h; have h1 := ps.1; have tc := gl.1; have hs := vl.2.2.2.2
      unfold X10_best
      refine wp_k k3 ?_
      refine wp_b (b3_R b3) ?_
      refine wp_b (x_isCistern h1 k) ?_
      rw [← bi_f q, if_neg (by decide)]
      exact wp_some ⟨rfl, h⟩
    · obtain ⟨r, ⟨b3, bb, b4, ps, md, mn⟩, ⟨z, n, kc, vl, cl, fx, cm⟩, ⟨hl, my, gl⟩, pa, to, zz, hg, wk, se, rd, te, fe, oe, kst⟩ := id h; have h1 := ps.1; have tc := gl.1; have hs := vl.2.2.2.2
      unfold X11_best
      refine wp_k k264 ?_
      refine wp_b (m_isCistern r md k) ?_
      rw [← bi_f q, if_neg (by decide)]
      exact wp_some ⟨rfl, P, b, I, l, s, h⟩
/-- votes so far: for it (w 0), against it -/
def vt1 (I : Isl) (l : Lnd) (c w k : Int) : Int := bi (w = 0 ∧ 0 < gn I l c k ∨ ¬w = 0 ∧ gn I l c k < 0)
def vtT (I : Isl) (l : Lnd) (c w : Int) : Nat → Int
  | 0 => 0
  | k + 1 => vtT I l c w k + vt1 I l c w k
theorem vtT_in (I : Isl) (l : Lnd) (c w : Int) (k : Nat) : 0 ≤ vtT I l c w k ∧ vtT I l c w k ≤ k := by
  induction k with
  | zero => exact ⟨Int.le_refl 0, Int.le_refl 0⟩
  | succ k ih =>
    have e : vtT I l c w (k + 1) = vtT I l c w k + vt1 I l c w k := rfl
    have b : vt1 I l c w k = 0 ∨ vt1 I l c w k = 1 := bi_in _
    omega
theorem votes_ok {N : Nat} (hN : 2000 ≤ N) {m : Mem} (h : Inv m) (c w : Int) : ∃ v m1 m2, X10_votes N 3 c w m = some (v, m1) ∧ X11_votes N 264 c w m1 = some (v, m2) ∧ Inv m2 := by
  obtain ⟨P, b, I, l, s, h⟩ := h
  have hn : Cn I := h.2.2.1.2.1
  obtain ⟨n1, n2, n3, n4, n5, n6⟩ := id hn
  have ek : ((nK I : Nat) : Int) = I 6 0 := n1.symm
  by_cases q : hasW l c = 1 ∧ 0 ≤ w ∧ w ≤ 1
  · obtain ⟨hw, w0, w1⟩ := q
    have cc := hw_cc h hw
    refine comb (P := P) (b := b) (I := I) (l := l) (s := s) (vtT I l c w (nK I)) ?_ (fun m1 h => ?_)
    · obtain ⟨mt, et, ht, nx, _⟩ := i_told2 hN h
      obtain ⟨m2, e2, h2, nx2, f2⟩ := i_passW hN ht hw
      have h201 : ∀ i : Nat, i < 5 → m2 201 i = cms I l (I 15) i := fun i hi => by
        rw [f2 201 (by omega)]; exact nx.2.2 i hi
      have go : Wp (X10_votes_L38 N N 3 w 159 0 0 m2) (fun p => p.1 = vtT I l c w (nK I) ∧ InvP p.2 P b I l s) := by
        refine lw_2 (fun j x mm => x = vtT I l c w j ∧ mm = m2) (fun F x i mm => X10_votes_L38 N F 3 w 159 x i mm) (nK I) _ (fun F j x mm hj hI ih => ?_) (fun F x mm hI => ?_) N 0 m2 (by omega) ⟨rfl, rfl⟩
        · obtain ⟨hx, hm⟩ := hI
          subst hm
          subst hx
          have b1 := vtT_in I l c w j
          have e1 : vtT I l c w (j + 1) = vtT I l c w j + vt1 I l c w j := rfl
          have h := h2
          obtain ⟨r, ⟨b3, bb, b4, ps, md, mn⟩, ⟨z, n, kc, vl, cl, fx, cm⟩, ⟨hl, my, gl⟩, pa, to, zz, hg, wk, se, rd, te, fe, oe, kst⟩ := id h; have h1 := ps.1; have tc := gl.1; have hs := vl.2.2.2.2
          show Wp (X10_votes_L38_b N (X10_votes_L38 N F) 3 w 159 (vtT I l c w j) j mm) _
          unfold X10_votes_L38_b
          refine wp_b (b3_R b3) ?_
          refine wp_b (pd_I h1 (by decide)) ?_
          rw [if_neg (by omega)]
          refine wp_b (i_gain h2 (c := c) (k := j) (by omega) (by omega) nx2.2.2 h201) ?_
          have yes : vt1 I l c w j = 1 → Wp (X10_votes_J76 N (X10_votes_L38 N F) 3 w 159 (vtT I l c w j) j mm) (fun p => p.1 = vtT I l c w (nK I) ∧ InvP p.2 P b I l s) := by
            intro y
            unfold X10_votes_J76 X10_votes_J79
            exact ih _ _ mm (by first | omega | (simp (disch := omega) only [wI_of2] <;> omega)) ⟨by rw [e1, y]; exact wI_of2 (by omega) (by omega), rfl⟩
          have no : vt1 I l c w j = 0 → Wp (X10_votes_J79 N (X10_votes_L38 N F) 3 w 159 (vtT I l c w j) j mm) (fun p => p.1 = vtT I l c w (nK I) ∧ InvP p.2 P b I l s) := by
            intro y
            unfold X10_votes_J79
            exact ih _ _ mm (by first | omega | (simp (disch := omega) only [wI_of2] <;> omega)) ⟨by rw [e1, y]; omega, rfl⟩
          by_cases y : w = 0
          · rw [if_neg (fun u => u y)]
            by_cases u : 0 < gn I l c j
            · rw [if_neg (by omega)]; exact yes (bi_1.mpr (Or.inl ⟨y, u⟩))
            · rw [if_pos (by omega)]; exact no (bi_0.mpr (by omega))
          · rw [if_pos y]
            by_cases u : gn I l c j < 0
            · rw [if_neg (by omega)]; exact yes (bi_1.mpr (Or.inr ⟨y, u⟩))
            · rw [if_pos (by omega)]; exact no (bi_0.mpr (by omega))
        · obtain ⟨hx, hm⟩ := hI
          subst hm
          subst hx
          have h := h2
          obtain ⟨r, ⟨b3, bb, b4, ps, md, mn⟩, ⟨z, n, kc, vl, cl, fx, cm⟩, ⟨hl, my, gl⟩, pa, to, zz, hg, wk, se, rd, te, fe, oe, kst⟩ := id h; have h1 := ps.1; have tc := gl.1; have hs := vl.2.2.2.2
          show Wp (X10_votes_L38_b N (X10_votes_L38 N F) 3 w 159 (vtT I l c w (nK I)) (nK I) mm) _
          unfold X10_votes_L38_b
          refine wp_b (b3_R b3) ?_
          refine wp_b (pd_I h1 (by decide)) ?_
          rw [if_pos (by omega)]
          exact wp_some ⟨rfl, h2⟩
      obtain ⟨r, ⟨b3, bb, b4, ps, md, mn⟩, ⟨z, n, kc, vl, cl, fx, cm⟩, ⟨hl, my, gl⟩, pa, to, zz, hg, wk, se, rd, te, fe, oe, kst⟩ := id h; have h1 := ps.1; have tc := gl.1; have hs := vl.2.2.2.2
      unfold X10_votes
      refine wp_k k3 ?_
      refine wp_b (gX5 r) ?_
      refine wp_b (x_hasWall r hl c) ?_
      rw [hw, if_neg (by decide), if_neg (by omega), if_pos w1]
      refine wp_b et ?_
      refine wp_b e2 ?_
      exact go
    · have go : Wp (X11_votes_L33 N N 264 c w 0 0 m1) (fun p => p.1 = vtT I l c w (nK I) ∧ InvP p.2 P b I l s) := by
        refine lw_2 (fun j x mm => x = vtT I l c w j ∧ InvP mm P b I l s) (fun F x i mm => X11_votes_L33 N F 264 c w x i mm) (nK I) _ (fun F j x mm hj hI ih => ?_) (fun F x mm hI => ?_) N 0 m1 (by omega) ⟨rfl, h⟩
        · obtain ⟨hx, h⟩ := hI
          subst hx
          have b1 := vtT_in I l c w j
          have e1 : vtT I l c w (j + 1) = vtT I l c w j + vt1 I l c w j := rfl
          obtain ⟨r, ⟨b3, bb, b4, ps, md, mn⟩, ⟨z, n, kc, vl, cl, fx, cm⟩, ⟨hl, my, gl⟩, pa, to, zz, hg, wk, se, rd, te, fe, oe, kst⟩ := id h; have h1 := ps.1; have tc := gl.1; have hs := vl.2.2.2.2
          show Wp (X11_votes_L33_b N (X11_votes_L33 N F) 264 c w (vtT I l c w j) j mm) _
          unfold X11_votes_L33_b
          refine wp_b (gR21 r) ?_
          refine wp_b (md_bank md) ?_
          refine wp_b (md_s21 md) ?_
          rw [if_neg (by omega)]
          obtain ⟨m2, e2, h2, _⟩ := i_without hN h hw j
          refine wp_b e2 ?_
          have yes : vt1 I l c w j = 1 → Wp (X11_votes_J84 N (X11_votes_L33 N F) 264 c w j (vtT I l c w j) 1 m2) (fun p => p.1 = vtT I l c w (nK I) ∧ InvP p.2 P b I l s) := by
            intro y
            unfold X11_votes_J84
            exact ih _ _ m2 (by first | omega | (simp (disch := omega) only [wI_of2] <;> omega)) ⟨by rw [e1, y]; exact wI_of2 (by omega) (by omega), h2⟩
          have no : vt1 I l c w j = 0 → Wp (X11_votes_J84 N (X11_votes_L33 N F) 264 c w j (vtT I l c w j) 0 m2) (fun p => p.1 = vtT I l c w (nK I) ∧ InvP p.2 P b I l s) := by
            intro y
            unfold X11_votes_J84
            exact ih _ _ m2 (by first | omega | (simp (disch := omega) only [wI_of2] <;> omega)) ⟨by rw [e1, y]; exact wI_of2 (by omega) (by omega), h2⟩
          by_cases y : w = 0
          · rw [if_neg (fun u => u y)]
            by_cases u : 0 < gn I l c j
            · rw [if_neg (by show ¬gn I l c j ≤ 0; omega)]; exact yes (bi_1.mpr (Or.inl ⟨y, u⟩))
            · rw [if_pos (by show gn I l c j ≤ 0; omega)]; exact no (bi_0.mpr (by omega))
          · rw [if_pos y]
            by_cases u : gn I l c j < 0
            · rw [if_neg (by show ¬0 ≤ gn I l c j; omega)]; exact yes (bi_1.mpr (Or.inr ⟨y, u⟩))
            · rw [if_pos (by show 0 ≤ gn I l c j; omega)]; exact no (bi_0.mpr (by omega))
        · obtain ⟨hx, h⟩ := hI
          subst hx
          obtain ⟨r, ⟨b3, bb, b4, ps, md, mn⟩, ⟨z, n, kc, vl, cl, fx, cm⟩, ⟨hl, my, gl⟩, pa, to, zz, hg, wk, se, rd, te, fe, oe, kst⟩ := id h; have h1 := ps.1; have tc := gl.1; have hs := vl.2.2.2.2
          show Wp (X11_votes_L33_b N (X11_votes_L33 N F) 264 c w (vtT I l c w (nK I)) (nK I) mm) _
          unfold X11_votes_L33_b
          refine wp_b (gR21 r) ?_
          refine wp_b (md_bank md) ?_
          refine wp_b (md_s21 md) ?_
          rw [if_pos (by omega)]
          exact wp_some ⟨rfl, h⟩
      obtain ⟨r, ⟨b3, bb, b4, ps, md, mn⟩, ⟨z, n, kc, vl, cl, fx, cm⟩, ⟨hl, my, gl⟩, pa, to, zz, hg, wk, se, rd, te, fe, oe, kst⟩ := id h; have h1 := ps.1; have tc := gl.1; have hs := vl.2.2.2.2
      unfold X11_votes
      refine wp_k k264 ?_
      refine wp_b (m_isCell r md z c) ?_
      rw [show isC I c = 1 from bi_1.mpr ⟨cc.1, cc.2.1⟩, if_neg (by decide)]
      refine wp_b (m_isWall0 r my cc.1 cc.2.2) ?_
      rw [hw, if_neg (by decide)]
      refine wp_b (m_is _ _ _ _) ?_
      rw [← bi_t ⟨w0, w1⟩, if_pos (by decide)]
      exact wp_c go (fun p hp => ⟨hp.1, P, b, I, l, s, hp.2⟩)
  · have wi := hasW_in l c
    refine comb (P := P) (b := b) (I := I) (l := l) (s := s) (-1) ?_ (fun m1 h => ?_)
    · obtain ⟨r, ⟨b3, bb, b4, ps, md, mn⟩, ⟨z, n, kc, vl, cl, fx, cm⟩, ⟨hl, my, gl⟩, pa, to, zz, hg, wk, se, rd, te, fe, oe, kst⟩ := id h; have h1 := ps.1; have tc := gl.1; have hs := vl.2.2.2.2
      unfold X10_votes
      refine wp_k k3 ?_
      refine wp_b (gX5 r) ?_
      refine wp_b (x_hasWall r hl c) ?_
      by_cases y : hasW l c = 1
      · rw [y, if_neg (by decide)]
        by_cases y2 : w < 0
        · rw [if_pos y2]; exact wp_some ⟨rfl, h⟩
        · rw [if_neg y2, if_neg (by omega)]; exact wp_some ⟨rfl, h⟩
      · rw [if_pos (by omega)]; exact wp_some ⟨rfl, h⟩
    · obtain ⟨r, ⟨b3, bb, b4, ps, md, mn⟩, ⟨z, n, kc, vl, cl, fx, cm⟩, ⟨hl, my, gl⟩, pa, to, zz, hg, wk, se, rd, te, fe, oe, kst⟩ := id h; have h1 := ps.1; have tc := gl.1; have hs := vl.2.2.2.2
      have z7 := z.2.2.2.2.2.2
      unfold X11_votes
      refine wp_k k264 ?_
      refine wp_b (m_isCell r md z c) ?_
      by_cases y0 : 0 ≤ c ∧ c < nC I
      · rw [show isC I c = 1 from bi_1.mpr y0, if_neg (by decide)]
        refine wp_b (m_isWall0 r my y0.1 (by omega)) ?_
        by_cases y : hasW l c = 1
        · rw [y, if_neg (by decide)]
          refine wp_b (m_is _ _ _ _) ?_
          rw [← bi_f (fun u => q ⟨y, u⟩), if_neg (by decide)]
          exact wp_some ⟨rfl, P, b, I, l, s, h⟩
        · rw [if_pos (by omega)]
          exact wp_some ⟨rfl, P, b, I, l, s, h⟩
      · rw [show isC I c = 0 from bi_0.mpr y0, if_pos (by decide)]
        exact wp_some ⟨rfl, P, b, I, l, s, h⟩
