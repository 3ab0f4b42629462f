/-! stores -/
def stL (I : Isl) (l : Lnd) (cm : Int → Int) : Nat → Lnd
  | 0 => l
  | j + 1 => pouL I (stL I l cm j) cm
def dryF (I : Isl) (l : Lnd) (cm : Int → Int) : Int → Int := fun k => bi (min 9999 (l 2 k + cm k) < I 17 0)
def dry (I : Isl) (l : Lnd) (cm : Int → Int) : Int := fnd (dryF I l cm) 1 (nK I)
/-- the answer, so many nights left, so many gone -/
def stA (I : Isl) (l : Lnd) (cm : Int → Int) (w : Int) : Nat → Nat → Int
  | 0, _ => -1
  | r + 1, j => if dry I (stL I l cm j) cm = -1 then stA I l cm w r (j + 1) else if w = 0 then (j : Int) + 1 else dry I (stL I l cm j) cm
theorem stL_2 (I : Isl) (l : Lnd) (cm : Int → Int) (j : Nat) (i : Int) : stL I l cm (j + 1) 2 i = if i < I 6 0 then pou I (stL I l cm j 2 i) (cm i) else stL I l cm j 2 i := rfl
theorem stL_dr {I : Isl} {l : Lnd} (d : Dr I l) (cm : Int → Int) (cb : ∀ k, 0 ≤ cm k ∧ cm k ≤ 20000) (j : Nat) : (∀ k : Int, 0 ≤ k → k < 5 → 0 ≤ stL I l cm j 2 k ∧ stL I l cm j 2 k ≤ 9999) ∧ stL I l cm j 3 0 = l 3 0 + j := by
  induction j with
  | zero => exact ⟨d.1, by show l 3 0 = l 3 0 + ((0 : Nat) : Int); omega⟩
  | succ j ih =>
    refine ⟨fun k k0 k1 => ?_, ?_⟩
    · have a := ih.1 k k0 k1
      have c := cb k
      have d2 := d.2.1
      rw [stL_2]
      unfold pou
      split <;> omega
    · show stL I l cm j 3 0 + 1 = _
      rw [ih.2]
      omega
theorem stL_w {I : Isl} {l : Lnd} (d : Dr I l) (cm : Int → Int) (cb : ∀ k, 0 ≤ cm k ∧ cm k ≤ 20000) {j : Nat} (hj : j ≤ 999) : DrW I (stL I l cm j) := by
  have a := stL_dr d cm cb j
  have d2 := d.2
  exact ⟨a.1, d2.1, d2.2.1, by rw [a.2]; omega, by rw [a.2]; omega⟩
theorem x_dry {N : Nat} (hN : 2000 ≤ N) {m : Mem} {P L T : Nat} {I : Isl} {l : Lnd} {cm : Int → Int} (r : Refs m) (hT : isN T) (hP : PD m P I) (h : LD m L l) (n : Cn I) (dr : DrW I l) (hc : ∀ k : Nat, k < 5 → m (T + 42) k = cm k) (cb : ∀ k, 0 ≤ cm k ∧ cm k ≤ 20000) : X1_firstTooDry N L P T m = some (dry I l cm) := by
  obtain ⟨n1, n2, n3, n4, n5, n6⟩ := id n
  unfold X1_firstTooDry
  rw [if_pos (ld_K h)]
  refine lp_0 (fun j => fnd (dryF I l cm) 1 j = -1) (fun F i => X1_firstTooDry_L2 N m F L P T i) (nK I) _ rfl (fun F j hj hS ih => ?_) (fun F hS => ?_) N (by omega)
  · have dj := dr.1 j (by omega) (by omega)
    have cj := cb j
    have ec := hc j (by omega)
    refine wp_eq ?_
    show Wp (X1_firstTooDry_L2_b N m (X1_firstTooDry_L2 N m F) L P T j) _
    unfold X1_firstTooDry_L2_b
    refine wp_b (pd_I hP (by decide)) ?_
    rw [if_neg (by omega)]
    refine wp_b (x_filled r hT h (by omega) (by omega) dj (c := cm j) (by rw [Int.toNat_natCast]; exact ec) cj.1 cj.2) ?_
    refine wp_b (pd_I hP (by decide)) ?_
    by_cases y : min 9999 (l 2 j + cm j) < I 17 0
    · rw [if_neg (by omega)]
      exact wp_some (fnd_yes hS (bi_1.mpr y) hj).symm
    · rw [if_pos (by omega)]
      exact wp_of (ih _ (by first | omega | (simp (disch := omega) only [wI_of2] <;> omega)) (fnd_no hS (fun u => y (bi_1.mp u)))) rfl
  · refine wp_eq ?_
    show Wp (X1_firstTooDry_L2_b N m (X1_firstTooDry_L2 N m F) L P T (nK I)) _
    unfold X1_firstTooDry_L2_b
    refine wp_b (pd_I hP (by decide)) ?_
    rw [if_pos (by omega)]
    exact wp_some hS.symm
theorem nm_off {m m2 : Mem} {I : Isl} {l : Lnd} {sk : Int → Int} (h : NM m I l sk) (e : ∀ a, 300 ≤ a → a ≤ 305 → m2 a = m a) : NM m2 I l sk := by
  obtain ⟨a, b, c⟩ := h
  refine ⟨fun x hx => ?_, fun x hx y y0 y1 => ?_, fun x t hx ht => ?_⟩
  · rw [e 301 (by decide) (by decide)]; exact a x hx
  · rw [e 302 (by decide) (by decide)]; exact b x hx y y0 y1
  · have d := c x t hx ht
    unfold DwM at *
    rw [e 303 (by decide) (by decide), e 304 (by decide) (by decide), e 305 (by decide) (by decide)]
    exact d
theorem stores_ok {N : Nat} (hN : 2000 ≤ N) {m : Mem} (h : Inv m) (w : Int) : ∃ v m1 m2, X10_stores N 3 w m = some (v, m1) ∧ X11_stores N 264 w m1 = some (v, m2) ∧ Inv m2 := by
  obtain ⟨P, b, I, l, s, h⟩ := h
  have hn : Cn I := h.2.2.1.2.1
  have hz : Sz I := h.2.2.1.1
  have hk : Kc I := h.2.2.1.2.2.1
  have hd : Dr I l := h.2.2.2.1.2.2.2.2.2.1
  obtain ⟨n1, n2, n3, n4, n5, n6⟩ := id hn
  have ek : ((nK I : Nat) : Int) = I 6 0 := n1.symm
  have cb := cms_in hn l (I 15)
  by_cases q : 0 ≤ w ∧ w ≤ 1
  · obtain ⟨w0, w1⟩ := q
    refine comb (P := P) (b := b) (I := I) (l := l) (s := s) (stA I l (cms I l (I 15)) w 999 0) ?_ (fun m1 h => ?_)
    · obtain ⟨mt, et, ht, nx, _⟩ := i_told2 hN h
      have go : Wp (X10_stores N 3 w m) (fun p => p.1 = stA I l (cms I l (I 15)) w 999 0 ∧ Refs p.2 ∧ ∀ a, ¬(73 ≤ a ∧ a ≤ 76) → p.2 a = mt a) := by
        unfold X10_stores
        refine wp_k k3 ?_
        rw [if_neg (by omega), if_pos w1]
        refine wp_b et ?_
        have h := ht
        obtain ⟨r, ⟨b3, bb, b4, ps, md, mn⟩, ⟨z, n, kc, vl, cl, fx, cm⟩, ⟨hl, my, gl⟩, pa, to, zz, hg, wk, se, rd, te, fe, oe, kst⟩ := id h; have h1 := ps.1; have tc := gl.1; have hs := vl.2.2.2.2
        have hP := b3.1
        refine wp_b (gX6 r) ?_
        refine wp_b (gX5 r) ?_
        refine wp_bw (x_copy (L := 73) (K := 69) r (by decide) hl (by decide)) (fun m2 hm2 => ?_)
        obtain ⟨hl2, r2, o⟩ := hm2
        have oo : ∀ a, ¬(73 ≤ a ∧ a ≤ 76) → m2 a = mt a := o
        refine lw_1 (fun j mm => LD mm 73 (stL I l (cms I l (I 15)) j) ∧ Refs mm ∧ (∀ a, ¬(73 ≤ a ∧ a ≤ 76) → mm a = mt a) ∧ stA I l (cms I l (I 15)) w (999 - j) j = stA I l (cms I l (I 15)) w 999 0) (fun F i mm => X10_stores_L29 N _ F 3 w 159 (i + 1) mm) 999 _ (fun F j mm hj hI ih => ?_) (fun F mm hI => ?_) N m2 (by omega) ⟨hl2, r2, oo, rfl⟩
        · obtain ⟨hl3, r3, o3, e3⟩ := hI
          have b33 : B3 mm P := ⟨hP, by rw [o3 3 (by decide)]; exact b3.2⟩
          have h13 : PD mm P I := pd_off h1 fun a _ _ _ _ _ => o3 a (by omega)
          have hc3 : ∀ k : Nat, k < 5 → mm (159 + 42) k = cms I l (I 15) k := fun k hk => by
            rw [o3 (159 + 42) (by decide)]; exact nx.2.2 k hk
          have dw := stL_w hd (cms I l (I 15)) cb (j := j) (by omega)
          show Wp (X10_stores_L29_b N _ (X10_stores_L29 N _ F) 3 w 159 ((j : Int) + 1) mm) _
          unfold X10_stores_L29_b
          rw [if_neg (by omega)]
          refine wp_b (gX6 r3) ?_
          refine wp_b (b3_R b33) ?_
          refine wp_b (x_dry hN (T := 159) r3 (Or.inl rfl) h13 hl3 n dw hc3 cb) ?_
          rw [show 999 - j = (999 - (j + 1)) + 1 from by omega] at e3
          by_cases y : dry I (stL I l (cms I l (I 15)) j) (cms I l (I 15)) = -1
          · have e4 : stA I l (cms I l (I 15)) w (999 - (j + 1)) (j + 1) = stA I l (cms I l (I 15)) w 999 0 := by
              rw [← e3]
              show _ = if dry I (stL I l (cms I l (I 15)) j) (cms I l (I 15)) = -1 then _ else _
              rw [if_pos y]
            rw [if_pos y]
            refine wp_b (gX6 r3) ?_
            refine wp_b (b3_R b33) ?_
            refine wp_bw (x_pour2 hN (T := 159) r3 (Or.inl rfl) h13 hl3 n dw hc3 cb (by omega)) (fun p hp => ?_)
            obtain ⟨_, p2, p3, p4⟩ := hp
            have o4 : ∀ a, ¬(a = 73 ∨ a = 73 + 3) → p.2 a = mm a := p4
            rw [wI_of2 (x := (j : Int) + 1 + 1) (by omega) (by omega)]
            exact ih ((j : Int) + 1) p.2 rfl ⟨p2, p3, fun a ha => by rw [o4 a (by omega), o3 a ha], e4⟩
          · rw [if_neg y]
            have e4 : (if w = 0 then (j : Int) + 1 else dry I (stL I l (cms I l (I 15)) j) (cms I l (I 15))) = stA I l (cms I l (I 15)) w 999 0 := by
              rw [← e3]
              show _ = if dry I (stL I l (cms I l (I 15)) j) (cms I l (I 15)) = -1 then _ else _
              rw [if_neg y]
            show Wp (if ¬w = 0 then _ else _) _
            by_cases y2 : w = 0
            · rw [if_pos y2] at e4
              rw [if_neg (fun u => u y2)]
              exact wp_some ⟨e4, r3, o3⟩
            · rw [if_neg y2] at e4
              rw [if_pos y2]
              exact wp_some ⟨e4, r3, o3⟩
        · obtain ⟨hl3, r3, o3, e3⟩ := hI
          show Wp (X10_stores_L29_b N _ (X10_stores_L29 N _ F) 3 w 159 (((999 : Nat) : Int) + 1) mm) _
          unfold X10_stores_L29_b
          rw [if_pos (by decide)]
          exact wp_some ⟨e3, r3, o3⟩
      obtain ⟨p, ep, q1, r2, o⟩ := go
      have hP := ht.2.1.1.1
      refine ⟨p, ep, q1, inv_fr2 ht r2 (fun a k hk => ?_) (to_off hn hP ht.2.2.2.2.2.1 r2 (fun a ha => o a (by omega))) (hg_off ht.2.2.2.2.2.2.2.1 (o 250 (by omega)) (o 257 (by omega)))⟩
      obtain ⟨q2, q3⟩ := sc2_of hk
      rw [o a (fun u => q2 (scr_6 (by omega)))]
    · by_cases qI : 0 < I 0 0
      · obtain ⟨mt, et, ht, nm, _⟩ := i_mtold hN h
        have go : Wp (X11_stores N 264 w m1) (fun p => p.1 = stA I l (cms I l (I 15)) w 999 0 ∧ LyF 1 mt p.2) := by
          unfold X11_stores
          refine wp_k k264 ?_
          refine wp_b (m_is _ _ _ _) ?_
          rw [← bi_t ⟨w0, w1⟩, if_neg (by decide)]
          refine wp_b (m_island h.1 h.2.1.2.2.2.2.1) ?_
          rw [← bi_t qI, if_pos (by decide)]
          refine wp_b et ?_
          have h := ht
          obtain ⟨r, ⟨b3, bb, b4, ps, md, mn⟩, ⟨z, n, kc, vl, cl, fx, cm⟩, ⟨hl, my, gl⟩, pa, to, zz, hg, wk, se, rd, te, fe, oe, kst⟩ := id h; have h1 := ps.1; have tc := gl.1; have hs := vl.2.2.2.2
          obtain ⟨m2, e2, my2, ly⟩ := m_copies (to := 1) (fr := 0) hN r my (by decide) (by decide)
          refine wp_b e2 ?_
          refine lw_1 (fun j mm => (∀ i : Nat, i < 5 → mm 299 (5 + i) = stL I l (cms I l (I 15)) j 2 i) ∧ LyF 1 mt mm ∧ stA I l (cms I l (I 15)) w (999 - j) j = stA I l (cms I l (I 15)) w 999 0) (fun F i mm => X11_stores_L31 N F 264 w (i + 1) mm) 999 _ (fun F j mm hj hI ih => ?_) (fun F mm hI => ?_) N m2 (by omega) ⟨fun i hi => ?_, ly, rfl⟩
          · obtain ⟨hd3, ly3, e3⟩ := hI
            have dw := stL_w hd (cms I l (I 15)) cb (j := j) (by omega)
            rw [show 999 - j = (999 - (j + 1)) + 1 from by omega] at e3
            show Wp (X11_stores_L31_b N (X11_stores_L31 N F) 264 w ((j : Int) + 1) mm) _
            unfold X11_stores_L31_b
            rw [if_neg (by omega)]
            refine lw_1 (fun k mk => (∀ i : Nat, i < 5 → mk 299 (5 + i) = if (i : Int) < k then pou I (stL I l (cms I l (I 15)) j 2 i) (cms I l (I 15) i) else stL I l (cms I l (I 15)) j 2 i) ∧ LyF 1 mt mk ∧ fnd (dryF I (stL I l (cms I l (I 15)) j) (cms I l (I 15))) 1 k = -1) (fun F2 i mk => X11_stores_L40 N _ F2 264 w ((j : Int) + 1) i mk) (nK I) _ (fun F2 k mk hk hI2 ih2 => ?_) (fun F2 mk hI2 => ?_) N mm (by omega) ⟨fun i hi => ?_, ly3, rfl⟩
            · obtain ⟨hd4, ly4, e4⟩ := hI2
              have dk := dw.1 k (by omega) (by omega)
              have ck := cb k
              have r4 := lyf_refs ly4 r
              have md4 := lyf_md ly4 md
              have my4 : MY mk 0 l (nT I) := lyf_my ly4 (by decide) my
              have nm4 : NM mk I l (I 15) := nm_off nm fun a a0 a1 => ly4.1 a (by omega)
              have hd5 := hd4 k (by omega)
              rw [if_neg (by omega)] at hd5
              show Wp (X11_stores_L40_b N _ (X11_stores_L40 N _ F2) 264 w ((j : Int) + 1) k mk) _
              unfold X11_stores_L40_b
              refine wp_b (gR21 r4) ?_
              refine wp_b (md_bank md4) ?_
              refine wp_b (md_s21 md4) ?_
              rw [if_neg (by omega)]
              refine wp_b (gR53 r4) ?_
              rw [wI_of2 (x := 5 + (k : Int)) (by omega) (by omega)]
              refine wp_b (arI 110 (by decide +kernel) (by omega) (by omega) mk) ?_
              rw [show (5 + (k : Int)).toNat = 5 + k from by omega, hd5]
              refine wp_b (m_comes0 hN r4 md4 my4 z n kc tc nm4 k) ?_
              rw [wI_of2 (x := stL I l (cms I l (I 15)) j 2 k + cms I l (I 15) k) (by omega) (by omega)]
              have jj : Wp (X11_stores_J86 N (X11_stores_L40 N (fun z23 z24 z25 m26 => X11_stores_L31 N F z23 z24 (wI (z25 + 1)) m26) F2) 264 w ((j : Int) + 1) k (min 9999 (stL I l (cms I l (I 15)) j 2 k + cms I l (I 15) k)) mk) (fun p => p.1 = stA I l (cms I l (I 15)) w 999 0 ∧ LyF 1 mt p.2) := by
                unfold X11_stores_J86
                refine wp_b (gR32 r4) ?_
                refine wp_b (md_bank md4) ?_
                refine wp_b (md_s32 md4) ?_
                have d2 := hd.2
                by_cases y : min 9999 (stL I l (cms I l (I 15)) j 2 k + cms I l (I 15) k) < I 17 0
                · have e5 : dry I (stL I l (cms I l (I 15)) j) (cms I l (I 15)) = k := fnd_yes e4 (bi_1.mpr y) hk
                  have e6 : (if w = 0 then (j : Int) + 1 else (k : Int)) = stA I l (cms I l (I 15)) w 999 0 := by
                    rw [← e3]
                    show _ = if dry I (stL I l (cms I l (I 15)) j) (cms I l (I 15)) = -1 then _ else if w = 0 then (j : Int) + 1 else dry I (stL I l (cms I l (I 15)) j) (cms I l (I 15))
                    rw [e5, if_neg (show ¬(k : Int) = -1 from by omega)]
                  rw [if_neg (by omega)]
                  by_cases y2 : w = 0
                  · rw [if_pos y2] at e6
                    rw [if_neg (fun u => u y2)]
                    exact wp_some ⟨e6, ly4⟩
                  · rw [if_neg y2] at e6
                    rw [if_pos y2]
                    exact wp_some ⟨e6, ly4⟩
                · rw [if_pos (by omega)]
                  refine wp_b (gR53 r4) ?_
                  refine wp_b (gR32 r4) ?_
                  refine wp_b (md_bank md4) ?_
                  refine wp_b (md_s32 md4) ?_
                  rw [wI_of2 (x := 5 + (k : Int)) (by omega) (by omega), wI_of2 (x := min 9999 (stL I l (cms I l (I 15)) j 2 k + cms I l (I 15) k) - I 17 0) (by omega) (by omega)]
                  obtain ⟨g, e, a4, k4⟩ := ar_stE (a := 299) (n := 110) (i := 5 + (k : Int)) (by decide +kernel) (by decide +kernel) (by decide) (by omega) (by omega) (min 9999 (stL I l (cms I l (I 15)) j 2 k + cms I l (I 15) k) - I 17 0) mk
                  rw [show (5 + (k : Int)).toNat = 5 + k from by omega] at a4 k4
                  refine wp_b e ?_
                  refine ih2 _ _ (by first | omega | (simp (disch := omega) only [wI_of2] <;> omega)) ⟨fun i hi => ?_, lyf_299 ly4 (fun x hx => k4 x (by omega)), fnd_no e4 (fun u => y (bi_1.mp u))⟩
                  rw [setA_same]
                  by_cases u : i = k
                  · rw [u, a4, if_pos (by omega)]
                    unfold pou
                    omega
                  · rw [k4 _ (by omega), hd4 i hi]
                    by_cases u2 : (i : Int) < k
                    · rw [if_pos u2, if_pos (by omega)]
                    · rw [if_neg u2, if_neg (by omega)]
              by_cases y : stL I l (cms I l (I 15)) j 2 k + cms I l (I 15) k ≤ 9999
              · rw [if_pos y]
                rw [show min 9999 (stL I l (cms I l (I 15)) j 2 k + cms I l (I 15) k) = stL I l (cms I l (I 15)) j 2 k + cms I l (I 15) k from by omega] at jj
                exact jj
              · rw [if_neg y]
                rw [show min 9999 (stL I l (cms I l (I 15)) j 2 k + cms I l (I 15) k) = 9999 from by omega] at jj
                exact jj
            · obtain ⟨hd4, ly4, e4⟩ := hI2
              have r4 := lyf_refs ly4 r
              have md4 := lyf_md ly4 md
              show Wp (X11_stores_L40_b N _ (X11_stores_L40 N _ F2) 264 w ((j : Int) + 1) (nK I) mk) _
              unfold X11_stores_L40_b
              refine wp_b (gR21 r4) ?_
              refine wp_b (md_bank md4) ?_
              refine wp_b (md_s21 md4) ?_
              rw [if_pos (by omega)]
              show Wp (X11_stores_L31 N F 264 w (wI ((j : Int) + 1 + 1)) mk) _
              rw [wI_of2 (x := (j : Int) + 1 + 1) (by omega) (by omega)]
              refine ih ((j : Int) + 1) mk rfl ⟨fun i hi => ?_, ly4, ?_⟩
              · rw [hd4 i hi, stL_2, ek]
              · rw [← e3]
                show _ = if dry I (stL I l (cms I l (I 15)) j) (cms I l (I 15)) = -1 then _ else _
                rw [if_pos (show dry I (stL I l (cms I l (I 15)) j) (cms I l (I 15)) = -1 from e4)]
            · rw [hd3 i hi, if_neg (by omega)]
          · obtain ⟨hd3, ly3, e3⟩ := hI
            show Wp (X11_stores_L31_b N (X11_stores_L31 N F) 264 w (((999 : Nat) : Int) + 1) mm) _
            unfold X11_stores_L31_b
            rw [if_pos (by decide)]
            exact wp_some ⟨e3, ly3⟩
          · have y := my2.2.2.2.1 i (by omega) (by omega)
            rw [show 5 * 1 + ((i : Nat) : Int).toNat = 5 + i from by omega] at y
            exact y
        obtain ⟨p, ep, q1, ly⟩ := go
        exact ⟨p, ep, q1, P, b, I, l, s, inv_m ht (fun a k hk => sc_ly1 ly hk) (fun a ha => ly.1 a (by omega))⟩
      · obtain ⟨r, ⟨b3, bb, b4, ps, md, mn⟩, ⟨z, n, kc, vl, cl, fx, cm⟩, ⟨hl, my, gl⟩, pa, to, zz, hg, wk, se, rd, te, fe, oe, kst⟩ := id h; have h1 := ps.1; have tc := gl.1; have hs := vl.2.2.2.2
        have nk : nK I = 0 := by
          rcases Nat.eq_zero_or_pos (nK I) with u | u
          · exact u
          · have y := hk 0 (by omega) (by omega)
            have y2 := nC_pos hz
            omega
        have e : ∀ r j, stA I l (cms I l (I 15)) w r j = -1 := by
          intro r
          induction r with
          | zero => intro j; rfl
          | succ r ih =>
            intro j
            show (if dry I (stL I l (cms I l (I 15)) j) (cms I l (I 15)) = -1 then _ else _) = -1
            rw [if_pos (by unfold dry; rw [nk]; rfl)]
            exact ih (j + 1)
        unfold X11_stores
        refine wp_k k264 ?_
        refine wp_b (m_is _ _ _ _) ?_
        rw [← bi_t ⟨w0, w1⟩, if_neg (by decide)]
        refine wp_b (m_island r md) ?_
        rw [← bi_f qI, if_neg (by decide)]
        exact wp_some ⟨(e _ _).symm, P, b, I, l, s, h⟩
  · refine comb (P := P) (b := b) (I := I) (l := l) (s := s) (-1) ?_ (fun m1 h => ?_)
    · obtain ⟨r, ⟨b3, bb, b4, ps, md, mn⟩, ⟨z, n, kc, vl, cl, fx, cm⟩, ⟨hl, my, gl⟩, pa, to, zz, hg, wk, se, rd, te, fe, oe, kst⟩ := id h; have h1 := ps.1; have tc := gl.1; have hs := vl.2.2.2.2
      unfold X10_stores
      refine wp_k k3 ?_
      by_cases y : w < 0
      · rw [if_pos y]; exact wp_some ⟨rfl, h⟩
      · rw [if_neg y, if_neg (by omega)]; exact wp_some ⟨rfl, h⟩
    · obtain ⟨r, ⟨b3, bb, b4, ps, md, mn⟩, ⟨z, n, kc, vl, cl, fx, cm⟩, ⟨hl, my, gl⟩, pa, to, zz, hg, wk, se, rd, te, fe, oe, kst⟩ := id h; have h1 := ps.1; have tc := gl.1; have hs := vl.2.2.2.2
      unfold X11_stores
      refine wp_k k264 ?_
      refine wp_b (m_is _ _ _ _) ?_
      rw [← bi_f q, if_pos (by decide)]
      exact wp_some ⟨rfl, P, b, I, l, s, h⟩
