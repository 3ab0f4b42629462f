/-! whole -/
theorem m_L132 {N : Nat} (hN : 2000 ≤ N) {m : Mem} {b : Nat} {I : Isl} {l : Lnd} {sk : Int → Int} (r : Refs m) (md : MD m b I) (n : Cn I) (nm : NM m I l sk) {K : Int → Int → Int → Int → Int → Int → Mem → Option (Int × Mem)} {Q : Int × Mem → Prop} {a al go be : Int} (hK : Wp (K a al go (dwA I l sk (nT I)) be (fmx (dwF I l sk) (nT I)) m) Q) : Wp (X11_whole_L132 N K N 264 a al go 0 be (-1) 0 m) Q := by
  obtain ⟨n1, n2, n3, n4, n5, n6⟩ := id n
  refine lw_2 (fun j (x : Int × Int) mm => x = (dwA I l sk j, fmx (dwF I l sk) j) ∧ mm = m) (fun F x i mm => X11_whole_L132 N K F 264 a al go x.1 be x.2 i mm) (nT I) _ (fun F j x mm hj hI ih => ?_) (fun F x mm hI => ?_) N (0, -1) m (by omega) ⟨rfl, rfl⟩
  · obtain ⟨hx, hm⟩ := hI
    subst hm
    subst hx
    have b1 := dwA_in I l sk (j + 1)
    have e1 : dwA I l sk (j + 1) = dwA I l sk j + dwt I l sk (l 1 j) (I 10 j) 12 := rfl
    have fi := fmx_in (dwF I l sk) j
    have hd : X11_dawnOf 264 j mm = some (dwF I l sk j) := m_dawn2 r n nm (by omega) (by omega)
    show Wp (X11_whole_L132_b N K (X11_whole_L132 N K F) 264 a al go (dwA I l sk j) be (fmx (dwF I l sk) j) j mm) _
    unfold X11_whole_L132_b
    refine wp_b (gR23 r) ?_
    refine wp_b (md_bank md) ?_
    refine wp_b (md_s23 md) ?_
    rw [if_neg (by omega)]
    refine wp_b hd ?_
    refine wp_b hd ?_
    rw [show wI (dwA I l sk j + dwF I l sk j) = dwA I l sk (j + 1) from by rw [e1]; exact wI_of2 (x := dwA I l sk j + dwt I l sk (l 1 j) (I 10 j) 12) (by omega) (by omega)]
    have J179 : Wp (X11_whole_J179 N (X11_whole_L132 N K F) 264 a al go (dwA I l sk (j + 1)) be (fmx (dwF I l sk) j) j (dwF I l sk j) (fmz (dwF I l sk) j) mm) Q := by
      unfold X11_whole_J179 X11_whole_J186
      by_cases q : fmz (dwF I l sk) j < dwF I l sk j
      · rw [if_neg (by omega)]
        exact ih (dwA I l sk (j + 1), (j : Int)) _ mm (by first | omega | (simp (disch := omega) only [wI_of2] <;> omega)) ⟨by rw [fmx_s, if_pos q], rfl⟩
      · rw [if_pos (by omega)]
        exact ih (dwA I l sk (j + 1), fmx (dwF I l sk) j) _ mm (by first | omega | (simp (disch := omega) only [wI_of2] <;> omega)) ⟨by rw [fmx_s, if_neg q], rfl⟩
    by_cases y : fmx (dwF I l sk) j = -1
    · have e4 : fmz (dwF I l sk) j = 0 := by unfold fmz; exact if_pos y
      rw [e4] at J179
      rw [if_neg (fun u => u y)]
      exact J179
    · have e4 : fmz (dwF I l sk) j = dwF I l sk (fmx (dwF I l sk) j).toNat := by unfold fmz; exact if_neg y
      have e5 : (((fmx (dwF I l sk) j).toNat : Nat) : Int) = fmx (dwF I l sk) j := Int.toNat_of_nonneg (by omega)
      have ci : X11_dawnOf 264 (((fmx (dwF I l sk) j).toNat : Nat) : Int) mm = some (dwF I l sk (fmx (dwF I l sk) j).toNat) := m_dawn2 r n nm (by omega) (by omega)
      rw [e5, ← e4] at ci
      rw [if_pos y]
      refine wp_b ci ?_
      exact J179
  · obtain ⟨hx, hm⟩ := hI
    subst hm
    subst hx
    show Wp (X11_whole_L132_b N K (X11_whole_L132 N K F) 264 a al go (dwA I l sk (nT I)) be (fmx (dwF I l sk) (nT I)) (nT I) mm) _
    unfold X11_whole_L132_b
    refine wp_b (gR23 r) ?_
    refine wp_b (md_bank md) ?_
    refine wp_b (md_s23 md) ?_
    rw [if_pos (by omega)]
    exact hK
theorem whole_ok {N : Nat} (hN : 2000 ≤ N) {m : Mem} (h : Inv m) (w : Int) : ∃ v m1 m2, X10_whole N 3 w m = some (v, m1) ∧ X11_whole N 264 w m1 = some (v, m2) ∧ Inv m2 := by
  obtain ⟨P, b, I, l, s, h⟩ := h
  by_cases q : 0 < I 0 0 ∧ 0 ≤ w ∧ w ≤ 4
  · obtain ⟨q0, w0, w1⟩ := q
    have key : ∀ v : Int, (w = 0 → v = cmA I l (I 15) 12) → (w = 1 → v = cmA I l (I 15) 12 - dwA I l (I 15) (nT I)) → (w = 2 → v = dwA I l (I 15) (nT I)) → (w = 3 → v = hrO (fmx (cinA I l (I 15)) 12)) → (w = 4 → v = fmx (dwF I l (I 15)) (nT I)) → ∃ v m1 m2, X10_whole N 3 w m = some (v, m1) ∧ X11_whole N 264 w m1 = some (v, m2) ∧ Inv m2 := by
      intro v v0 v1 v2 v3 v4
      refine comb (P := P) (b := b) (I := I) (l := l) (s := s) v ?_ (fun m1 h => ?_)
      · obtain ⟨r, ⟨b3, bb, b4, ps, md, mn⟩, ⟨z, n, kc, vl, cl, fx, cm⟩, ⟨hl, my, gl⟩, pa, to, zz, hg, wk, se, rd, te, fe, oe, kst⟩ := id h; have h1 := ps.1; have tc := gl.1; have hs := vl.2.2.2.2
        obtain ⟨mt, et, ht, nx, _⟩ := i_told2 hN h
        have hT9 : isN 159 := Or.inl rfl
        have b3t := ht.2.1.1
        have pt := ht.2.1.2.2.2.1.1
        unfold X10_whole
        refine wp_k k3 ?_
        refine wp_b (x_land b3 h1 z) ?_
        rw [← bi_t q0, if_pos (by decide)]
        by_cases y0 : w = 0
        · rw [if_pos y0]
          refine wp_b et ?_
          refine wp_b (b3_R b3t) ?_
          refine wp_b (x_allCame hN hT9 pt n nx) ?_
          exact wp_some ⟨(v0 y0).symm, ht⟩
        rw [if_neg y0]
        by_cases y1 : w = 1
        · rw [if_pos y1]
          refine wp_b et ?_
          refine wp_b (b3_R b3t) ?_
          refine wp_b (x_allDried hN hT9 pt n nx) ?_
          exact wp_some ⟨(v1 y1).symm, ht⟩
        rw [if_neg y1]
        by_cases y2 : w = 2
        · rw [if_pos y2]
          refine wp_b et ?_
          refine wp_b (b3_R b3t) ?_
          refine wp_b (x_allByDawn hN hT9 pt n nx) ?_
          exact wp_some ⟨(v2 y2).symm, ht⟩
        rw [if_neg y2]
        by_cases y3 : w = 3
        · rw [if_pos y3]
          refine wp_b et ?_
          refine wp_b (b3_R b3t) ?_
          refine wp_b (x_fullestHour hN hT9 pt n nx) ?_
          exact wp_some ⟨(v3 y3).symm, ht⟩
        rw [if_neg y3, if_pos (by omega)]
        refine wp_b et ?_
        refine wp_b (b3_R b3t) ?_
        refine wp_b (x_fullestThing hN hT9 pt n nx) ?_
        exact wp_some ⟨(v4 (by omega)).symm, ht⟩
      · obtain ⟨r, ⟨b3, bb, b4, ps, md, mn⟩, ⟨z, n, kc, vl, cl, fx, cm⟩, ⟨hl, my, gl⟩, pa, to, zz, hg, wk, se, rd, te, fe, oe, kst⟩ := id h; have h1 := ps.1; have tc := gl.1; have hs := vl.2.2.2.2
        obtain ⟨mt, et, ht, nm, _⟩ := i_mtold hN h
        have rt := ht.1
        have mdt := ht.2.1.2.2.2.2.1
        have hI : Inv mt := ⟨P, b, I, l, s, ht⟩
        unfold X11_whole
        refine wp_k k264 ?_
        refine wp_b (m_island r md) ?_
        rw [← bi_t q0, if_neg (by decide)]
        refine wp_b (m_is _ _ _ _) ?_
        rw [← bi_t ⟨w0, w1⟩, if_pos (by decide)]
        refine wp_b et ?_
        refine m_L39 hN rt mdt n nm ?_
        refine m_L132 hN rt mdt n nm ?_
        rw [drA_12]
        by_cases y0 : w = 0
        · rw [if_neg (fun u => u y0)]
          exact wp_some ⟨(v0 y0).symm, hI⟩
        rw [if_pos y0]
        by_cases y1 : w = 1
        · rw [if_neg (fun u => u y1)]
          exact wp_some ⟨(v1 y1).symm, hI⟩
        rw [if_pos y1]
        by_cases y2 : w = 2
        · rw [if_neg (fun u => u y2)]
          exact wp_some ⟨(v2 y2).symm, hI⟩
        rw [if_pos y2]
        by_cases y3 : w = 3
        · rw [if_neg (fun u => u y3)]
          exact wp_some ⟨(v3 y3).symm, hI⟩
        rw [if_pos y3]
        exact wp_some ⟨(v4 (by omega)).symm, hI⟩
    have c : w = 0 ∨ w = 1 ∨ w = 2 ∨ w = 3 ∨ w = 4 := by omega
    rcases c with c | c | c | c | c
    · exact key _ (fun _ => rfl) (fun u => by omega) (fun u => by omega) (fun u => by omega) (fun u => by omega)
    · exact key _ (fun u => by omega) (fun _ => rfl) (fun u => by omega) (fun u => by omega) (fun u => by omega)
    · exact key _ (fun u => by omega) (fun u => by omega) (fun _ => rfl) (fun u => by omega) (fun u => by omega)
    · exact key _ (fun u => by omega) (fun u => by omega) (fun u => by omega) (fun _ => rfl) (fun u => by omega)
    · exact key _ (fun u => by omega) (fun u => by omega) (fun u => by omega) (fun u => by omega) (fun _ => rfl)
  · refine comb (P := P) (b := b) (I := I) (l := l) (s := s) (-1) ?_ (fun m1 h => ?_)
    · obtain ⟨r, ⟨b3, bb, b4, ps, md, mn⟩, ⟨z, n, kc, vl, cl, fx, cm⟩, ⟨hl, my, gl⟩, pa, to, zz, hg, wk, se, rd, te, fe, oe, kst⟩ := id h; have h1 := ps.1; have tc := gl.1; have hs := vl.2.2.2.2
      (unfold X10_whole; repeat' ((with_reducible show Wp _ _); first | with_reducible exact wp_some rfl | with_reducible refine wp_some ?_ | with_reducible refine wp_z0 ?_ | with_reducible refine wp_z1 ?_ | with_reducible refine wp_k k3 ?_ | with_reducible refine wp_b (b3_R (by assumption)) ?_ | with_reducible refine wp_b (x_land (by assumption) (by assumption) (by assumption)) ?_ | (with_reducible refine wp_if (fun hc => ?_) (fun hc => ?_) <;> (try simp (disch := omega) only [isC, bi_0, bi_1, wI_of2, Decidable.not_not, not_true_eq_false, not_false_eq_true] at hc) <;> (try (exfalso; omega)))))
      all_goals exact ⟨rfl, h⟩
    · obtain ⟨r, ⟨b3, bb, b4, ps, md, mn⟩, ⟨z, n, kc, vl, cl, fx, cm⟩, ⟨hl, my, gl⟩, pa, to, zz, hg, wk, se, rd, te, fe, oe, kst⟩ := id h; have h1 := ps.1; have tc := gl.1; have hs := vl.2.2.2.2
      (unfold X11_whole; repeat' ((with_reducible show Wp _ _); first | with_reducible exact wp_some rfl | with_reducible refine wp_some ?_ | with_reducible refine wp_z0 ?_ | with_reducible refine wp_z1 ?_ | with_reducible refine wp_k k264 ?_ | with_reducible refine wp_b (m_island r md) ?_ | with_reducible refine wp_b (m_is _ _ _ _) ?_ | (with_reducible refine wp_if (fun hc => ?_) (fun hc => ?_) <;> (try simp (disch := omega) only [isC, bi_0, bi_1, wI_of2, Decidable.not_not, not_true_eq_false, not_false_eq_true] at hc) <;> (try (exfalso; omega)))))
      all_goals exact ⟨rfl, ⟨P, b, I, l, s, h⟩⟩
