/-! whole: the reference's loops -/
theorem m_L87 {N : Nat} (hN : 2000 ≤ N) {m : Mem} {b : Nat} {I : Isl} {l : Lnd} {sk : Int → Int} (r : Refs m) (md : MD m b I) (n : Cn I) (nm : NM m I l sk) {h : Nat} (hh : h < 12) {K : Nat → Int → Int → Int → Int → Int → Int → Int → Mem → Option (Int × Mem)} {Q : Int × Mem → Prop} {a al go th be mo : Int} (g0 : 0 ≤ go) (g1 : go ≤ 1000000) (hK : Wp (K 264 a al (go + din I l sk h (nT I)) th be mo ((h : Int) + 1) m) Q) : Wp (X11_whole_L87 N K N 264 a al go th be mo ((h : Int) + 1) 0 m) Q := by
  obtain ⟨n1, n2, n3, n4, n5, n6⟩ := id n
  refine lw_2 (fun j x mm => x = go + din I l sk h j ∧ mm = m) (fun F x i mm => X11_whole_L87 N K F 264 a al x th be mo ((h : Int) + 1) i mm) (nT I) _ (fun F j x mm hj hI ih => ?_) (fun F x mm hI => ?_) N go m (by omega) ⟨by show go = go + 0; omega, rfl⟩
  · obtain ⟨hx, hm⟩ := hI
    subst hm
    have b2 := din_in I l sk h (j + 1) (by omega)
    have e : din I l sk h (j + 1) = din I l sk h j + dri I l sk (l 1 j) (I 10 j) h := rfl
    have la := (nm.2.2 h j hh hj).2.1
    show Wp (X11_whole_L87_b N K (X11_whole_L87 N K F) 264 a al x th be mo ((h : Int) + 1) j mm) _
    unfold X11_whole_L87_b
    refine wp_b (gR23 r) ?_
    refine wp_b (md_bank md) ?_
    refine wp_b (md_s23 md) ?_
    rw [if_neg (by omega)]
    refine wp_b (gR65 r) ?_
    rw [wI_of2 (x := 10 * ((h : Int) + 1)) (by omega) (by omega), wI_of2 (x := 10 * ((h : Int) + 1) + j) (by omega) (by omega)]
    refine wp_b (arI 130 (by decide +kernel) (by omega) (by omega) mm) ?_
    rw [show (10 * ((h : Int) + 1) + (j : Int)).toNat = 10 * (h + 1) + j from by omega, la]
    exact ih _ _ _ (by first | omega | (simp (disch := omega) only [wI_of2] <;> omega)) ⟨by rw [hx, e, wI_of2 (by omega) (by omega)]; omega, rfl⟩
  · obtain ⟨hx, hm⟩ := hI
    subst hm
    show Wp (X11_whole_L87_b N K (X11_whole_L87 N K F) 264 a al x th be mo ((h : Int) + 1) (nT I) mm) _
    unfold X11_whole_L87_b
    refine wp_b (gR23 r) ?_
    refine wp_b (md_bank md) ?_
    refine wp_b (md_s23 md) ?_
    rw [if_pos (by omega), hx]
    exact hK
theorem m_L39 {N : Nat} (hN : 2000 ≤ N) {m : Mem} {b : Nat} {I : Isl} {l : Lnd} {sk : Int → Int} (r : Refs m) (md : MD m b I) (n : Cn I) (nm : NM m I l sk) {K : Nat → Int → Int → Int → Int → Int → Int → Mem → Option (Int × Mem)} {Q : Int × Mem → Prop} {a : Int} (hK : Wp (K 264 a (cmA I l sk 12) (drA I l sk 12) 0 (hrO (fmx (cinA I l sk) 12)) (-1) m) Q) : Wp (X11_whole_L39 N K N 264 a 0 0 0 (-1) (-1) 1 m) Q := by
  obtain ⟨n1, n2, n3, n4, n5, n6⟩ := id n
  refine lw_2 (fun j (x : Int × Int × Int) mm => x = (cmA I l sk j, drA I l sk j, hrO (fmx (cinA I l sk) j)) ∧ mm = m) (fun F x i mm => X11_whole_L39 N K F 264 a x.1 x.2.1 0 x.2.2 (-1) (i + 1) mm) 12 _ (fun F j x mm hj hI ih => ?_) (fun F x mm hI => ?_) N (0, 0, -1) m (by omega) ⟨?_, rfl⟩
  · obtain ⟨hx, hm⟩ := hI
    subst hm
    subst hx
    have b1 := cmA_in n l sk (j + 1)
    have e1 : cmA I l sk (j + 1) = cmA I l sk j + cinA I l sk j := rfl
    have b2 := drA_in n l sk j (by omega)
    have e2 : drA I l sk (j + 1) = drA I l sk j + din I l sk j (nT I) := rfl
    have fi := fmx_in (cinA I l sk) j
    show Wp (X11_whole_L39_b N K (X11_whole_L39 N K F) 264 a (cmA I l sk j) (drA I l sk j) 0 (hrO (fmx (cinA I l sk) j)) (-1) ((j : Int) + 1) mm) _
    unfold X11_whole_L39_b
    rw [if_neg (by omega)]
    refine wp_b (m_cameIn hN r md n nm hj) ?_
    refine wp_b (m_cameIn hN r md n nm hj) ?_
    rw [show wI (cmA I l sk j + cinA I l sk j) = cmA I l sk (j + 1) from by rw [e1]; exact wI_of2 (by omega) (by omega)]
    have J84 : ∀ be, be = hrO (fmx (cinA I l sk) (j + 1)) → Wp (X11_whole_J84 N (X11_whole_L39 N K F) 264 a (cmA I l sk (j + 1)) (drA I l sk j) 0 be (-1) ((j : Int) + 1) mm) Q := by
      intro be hbe
      unfold X11_whole_J84
      refine m_L87 hN r md n nm hj b2.1 (by omega) ?_
      show Wp (X11_whole_L39 N K F 264 a (cmA I l sk (j + 1)) (drA I l sk j + din I l sk j (nT I)) 0 be (-1) (wI ((j : Int) + 1 + 1)) mm) Q
      rw [show wI ((j : Int) + 1 + 1) = ((j : Int) + 1) + 1 from wI_of2 (by omega) (by omega)]
      exact ih (cmA I l sk (j + 1), drA I l sk j + din I l sk j (nT I), be) ((j : Int) + 1) mm rfl ⟨by rw [hbe, e2], rfl⟩
    have J77 : Wp (X11_whole_J77 N (X11_whole_L39 N K F) 264 a (cmA I l sk (j + 1)) (drA I l sk j) 0 (hrO (fmx (cinA I l sk) j)) (-1) ((j : Int) + 1) (cinA I l sk j) (fmz (cinA I l sk) j) mm) Q := by
      unfold X11_whole_J77
      by_cases q : fmz (cinA I l sk) j < cinA I l sk j
      · rw [if_neg (by omega)]
        exact J84 _ (by rw [fmx_s, if_pos q]; unfold hrO; rw [if_neg (by omega)])
      · rw [if_pos (by omega)]
        exact J84 _ (by rw [fmx_s, if_neg q])
    by_cases y : fmx (cinA I l sk) j = -1
    · have e3 : hrO (fmx (cinA I l sk) j) = -1 := by unfold hrO; exact if_pos y
      have e4 : fmz (cinA I l sk) j = 0 := by unfold fmz; exact if_pos y
      rw [e4] at J77
      rw [if_neg (fun u => u e3)]
      exact J77
    · have e3 : hrO (fmx (cinA I l sk) j) = fmx (cinA I l sk) j + 1 := by unfold hrO; exact if_neg y
      have e4 : fmz (cinA I l sk) j = cinA I l sk (fmx (cinA I l sk) j).toNat := by unfold fmz; exact if_neg y
      have e5 : (((fmx (cinA I l sk) j).toNat : Nat) : Int) = fmx (cinA I l sk) j := Int.toNat_of_nonneg (by omega)
      have ci := m_cameIn hN r md n nm (h := (fmx (cinA I l sk) j).toNat) (by omega)
      rw [e5, ← e3] at ci
      rw [if_pos (by rw [e3]; omega)]
      refine wp_b ci ?_
      rw [← e4]
      exact J77
  · obtain ⟨hx, hm⟩ := hI
    subst hm
    subst hx
    show Wp (X11_whole_L39_b N K (X11_whole_L39 N K F) 264 a (cmA I l sk 12) (drA I l sk 12) 0 (hrO (fmx (cinA I l sk) 12)) (-1) (((12 : Nat) : Int) + 1) mm) _
    unfold X11_whole_L39_b
    rw [if_pos (by decide)]
    exact hK
  · have b0 : hrO (fmx (cinA I l sk) 0) = -1 := by unfold hrO; exact if_pos rfl
    rw [b0]
    rfl
