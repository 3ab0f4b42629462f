/-! the reference's night, whole -/
/-- a night of the reference that has been gone through -/
def NM (m : Mem) (I : Isl) (l : Lnd) (sk : Int → Int) : Prop := (∀ h : Nat, h < 12 → m 301 h = sk ((h : Int) + 1)) ∧ (∀ h : Nat, h ≤ 12 → ∀ c : Int, 0 ≤ c → c < nC I → m 302 (42 * h + c.toNat) = cold I l sk c h) ∧ ∀ h t : Nat, h < 12 → t < nT I → DwM m h t I l sk
theorem m_goes {N : Nat} (hN : 2000 ≤ N) {m : Mem} {b v : Nat} {I : Isl} {l : Lnd} {sk : Int → Int} (r : Refs m) (md : MD m b I) (my : MY m v l (nT I)) (z : Sz I) (n : Cn I) (vl : Vl I) (tc : Tc I l) (hs : ∀ h : Nat, h < 12 → m 301 h = sk ((h : Int) + 1)) : Wp (X11_goesNight N 264 v m) (fun m2 => NtF m m2 ∧ NM m2 I l sk) := by
  have z7 := z.2.2.2.2.2.2
  obtain ⟨n1, n2, n3, n4, n5, n6⟩ := id n
  have ht : Ht I := vl.1
  unfold X11_goesNight
  refine wp_k k264 ?_
  refine lw_1 (fun j mm => NtF m mm ∧ mm 301 = m 301 ∧ ∀ x, x < j → mm 302 x = 0) (fun F i mm => X11_goesNight_L2 N _ F 264 v i mm) 42 _ (fun F j mm hj hI ih => ?_) (fun F mm hI => ?_) N m (by omega) ⟨ntf_refl m, rfl, fun x hx => absurd hx (by omega)⟩
  · obtain ⟨f, e1, e2⟩ := hI
    show Wp (X11_goesNight_L2_b N _ (X11_goesNight_L2 N _ F) 264 v j mm) _
    unfold X11_goesNight_L2_b
    rw [if_neg (by omega)]
    refine wp_b (gR63 (ntf_refs f r)) ?_
    obtain ⟨g, e, a, k⟩ := ar_stE (a := 302) (n := 546) (i := (j : Int)) (by decide +kernel) (by decide +kernel) (by decide) (by omega) (by omega) 0 mm
    refine wp_b e ?_
    refine ih _ _ (by first | omega | (simp (disch := omega) only [wI_of2] <;> omega)) ⟨ntf_set f (by omega) g, by rw [setA_ne (by decide)]; exact e1, fun x hx => ?_⟩
    rw [setA_same]
    by_cases q : x = j
    · rw [q]; exact a
    · rw [k x (by omega)]; exact e2 x (by omega)
  obtain ⟨f, e1, e2⟩ := hI
  show Wp (X11_goesNight_L2_b N _ (X11_goesNight_L2 N _ F) 264 v (42 : Nat) mm) _
  unfold X11_goesNight_L2_b
  rw [if_pos (by decide)]
  refine lw_1 (fun j m2 => NtF m m2 ∧ m2 301 = m 301 ∧ (∀ x, x < 42 → m2 302 x = 0) ∧ ∀ x, x < j → m2 305 x = 0) (fun F i m2 => X11_goesNight_L23 N _ F 264 v i m2) 10 _ (fun F j m2 hj hI ih => ?_) (fun F m2 hI => ?_) N mm (by omega) ⟨f, e1, e2, fun x hx => absurd hx (by omega)⟩
  · obtain ⟨f, e1, e2, e3⟩ := hI
    show Wp (X11_goesNight_L23_b N _ (X11_goesNight_L23 N _ F) 264 v j m2) _
    unfold X11_goesNight_L23_b
    rw [if_neg (by omega)]
    refine wp_b (gR66 (ntf_refs f r)) ?_
    obtain ⟨g, e, a, k⟩ := ar_stE (a := 305) (n := 130) (i := (j : Int)) (by decide +kernel) (by decide +kernel) (by decide) (by omega) (by omega) 0 m2
    refine wp_b e ?_
    refine ih _ _ (by first | omega | (simp (disch := omega) only [wI_of2] <;> omega)) ⟨ntf_set f (by omega) g, by rw [setA_ne (by decide)]; exact e1, fun x hx => by rw [setA_ne (by decide)]; exact e2 x hx, fun x hx => ?_⟩
    rw [setA_same]
    by_cases q : x = j
    · rw [q]; exact a
    · rw [k x (by omega)]; exact e3 x (by omega)
  obtain ⟨f, e1, e2, e3⟩ := hI
  show Wp (X11_goesNight_L23_b N _ (X11_goesNight_L23 N _ F) 264 v (10 : Nat) m2) _
  unfold X11_goesNight_L23_b
  rw [if_pos (by decide)]
  refine lw_1 (fun j m3 => NtF m m3 ∧ m3 301 = m 301 ∧ (∀ h : Nat, h ≤ j → ∀ c : Int, 0 ≤ c → c < nC I → m3 302 (42 * h + c.toNat) = cold I l sk c h) ∧ (∀ h t : Nat, h < j → t < nT I → DwM m3 h t I l sk) ∧ ∀ t : Nat, t < nT I → m3 305 (10 * j + t) = dwt I l sk (l 1 t) (I 10 t) j) (fun F i m3 => X11_goesNight_L44 N F 264 v (i + 1) m3) 12 _ (fun F j m3 hj hI ih => ?_) (fun F m3 hI => ?_) N m2 (by omega) ⟨f, e1, fun h hh c c0 c1 => ?_, fun h t hh => absurd hh (by omega), fun t ht => ?_⟩
  · obtain ⟨f3, s3, co, dw, wt⟩ := hI
    show Wp (X11_goesNight_L44_b N (X11_goesNight_L44 N F) 264 v ((j : Int) + 1) m3) _
    unfold X11_goesNight_L44_b
    rw [if_neg (by omega)]
    refine wp_bw (m_colds hN (sk := sk) (ntf_refs f3 r) (ntf_md f3 md) (ntf_my f3 my) z ht hj (by rw [s3]; exact hs j hj) (co j (Nat.le_refl _))) (fun m4 hm4 => ?_)
    obtain ⟨g, hg, g0, ga⟩ := hm4
    have f4 : NtF m m4 := by rw [hg]; exact ntf_set f3 (by omega) g
    have s4 : m4 301 = m 301 := by rw [hg, setA_ne (by decide)]; exact s3
    have c4 : m4 302 = g := by rw [hg]; exact setA_same _ _ _
    have w4 : ∀ a, a = 303 ∨ a = 304 ∨ a = 305 → m4 a = m3 a := fun a ha => by rw [hg]; exact setA_ne (by omega) _ _
    refine wp_bw (m_dews hN (sk := sk) (ntf_refs f4 r) (ntf_md f4 md) (ntf_my f4 my) z n vl tc hj (by rw [s4]; exact hs j hj) (by rw [c4]; exact ga) (fun t ht => by rw [w4 305 (by omega)]; exact wt t ht)) (fun m5 hm5 => ?_)
    obtain ⟨⟨f5, s5, c5, k5⟩, d5⟩ := hm5
    rw [show wI ((j : Int) + 1 + 1) = ((j : Int) + 1) + 1 from wI_of2 (by omega) (by omega)]
    refine ih ((j : Int) + 1) _ rfl ⟨ntf_trans f4 f5, by rw [s5, s4], fun h hh c c0 c1 => ?_, fun h t hh ht2 => ?_, fun t ht2 => (d5 t ht2).2.2⟩
    · rw [c5, c4]
      by_cases q : h = j + 1
      · rw [q]; exact ga c c0 c1
      · rw [g0 _ (by omega)]; exact co h (by omega) c c0 c1
    · by_cases q : h = j
      · rw [q]; exact d5 t ht2
      · refine dwm_keep (dw h t (by omega) ht2) fun a ha => ?_
        have kk := k5 (10 * (h + 1) + t) (by omega)
        rcases ha with y | y | y <;> subst y
        · rw [kk.1, w4 303 (by omega)]
        · rw [kk.2.1, w4 304 (by omega)]
        · rw [kk.2.2, w4 305 (by omega)]
  · obtain ⟨f3, s3, co, dw, wt⟩ := hI
    show Wp (X11_goesNight_L44_b N (X11_goesNight_L44 N F) 264 v (((12 : Nat) : Int) + 1) m3) _
    unfold X11_goesNight_L44_b
    rw [if_pos (by decide)]
    exact wp_some ⟨f3, fun h hh => by rw [s3]; exact hs h hh, co, dw⟩
  · rw [show h = 0 from by omega, e2 _ (by omega)]
    show 0 = flw I l c * 0
    omega
  · rw [e3 _ (by omega)]; rfl
theorem md_r27 {m : Mem} {b : Nat} {I : Isl} (h : MD m b I) {i : Int} (h0 : 0 ≤ i) (h1 : i < 12) : aldI 279 (wI (wI (12 * (b : Int)) + i)) m = some (I 15 (i + 1)) := wao (K := 12) (len := 12) (n := 24) (f := fun i => I 15 (i + 1)) (by decide +kernel) (by have := h.1.1; omega) (by decide) h.2.2.2.2.2.2.2.1 h0 h1
theorem m_told {N : Nat} (hN : 2000 ≤ N) {m : Mem} {b v : Nat} {I : Isl} {l : Lnd} (r : Refs m) (md : MD m b I) (my : MY m v l (nT I)) (z : Sz I) (n : Cn I) (vl : Vl I) (tc : Tc I l) : Wp (X11_nightAsTold N 264 v m) (fun m2 => NtF m m2 ∧ NM m2 I l (I 15)) := by
  unfold X11_nightAsTold
  refine wp_k k264 ?_
  refine lw_1 (fun j mm => NtF m mm ∧ ∀ x : Nat, x < j → mm 301 x = I 15 ((x : Int) + 1)) (fun F i mm => X11_nightAsTold_L2 N _ F 264 v i mm) 12 _ (fun F j mm hj hI ih => ?_) (fun F mm hI => ?_) N m (by omega) ⟨ntf_refl m, fun x hx => absurd hx (by omega)⟩
  · obtain ⟨f, e1⟩ := hI
    show Wp (X11_nightAsTold_L2_b N _ (X11_nightAsTold_L2 N _ F) 264 v j mm) _
    unfold X11_nightAsTold_L2_b
    rw [if_neg (by omega)]
    refine wp_b (gR62 (ntf_refs f r)) ?_
    refine wp_b (gR27 (ntf_refs f r)) ?_
    refine wp_b (md_bank (ntf_md f md)) ?_
    refine wp_b (md_r27 (ntf_md f md) (by omega) (by omega)) ?_
    obtain ⟨g, e, a, k⟩ := ar_stE (a := 301) (n := 12) (i := (j : Int)) (by decide +kernel) (by decide +kernel) (by decide) (by omega) (by omega) (I 15 ((j : Int) + 1)) mm
    refine wp_b e ?_
    refine ih _ _ (by first | omega | (simp (disch := omega) only [wI_of2] <;> omega)) ⟨ntf_set f (by omega) g, fun x hx => ?_⟩
    rw [setA_same]
    by_cases q : x = j
    · rw [q]; exact a
    · rw [k x (by omega)]; exact e1 x (by omega)
  · obtain ⟨f, e1⟩ := hI
    show Wp (X11_nightAsTold_L2_b N _ (X11_nightAsTold_L2 N _ F) 264 v (12 : Nat) mm) _
    unfold X11_nightAsTold_L2_b
    rw [if_pos (by decide)]
    refine wp_bw (m_goes hN (sk := I 15) (ntf_refs f r) (ntf_md f md) (ntf_my f my) z n vl tc e1) (fun m2 hm2 => ?_)
    exact wp_some ⟨ntf_trans f hm2.1, hm2.2⟩
/-- what comes to a cistern, when the night has been gone through -/
theorem m_comes2 {N : Nat} (hN : 2000 ≤ N) {m : Mem} {b v : Nat} {I : Isl} {l : Lnd} {sk : Int → Int} (r : Refs m) (h : MD m b I) (hl : MY m v l (nT I)) (z : Sz I) (n : Cn I) (kc : Kc I) (tc : Tc I l) (nm : NM m I l sk) (k : Int) : X11_comes N 264 v k m = some (cms I l sk k) := m_comes hN r h hl z n kc tc (fun t ht => (nm.2.2 11 t (by omega) ht).2.2) k
theorem m_dawn2 {m : Mem} {I : Isl} {l : Lnd} {sk : Int → Int} (r : Refs m) (n : Cn I) (nm : NM m I l sk) {t : Int} (t0 : 0 ≤ t) (t1 : t < I 9 0) : X11_dawnOf 264 t m = some (dwt I l sk (l 1 t) (I 10 t) 12) := by
  obtain ⟨n1, n2, n3, n4, n5, n6⟩ := id n
  rw [m_dawn r t0 (by omega)]
  have e := (nm.2.2 11 t.toNat (by omega) (by omega)).2.2
  rw [show ((t.toNat : Nat) : Int) = t from Int.toNat_of_nonneg t0] at e
  rw [show 120 + t.toNat = 10 * (11 + 1) + t.toNat from by omega, e]
