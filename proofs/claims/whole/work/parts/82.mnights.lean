/-! the reference's nights by a seed -/
def NgF (m m2 : Mem) : Prop := (∀ a, ¬(a = 264 ∨ 296 ≤ a ∧ a ≤ 305) → m2 a = m a) ∧ (∀ j, ¬(j = 56 ∨ 58 ≤ j ∧ j ≤ 61) → m2 264 j = m 264 j) ∧ ∀ v l2 n, ¬v = 0 → MY m v l2 n → MY m2 v l2 n
theorem ngf_refl (m : Mem) : NgF m m := ⟨fun _ _ => rfl, fun _ _ => rfl, fun _ _ _ _ h => h⟩
theorem ngf_trans {m m2 m3 : Mem} (h : NgF m m2) (g : NgF m2 m3) : NgF m m3 := ⟨fun a ha => by rw [g.1 a ha, h.1 a ha], fun j hj => by rw [g.2.1 j hj, h.2.1 j hj], fun v l2 n hv hl => g.2.2 v l2 n hv (h.2.2 v l2 n hv hl)⟩
theorem ngf_ntf {m m2 : Mem} (h : NtF m m2) : NgF m m2 := ⟨fun a ha => h.1 a (by omega), fun j hj => h.2 j (by omega), fun _ _ _ _ hl => ntf_my h hl⟩
theorem ngf_lyf {m m2 : Mem} (h : LyF 0 m m2) : NgF m m2 := ⟨fun a ha => h.1 a (by omega), fun j _ => by rw [lyf_264 h], fun _ _ _ hv hl => lyf_my h hv hl⟩
theorem ngf_c : ∀ a, a < 306 → 296 ≤ a → (shK a == 1 || shK a == 2) = true := by decide +kernel
theorem ngf_c2 : ∀ j, j < 62 → 56 ≤ j → isRef 264 j = true → j = 57 := by decide +kernel
theorem ngf_refs {m m2 : Mem} (h : NgF m m2) (r : Refs m) : Refs m2 := refs_of r fun a k hk => by
  by_cases q : a = 264
  · subst q
    refine h.2.1 k fun y => ?_
    have := ngf_c2 k (by omega) (by omega) hk
    omega
  · rw [h.1 a (fun y => ?_)]
    rcases y with y | y
    · exact q y
    · have c := ngf_c a (by omega) y.1
      unfold isRef at hk
      simp only [Bool.or_eq_true, beq_iff_eq] at c
      rcases c with c | c <;> rw [c] at hk <;> cases hk
theorem ngf_md {m m2 : Mem} {b : Nat} {I : Isl} (h : NgF m m2) (d : MD m b I) : MD m2 b I := md_off d (h.2.1 13 (by omega)) (fun a _ _ => h.1 a (by omega))
theorem m_nightsL {N : Nat} (hN : 2000 ≤ N) {m : Mem} {b : Nat} {I : Isl} {l : Lnd} {s : Int} (r : Refs m) (md : MD m b I) (my : MY m 0 l (nT I)) (z : Sz I) (n : Cn I) (v : Vl I) (kc : Kc I) (g : GL I l) (hs : m 264 56 = s) (s0 : 0 ≤ s) (s1 : s < 2147483648) {k : Nat} (hk : k ≤ 40) (hp : l 3 0 + k ≤ 9999) : Wp (X11_nights_L45 N N 264 k 0 0 m) (fun p => p.1 = nSm I s l k ∧ MY p.2 0 (nLd I s l k) (nT I) ∧ p.2 264 56 = sdN s (12 * k) ∧ NgF m p.2) := by
  obtain ⟨n1, n2, n3, n4, n5, n6⟩ := id n
  refine lw_2 (fun j x mm => x = nSm I s l j ∧ MY mm 0 (nLd I s l j) (nT I) ∧ mm 264 56 = sdN s (12 * j) ∧ NgF m mm) (fun F x i mm => X11_nights_L45 N F 264 k x i mm) k _ (fun F j x mm hj hI ih => ?_) (fun F x mm hI => ?_) N 0 m (by omega) ⟨rfl, my, hs, ngf_refl m⟩
  · obtain ⟨hx, ll, es, f⟩ := hI
    have gj := gl_nLd n s g j (by omega)
    have l3 := nLd_3 I s l j
    show Wp (X11_nights_L45_b N (X11_nights_L45 N F) 264 k x j mm) _
    unfold X11_nights_L45_b
    rw [if_neg (by omega)]
    refine lw_1 (fun h m2 => NgF m m2 ∧ MY m2 0 (nLd I s l j) (nT I) ∧ m2 264 56 = sdN s (12 * j + h) ∧ ∀ y : Nat, y < h → m2 301 y = skC I (sdN s (12 * j)) ((y : Int) + 1)) (fun FF i m2 => X11_nights_L53 N _ FF 264 k x j i m2) 12 _ (fun FF h m2 hh hI2 ih2 => ?_) (fun FF m2 hI2 => ?_) N mm (by omega) ⟨f, ll, es, fun y hy => absurd hy (by omega)⟩
    · obtain ⟨f2, l2, es2, e2⟩ := hI2
      have si := sdN_in s0 s1 (12 * j + h)
      have r2 := ngf_refs f2 r
      show Wp (X11_nights_L53_b N _ (X11_nights_L53 N _ FF) 264 k x j h m2) _
      unfold X11_nights_L53_b
      rw [if_neg (by omega)]
      refine wp_b (gR62 r2) ?_
      refine wp_b (m_draw es2 si.1 si.2) ?_
      have f3 : NgF m (up m2 264 56 (nxt (sdN s (12 * j + h)))) := ⟨fun a ha => by rw [up_setA, setA_ne (by omega)]; exact f2.1 a ha, fun i hi => by rw [up_at, if_neg (by omega)]; exact f2.2.1 i hi, fun v l2 n hv hl => up_my (f2.2.2 v l2 n hv hl)⟩
      have l3' := up_my (x := nxt (sdN s (12 * j + h))) (j := 56) l2
      have r3 := ngf_refs f3 r
      have md3 := ngf_md f3 md
      refine wp_b (gR33 r3) ?_
      refine wp_b (md_bank md3) ?_
      refine wp_b (md_s33 md3) ?_
      have sk : skC I (sdN s (12 * j)) ((h : Int) + 1) = if I 18 0 ≤ nxt (sdN s (12 * j + h)) / 64 % 100 then 0 else 1 := by
        unfold skC
        rw [if_neg (by omega), show ((h : Int) + 1).toNat = h + 1 from by omega, ← sdN_add]
        rfl
      have fin : ∀ u, u = skC I (sdN s (12 * j)) ((h : Int) + 1) → ∀ K : Mem → Option (Int × Mem), (∀ m4, K m4 = X11_nights_L53 N (fun z15 z16 z17 z18 m19 => (X11_goesNight N z15 0 m19).bind fun p20 => (X11_fills N z15 p20).bind fun p21 => X11_nights_L45 N F z15 z16 (wI (z17 + p21.1)) (wI (z18 + 1)) p21.2) FF 264 k x j (wI ((h : Int) + 1)) m4) → Wp ((astI 301 (h : Int) u (up m2 264 56 (nxt (sdN s (12 * j + h))))).bind K) (fun p => p.1 = nSm I s l k ∧ MY p.2 0 (nLd I s l k) (nT I) ∧ p.2 264 56 = sdN s (12 * k) ∧ NgF m p.2) := by
        intro u hu K hK
        obtain ⟨g4, e4, a4, k4⟩ := ar_stE (a := 301) (n := 12) (i := (h : Int)) (by decide +kernel) (by decide +kernel) (by decide) (by omega) (by omega) u (up m2 264 56 (nxt (sdN s (12 * j + h))))
        rw [Int.toNat_natCast] at a4 k4
        refine wp_b e4 ?_
        rw [hK]
        refine ih2 _ _ (by first | omega | (simp (disch := omega) only [wI_of2] <;> omega)) ⟨ngf_trans f3 (ngf_ntf (ntf_set (ntf_refl _) (by omega) g4)), ml_off l3' (fun a _ _ => setA_ne (by omega) _ _), ?_, fun y hy => ?_⟩
        · rw [setA_ne (by decide), up_same]; rfl
        · rw [setA_same]
          by_cases q : y = h
          · rw [q, a4]; exact hu
          · rw [k4 y q, up_obj (by decide)]; exact e2 y (by omega)
      by_cases q : I 18 0 ≤ nxt (sdN s (12 * j + h)) / 64 % 100
      · rw [if_pos q]
        unfold X11_nights_J89
        exact fin 0 (by rw [sk, if_pos q]) _ (fun _ => rfl)
      · rw [if_neg q]
        unfold X11_nights_J89
        exact fin 1 (by rw [sk, if_neg q]) _ (fun _ => rfl)
    · obtain ⟨f2, l2, es2, e2⟩ := hI2
      show Wp (X11_nights_L53_b N _ (X11_nights_L53 N _ FF) 264 k x j (12 : Nat) m2) _
      unfold X11_nights_L53_b
      rw [if_pos (by decide)]
      show Wp ((X11_goesNight N 264 0 m2).bind _) _
      refine wp_bw (m_goes hN (v := 0) (sk := skC I (sdN s (12 * j))) (ngf_refs f2 r) (ngf_md f2 md) l2 z n v gj.1 (fun h hh => e2 h hh)) (fun m3 hm3 => ?_)
      obtain ⟨f3, nm⟩ := hm3
      have f3' := ngf_trans f2 (ngf_ntf f3)
      refine wp_bw (m_fills hN (ngf_refs f3' r) (ngf_md f3' md) (ntf_my f3 l2) z n kc gj.1 gj.2.2.2.1 nm) (fun p hp => ?_)
      obtain ⟨q1, q2, q3⟩ := hp
      have bb := nSm_in n s l (j + 1)
      have e1 : nSm I s l (j + 1) = nSm I s l j + pouS (cms I (nLd I s l j) (skC I (sdN s (12 * j)))) (nK I) := rfl
      refine ih _ _ _ (by first | omega | (simp (disch := omega) only [wI_of2] <;> omega)) ⟨by rw [hx, q1, e1]; exact wI_of2 (by omega) (by omega), q2, ?_, ngf_trans f3' (ngf_lyf q3)⟩
      rw [lyf_264 q3, f3.2 56 (by omega), es2]
      rfl
  · obtain ⟨hx, ll, es, f⟩ := hI
    show Wp (X11_nights_L45_b N (X11_nights_L45 N F) 264 k x k mm) _
    unfold X11_nights_L45_b
    rw [if_pos (Int.le_refl _)]
    exact wp_some ⟨hx, ll, es, f⟩
