/-! alike: the reference -/
/-- the best so far, as the reference has it -/
def BM (m : Mem) (z : Bst) : Prop := (z.1 = -1 ∧ m 264 69 = 1000000 ∧ m 264 70 = -1) ∨ (0 ≤ z.1 ∧ m 264 69 = z.1 ∧ m 264 70 = z.2.1 ∧ m 308 0 = z.2.2.1 ∧ m 308 1 = z.2.2.2)
/-- what the reference changes while it tries -/
def AlF (m m2 : Mem) : Prop := (∀ a, ¬(a = 264 ∨ 296 ≤ a ∧ a ≤ 305 ∨ a = 308) → m2 a = m a) ∧ (∀ j, ¬(58 ≤ j ∧ j ≤ 61 ∨ j = 69 ∨ j = 70) → m2 264 j = m 264 j) ∧ (∀ x, ¬(42 ≤ x ∧ x < 84) → m2 297 x = m 297 x) ∧ (∀ x, ¬(10 ≤ x ∧ x < 20) → m2 298 x = m 298 x) ∧ (∀ x, ¬(5 ≤ x ∧ x < 10) → m2 299 x = m 299 x) ∧ ∀ x, ¬x = 1 → m2 296 x = m 296 x
theorem alf_refl (m : Mem) : AlF m m := ⟨fun _ _ => rfl, fun _ _ => rfl, fun _ _ => rfl, fun _ _ => rfl, fun _ _ => rfl, fun _ _ => rfl⟩
theorem alf_trans {m m2 m3 : Mem} (f : AlF m m2) (g : AlF m2 m3) : AlF m m3 := ⟨fun a h => by rw [g.1 a h, f.1 a h], fun a h => by rw [g.2.1 a h, f.2.1 a h], fun a h => by rw [g.2.2.1 a h, f.2.2.1 a h], fun a h => by rw [g.2.2.2.1 a h, f.2.2.2.1 a h], fun a h => by rw [g.2.2.2.2.1 a h, f.2.2.2.2.1 a h], fun a h => by rw [g.2.2.2.2.2 a h, f.2.2.2.2.2 a h]⟩
theorem alf_ly {m m2 : Mem} (f : LyF 1 m m2) : AlF m m2 := ⟨fun a h => f.1 a (by omega), fun j _ => by rw [lyf_264 f], fun x h => f.2.1 x (by omega), fun x h => f.2.2.1 x (by omega), fun x h => f.2.2.2.1 x (by omega), fun x h => f.2.2.2.2 x h⟩
theorem alf_nt {m m2 : Mem} (f : NtF m m2) : AlF m m2 := ⟨fun a h => f.1 a (by omega), fun j h => f.2 j (by omega), fun x _ => by rw [f.1 297 (by decide)], fun x _ => by rw [f.1 298 (by decide)], fun x _ => by rw [f.1 299 (by decide)], fun x _ => by rw [f.1 296 (by decide)]⟩
theorem alf_up {m m2 : Mem} (f : AlF m m2) {j : Nat} (h : j = 69 ∨ j = 70) (v : Int) : AlF m (up m2 264 j v) := by
  have o : ∀ a, ¬a = 264 → up m2 264 j v a = m2 a := fun a ha => by rw [up_setA, setA_ne ha]
  refine ⟨fun a ha => by rw [o a (by omega)]; exact f.1 a ha, fun k hk => ?_, fun x hx => by rw [o 297 (by decide)]; exact f.2.2.1 x hx, fun x hx => by rw [o 298 (by decide)]; exact f.2.2.2.1 x hx, fun x hx => by rw [o 299 (by decide)]; exact f.2.2.2.2.1 x hx, fun x hx => by rw [o 296 (by decide)]; exact f.2.2.2.2.2 x hx⟩
  rw [up_at, if_neg (by omega)]
  exact f.2.1 k hk
theorem alf_308 {m m2 : Mem} (f : AlF m m2) (g : Nat → Int) : AlF m (setA m2 308 g) := ⟨fun a ha => by rw [setA_ne (by omega)]; exact f.1 a ha, fun k hk => by rw [setA_ne (by decide)]; exact f.2.1 k hk, fun x hx => by rw [setA_ne (by decide)]; exact f.2.2.1 x hx, fun x hx => by rw [setA_ne (by decide)]; exact f.2.2.2.1 x hx, fun x hx => by rw [setA_ne (by decide)]; exact f.2.2.2.2.1 x hx, fun x hx => by rw [setA_ne (by decide)]; exact f.2.2.2.2.2 x hx⟩
theorem alf_scr {P a k : Nat} {m m2 : Mem} (f : AlF m m2) (h : ¬Scr P a k) : m2 a k = m a k := by
  by_cases q : a = 264
  · subst q
    exact f.2.1 k (fun u => h (scr_15 ⟨rfl, by omega⟩))
  · by_cases q2 : 296 ≤ a ∧ a ≤ 299
    · have c : a = 296 ∨ a = 297 ∨ a = 298 ∨ a = 299 := by omega
      rcases c with c | c | c | c <;> subst c
      · exact f.2.2.2.2.2 k (fun u => h (scr_19 ⟨rfl, u⟩))
      · exact f.2.2.1 k (fun u => h (scr_20 ⟨rfl, by omega⟩))
      · exact f.2.2.2.1 k (fun u => h (scr_21 ⟨rfl, by omega⟩))
      · exact f.2.2.2.2.1 k (fun u => h (scr_22 ⟨rfl, by omega⟩))
    · rw [f.1 a (fun u => h (scr_16 (by omega)))]
/-- a thing of the layer on trial is put into a cell -/
theorem my_mv {m : Mem} {I : Isl} {l : Lnd} (n : Cn I) (my : MY m 1 l (nT I)) {t c : Int} (t0 : 0 ≤ t) (t1 : t < I 9 0) : ∃ g, astI 298 (10 + t) c m = some (setA m 298 g) ∧ MY (setA m 298 g) 1 (mvL l t c) (nT I) ∧ LyF 1 m (setA m 298 g) := by
  obtain ⟨n1, n2, n3, n4, n5, n6⟩ := id n
  obtain ⟨g, e, a, k⟩ := ar_stE (a := 298) (n := 220) (i := 10 + t) (by decide +kernel) (by decide +kernel) (by decide) (by omega) (by omega) c m
  refine ⟨g, e, ?_, lyf_298 (lyf_refl 1 m) (fun x hx => k x (by omega))⟩
  obtain ⟨y1, y2, y3, y4, y5, y6⟩ := my
  refine ⟨y1, fun i i0 i1 => ?_, fun i i0 i1 => ?_, fun i i0 i1 => ?_, ?_, y6⟩
  · rw [setA_ne (by decide), mv_0]; exact y2 i i0 i1
  · rw [setA_same, mv_1]
    by_cases u : i = t
    · rw [if_pos u, u, show 10 * 1 + t.toNat = (10 + t).toNat from by omega]; exact a
    · rw [if_neg u, k _ (by omega)]; exact y3 i i0 i1
  · rw [setA_ne (by decide)]; exact y4 i i0 i1
  · rw [setA_ne (by decide)]; exact y5
/-- what a comparison changes -/
def CmF (m m2 : Mem) : Prop := (∀ a, ¬(a = 264 ∨ 300 ≤ a ∧ a ≤ 305 ∨ a = 308) → m2 a = m a) ∧ ∀ j, ¬(58 ≤ j ∧ j ≤ 61 ∨ j = 69 ∨ j = 70) → m2 264 j = m 264 j
theorem cmf_nt {m m2 : Mem} (f : NtF m m2) : CmF m m2 := ⟨fun a h => f.1 a (by omega), fun j h => f.2 j (by omega)⟩
theorem cmf_up {m m2 : Mem} (f : CmF m m2) {j : Nat} (h : j = 69 ∨ j = 70) (v : Int) : CmF m (up m2 264 j v) := by
  have o : ∀ a, ¬a = 264 → up m2 264 j v a = m2 a := fun a ha => by rw [up_setA, setA_ne ha]
  refine ⟨fun a ha => by rw [o a (by omega)]; exact f.1 a ha, fun k hk => ?_⟩
  rw [up_at, if_neg (by omega)]
  exact f.2 k hk
theorem cmf_308 {m m2 : Mem} (f : CmF m m2) (g : Nat → Int) : CmF m (setA m2 308 g) := ⟨fun a ha => by rw [setA_ne (by omega)]; exact f.1 a ha, fun k hk => by rw [setA_ne (by decide)]; exact f.2 k hk⟩
theorem cmf_alf {m m2 : Mem} (f : CmF m m2) : AlF m m2 := ⟨fun a h => f.1 a (by omega), fun j h => f.2 j (by omega), fun x _ => by rw [f.1 297 (by decide)], fun x _ => by rw [f.1 298 (by decide)], fun x _ => by rw [f.1 299 (by decide)], fun x _ => by rw [f.1 296 (by decide)]⟩
theorem alf_refs {m m2 : Mem} (f : AlF m m2) (r : Refs m) : Refs m2 := refs_of r fun a k hk => alf_scr (P := 11) f (fun y => by rw [scr_ref (Or.inl rfl) y] at hk; exact absurd hk (by decide))
theorem alf_md {m m2 : Mem} {b : Nat} {I : Isl} (f : AlF m m2) (d : MD m b I) : MD m2 b I := md_off d (f.2.1 13 (by decide)) (fun a _ _ => f.1 a (by omega))
theorem alf_my {m m2 : Mem} {n : Nat} {l : Lnd} (f : AlF m m2) (d : MY m 0 l n) : MY m2 0 l n := by
  obtain ⟨y1, y2, y3, y4, y5, y6⟩ := d
  exact ⟨y1, fun i i0 i1 => by rw [f.2.2.1 _ (by omega)]; exact y2 i i0 i1, fun i i0 i1 => by rw [f.2.2.2.1 _ (by omega)]; exact y3 i i0 i1, fun i i0 i1 => by rw [f.2.2.2.2.1 _ (by omega)]; exact y4 i i0 i1, by rw [f.2.2.2.2.2 0 (by decide)]; exact y5, y6⟩
theorem m_compares {N : Nat} (hN : 2000 ≤ N) {m : Mem} {b : Nat} {I : Isl} {l2 : Lnd} {z : Bst} (r : Refs m) (md : MD m b I) (my : MY m 1 l2 (nT I)) (sz : Sz I) (n : Cn I) (vl : Vl I) (kc : Kc I) (tc : Tc I l2) (hk : 0 < I 6 0) (bm : BM m z) (x y : Int) : ∃ m2, X11_compares N 264 x y m = some m2 ∧ BM m2 (cmpB I l2 x y z) ∧ AlF m m2 ∧ Refs m2 ∧ MD m2 b I ∧ MY m2 1 l2 (nT I) := by
  obtain ⟨n1, n2, n3, n4, n5, n6⟩ := id n
  have si := sprd_in n l2
  have ai := allC_in n l2
  obtain ⟨m1, e1, f1, nm⟩ := m_told (v := 1) hN r md my sz n vl tc
  have r1 := ntf_refs f1 r
  have md1 := ntf_md f1 md
  have my1 := ntf_my f1 my
  have b1 : BM m1 z := by
    unfold BM
    rw [f1.2 69 (by decide), f1.2 70 (by decide), f1.1 308 (by decide)]
    exact bm
  have X : Wp (X11_compares N 264 x y m) (fun m2 => BM m2 (cmpB I l2 x y z) ∧ CmF m m2) := by
    unfold X11_compares
    refine wp_k k264 ?_
    refine wp_b e1 ?_
    have go : ∀ K : Nat → Int → Int → Int → Int → Int → Mem → Option Mem, Wp (K 264 x y (mnTo (fun k => cms I l2 (I 15) k) (nK I - 1)) (mxTo (fun k => cms I l2 (I 15) k) (nK I - 1)) (allC I l2) m1) (fun m2 => BM m2 (cmpB I l2 x y z) ∧ CmF m m2) → Wp (X11_compares_L18 N K N 264 x y 1000000 0 0 0 m1) (fun m2 => BM m2 (cmpB I l2 x y z) ∧ CmF m m2) := by
      intro K hK
      have mi := mx_in (fun k => cms I l2 (I 15) k) (fun k => cms_in n l2 (I 15) k)
      refine lw_2 (fun j (w : Int × Int × Int) mm => mm = m1 ∧ w = if j = 0 then ((1000000 : Int), (0 : Int), (0 : Int)) else (mnTo (fun k => cms I l2 (I 15) k) (j - 1), mxTo (fun k => cms I l2 (I 15) k) (j - 1), pouS (fun k => cms I l2 (I 15) k) j)) (fun F w i mm => X11_compares_L18 N K F 264 x y w.1 w.2.1 w.2.2 i mm) (nK I) _ (fun F j w mm hj hI ih => ?_) (fun F w mm hI => ?_) N (1000000, 0, 0) m1 (by omega) ⟨rfl, rfl⟩
      · obtain ⟨hm, hw⟩ := hI
        subst hm
        have ci := cms_in n l2 (I 15) j
        have pi := pouS_in (fun k => cms_in n l2 (I 15) k) j
        show Wp (X11_compares_L18_b N K (X11_compares_L18 N K F) 264 x y w.1 w.2.1 w.2.2 j mm) _
        unfold X11_compares_L18_b
        refine wp_b (gR21 r1) ?_
        refine wp_b (md_bank md1) ?_
        refine wp_b (md_s21 md1) ?_
        rw [if_neg (by omega)]
        refine wp_b (m_comes2 (v := 1) hN r1 md1 my1 sz n kc tc nm j) ?_
        -- what the next state is
        have nx : (min w.1 (cms I l2 (I 15) j), max w.2.1 (cms I l2 (I 15) j), w.2.2 + cms I l2 (I 15) j) = if j + 1 = 0 then ((1000000 : Int), (0 : Int), (0 : Int)) else (mnTo (fun k => cms I l2 (I 15) k) (j + 1 - 1), mxTo (fun k => cms I l2 (I 15) k) (j + 1 - 1), pouS (fun k => cms I l2 (I 15) k) (j + 1)) := by
          rw [if_neg (by omega), Nat.add_sub_cancel]
          by_cases q : j = 0
          · subst q
            rw [if_pos rfl] at hw
            rw [hw]
            show (min (1000000 : Int) (cms I l2 (I 15) ((0 : Nat) : Int)), max (0 : Int) (cms I l2 (I 15) ((0 : Nat) : Int)), (0 : Int) + cms I l2 (I 15) ((0 : Nat) : Int)) = (cms I l2 (I 15) 0, cms I l2 (I 15) 0, (0 : Int) + cms I l2 (I 15) ((0 : Nat) : Int))
            have e0 : cms I l2 (I 15) ((0 : Nat) : Int) = cms I l2 (I 15) 0 := rfl
            rw [e0] at ci ⊢
            rw [show min (1000000 : Int) (cms I l2 (I 15) 0) = cms I l2 (I 15) 0 from by omega, show max (0 : Int) (cms I l2 (I 15) 0) = cms I l2 (I 15) 0 from by omega]
          · rw [if_neg q] at hw
            rw [hw]
            obtain ⟨i, rfl⟩ : ∃ i, j = i + 1 := ⟨j - 1, by omega⟩
            rw [Nat.add_sub_cancel]
            rfl
        have wb : 0 ≤ w.2.2 ∧ w.2.2 ≤ 20000 * j := by
          rw [hw]
          by_cases q : j = 0
          · rw [if_pos q]
            show (0 : Int) ≤ 0 ∧ (0 : Int) ≤ 20000 * j
            omega
          · rw [if_neg q]; exact pi
        have J : ∀ s0, s0 = min w.1 (cms I l2 (I 15) j) → Wp (X11_compares_J53 N (X11_compares_L18 N K F) 264 x y w.2.1 w.2.2 j (cms I l2 (I 15) j) s0 mm) (fun m2 => BM m2 (cmpB I l2 x y z) ∧ CmF m m2) := by
          intro s0 hs
          have fin : ∀ s1, s1 = max w.2.1 (cms I l2 (I 15) j) → Wp (X11_compares_J68 N (X11_compares_L18 N K F) 264 x y s0 w.2.2 j (cms I l2 (I 15) j) s1 mm) (fun m2 => BM m2 (cmpB I l2 x y z) ∧ CmF m m2) := by
            intro s1 hs1
            unfold X11_compares_J68
            exact ih (s0, s1, wI (w.2.2 + cms I l2 (I 15) j)) _ mm (by first | omega | (simp (disch := omega) only [wI_of2] <;> omega)) ⟨rfl, by rw [hs, hs1, wI_of2 (by omega) (by omega), nx]⟩
          unfold X11_compares_J53
          by_cases q : cms I l2 (I 15) j ≤ w.2.1
          · rw [if_pos q]; exact fin _ (by omega)
          · rw [if_neg q]; exact fin _ (by omega)
        by_cases q : w.1 ≤ cms I l2 (I 15) j
        · rw [if_pos q]; exact J _ (by omega)
        · rw [if_neg q]; exact J _ (by omega)
      · obtain ⟨hm, hw⟩ := hI
        subst hm
        rw [if_neg (by omega)] at hw
        rw [hw]
        show Wp (X11_compares_L18_b N K (X11_compares_L18 N K F) 264 x y (mnTo (fun k => cms I l2 (I 15) k) (nK I - 1)) (mxTo (fun k => cms I l2 (I 15) k) (nK I - 1)) (pouS (fun k => cms I l2 (I 15) k) (nK I)) (nK I) mm) _
        unfold X11_compares_L18_b
        refine wp_b (gR21 r1) ?_
        refine wp_b (md_bank md1) ?_
        refine wp_b (md_s21 md1) ?_
        rw [if_pos (by omega)]
        exact hK
    refine go _ ?_
    have es : wI (mxTo (fun k => cms I l2 (I 15) k) (nK I - 1) - mnTo (fun k => cms I l2 (I 15) k) (nK I - 1)) = sprd I l2 := by
      have e : mxTo (fun k => cms I l2 (I 15) k) (nK I - 1) - mnTo (fun k => cms I l2 (I 15) k) (nK I - 1) = sprd I l2 := rfl
      rw [e]
      exact wI_of2 (by omega) (by omega)
    show Wp ((getI 11 69 264 m1).bind fun t16 => if t16 < wI (mxTo (fun k => cms I l2 (I 15) k) (nK I - 1) - mnTo (fun k => cms I l2 (I 15) k) (nK I - 1)) then some m1 else (getI 11 69 264 m1).bind fun t17 => if ¬wI (mxTo (fun k => cms I l2 (I 15) k) (nK I - 1) - mnTo (fun k => cms I l2 (I 15) k) (nK I - 1)) = t17 then X11_compares_J117 N 264 x y (allC I l2) (wI (mxTo (fun k => cms I l2 (I 15) k) (nK I - 1) - mnTo (fun k => cms I l2 (I 15) k) (nK I - 1))) m1 else (getI 11 70 264 m1).bind fun t24 => if t24 < allC I l2 then X11_compares_J117 N 264 x y (allC I l2) (wI (mxTo (fun k => cms I l2 (I 15) k) (nK I - 1) - mnTo (fun k => cms I l2 (I 15) k) (nK I - 1))) m1 else some m1) _
    rw [es]
    have stay : ¬(z.1 = -1 ∨ sprd I l2 < z.1 ∨ sprd I l2 = z.1 ∧ z.2.1 < allC I l2) → Wp (some m1) (fun m2 => BM m2 (cmpB I l2 x y z) ∧ CmF m m2) := by
      intro q
      refine wp_some ⟨?_, cmf_nt f1⟩
      unfold cmpB
      rw [if_neg q]
      exact b1
    have take : (z.1 = -1 ∨ sprd I l2 < z.1 ∨ sprd I l2 = z.1 ∧ z.2.1 < allC I l2) → Wp (X11_compares_J117 N 264 x y (allC I l2) (sprd I l2) m1) (fun m2 => BM m2 (cmpB I l2 x y z) ∧ CmF m m2) := by
      intro q
      unfold X11_compares_J117
      refine wp_b (p264 (by decide) _ m1) ?_
      refine wp_b (p264 (by decide) _ _) ?_
      have ra : Refs (up (up m1 264 69 (sprd I l2)) 264 70 (allC I l2)) := refs_up (refs_up r1 (by decide +kernel) _) (by decide +kernel) _
      refine wp_b (gR71 ra) ?_
      obtain ⟨g1, g2, g3, g4⟩ := ar_stE (a := 308) (n := 2) (i := 0) (by decide +kernel) (by decide +kernel) (by decide) (by decide) (by decide) x (up (up m1 264 69 (sprd I l2)) 264 70 (allC I l2))
      refine wp_b g2 ?_
      refine wp_b (gR71 (refs_set ra (by decide +kernel) g1)) ?_
      obtain ⟨h1, h2, h3, h4⟩ := ar_stE (a := 308) (n := 2) (i := 1) (by decide +kernel) (by decide +kernel) (by decide) (by decide) (by decide) y (setA (up (up m1 264 69 (sprd I l2)) 264 70 (allC I l2)) 308 g1)
      refine wp_b h2 ?_
      refine wp_some ⟨?_, cmf_308 (cmf_308 (cmf_up (cmf_up (cmf_nt f1) (by decide) _) (by decide) _) g1) h1⟩
      unfold cmpB
      rw [if_pos q]
      refine Or.inr ⟨si.1, ?_, ?_, ?_, ?_⟩
      · rw [setA_ne (by decide), setA_ne (by decide), up_slot (by decide), up_same]
      · rw [setA_ne (by decide), setA_ne (by decide), up_same]
      · rw [setA_same, h4 0 (by decide), setA_same]
        exact g3
      · rw [setA_same]
        exact h3
    refine wp_b (g264 (by decide)) ?_
    rcases b1 with ⟨c1, c2, c3⟩ | ⟨c1, c2, c3, c4, c5⟩
    · rw [c2, if_neg (by omega)]
      refine wp_b (g264 (by decide)) ?_
      rw [c2, if_pos (by omega)]
      exact take (Or.inl c1)
    · rw [c2]
      by_cases q1 : z.1 < sprd I l2
      · rw [if_pos q1]
        exact stay (by omega)
      · rw [if_neg q1]
        refine wp_b (g264 (by decide)) ?_
        rw [c2]
        by_cases q2 : sprd I l2 = z.1
        · rw [if_neg (fun u => u q2)]
          refine wp_b (g264 (by decide)) ?_
          rw [c3]
          by_cases q3 : z.2.1 < allC I l2
          · rw [if_pos q3]
            exact take (Or.inr (Or.inr ⟨q2, q3⟩))
          · rw [if_neg q3]
            exact stay (by omega)
        · rw [if_pos q2]
          exact take (by omega)
  obtain ⟨m2, e2, b2, f2⟩ := X
  have a2 := cmf_alf f2
  exact ⟨m2, e2, b2, a2, alf_refs a2 r, alf_md a2 md, ml_off my (fun a _ _ => f2.1 a (by omega))⟩
theorem m_canHang {N : Nat} (hN : 2000 ≤ N) {m : Mem} {b : Nat} {I : Isl} {l : Lnd} (r : Refs m) (md : MD m b I) (my : MY m 0 l (nT I)) (z : Sz I) (n : Cn I) {t : Int} (t0 : 0 ≤ t) (t1 : t < I 9 0) {x : Int} (x0 : 0 ≤ x) (x1 : x < nC I) : X11_canHang N 264 t x m = some (bi (l 1 t = x ∨ isF I l x = 1)) := by
  have n3 := n.2.2.1
  refine wp_eq ?_
  unfold X11_canHang
  refine wp_k k264 ?_
  refine wp_b (gR52 r) ?_
  refine wp_b (my0_52 my t0 (by omega)) ?_
  by_cases q : l 1 t = x
  · rw [if_pos q]
    unfold X11_canHang_J18
    exact wp_z1 (bi_t (Or.inl q))
  · rw [if_neg q]
    refine wp_b (m_isFree hN r md my z n x0 x1) ?_
    have fi : isF I l x = 0 ∨ isF I l x = 1 := bi_in _
    rcases fi with y | y
    · rw [if_pos y]
      exact wp_z0 (bi_f (fun u => by rcases u with u | u <;> omega))
    · rw [if_neg (by omega)]
      unfold X11_canHang_J18
      exact wp_z1 (bi_t (Or.inr y))
theorem mv_tc {I : Isl} {l : Lnd} {t c : Int} (h : Tc I l) (c0 : 0 ≤ c) (c1 : c < nC I) : Tc I (mvL l t c) := fun u u0 u1 => by
  rw [mv_1]
  split
  · exact ⟨c0, c1⟩
  · exact h u u0 u1
/-- walls and cells alone count -/
theorem mv_mv (l : Lnd) (t x y : Int) : ∀ k i, mvL (mvL l t x) t y k i = mvL l t y k i := fun k i => by
  unfold mvL
  by_cases q : k = 1 ∧ i = t
  · rw [if_pos q, if_pos q]
  · rw [if_neg q, if_neg q, if_neg q]
theorem mv_sw (l : Lnd) {t u : Int} (h : ¬t = u) (x y : Int) : mvL (mvL l t x) u y = mvL (mvL l u y) t x := by
  funext k i
  unfold mvL
  by_cases q : k = 1 ∧ i = u
  · rw [if_pos q, if_neg (show ¬(k = 1 ∧ i = t) from fun w => h (w.2.symm.trans q.2)), if_pos q]
  · rw [if_neg q]
    by_cases q2 : k = 1 ∧ i = t
    · rw [if_pos q2, if_pos q2]
    · rw [if_neg q2, if_neg q2, if_neg q]
/-- the answers of alike -/
def alA (I : Isl) (l : Lnd) (q k : Int) : Int := if k = -1 then (alk I l q).1 else if k = 20 then (alk I l q).2.1 else if k = 0 then (alk I l q).2.2.1 else (alk I l q).2.2.2
def alK : Nat → Int → Mem → Option (Int × Mem) := fun z35 z36 m37 =>
      if ¬ z36 = (-1) then (
        if ¬ z36 = 20 then (
          (getR 11 71 z35 m37).bind fun t38 =>
          (aldI t38 z36 m37).bind fun t39 =>
          some (t39, m37)
        ) else (
          (getI 11 70 z35 m37).bind fun t40 =>
          some (t40, m37)
        )
      ) else (
        (getI 11 69 z35 m37).bind fun t42 =>
        some (t42, m37)
      )
/-- the layer on trial: like the one of now, but for two things -/
def Lk (l l2 : Lnd) (a b : Int) : Prop := ∀ k i, ¬(k = 1 ∧ (i = a ∨ i = b)) → l2 k i = l k i
theorem lk_mv {l l2 : Lnd} {a b t c : Int} (h : Lk l l2 a b) (ht : t = a ∨ t = b) : Lk l (mvL l2 t c) a b := fun k i hk => by
  unfold mvL
  rw [if_neg (fun u => hk ⟨u.1, by rw [u.2]; exact ht⟩)]
  exact h k i hk
theorem lk_1 {l l2 : Lnd} {a x : Int} (h : Lk l l2 a a) : mvL l2 a x = mvL l a x := by
  funext k i
  unfold mvL
  by_cases q : k = 1 ∧ i = a
  · rw [if_pos q, if_pos q]
  · rw [if_neg q, if_neg q]
    exact h k i (fun u => q ⟨u.1, by omega⟩)
theorem lk_2 {l l2 : Lnd} {a b x y : Int} (h : Lk l l2 a b) (hx : l2 1 a = x) : mvL l2 b y = mvL (mvL l a x) b y := by
  funext k i
  unfold mvL
  by_cases q : k = 1 ∧ i = b
  · rw [if_pos q, if_pos q]
  · rw [if_neg q, if_neg q]
    by_cases q2 : k = 1 ∧ i = a
    · rw [if_pos q2, q2.1, q2.2, hx]
    · rw [if_neg q2]
      exact h k i (fun u => by omega)
theorem m_alL {N : Nat} (hN : 2000 ≤ N) {m0 m : Mem} {b : Nat} {I : Isl} {l : Lnd} (r : Refs m0) (md : MD m0 b I) (my : MY m0 0 l (nT I)) (f0 : AlF m0 m) (z : Sz I) (n : Cn I) (vl : Vl I) (kc : Kc I) (cl : Cl I) (gl : GL I l) (hk : 0 < I 6 0) {q : Nat} (q1 : q = 1 ∨ q = 2) (q3 : (q : Int) ≤ I 12 0) {k : Int} (k0 : k = -1 ∨ k = 20 ∨ 0 ≤ k ∧ k < q) {l1 : Lnd} (my1 : MY m 1 l1 (nT I)) (lk : Lk l l1 (I 13 0) (I 13 ((q : Int) - 1))) (bm : BM m (-1, 0, 0, 0)) : Wp (X11_alike_L89 N alK N 264 (q : Int) k (I 13 0) (I 13 ((q : Int) - 1)) 0 m) (fun p => p.1 = alA I l q k ∧ AlF m0 p.2) := by
  have tc := gl.1
  have n3 := n.2.2.1
  have z7 := z.2.2.2.2.2.2
  have ec : (((nC I).toNat : Nat) : Int) = nC I := Int.toNat_of_nonneg z.2.2.2.2.2.1
  have c0 := cl_cell n cl tc (i := 0) (by omega) (by omega)
  have c1 := cl_cell n cl tc (i := (q : Int) - 1) (by omega) (by omega)
  refine lw_1 (fun x mm => BM mm (al1 I l q x) ∧ AlF m0 mm ∧ ∃ l2, MY mm 1 l2 (nT I) ∧ Lk l l2 (I 13 0) (I 13 ((q : Int) - 1))) (fun F x mm => X11_alike_L89 N alK F 264 (q : Int) k (I 13 0) (I 13 ((q : Int) - 1)) x mm) (nC I).toNat _ (fun F x mm hx hI ih => ?_) (fun F mm hI => ?_) N m (by omega) ⟨bm, f0, l1, my1, lk⟩
  · obtain ⟨bz, f, l2, my2, lk2⟩ := hI
    have rm := alf_refs f r
    have mdm := alf_md f md
    have mym := alf_my f my
    have es : al1 I l q (x + 1) = if l 1 (I 13 0) = (x : Int) ∨ isF I l x = 1 then (if (q : Int) = 1 then cmpB I (mvL l (I 13 0) x) x 0 (al1 I l q x) else al2 I l x (al1 I l q x) (nC I).toNat) else al1 I l q x := rfl
    show Wp (X11_alike_L89_b N alK (X11_alike_L89 N alK F) 264 (q : Int) k (I 13 0) (I 13 ((q : Int) - 1)) x mm) _
    unfold X11_alike_L89_b
    refine wp_b (m_cells rm mdm z) ?_
    rw [if_neg (by omega)]
    refine wp_b (m_canHang hN rm mdm mym z n c0.1.1 c0.1.2 (by omega) (by omega)) ?_
    by_cases y : l 1 (I 13 0) = (x : Int) ∨ isF I l x = 1
    · rw [← bi_t y, if_pos (by decide)]
      refine wp_b (gR52 rm) ?_
      rw [wI_of2 (x := 10 + I 13 0) (by have := n.2.2.2.1; omega) (by have := n.2.2.2.1; omega)]
      obtain ⟨g, eg, my3, ly3⟩ := my_mv n my2 c0.1.1 c0.1.2 (c := (x : Int))
      refine wp_b eg ?_
      have f3 := alf_trans f (alf_ly ly3)
      have r3 := alf_refs f3 r
      have md3 := alf_md f3 md
      have lk3 : Lk l (mvL l2 (I 13 0) x) (I 13 0) (I 13 ((q : Int) - 1)) := lk_mv lk2 (Or.inl rfl)
      have h3 : mvL l2 (I 13 0) x 1 (I 13 0) = x := by rw [mv_1, if_pos rfl]
      have bz3 : BM (setA mm 298 g) (al1 I l q x) := by
        unfold BM
        rw [setA_ne (by decide), setA_ne (by decide)]
        exact bz
      -- behind the cells of the second one
      have nxt : ∀ mk l4, BM mk (al1 I l q (x + 1)) → AlF m0 mk → MY mk 1 l4 (nT I) → Lk l l4 (I 13 0) (I 13 ((q : Int) - 1)) → ∀ y6 : Int, Wp (X11_alike_J200 N (X11_alike_L89 N alK F) 264 (q : Int) k (I 13 0) (I 13 ((q : Int) - 1)) x mk) (fun p => p.1 = alA I l q k ∧ AlF m0 p.2) := by
        intro mk l4 b4 f4 my4 lk4 _
        unfold X11_alike_J200
        exact ih _ mk (by first | omega | (simp (disch := omega) only [wI_of2] <;> omega)) ⟨b4, f4, l4, my4, lk4⟩
      rcases q1 with q1 | q1
      · subst q1
        obtain ⟨F2, hF2⟩ : ∃ F2, N = F2 + 1 + 1 := ⟨N - 2, by omega⟩
        have go : Wp (X11_alike_L125 N (fun z26 z27 z28 z29 z30 z31 m32 => X11_alike_J200 N (X11_alike_L89 N alK F) z26 z27 z28 z29 z30 z31 m32) (F2 + 1 + 1) 264 ((1 : Nat) : Int) k (I 13 0) (I 13 (((1 : Nat) : Int) - 1)) x 0 (setA mm 298 g)) (fun p => p.1 = alA I l ((1 : Nat) : Int) k ∧ AlF m0 p.2) := by
          show Wp (X11_alike_L125_b N _ (X11_alike_L125 N _ (F2 + 1)) 264 ((1 : Nat) : Int) k (I 13 0) (I 13 (((1 : Nat) : Int) - 1)) x 0 (setA mm 298 g)) _
          unfold X11_alike_L125_b X11_alike_J140 X11_alike_J169 X11_alike_J186
          rw [if_neg (by decide), if_neg (by decide), if_pos (by decide), if_pos (by decide)]
          have e1 : mvL l2 (I 13 0) x = mvL l (I 13 0) x := lk_1 lk2
          rw [e1] at my3
          obtain ⟨m4, e4, b4, f4, r4, md4, my4⟩ := m_compares hN r3 md3 my3 z n vl kc (mv_tc tc (by omega) (by omega)) hk bz3 x 0
          refine wp_b e4 ?_
          unfold X11_alike_J194
          show Wp (X11_alike_L125_b N _ (X11_alike_L125 N _ F2) 264 ((1 : Nat) : Int) k (I 13 0) (I 13 (((1 : Nat) : Int) - 1)) x (wI (0 + 1)) m4) _
          unfold X11_alike_L125_b X11_alike_J140
          rw [if_neg (by decide), if_pos (by decide)]
          refine nxt m4 _ ?_ (alf_trans f3 f4) my4 (by rw [← e1]; exact lk3) 0
          rw [es, if_pos y, if_pos (by decide)]
          exact b4
        rw [← hF2] at go
        exact go
      · subst q1
        refine lw_1 (fun w mk => BM mk (al2 I l x (al1 I l ((2 : Nat) : Int) x) w) ∧ AlF m0 mk ∧ ∃ l4, MY mk 1 l4 (nT I) ∧ Lk l l4 (I 13 0) (I 13 (((2 : Nat) : Int) - 1)) ∧ l4 1 (I 13 0) = x) (fun F2 w mk => X11_alike_L125 N _ F2 264 ((2 : Nat) : Int) k (I 13 0) (I 13 (((2 : Nat) : Int) - 1)) x w mk) (nC I).toNat _ (fun F2 w mk hw hI2 ih2 => ?_) (fun F2 mk hI2 => ?_) N (setA mm 298 g) (by omega) ⟨bz3, f3, _, my3, lk3, h3⟩
        · obtain ⟨b4, f4, l4, my4, lk4, h4⟩ := hI2
          have r4 := alf_refs f4 r
          have md4 := alf_md f4 md
          have my40 := alf_my f4 my
          have e2 : al2 I l x (al1 I l ((2 : Nat) : Int) x) (w + 1) = if ¬(w : Int) = x ∧ (l 1 (I 13 1) = (w : Int) ∨ isF I l w = 1) then cmpB I (mvL (mvL l (I 13 0) x) (I 13 1) w) x w (al2 I l x (al1 I l ((2 : Nat) : Int) x) w) else al2 I l x (al1 I l ((2 : Nat) : Int) x) w := rfl
          have skip : ¬(¬(w : Int) = x ∧ (l 1 (I 13 1) = (w : Int) ∨ isF I l w = 1)) → Wp (X11_alike_J194 N (X11_alike_L125 N (fun z26 z27 z28 z29 z30 z31 m32 => X11_alike_J200 N (X11_alike_L89 N alK F) z26 z27 z28 z29 z30 z31 m32) F2) 264 ((2 : Nat) : Int) k (I 13 0) (I 13 (((2 : Nat) : Int) - 1)) x w mk) (fun p => p.1 = alA I l ((2 : Nat) : Int) k ∧ AlF m0 p.2) := by
            intro u
            unfold X11_alike_J194
            exact ih2 _ mk (by first | omega | (simp (disch := omega) only [wI_of2] <;> omega)) ⟨by rw [e2, if_neg u]; exact b4, f4, l4, my4, lk4, h4⟩
          show Wp (X11_alike_L125_b N _ (X11_alike_L125 N _ F2) 264 ((2 : Nat) : Int) k (I 13 0) (I 13 (((2 : Nat) : Int) - 1)) x w mk) _
          unfold X11_alike_L125_b
          rw [if_pos (by decide)]
          refine wp_b (m_cells r4 md4 z) ?_
          unfold X11_alike_J140
          rw [if_neg (by omega), if_neg (by decide)]
          by_cases u1 : (w : Int) = x
          · rw [if_pos u1]
            exact skip (fun u => u.1 u1)
          · rw [if_neg u1]
            refine wp_b (m_canHang hN r4 md4 my40 z n c1.1.1 c1.1.2 (by omega) (by omega)) ?_
            by_cases u2 : l 1 (I 13 (((2 : Nat) : Int) - 1)) = (w : Int) ∨ isF I l w = 1
            · rw [← bi_t u2, if_pos (by decide)]
              unfold X11_alike_J169
              rw [if_neg (by decide)]
              refine wp_b (gR52 r4) ?_
              rw [wI_of2 (x := 10 + I 13 (((2 : Nat) : Int) - 1)) (by have := n.2.2.2.1; omega) (by have := n.2.2.2.1; omega)]
              obtain ⟨g2, eg2, my5, ly5⟩ := my_mv n my4 c1.1.1 c1.1.2 (c := (w : Int))
              refine wp_b eg2 ?_
              have f5 := alf_trans f4 (alf_ly ly5)
              have r5 := alf_refs f5 r
              have md5 := alf_md f5 md
              have b5 : BM (setA mk 298 g2) (al2 I l x (al1 I l ((2 : Nat) : Int) x) w) := by
                unfold BM
                rw [setA_ne (by decide), setA_ne (by decide)]
                exact b4
              have e5 : mvL l4 (I 13 (((2 : Nat) : Int) - 1)) w = mvL (mvL l (I 13 0) x) (I 13 (((2 : Nat) : Int) - 1)) w := lk_2 lk4 h4
              have lk5 : Lk l (mvL l4 (I 13 (((2 : Nat) : Int) - 1)) w) (I 13 0) (I 13 (((2 : Nat) : Int) - 1)) := lk_mv lk4 (Or.inr rfl)
              rw [e5] at my5 lk5
              unfold X11_alike_J186
              obtain ⟨m6, e6, b6, f6, r6, md6, my6⟩ := m_compares hN r5 md5 my5 z n vl kc (mv_tc (mv_tc tc (by omega) (by omega)) (by omega) (by omega)) hk b5 x w
              refine wp_b e6 ?_
              unfold X11_alike_J194
              refine ih2 _ m6 (by first | omega | (simp (disch := omega) only [wI_of2] <;> omega)) ⟨?_, alf_trans f5 f6, _, my6, lk5, ?_⟩
              · rw [e2, if_pos ⟨u1, u2⟩]
                exact b6
              · have ne : ¬I 13 0 = I 13 (((2 : Nat) : Int) - 1) := fun e => by
                  have := cl_inj n cl (i := 0) (j := ((2 : Nat) : Int) - 1) (by omega) (by omega) (by omega) (by omega) e
                  omega
                rw [mv_1, if_neg ne, mv_1, if_pos rfl]
            · rw [← bi_f u2, if_neg (by decide)]
              exact skip (fun u => u2 u.2)
        · obtain ⟨b4, f4, l4, my4, lk4, h4⟩ := hI2
          have r4 := alf_refs f4 r
          have md4 := alf_md f4 md
          show Wp (X11_alike_L125_b N _ (X11_alike_L125 N _ F2) 264 ((2 : Nat) : Int) k (I 13 0) (I 13 (((2 : Nat) : Int) - 1)) x (nC I).toNat mk) _
          unfold X11_alike_L125_b
          rw [if_pos (by decide)]
          refine wp_b (m_cells r4 md4 z) ?_
          unfold X11_alike_J140
          rw [if_pos (by omega)]
          exact nxt mk l4 (by rw [es, if_pos y, if_neg (by decide)]; exact b4) f4 my4 lk4 0
    · rw [← bi_f y, if_neg (by decide)]
      unfold X11_alike_J200
      exact ih _ mm (by first | omega | (simp (disch := omega) only [wI_of2] <;> omega)) ⟨by rw [es, if_neg y]; exact bz, f, l2, my2, lk2⟩
  · obtain ⟨bz, f, l2, my2, lk2⟩ := hI
    have rm := alf_refs f r
    have mdm := alf_md f md
    have no := alk_ok n z cl gl (k := (q : Int)) (by omega) (by omega) q3
    show Wp (X11_alike_L89_b N alK (X11_alike_L89 N alK F) 264 (q : Int) k (I 13 0) (I 13 ((q : Int) - 1)) (nC I).toNat mm) _
    unfold X11_alike_L89_b
    refine wp_b (m_cells rm mdm z) ?_
    rw [if_pos (by omega)]
    have bz2 : BM mm (alk I l q) := bz
    rcases bz2 with ⟨b1, _⟩ | ⟨b1, b2, b3, b4, b5⟩
    · exact absurd b1 no
    · unfold alK
      unfold alA
      by_cases y : k = -1
      · rw [if_neg (fun u => u y), if_pos y]
        refine wp_b (g264 (by decide)) ?_
        exact wp_some ⟨b2, f⟩
      · rw [if_pos y, if_neg y]
        by_cases y2 : k = 20
        · rw [if_neg (fun u => u y2), if_pos y2]
          refine wp_b (g264 (by decide)) ?_
          exact wp_some ⟨b3, f⟩
        · rw [if_pos y2, if_neg y2]
          refine wp_b (gR71 rm) ?_
          refine wp_b (arI 2 (by decide +kernel) (by omega) (by omega) mm) ?_
          by_cases y3 : k = 0
          · rw [if_pos y3, y3]
            exact wp_some ⟨b4, f⟩
          · rw [if_neg y3, show k.toNat = 1 from by omega]
            exact wp_some ⟨b5, f⟩
theorem alike_ok {N : Nat} (hN : 2000 ≤ N) {m : Mem} (h : Inv m) (x k : Int) : ∃ v m1 m2, X10_alike N 3 x k m = some (v, m1) ∧ X11_alike N 264 x k m1 = some (v, m2) ∧ Inv m2 := by
  obtain ⟨P, b, I, l, s, h⟩ := h
  have hn : Cn I := h.2.2.1.2.1
  obtain ⟨n1, n2, n3, n4, n5, n6⟩ := id hn
  by_cases q : (1 ≤ x ∧ x ≤ 2) ∧ x ≤ I 12 0 ∧ 0 < I 6 0 ∧ (k = -1 ∨ k = 20 ∨ 0 ≤ k ∧ k < x)
  · obtain ⟨⟨x0, x1⟩, x2, hk, k0⟩ := q
    obtain ⟨xn, rfl⟩ : ∃ d : Nat, x = (d : Int) := ⟨x.toNat, (Int.toNat_of_nonneg (by omega)).symm⟩
    refine comb (P := P) (b := b) (I := I) (l := l) (s := s) (alA I l xn k) ?_ (fun m1 h => ?_)
    · obtain ⟨mt, et, ht, nx, _⟩ := i_told2 hN h
      have h0 := h
      have go : Wp (X10_alike_J55 N 3 (xn : Int) k m) (fun p => p.1 = alA I l xn k ∧ InvP p.2 P b I l s) := by
        have rA := h0.1
        have bA := h0.2.1.1
        unfold X10_alike_J55
        refine wp_b (gX14 rA) ?_
        refine wp_b (b3_R bA) ?_
        refine wp_b (gX5 rA) ?_
        refine wp_b et ?_
        have h := ht
        obtain ⟨r, ⟨b3, bb, b4, ps, md, mn⟩, ⟨z, n, kc, vl, cl, fx, cm⟩, ⟨hl, my, gl⟩, pa, to, zz, hg, wk, se, rd, te, fe, oe, kst⟩ := id h; have h1 := ps.1; have tc := gl.1; have hs := vl.2.2.2.2
        have kn : KN mt P I l := ⟨r, h1, hl, nx⟩
        obtain ⟨m2, e2, f2, hg2, g8, g9, g0, g1⟩ := x_find hN kn z n vl kc cl gl hk (q := xn) (by omega) (by omega) hg
        have k2 := hn_kn n f2 kn
        have i2 : InvP m2 P b I l s := inv_fr ht (fun a j hj => f2 a j (fun u => hj (hns_scr u))) ⟨by rw [f2 161 0 (by unfold HnS; omega)]; exact to.1, by rw [f2 3 12 (by unfold HnS; omega)]; exact to.2.1, fun _ => k2.2.2.2⟩ hg2
        refine wp_b e2 ?_
        unfold alA
        by_cases y : k = -1
        · rw [if_neg (fun u => u y), if_pos y]
          refine wp_b (gX14 i2.1) ?_
          refine wp_b (h8I m2) ?_
          exact wp_some ⟨g8, i2⟩
        · rw [if_pos y, if_neg y]
          by_cases y2 : k = 20
          · rw [if_neg (fun u => u y2), if_pos y2]
            refine wp_b (gX14 i2.1) ?_
            refine wp_b (h9I m2) ?_
            exact wp_some ⟨g9, i2⟩
          · rw [if_pos y2, if_neg y2]
            refine wp_b (gX14 i2.1) ?_
            have bs : X0_bestSpot 250 k m2 = some (m2 257 k.toNat) := by
              refine wp_eq ?_
              unfold X0_bestSpot
              refine wp_k k250 ?_
              rw [if_neg (by omega), if_neg (by omega)]
              refine wp_b (h7R i2.1) ?_
              refine wp_b (arI 2 (by decide +kernel) (by omega) (by omega) m2) ?_
              exact wp_some rfl
            refine wp_b bs ?_
            by_cases y3 : k = 0
            · rw [if_pos y3, y3]
              exact wp_some ⟨g0, i2⟩
            · rw [if_neg y3, show k.toNat = 1 from by omega]
              exact wp_some ⟨g1 (by omega), i2⟩
      obtain ⟨r, ⟨b3, bb, b4, ps, md, mn⟩, ⟨z, n, kc, vl, cl, fx, cm⟩, ⟨hl, my, gl⟩, pa, to, zz, hg, wk, se, rd, te, fe, oe, kst⟩ := id h; have h1 := ps.1; have tc := gl.1; have hs := vl.2.2.2.2
      unfold X10_alike
      refine wp_k k3 ?_
      rw [if_neg (by omega), if_neg (by omega)]
      refine wp_b (b3_R b3) ?_
      refine wp_b (pd_I h1 (by decide)) ?_
      rw [if_neg (by omega)]
      refine wp_b (b3_R b3) ?_
      refine wp_b (pd_I h1 (by decide)) ?_
      rw [if_pos (by omega)]
      by_cases y : k = -1
      · rw [if_pos y]; exact go
      · rw [if_neg y]
        by_cases y2 : k = 20
        · rw [if_pos y2]; exact go
        · rw [if_neg y2, if_neg (by omega), if_pos (by omega)]; exact go
    · obtain ⟨r, ⟨b3, bb, b4, ps, md, mn⟩, ⟨z, n, kc, vl, cl, fx, cm⟩, ⟨hl, my, gl⟩, pa, to, zz, hg, wk, se, rd, te, fe, oe, kst⟩ := id h; have h1 := ps.1; have tc := gl.1; have hs := vl.2.2.2.2
      have go : Wp (X11_alike_J53 N 264 (xn : Int) k m1) (fun p => p.1 = alA I l xn k ∧ Inv p.2) := by
        unfold X11_alike_J53
        refine wp_b (m_cloth hN r md n cl (by decide) (by omega)) ?_
        rw [wI_of2 (x := (xn : Int) - 1) (by omega) (by omega)]
        refine wp_b (m_cloth hN r md n cl (by omega) (by omega)) ?_
        obtain ⟨m2, e2, my2, ly⟩ := m_copies (to := 1) (fr := 0) hN r my (by decide) (by decide)
        refine wp_b e2 ?_
        refine wp_b (p264 (by decide) _ m2) ?_
        refine wp_b (p264 (by decide) _ _) ?_
        have f3 : AlF m1 (up (up m2 264 69 1000000) 264 70 (-1)) := alf_up (alf_up (alf_ly ly) (by decide) _) (by decide) _
        have my3 : MY (up (up m2 264 69 1000000) 264 70 (-1)) 1 l (nT I) := ml_off my2 (fun a _ _ => by rw [up_setA, setA_ne (by omega), up_setA, setA_ne (by omega)])
        have J := m_alL hN r md my f3 z n vl kc cl gl hk (q := xn) (by omega) (by omega) (k := k) (by omega) my3 (fun _ _ _ => rfl) (Or.inl ⟨rfl, by rw [up_slot (by decide), up_same], up_same _ _ _ _⟩)
        exact wp_c J (fun p hp => ⟨hp.1, P, b, I, l, s, inv_m h (fun a j hj => alf_scr hp.2 hj) (fun a ha => hp.2.1 a (by omega))⟩)
      unfold X11_alike
      refine wp_k k264 ?_
      refine wp_b (m_is _ _ _ _) ?_
      rw [← bi_t (show 1 ≤ (xn : Int) ∧ (xn : Int) ≤ 2 from ⟨x0, x1⟩), if_neg (by decide)]
      refine wp_b (gR21 r) ?_
      refine wp_b (md_bank md) ?_
      refine wp_b (md_s21 md) ?_
      rw [if_neg (by omega)]
      refine wp_b (m_cloths hN r md n cl) ?_
      rw [if_neg (by omega)]
      by_cases y : k = -1
      · rw [if_pos y]; exact go
      · rw [if_neg y]
        by_cases y2 : k = 20
        · rw [if_pos y2]; exact go
        · rw [if_neg y2, wI_of2 (x := (xn : Int) - 1) (by omega) (by omega)]
          refine wp_b (m_is _ _ _ _) ?_
          rw [← bi_t (show 0 ≤ k ∧ k ≤ (xn : Int) - 1 from by omega), if_pos (by decide)]
          exact go
  · refine comb (P := P) (b := b) (I := I) (l := l) (s := s) (-1) ?_ (fun m1 h => ?_)
    · obtain ⟨r, ⟨b3, bb, b4, ps, md, mn⟩, ⟨z, n, kc, vl, cl, fx, cm⟩, ⟨hl, my, gl⟩, pa, to, zz, hg, wk, se, rd, te, fe, oe, kst⟩ := id h; have h1 := ps.1; have tc := gl.1; have hs := vl.2.2.2.2
      unfold X10_alike
      refine wp_k k3 ?_
      by_cases y1 : x < 1
      · rw [if_pos y1]; exact wp_some ⟨rfl, h⟩
      rw [if_neg y1]
      by_cases y2 : 2 < x
      · rw [if_pos y2]; exact wp_some ⟨rfl, h⟩
      rw [if_neg y2]
      refine wp_b (b3_R b3) ?_
      refine wp_b (pd_I h1 (by decide)) ?_
      by_cases y3 : I 12 0 < x
      · rw [if_pos y3]; exact wp_some ⟨rfl, h⟩
      rw [if_neg y3]
      refine wp_b (b3_R b3) ?_
      refine wp_b (pd_I h1 (by decide)) ?_
      by_cases y4 : I 6 0 = 0
      · rw [if_neg (fun u => u y4)]; exact wp_some ⟨rfl, h⟩
      rw [if_pos y4, if_neg (by omega), if_neg (by omega)]
      by_cases y5 : k < 0
      · rw [if_pos y5]; exact wp_some ⟨rfl, h⟩
      rw [if_neg y5, if_neg (by omega)]
      exact wp_some ⟨rfl, h⟩
    · obtain ⟨r, ⟨b3, bb, b4, ps, md, mn⟩, ⟨z, n, kc, vl, cl, fx, cm⟩, ⟨hl, my, gl⟩, pa, to, zz, hg, wk, se, rd, te, fe, oe, kst⟩ := id h; have h1 := ps.1; have tc := gl.1; have hs := vl.2.2.2.2
      have fin : Wp (some ((-1 : Int), m1)) (fun p => p.1 = -1 ∧ Inv p.2) := wp_some ⟨rfl, P, b, I, l, s, h⟩
      unfold X11_alike
      refine wp_k k264 ?_
      refine wp_b (m_is _ _ _ _) ?_
      by_cases y1 : 1 ≤ x ∧ x ≤ 2
      · rw [← bi_t y1, if_neg (by decide)]
        refine wp_b (gR21 r) ?_
        refine wp_b (md_bank md) ?_
        refine wp_b (md_s21 md) ?_
        by_cases y4 : I 6 0 = 0
        · rw [if_pos y4]; exact fin
        rw [if_neg y4]
        refine wp_b (m_cloths hN r md n cl) ?_
        by_cases y3 : I 12 0 < x
        · rw [if_pos y3]; exact fin
        rw [if_neg y3, if_neg (by omega), if_neg (by omega), wI_of2 (x := x - 1) (by omega) (by omega)]
        refine wp_b (m_is _ _ _ _) ?_
        rw [← bi_f (show ¬(0 ≤ k ∧ k ≤ x - 1) from by omega), if_neg (by decide)]
        exact fin
      · rw [← bi_f y1, if_pos (by decide)]
        exact fin
