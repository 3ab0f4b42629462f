/-! the reference's dew, an hour; its night -/
def NtF (m m2 : Mem) : Prop := (∀ a, ¬(a = 264 ∨ 300 ≤ a ∧ a ≤ 305) → m2 a = m a) ∧ ∀ j, ¬(58 ≤ j ∧ j ≤ 61) → m2 264 j = m 264 j
theorem ntf_refl (m : Mem) : NtF m m := ⟨fun _ _ => rfl, fun _ _ => rfl⟩
theorem ntf_trans {m m2 m3 : Mem} (h : NtF m m2) (g : NtF m2 m3) : NtF m m3 := ⟨fun a ha => by rw [g.1 a ha, h.1 a ha], fun j hj => by rw [g.2 j hj, h.2 j hj]⟩
theorem ntf_set {m m2 : Mem} (h : NtF m m2) {a : Nat} (q : 300 ≤ a ∧ a ≤ 305) (g : Nat → Int) : NtF m (setA m2 a g) := ⟨fun b hb => by rw [setA_ne (by omega)]; exact h.1 b hb, fun j hj => by rw [setA_ne (by omega)]; exact h.2 j hj⟩
theorem ntf_up {m m2 : Mem} (h : NtF m m2) {j : Nat} (q : 58 ≤ j ∧ j ≤ 61) (v : Int) : NtF m (up m2 264 j v) := ⟨fun b hb => by
    rw [up_setA, setA_ne (by omega)]; exact h.1 b hb, fun i hi => by
    rw [up_at, if_neg (by omega)]; exact h.2 i hi⟩
theorem ntf_c1 : ∀ j, j < 62 → 58 ≤ j → isRef 264 j = false := by decide +kernel
theorem ntf_c2 : ∀ a, a < 306 → 300 ≤ a → (shK a == 1 || shK a == 2) = true := by decide +kernel
theorem ntf_refs {m m2 : Mem} (h : NtF m m2) (r : Refs m) : Refs m2 := refs_of r fun a k hk => by
  by_cases q : a = 264
  · subst q
    refine h.2 k fun y => ?_
    rw [ntf_c1 k (by omega) y.1] at hk
    cases hk
  · rw [h.1 a (fun y => ?_)]
    rcases y with y | y
    · exact q y
    · have c := ntf_c2 a (by omega) y.1
      unfold isRef at hk
      simp only [Bool.or_eq_true, beq_iff_eq] at c
      rcases c with c | c <;> rw [c] at hk <;> cases hk
theorem ntf_md {m m2 : Mem} {b : Nat} {I : Isl} (h : NtF m m2) (d : MD m b I) : MD m2 b I := md_off d (h.2 13 (by omega)) (fun a _ _ => h.1 a (by omega))
theorem ntf_my {m m2 : Mem} {v n : Nat} {l : Lnd} (h : NtF m m2) (d : MY m v l n) : MY m2 v l n := ml_off d (fun a _ _ => h.1 a (by omega))
/-- what is kept of things in an hour -/
def DwM (m : Mem) (h t : Nat) (I : Isl) (l : Lnd) (sk : Int → Int) : Prop := m 303 (10 * (h + 1) + t) = cam I l sk (l 1 t) (I 10 t) h ∧ m 304 (10 * (h + 1) + t) = dri I l sk (l 1 t) (I 10 t) h ∧ m 305 (10 * (h + 1) + t) = dwt I l sk (l 1 t) (I 10 t) (h + 1)
theorem p264 {j : Nat} (h : j < 78) (v : Int) (m : Mem) : putI 11 j 264 v m = some (up m 264 j v) := ptI (g264_c j h) v m
theorem wrt_0 (f code : Int → Int) : wrt f code 0 = 0 := rfl
theorem ak_up {m : Mem} {b v t h : Nat} {w : Int} {I : Isl} {l : Lnd} {sk : Int → Int} (k : AK m b v t h w I l sk) (w2 : Int) : AK (up m 264 61 w2) b v t h w2 I l sk := by
  obtain ⟨h1, h2, h3, h4, h5, h6, h7, h8, h9⟩ := k
  have f := ntf_up (ntf_refl m) (j := 61) (by omega) w2
  refine ⟨ntf_refs f h1, ntf_md f h2, ntf_my f h3, ?_, ?_, ?_, up_same _ _ _ _, ?_, ?_⟩
  · rw [up_slot (by decide)]; exact h4
  · rw [up_slot (by decide)]; exact h5
  · rw [up_slot (by decide)]; exact h6
  · rw [up_obj (by decide)]; exact h8
  · rw [up_obj (by decide)]; exact h9
def DewS (m mm : Mem) (h : Nat) : Prop := NtF m mm ∧ mm 301 = m 301 ∧ mm 302 = m 302 ∧ ∀ x, x < 10 * (h + 1) → mm 303 x = m 303 x ∧ mm 304 x = m 304 x ∧ mm 305 x = m 305 x
theorem dews_300 {m mm : Mem} {h : Nat} (d : DewS m mm h) (g : Nat → Int) : DewS m (setA mm 300 g) h := by
  obtain ⟨d1, d2, d3, d4⟩ := d
  refine ⟨ntf_set d1 (by omega) g, ?_, ?_, fun x hx => ?_⟩
  · rw [setA_ne (by decide)]; exact d2
  · rw [setA_ne (by decide)]; exact d3
  · rw [setA_ne (by decide), setA_ne (by decide), setA_ne (by decide)]; exact d4 x hx
theorem dews_up {m mm : Mem} {h : Nat} (d : DewS m mm h) {j : Nat} (q : 58 ≤ j ∧ j ≤ 61) (v : Int) : DewS m (up mm 264 j v) h := by
  obtain ⟨d1, d2, d3, d4⟩ := d
  refine ⟨ntf_up d1 q v, ?_, ?_, fun x hx => ?_⟩
  · rw [up_setA, setA_ne (by decide)]; exact d2
  · rw [up_setA, setA_ne (by decide)]; exact d3
  · rw [up_setA, setA_ne (by decide), setA_ne (by decide), setA_ne (by decide)]; exact d4 x hx
theorem dews_set {m mm : Mem} {h : Nat} (d : DewS m mm h) {a : Nat} (q : a = 303 ∨ a = 304 ∨ a = 305) {g : Nat → Int} {t : Nat} (hg : ∀ x, ¬x = 10 * (h + 1) + t → g x = mm a x) : DewS m (setA mm a g) h := by
  obtain ⟨d1, d2, d3, d4⟩ := d
  refine ⟨ntf_set d1 (by omega) g, ?_, ?_, fun x hx => ?_⟩
  · rw [setA_ne (by omega)]; exact d2
  · rw [setA_ne (by omega)]; exact d3
  · have e : ∀ c, setA mm a g c x = mm c x := fun c => by
      unfold setA
      by_cases y : c = a
      · rw [if_pos y, hg x (by omega), y]
      · rw [if_neg y]
    rw [e, e, e]; exact d4 x hx
theorem dwm_keep {m m2 : Mem} {h t : Nat} {I : Isl} {l : Lnd} {sk : Int → Int} (d : DwM m h t I l sk) (q : ∀ a, a = 303 ∨ a = 304 ∨ a = 305 → m2 a (10 * (h + 1) + t) = m a (10 * (h + 1) + t)) : DwM m2 h t I l sk := by
  unfold DwM
  rw [q 303 (by omega), q 304 (by omega), q 305 (by omega)]
  exact d
/-- a sum that may not have been told -/
theorem m_sum0 {N : Nat} (hN : 2000 ≤ N) {m : Mem} {b v t h : Nat} {w : Int} {I : Isl} {l : Lnd} {sk : Int → Int} (k : AK m b v t h w I l sk) (z : Sz I) (n : Cn I) (vl : Vl I) (tc : Tc I l) (ht : t < nT I) (h0 : 1 ≤ h) (h1 : h ≤ 12) (w0 : 0 ≤ w) (w1 : w ≤ 2000) {a a2 : Nat} {most : Int} {code : Int → Int} {nn : Nat} (sm : SM m b a a2 code nn) (wf : WF code nn) (m0 : 0 ≤ most) (m1 : most ≤ 100000) {Q : Mem → Prop} {K : Int → Mem → Option Mem} (hK : ∀ g, Wp (K (lim (wrt (fcs I l sk (l 1 t) (I 10 t) h w) code nn) most) (setA m 300 g)) Q) : Wp (if ¬m a b = -1 then (X11_sumOf N 264 (m a b) (m a2 b) most m).bind fun p => K p.1 p.2 else K 0 m) Q := by
  rcases sm with ⟨e1, e2⟩ | ⟨e1, e2, e3, e4⟩
  · rw [if_neg (fun x => x e1)]
    have q := hK (m 300)
    rw [setA_self, e2, wrt_0, show lim 0 most = 0 from by unfold lim; omega] at q
    exact q
  · rw [if_pos e1, e3]
    refine wp_bw (m_sum hN k z n vl tc ht h0 h1 w0 w1 e2 e4 wf m0 m1) (fun p hp => ?_)
    obtain ⟨p1, g, p2⟩ := hp
    rw [p1, p2]
    exact hK g
theorem sm_same {m m2 : Mem} {b a a2 : Nat} {code : Int → Int} {nn : Nat} (h : SM m b a a2 code nn) (e1 : m2 a = m a) (e2 : m2 a2 = m a2) (e3 : m2 287 = m 287) (e4 : m2 288 = m 288) : SM m2 b a a2 code nn := by
  unfold SM CdM at *
  rw [e1, e2, e3, e4]
  exact h
theorem m_dews {N : Nat} (hN : 2000 ≤ N) {m : Mem} {b v : Nat} {I : Isl} {l : Lnd} {sk : Int → Int} (r : Refs m) (md : MD m b I) (my : MY m v l (nT I)) (z : Sz I) (n : Cn I) (vl : Vl I) (tc : Tc I l) {h : Nat} (hh : h < 12) (hs : m 301 h = sk ((h : Int) + 1)) (hc : ∀ c : Int, 0 ≤ c → c < nC I → m 302 (42 * (h + 1) + c.toNat) = cold I l sk c (h + 1)) (hw : ∀ t : Nat, t < nT I → m 305 (10 * h + t) = dwt I l sk (l 1 t) (I 10 t) h) : Wp (X11_dews N 264 v ((h : Int) + 1) m) (fun m2 => DewS m m2 h ∧ ∀ t : Nat, t < nT I → DwM m2 h t I l sk) := by
  obtain ⟨n1, n2, n3, n4, n5, n6⟩ := id n
  unfold X11_dews
  refine wp_k k264 ?_
  refine wp_b (p264 (by decide) _ _) ?_
  refine wp_b (p264 (by decide) _ _) ?_
  have d0 : DewS m m h := ⟨ntf_refl m, rfl, rfl, fun _ _ => ⟨rfl, rfl, rfl⟩⟩
  refine lw_1 (fun j mm => DewS m mm h ∧ mm 264 58 = (v : Int) ∧ mm 264 60 = ((h + 1 : Nat) : Int) ∧ ∀ t : Nat, t < j → DwM mm h t I l sk) (fun F i mm => X11_dews_L12 N F 264 ((h : Int) + 1) i mm) (nT I) _ (fun F j mm hj hI ih => ?_) (fun F mm hI => ?_) N _ (by omega) ⟨dews_up (dews_up d0 (by omega) _) (by omega) _, ?_, up_same _ _ _ _, fun t ht => absurd ht (by omega)⟩
  · obtain ⟨ds, e58, e60, dm⟩ := hI
    have rr := ntf_refs ds.1 r
    have tj := tc j (by omega) (by omega)
    have dd := dwt_in I l sk (l 1 j) (I 10 j) h
    have de := dwt_s I l sk (l 1 j) (I 10 j) h
    have dj := dwt_in I l sk (l 1 j) (I 10 j) (h + 1)
    show Wp (X11_dews_L12_b N (X11_dews_L12 N F) 264 ((h : Int) + 1) j mm) _
    unfold X11_dews_L12_b
    refine wp_b (gR23 rr) ?_
    refine wp_b (md_bank (ntf_md ds.1 md)) ?_
    refine wp_b (md_s23 (ntf_md ds.1 md)) ?_
    rw [if_neg (by omega)]
    refine wp_b (p264 (by decide) _ _) ?_
    have ds1 := dews_up ds (j := 59) (by omega) (j : Int)
    refine wp_b (gR66 (ntf_refs ds1.1 r)) ?_
    rw [wI_of2 (x := 10 * ((h : Int) + 1)) (by omega) (by omega), wI_of2 (x := 10 * ((h : Int) + 1) + j) (by omega) (by omega), wI_of2 (x := 10 * ((h : Int) + 1) + j - 10) (by omega) (by omega)]
    refine wp_b (arI 130 (by decide +kernel) (by omega) (by omega) _) ?_
    rw [show (10 * ((h : Int) + 1) + (j : Int) - 10).toNat = 10 * h + j from by omega, (ds1.2.2.2 (10 * h + j) (by omega)).2.2, hw j hj]
    refine wp_b (p264 (by decide) _ _) ?_
    have ds2 := dews_up ds1 (j := 61) (by omega) (dwt I l sk (l 1 j) (I 10 j) h)
    have ak : AK (up (up mm 264 59 (j : Int)) 264 61 (dwt I l sk (l 1 j) (I 10 j) h)) b v j (h + 1) (dwt I l sk (l 1 j) (I 10 j) h) I l sk := by
      refine ⟨ntf_refs ds2.1 r, ntf_md ds2.1 md, ntf_my ds2.1 my, ?_, ?_, ?_, up_same _ _ _ _, ?_, ?_⟩
      · rw [up_slot (by decide), up_slot (by decide)]; exact e58
      · rw [up_slot (by decide)]; exact up_same _ _ _ _
      · rw [up_slot (by decide), up_slot (by decide)]; exact e60
      · rw [ds2.2.1]; exact hs
      · rw [ds2.2.2.1]; exact hc _ tj.1 tj.2
    have dm2 : ∀ t : Nat, t < j → DwM (up (up mm 264 59 (j : Int)) 264 61 (dwt I l sk (l 1 j) (I 10 j) h)) h t I l sk := fun t ht => dwm_keep (dm t ht) fun a ha => by
      rw [up_setA, setA_ne (by omega), up_setA, setA_ne (by omega)]
    generalize up (up mm 264 59 (j : Int)) 264 61 (dwt I l sk (l 1 j) (I 10 j) h) = mA at ds2 ak dm2 ⊢
    have rA := ak.1
    have mdA := ak.2.1
    refine wp_b (gR64 rA) ?_
    refine wp_b (gR28 rA) ?_
    refine wp_b (md_bank mdA) ?_
    refine wp_b (md_two mdA (by decide +kernel) rfl) ?_
    refine Eq.mp (congrArg (fun X => Wp X _) ?_) (m_sum0 (Q := _) (K := fun x mm2 => X11_dews_J99 N (X11_dews_L12 N F) 264 ((h : Int) + 1) j (10 * ((h : Int) + 1) + (j : Int)) 303 (10 * ((h : Int) + 1) + (j : Int)) x mm2) hN ak z n vl tc hj (by omega) (by omega) (by omega) (by omega) (most := 99) mdA.2.2.2.2.2.2.2.2.1 vl.2.2.1 (by omega) (by omega) ?_)
    · by_cases q : mA 280 b = -1
      · rw [if_neg (fun x => x q), if_neg (fun x => x q)]
      · rw [if_pos q, if_pos q, gR28 rA, Option.bind_some, md_bank mdA, Option.bind_some, md_two mdA (by decide +kernel) rfl, Option.bind_some, gR29 rA, Option.bind_some, Option.bind_some, md_two mdA (by decide +kernel) rfl, Option.bind_some]
    · intro g
      have akB := ak_set ak (a := 300) (Or.inl rfl) g
      have dsB := dews_300 ds2 g
      have dmB : ∀ t : Nat, t < j → DwM (setA mA 300 g) h t I l sk := fun t ht => dwm_keep (dm2 t ht) fun a ha => by rw [setA_ne (by omega)]
      generalize setA mA 300 g = mB at akB dsB dmB ⊢
      have ec : lim (wrt (fcs I l sk (l 1 j) (I 10 j) (h + 1) (dwt I l sk (l 1 j) (I 10 j) h)) (I 22) (nD I)) 99 = cam I l sk (l 1 j) (I 10 j) h := rfl
      rw [ec]
      show Wp (X11_dews_J99 N (X11_dews_L12 N F) 264 ((h : Int) + 1) j (10 * ((h : Int) + 1) + (j : Int)) 303 (10 * ((h : Int) + 1) + (j : Int)) (cam I l sk (l 1 j) (I 10 j) h) mB) _
      unfold X11_dews_J99
      obtain ⟨g1, e1, a1, b1⟩ := ar_stE (a := 303) (n := 130) (i := 10 * ((h : Int) + 1) + j) (by decide +kernel) (by decide +kernel) (by decide) (by omega) (by omega) (cam I l sk (l 1 j) (I 10 j) h) mB
      rw [show (10 * ((h : Int) + 1) + (j : Int)).toNat = 10 * (h + 1) + j from by omega] at a1 b1
      refine wp_b e1 ?_
      have akC := ak_set akB (a := 303) (Or.inr (Or.inl rfl)) g1
      have dsC := dews_set dsB (a := 303) (Or.inl rfl) b1
      have dmC : ∀ t : Nat, t < j → DwM (setA mB 303 g1) h t I l sk := fun t ht => dwm_keep (dmB t ht) fun a ha => by
        unfold setA
        by_cases y : a = 303
        · rw [if_pos y, b1 _ (by omega), y]
        · rw [if_neg y]
      have vC : setA mB 303 g1 303 (10 * (h + 1) + j) = cam I l sk (l 1 j) (I 10 j) h := by rw [setA_same]; exact a1
      generalize setA mB 303 g1 = mC at akC dsC dmC vC ⊢
      refine wp_b (g264 (by decide)) ?_
      rw [akC.2.2.2.2.2.2.1]
      refine wp_b (gR64 akC.1) ?_
      refine wp_b (arI 130 (by decide +kernel) (by omega) (by omega) _) ?_
      rw [show (10 * ((h : Int) + 1) + (j : Int)).toNat = 10 * (h + 1) + j from by omega, vC, wI_of2 (x := dwt I l sk (l 1 j) (I 10 j) h + cam I l sk (l 1 j) (I 10 j) h) (by omega) (by omega)]
      refine wp_b (p264 (by decide) _ _) ?_
      have akD := ak_up akC (dwt I l sk (l 1 j) (I 10 j) h + cam I l sk (l 1 j) (I 10 j) h)
      have dsD := dews_up dsC (j := 61) (by omega) (dwt I l sk (l 1 j) (I 10 j) h + cam I l sk (l 1 j) (I 10 j) h)
      have dmD : ∀ t : Nat, t < j → DwM (up mC 264 61 (dwt I l sk (l 1 j) (I 10 j) h + cam I l sk (l 1 j) (I 10 j) h)) h t I l sk := fun t ht => dwm_keep (dmC t ht) fun a ha => by rw [up_setA, setA_ne (by omega)]
      have vD : up mC 264 61 (dwt I l sk (l 1 j) (I 10 j) h + cam I l sk (l 1 j) (I 10 j) h) 303 (10 * (h + 1) + j) = cam I l sk (l 1 j) (I 10 j) h := by rw [up_obj (by decide)]; exact vC
      generalize up mC 264 61 (dwt I l sk (l 1 j) (I 10 j) h + cam I l sk (l 1 j) (I 10 j) h) = mD at akD dsD dmD vD ⊢
      have rD := akD.1
      have mdD := akD.2.1
      refine wp_b (gR65 rD) ?_
      refine wp_b (gR30 rD) ?_
      refine wp_b (md_bank mdD) ?_
      refine wp_b (md_two mdD (by decide +kernel) rfl) ?_
      refine Eq.mp (congrArg (fun X => Wp X _) ?_) (m_sum0 (Q := _) (K := fun x mm2 => X11_dews_J165 N (X11_dews_L12 N F) 264 ((h : Int) + 1) j (10 * ((h : Int) + 1) + (j : Int)) 304 (10 * ((h : Int) + 1) + (j : Int)) x mm2) hN akD z n vl tc hj (by omega) (by omega) (by omega) (by omega) (most := dwt I l sk (l 1 j) (I 10 j) h + cam I l sk (l 1 j) (I 10 j) h) mdD.2.2.2.2.2.2.2.2.2 vl.2.2.2.1 (by omega) (by omega) ?_)
      · by_cases q : mD 282 b = -1
        · rw [if_neg (fun x => x q), if_neg (fun x => x q)]
        · rw [if_pos q, if_pos q, gR30 rD, Option.bind_some, md_bank mdD, Option.bind_some, md_two mdD (by decide +kernel) rfl, Option.bind_some, gR31 rD, Option.bind_some, Option.bind_some, md_two mdD (by decide +kernel) rfl, Option.bind_some, g264 (by decide), Option.bind_some, akD.2.2.2.2.2.2.1]
      · intro g3
        have akE := ak_set akD (a := 300) (Or.inl rfl) g3
        have dsE := dews_300 dsD g3
        have dmE : ∀ t : Nat, t < j → DwM (setA mD 300 g3) h t I l sk := fun t ht => dwm_keep (dmD t ht) fun a ha => by rw [setA_ne (by omega)]
        have vE : setA mD 300 g3 303 (10 * (h + 1) + j) = cam I l sk (l 1 j) (I 10 j) h := by rw [setA_ne (by decide)]; exact vD
        generalize setA mD 300 g3 = mE at akE dsE dmE vE ⊢
        have er : lim (wrt (fcs I l sk (l 1 j) (I 10 j) (h + 1) (dwt I l sk (l 1 j) (I 10 j) h + cam I l sk (l 1 j) (I 10 j) h)) (I 24) (nR I)) (dwt I l sk (l 1 j) (I 10 j) h + cam I l sk (l 1 j) (I 10 j) h) = dri I l sk (l 1 j) (I 10 j) h := rfl
        rw [er]
        show Wp (X11_dews_J165 N (X11_dews_L12 N F) 264 ((h : Int) + 1) j (10 * ((h : Int) + 1) + (j : Int)) 304 (10 * ((h : Int) + 1) + (j : Int)) (dri I l sk (l 1 j) (I 10 j) h) mE) _
        unfold X11_dews_J165
        obtain ⟨g4, e4, a4, b4⟩ := ar_stE (a := 304) (n := 130) (i := 10 * ((h : Int) + 1) + j) (by decide +kernel) (by decide +kernel) (by decide) (by omega) (by omega) (dri I l sk (l 1 j) (I 10 j) h) mE
        rw [show (10 * ((h : Int) + 1) + (j : Int)).toNat = 10 * (h + 1) + j from by omega] at a4 b4
        refine wp_b e4 ?_
        have akF := ak_set akE (a := 304) (Or.inr (Or.inr (Or.inl rfl))) g4
        have dsF := dews_set dsE (a := 304) (Or.inr (Or.inl rfl)) b4
        refine wp_b (gR66 akF.1) ?_
        refine wp_b (g264 (by decide)) ?_
        rw [akF.2.2.2.2.2.2.1]
        refine wp_b (gR65 akF.1) ?_
        refine wp_b (arI 130 (by decide +kernel) (by omega) (by omega) _) ?_
        rw [show (10 * ((h : Int) + 1) + (j : Int)).toNat = 10 * (h + 1) + j from by omega, setA_same, a4, show wI (dwt I l sk (l 1 j) (I 10 j) h + cam I l sk (l 1 j) (I 10 j) h - dri I l sk (l 1 j) (I 10 j) h) = dwt I l sk (l 1 j) (I 10 j) (h + 1) from by rw [wI_of2 (by omega) (by omega)]; exact de.symm]
        obtain ⟨g5, e5, a5, b5⟩ := ar_stE (a := 305) (n := 130) (i := 10 * ((h : Int) + 1) + j) (by decide +kernel) (by decide +kernel) (by decide) (by omega) (by omega) (dwt I l sk (l 1 j) (I 10 j) (h + 1)) (setA mE 304 g4)
        rw [show (10 * ((h : Int) + 1) + (j : Int)).toNat = 10 * (h + 1) + j from by omega] at a5 b5
        refine wp_b e5 ?_
        have akG := ak_set akF (a := 305) (Or.inr (Or.inr (Or.inr rfl))) g5
        have dsG := dews_set dsF (a := 305) (Or.inr (Or.inr rfl)) b5
        refine ih _ _ (by first | omega | (simp (disch := omega) only [wI_of2] <;> omega)) ⟨dsG, akG.2.2.2.1, by rw [akG.2.2.2.2.2.1], fun t ht => ?_⟩
        by_cases q : t = j
        · rw [q]
          refine ⟨?_, ?_, ?_⟩
          · rw [setA_ne (by decide), setA_ne (by decide)]; exact vE
          · rw [setA_ne (by decide), setA_same]; exact a4
          · rw [setA_same]; exact a5
        · refine dwm_keep (dmE t (by omega)) fun a ha => ?_
          rcases ha with y | y | y <;> subst y
          · rw [setA_ne (by decide), setA_ne (by decide)]
          · rw [setA_ne (by decide), setA_same, b4 _ (by omega)]
          · rw [setA_same, b5 _ (by omega), setA_ne (by decide)]
  · obtain ⟨ds, e58, e60, dm⟩ := hI
    show Wp (X11_dews_L12_b N (X11_dews_L12 N F) 264 ((h : Int) + 1) (nT I) mm) _
    unfold X11_dews_L12_b
    refine wp_b (gR23 (ntf_refs ds.1 r)) ?_
    refine wp_b (md_bank (ntf_md ds.1 md)) ?_
    refine wp_b (md_s23 (ntf_md ds.1 md)) ?_
    rw [if_pos (by omega)]
    exact wp_some ⟨ds, dm⟩
  · rw [up_slot (by decide)]; exact up_same _ _ _ _
