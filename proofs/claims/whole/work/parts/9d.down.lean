/-! a wall taken down on trial -/
/-- what may change, the land on trial whole -/
def Sc2 (P a k : Nat) : Prop := Scr P a k ∨ a = 73
theorem inv_fr2 {m m2 : Mem} {P b : Nat} {I : Isl} {l : Lnd} {s : Int} (h : InvP m P b I l s) (r2 : Refs m2) (f : ∀ a k, ¬Sc2 P a k → m2 a k = m a k) (t : TO m2 P I l) (hg : HG m2 I l) : InvP m2 P b I l s := by
  obtain ⟨h1, ⟨b1, b2, b3, b4, b5, b6⟩, h3, ⟨h4, h5, h6⟩, ⟨c, nx, uf, ls, pa1, pa2, pa3⟩, _, ⟨h9, h10⟩, _, h12, h13, h14, h15, h16, h17, h18⟩ := h
  have hP := b1.1
  have ro : ∀ a, (∀ k, ¬Sc2 P a k) → m2 a = m a := fun a ha => funext fun k => f a k (ha k)
  refine ⟨r2, ⟨⟨hP, by rw [f 3 3 (by unfold Sc2 Scr; omega)]; exact b1.2⟩, b2, by rw [f 3 4 (by unfold Sc2 Scr; omega)]; exact b3, ⟨pd_off b4.1 fun a a1 a2 _ _ _ => ro a (fun k => by unfold Sc2 Scr; omega), sd_off b4.2.1 (fun q q1 q2 => ro q (fun k => by unfold Sc2 Scr; omega)), sd_off b4.2.2 (fun q q1 q2 => ro q (fun k => by unfold Sc2 Scr; omega))⟩, md_off b5 (f 264 13 (by unfold Sc2 Scr; omega)) (fun a _ _ => ro a (fun k => by unfold Sc2 Scr; omega)), ?_⟩, h3, ⟨ld_off h4 (fun a _ _ => ro a (fun k => by unfold Sc2 Scr; omega)), ?_, h6⟩, ⟨c, nx, uf, ls, ?_, ?_, pa3⟩, t, ⟨by rw [f 204 0 (by unfold Sc2 Scr; omega)]; exact h9, by rw [f 245 0 (by unfold Sc2 Scr; omega)]; exact h10⟩, hg, ?_, ?_, ?_, ?_, ?_, ?_, kst_off h18 (ro 1 (fun k => by unfold Sc2 Scr; omega)) (ro 2 (fun k => by unfold Sc2 Scr; omega)) (ro 7 (fun k => by unfold Sc2 Scr; omega))⟩
  · unfold MN
    rw [ro 272 (fun k => by unfold Sc2 Scr; omega), ro 289 (fun k => by unfold Sc2 Scr; omega), ro 290 (fun k => by unfold Sc2 Scr; omega)]
    exact b6
  · obtain ⟨y1, y2, y3, y4, y5, y6⟩ := h5
    refine ⟨y1, fun i i0 i1 => ?_, fun i i0 i1 => ?_, fun i i0 i1 => ?_, ?_, y6⟩
    · rw [f 297 _ (by unfold Sc2 Scr; omega)]; exact y2 i i0 i1
    · rw [f 298 _ (by unfold Sc2 Scr; omega)]; exact y3 i i0 i1
    · rw [f 299 _ (by unfold Sc2 Scr; omega)]; exact y4 i i0 i1
    · rw [f 296 _ (by unfold Sc2 Scr; omega)]; exact y5
  · obtain ⟨p1, p2, p3, p4, p5⟩ := pa1
    exact ⟨by rw [f 77 2 (by unfold Sc2 Scr; omega)]; exact p1, by rw [f 77 1 (by unfold Sc2 Scr; omega)]; exact p2, p3, p4, fun i hi => ld_off (p5 i hi) fun a a1 a2 => ro a (fun k => by unfold Sc2 Scr; omega)⟩
  · obtain ⟨p1, p2, p3, p4, p5⟩ := pa2
    refine ⟨by rw [f 264 55 (by unfold Sc2 Scr; omega)]; exact p1, by rw [f 264 54 (by unfold Sc2 Scr; omega)]; exact p2, p3, p4, fun i hi => ?_⟩
    obtain ⟨y1, y2, y3, y4, y5, y6⟩ := p5 i hi
    refine ⟨y1, fun j i0 i1 => ?_, fun j i0 i1 => ?_, fun j i0 i1 => ?_, ?_, y6⟩
    · rw [f 297 _ (by unfold Sc2 Scr; omega)]; exact y2 j i0 i1
    · rw [f 298 _ (by unfold Sc2 Scr; omega)]; exact y3 j i0 i1
    · rw [f 299 _ (by unfold Sc2 Scr; omega)]; exact y4 j i0 i1
    · rw [f 296 _ (by unfold Sc2 Scr; omega)]; exact y5
  · unfold WK
    rw [f 258 1 (by unfold Sc2 Scr; omega), f 258 4 (by unfold Sc2 Scr; omega), f 264 72 (by unfold Sc2 Scr; omega), ro 261 (fun k => by unfold Sc2 Scr; omega), ro 309 (fun k => by unfold Sc2 Scr; omega)]
    exact h12
  · unfold SeedE
    rw [f 3 8 (by unfold Sc2 Scr; omega), f 264 56 (by unfold Sc2 Scr; omega)]
    exact h13
  · intro j hj
    rw [f 263 j (by unfold Sc2 Scr; omega), f 295 j (by unfold Sc2 Scr; omega)]
    exact h14 j hj
  · unfold TapeEq
    rw [f 3 1 (by unfold Sc2 Scr; omega), f 264 1 (by unfold Sc2 Scr; omega), ro 4 (fun k => by unfold Sc2 Scr; omega), ro 265 (fun k => by unfold Sc2 Scr; omega)]
    exact h15
  · unfold FaultEq
    rw [f 5 9 (by unfold Sc2 Scr; omega), f 5 10 (by unfold Sc2 Scr; omega), f 264 10 (by unfold Sc2 Scr; omega), f 264 11 (by unfold Sc2 Scr; omega)]
    exact h16
  · unfold OutEq
    rw [f 3 17 (by unfold Sc2 Scr; omega), f 264 77 (by unfold Sc2 Scr; omega), ro 262 (fun k => by unfold Sc2 Scr; omega), ro 312 (fun k => by unfold Sc2 Scr; omega)]
    exact h17
theorem sc2_of {P a k : Nat} (h : ¬Sc2 P a k) : ¬Scr P a k ∧ ¬a = 73 := ⟨fun u => h (Or.inl u), fun u => h (Or.inr u)⟩
/-- the class's night as told stays told -/
theorem to_off {m m2 : Mem} {P : Nat} {I : Isl} {l : Lnd} (n : Cn I) (hP : P = 11 ∨ P = 40) (t : TO m P I l) (r2 : Refs m2) (fa : ∀ a, a = 3 ∨ (160 ≤ a ∧ a ≤ 201) ∨ (P ≤ a ∧ a ≤ P + 28 ∧ ¬a = P + 27 ∧ ¬a = P + 27) → m2 a = m a) : TO m2 P I l := by
  have n9 := n.2.2.2.1
  obtain ⟨t1, t2, t3⟩ := t
  refine ⟨by rw [fa 161 (by omega)]; exact t1, by rw [fa 3 (by omega)]; exact t2, fun q => ?_⟩
  rw [fa 3 (by omega)] at q
  obtain ⟨⟨n1, n2, n3, n4, n5, n6⟩, n7, n8⟩ := t3 q
  refine ⟨⟨r2, sd_off n2 (fun q q1 q2 => fa q (by omega)), sd_off n3 (fun q q1 q2 => fa q (by omega)), ?_, ?_, ?_⟩, fun t ht => lay_off (n7 t ht) ⟨fa (159 + 7 + t) (by omega), fa (159 + 19 + t) (by omega), fa (159 + 31 + t) (by omega)⟩, ?_⟩
  · rw [fa (159 + 1) (by omega)]; exact n4
  · rw [fa (159 + 2) (by omega)]; exact n5
  · rw [fa (159 + 4) (by omega)]; exact n6
  · rw [fa (159 + 42) (by omega)]; exact n8
theorem hg_off {m m2 : Mem} {I : Isl} {l : Lnd} (h : HG m I l) (e1 : m2 250 = m 250) (e2 : m2 257 = m 257) : HG m2 I l := by
  unfold HG
  rw [e1, e2]
  exact h
theorem pd_sky {m : Mem} {P : Nat} {I : Isl} (h : PD m P I) : (shK (P + 22) = 1 ∧ shN (P + 22) = 13 ∧ 3 ≤ P + 22) ∧ ∀ x : Int, 0 ≤ x → x < 13 → m (P + 22) x.toNat = I 15 x := by
  refine ⟨?_, fun x x0 x1 => h.2.2.1 15 x x0 x1⟩
  rcases h.1 with e | e <;> subst e <;> decide +kernel
theorem inv_m {m m2 : Mem} {P b : Nat} {I : Isl} {l : Lnd} {s : Int} (h : InvP m P b I l s) (f : ∀ a k, ¬Scr P a k → m2 a k = m a k) (e : ∀ a, a < 264 → m2 a = m a) : InvP m2 P b I l s := by
  obtain ⟨r, ⟨b3, bb, b4, ps, md, mn⟩, ⟨z, n, kc, vl, cl, fx, cm⟩, ⟨hl, my, gl⟩, pa, to, zz, hg, wk, se, rd, te, fe, oe, kst⟩ := id h; have h1 := ps.1; have tc := gl.1; have hs := vl.2.2.2.2
  have hP := b3.1
  have r2 : Refs m2 := refs_of r (fun a k hk => f a k (fun y => by rw [scr_ref hP y] at hk; exact absurd hk (by decide)))
  exact inv_fr h f (to_off n hP to r2 (fun a ha => e a (by omega))) (hg_off hg (e 250 (by decide)) (e 257 (by decide)))
theorem sc_ly1 {P a k : Nat} {m m2 : Mem} (f : LyF 1 m m2) (h : ¬Scr P a k) : m2 a k = m a k := by
  by_cases q : 296 ≤ a ∧ a ≤ 299
  · have c : a = 296 ∨ a = 297 ∨ a = 298 ∨ a = 299 := by omega
    rcases c with c | c | c | c <;> subst c
    · exact f.2.2.2.2 k (fun u => h (scr_19 ⟨rfl, u⟩))
    · exact f.2.1 k (fun u => h (scr_20 ⟨rfl, by omega⟩))
    · exact f.2.2.1 k (fun u => h (scr_21 ⟨rfl, by omega⟩))
    · exact f.2.2.2.1 k (fun u => h (scr_22 ⟨rfl, by omega⟩))
  · rw [f.1 a q]
theorem sc_ntf {P a k : Nat} {m m2 : Mem} (f : NtF m m2) (h : ¬Scr P a k) : m2 a k = m a k := by
  by_cases q : a = 264
  · subst q
    exact f.2 k (fun u => h (scr_ntf (Or.inl ⟨rfl, u⟩)))
  · rw [f.1 a (fun u => h (scr_ntf (Or.inr (by omega))))]
theorem hw_cc {m : Mem} {P b : Nat} {I : Isl} {l : Lnd} {s : Int} (h : InvP m P b I l s) {c : Int} (hw : hasW l c = 1) : 0 ≤ c ∧ c < nC I ∧ c < 42 := by
  obtain ⟨r, ⟨b3, bb, b4, ps, md, mn⟩, ⟨z, n, kc, vl, cl, fx, cm⟩, ⟨hl, my, gl⟩, pa, to, zz, hg, wk, se, rd, te, fe, oe, kst⟩ := id h; have h1 := ps.1; have tc := gl.1; have hs := vl.2.2.2.2
  unfold hasW at hw
  have y := bi_1.mp hw
  refine ⟨y.1, ?_, y.2.1⟩
  rcases Int.lt_or_le c (nC I) with u | u
  · exact u
  · have := gl.2.2.1 c u y.2.1
    omega
/-- the class: a night goes by on trial without a wall -/
theorem i_passW {N : Nat} (hN : 2000 ≤ N) {m : Mem} {P b : Nat} {I : Isl} {l : Lnd} {s : Int} (h : InvP m P b I l s) {c : Int} (hw : hasW l c = 1) : ∃ m2, X10_passWithout N 3 c m = some m2 ∧ InvP m2 P b I l s ∧ NX m2 202 P I (wlL l c 0) (I 15) ∧ ∀ a, a = 3 ∨ 160 ≤ a ∧ a ≤ 201 → m2 a = m a := by
  have cc := hw_cc h hw
  obtain ⟨r, ⟨b3, bb, b4, ps, md, mn⟩, ⟨z, n, kc, vl, cl, fx, cm⟩, ⟨hl, my, gl⟩, pa, to, zz, hg, wk, se, rd, te, fe, oe, kst⟩ := id h; have h1 := ps.1; have tc := gl.1; have hs := vl.2.2.2.2
  have hP := b3.1
  have g3 := gl_wl gl (c := c) (v := 0) cc.2.1 (Or.inl rfl)
  have X : Wp (X10_passWithout N 3 c m) (fun m2 => NX m2 202 P I (wlL l c 0) (I 15) ∧ ∀ a, ¬(73 ≤ a ∧ a ≤ 76 ∨ (203 ≤ a ∧ a ≤ 244 ∧ ¬a = 208 ∧ ¬a = 220 ∧ ¬a = 232) ∨ a = P + 27 ∨ a = P + 27) → m2 a = m a) := by
    unfold X10_passWithout
    refine wp_k k3 ?_
    refine wp_b (gX6 r) ?_
    refine wp_b (gX5 r) ?_
    refine wp_bw (x_copy (L := 73) (K := 69) r (by decide) hl (by decide)) (fun m2 hm2 => ?_)
    obtain ⟨hl2, r2, o⟩ := hm2
    have oo : ∀ a, ¬(73 ≤ a ∧ a ≤ 73 + 3) → m2 a = m a := o
    refine wp_b (gX6 r2) ?_
    refine wp_b (x_hasWall r2 hl2 c) ?_
    rw [hw, if_neg (by decide)]
    refine wp_b (gX6 r2) ?_
    refine wp_b (ld_R r2 hl2 (by decide)) ?_
    have sL := ld_S (L := 73) (by decide) (k := 0) (by decide)
    obtain ⟨g, e, a4, k4⟩ := ar_stE sL.1 sL.2 (by decide) (i := c) (by omega) (by show c < ((42 : Nat) : Int); omega) 0 m2
    refine wp_b e ?_
    have r3 := refs_set r2 (Or.inl sL.1) g
    have hl3 : LD (setA m2 (73 + 1 + 0) g) 73 (wlL l c 0) := by
      refine ⟨by decide, fun k2 i hk i0 i1 => ?_, ?_⟩
      · have o2 := hl2.2.1 k2 i hk i0 i1
        unfold wlL
        by_cases y : k2 = 0
        · subst y
          rw [setA_same]
          by_cases y2 : i = c
          · rw [if_pos ⟨rfl, y2⟩, y2]; exact a4
          · rw [if_neg (fun x => y2 x.2), k4 _ (by omega)]; exact o2
        · rw [if_neg (fun x => y x.1), setA_ne (by omega)]; exact o2
      · rw [setA_ne (by decide)]
        exact hl2.2.2
    have o3 : ∀ a, ¬(73 ≤ a ∧ a ≤ 73 + 3) → setA m2 (73 + 1 + 0) g a = m a := fun a ha => by
      rw [setA_ne (by omega)]; exact oo a ha
    have b33 : B3 (setA m2 (73 + 1 + 0) g) P := ⟨hP, by rw [o3 3 (by decide)]; exact b3.2⟩
    have h13 : PD (setA m2 (73 + 1 + 0) g) P I := pd_off h1 fun a _ _ _ _ _ => o3 a (by omega)
    unfold X10_passWithout_J32
    refine wp_b (gX10 r3) ?_
    refine wp_b (b3_R b33) ?_
    refine wp_b (gX6 r3) ?_
    refine wp_b (b3_R b33) ?_
    refine wp_b (pd_R r3 h13 (by decide)) ?_
    refine wp_bw (x_pass hN (T := 202) (P := P) (L := 73) (D := P + 22) (sk := I 15) (l := wlL l c 0) (Or.inr rfl) r3 h13 hl3 z n vl kc g3.1 (sd_off ps.2.1 (fun q q1 q2 => o3 q (by omega))) (sd_off ps.2.2 (fun q q1 q2 => o3 q (by omega))) (by rw [o3 (202 + 2) (by decide)]; exact zz.1) (pd_sky h13).1 (pd_sky h13).2) (fun m4 hm4 => ?_)
    obtain ⟨nx, o4⟩ := hm4
    have o4' : ∀ a, ¬((202 + 1 ≤ a ∧ a ≤ 202 + 42 ∧ ¬a = 202 + 6 ∧ ¬a = 202 + 18 ∧ ¬a = 202 + 30) ∨ a = P + 27 ∨ a = P + 27) → m4 a = setA m2 (73 + 1 + 0) g a := o4
    exact wp_some ⟨nx, fun a ha => by rw [o4' a (by omega), o3 a (by omega)]⟩
  obtain ⟨m2, e2, nx, o⟩ := X
  have r2 := nx.1.1
  refine ⟨m2, e2, inv_fr2 h r2 (fun a k hk => ?_) (to_off n hP to r2 (fun a ha => o a (by omega))) (hg_off hg (o 250 (by omega)) (o 257 (by omega))), nx, fun a ha => o a (by omega)⟩
  obtain ⟨q1, q2⟩ := sc2_of hk
  by_cases q3 : a = 204 ∧ k = 0
  · rw [q3.1, q3.2]
    have y : m2 204 0 = clr (I 15) 0 := nx.1.2.2.2.2.1 0 (by decide)
    rw [y, zz.1]
    rfl
  · rw [o a (fun u => q1 ?_)]
    rcases u with u | u | u
    · exact scr_6 (by omega)
    · exact scr_3 ⟨u.1, u.2.1, u.2.2.1, u.2.2.2.1, u.2.2.2.2, q3⟩
    · rcases u with u | u
      · exact scr_13 u
      · exact scr_14 u
/-- how much more a cistern gets without a wall -/
def gn (I : Isl) (l : Lnd) (c k : Int) : Int := cms I (wlL l c 0) (I 15) k - cms I l (I 15) k
theorem gn_in {I : Isl} (n : Cn I) (l : Lnd) (c k : Int) : -20000 ≤ gn I l c k ∧ gn I l c k ≤ 20000 := by
  have a := cms_in n l (I 15) k
  have b := cms_in n (wlL l c 0) (I 15) k
  unfold gn
  omega
/-- the reference: the same -/
theorem i_without {N : Nat} (hN : 2000 ≤ N) {m : Mem} {P b : Nat} {I : Isl} {l : Lnd} {s : Int} (h : InvP m P b I l s) {c : Int} (hw : hasW l c = 1) (k : Int) : ∃ m2, X11_without N 264 c k m = some (gn I l c k, m2) ∧ InvP m2 P b I l s ∧ ∀ a, a < 264 → m2 a = m a := by
  have cc := hw_cc h hw
  obtain ⟨m1, e1, h, nm, f1⟩ := i_mtold hN h
  obtain ⟨r, ⟨b3, bb, b4, ps, md, mn⟩, ⟨z, n, kc, vl, cl, fx, cm⟩, ⟨hl, my, gl⟩, pa, to, zz, hg, wk, se, rd, te, fe, oe, kst⟩ := id h; have h1 := ps.1; have tc := gl.1; have hs := vl.2.2.2.2
  have g3 := gl_wl gl (c := c) (v := 0) cc.2.1 (Or.inl rfl)
  obtain ⟨m2, e2, my2, ly⟩ := m_copies (to := 1) (fr := 0) hN r my (by decide) (by decide)
  have r2 := lyf_refs ly r
  obtain ⟨g, e3, a4, k4⟩ := ar_stE (a := 297) (n := 924) (i := 42 + c) (by decide +kernel) (by decide +kernel) (by decide) (by omega) (by omega) 0 m2
  have ly2 : LyF 1 m1 (setA m2 297 g) := lyf_297 ly (fun x hx => k4 x (by omega))
  have r3 := lyf_refs ly2 r
  have md3 := lyf_md ly2 md
  have my3 : MY (setA m2 297 g) 1 (wlL l c 0) (nT I) := by
    obtain ⟨y1, y2, y3, y4, y5, y6⟩ := my2
    refine ⟨by decide, fun i i0 i1 => ?_, fun i i0 i1 => ?_, fun i i0 i1 => ?_, ?_, y6⟩
    · rw [setA_same]
      unfold wlL
      by_cases u : i = c
      · rw [if_pos ⟨rfl, u⟩, u, show 42 * 1 + c.toNat = (42 + c).toNat from by omega]; exact a4
      · rw [if_neg (fun x => u x.2), k4 _ (by omega)]; exact y2 i i0 i1
    · rw [setA_ne (by decide)]; exact y3 i i0 i1
    · rw [setA_ne (by decide)]; exact y4 i i0 i1
    · rw [setA_ne (by decide)]; exact y5
  obtain ⟨m4, e4, f4, nm4⟩ := m_told (v := 1) hN r3 md3 my3 z n vl g3.1
  have lo : ∀ a, a < 264 → m4 a = m1 a := fun a ha => by rw [f4.1 a (by omega), ly2.1 a (by omega)]
  refine ⟨m4, ?_, inv_m h (fun a k hk => by rw [sc_ntf f4 hk, sc_ly1 ly2 hk]) lo, fun a ha => by rw [lo a ha, f1 a ha]⟩
  refine wp_eq ?_
  unfold X11_without
  refine wp_k k264 ?_
  refine wp_b e1 ?_
  refine wp_b (m_comes0 hN r md my z n kc tc nm k) ?_
  refine wp_b e2 ?_
  refine wp_b (gR51 r2) ?_
  rw [wI_of2 (x := 42 + c) (by omega) (by omega)]
  refine wp_b e3 ?_
  refine wp_b e4 ?_
  refine wp_b (m_comes2 (v := 1) hN (ntf_refs f4 r3) (ntf_md f4 md3) (ntf_my f4 my3) z n kc g3.1 nm4 k) ?_
  have b1 := gn_in n l c k
  unfold gn at b1
  rw [wI_of2 (by omega) (by omega)]
  exact wp_some rfl
theorem x_gain {m : Mem} {P : Nat} {I : Isl} (r : Refs m) (b3 : B3 m P) (h : PD m P I) (n : Cn I) {k : Int} (k0 : 0 ≤ k) (k1 : k < I 6 0) {x y : Int} (e1 : m 244 k.toNat = x) (e2 : m 201 k.toNat = y) (w : -100000 ≤ x - y ∧ x - y ≤ 100000) : X10_gain 3 159 k m = some (x - y) := by
  obtain ⟨n1, n2, n3, n4, n5, n6⟩ := id n
  have s1 := nt_S (T := 202) (Or.inr rfl)
  have s2 := nt_S (T := 159) (Or.inl rfl)
  refine wp_eq ?_
  unfold X10_gain
  refine wp_k k3 ?_
  refine wp_b (b3_R b3) ?_
  refine wp_b (x_isCistern h k) ?_
  rw [← bi_t ⟨k0, k1⟩, if_neg (by decide)]
  refine wp_b (gX10 r) ?_
  refine wp_b (nt_R r (T := 202) (Or.inr rfl)).2.2.2.2.2.2.2.2 ?_
  refine wp_b (ar_ld s1.2.2.2.2.2.1 s1.2.2.2.2.2.2 k0 (by omega) m) ?_
  refine wp_b (nt_R r (T := 159) (Or.inl rfl)).2.2.2.2.2.2.2.2 ?_
  refine wp_b (ar_ld s2.2.2.2.2.2.1 s2.2.2.2.2.2.2 k0 (by omega) m) ?_
  rw [show m (202 + 42) k.toNat = x from e1, show m (159 + 42) k.toNat = y from e2, wI_of2 (by omega) (by omega)]
  exact wp_some rfl
/-- the gain, a night on trial and one as told told -/
theorem i_gain {m : Mem} {P b : Nat} {I : Isl} {l : Lnd} {s : Int} (h : InvP m P b I l s) {c k : Int} (k0 : 0 ≤ k) (k1 : k < I 6 0) (e1 : ∀ k : Nat, k < 5 → m 244 k = cms I (wlL l c 0) (I 15) k) (e2 : ∀ k : Nat, k < 5 → m 201 k = cms I l (I 15) k) : X10_gain 3 159 k m = some (gn I l c k) := by
  obtain ⟨r, ⟨b3, bb, b4, ps, md, mn⟩, ⟨z, n, kc, vl, cl, fx, cm⟩, ⟨hl, my, gl⟩, pa, to, zz, hg, wk, se, rd, te, fe, oe, kst⟩ := id h; have h1 := ps.1; have tc := gl.1; have hs := vl.2.2.2.2
  have w := gn_in n l c k
  unfold gn at w
  obtain ⟨n1, n2, n3, n4, n5, n6⟩ := id n
  have ek : ((k.toNat : Nat) : Int) = k := Int.toNat_of_nonneg k0
  have f1 := e1 k.toNat (by omega)
  have f2 := e2 k.toNat (by omega)
  rw [ek] at f1 f2
  exact x_gain r b3 h1 n k0 k1 f1 f2 (by omega)
theorem down_ok {N : Nat} (hN : 2000 ≤ N) {m : Mem} (h : Inv m) (c k : Int) : ∃ v m1 m2, X10_down N 3 c k m = some (v, m1) ∧ X11_down N 264 c k m1 = some (v, m2) ∧ Inv m2 := by
  obtain ⟨P, b, I, l, s, h⟩ := h
  by_cases q : hasW l c = 1 ∧ 0 ≤ k ∧ k < I 6 0
  · obtain ⟨hw, k0, k1⟩ := q
    have cc := hw_cc h hw
    refine comb (P := P) (b := b) (I := I) (l := l) (s := s) (gn I l c k) ?_ (fun m1 h => ?_)
    · obtain ⟨r, ⟨b3, bb, b4, ps, md, mn⟩, ⟨z, n, kc, vl, cl, fx, cm⟩, ⟨hl, my, gl⟩, pa, to, zz, hg, wk, se, rd, te, fe, oe, kst⟩ := id h; have h1 := ps.1; have tc := gl.1; have hs := vl.2.2.2.2
      have hP := b3.1
      obtain ⟨m2, e2, h2, nx2, _⟩ := i_passW hN h hw
      obtain ⟨m3, e3, h3, nx3, f3⟩ := i_told2 hN h2
      have z244 : m3 244 = m2 244 := f3 244 (by decide) (by unfold ToS PasS; omega)
      unfold X10_down
      refine wp_k k3 ?_
      refine wp_b (gX5 r) ?_
      refine wp_b (x_hasWall r hl c) ?_
      rw [hw, if_neg (by decide)]
      refine wp_b (b3_R b3) ?_
      refine wp_b (x_isCistern h1 k) ?_
      rw [← bi_t ⟨k0, k1⟩, if_pos (by decide)]
      refine wp_b e2 ?_
      refine wp_b e3 ?_
      refine wp_b (i_gain h3 (c := c) k0 k1 (fun j hj => by rw [z244]; exact nx2.2.2 j hj) nx3.2.2) ?_
      exact wp_some ⟨rfl, h3⟩
    · obtain ⟨r, ⟨b3, bb, b4, ps, md, mn⟩, ⟨z, n, kc, vl, cl, fx, cm⟩, ⟨hl, my, gl⟩, pa, to, zz, hg, wk, se, rd, te, fe, oe, kst⟩ := id h; have h1 := ps.1; have tc := gl.1; have hs := vl.2.2.2.2
      obtain ⟨m2, e2, h2, _⟩ := i_without hN h hw k
      unfold X11_down
      refine wp_k k264 ?_
      refine wp_b (m_isCell r md z c) ?_
      rw [show isC I c = 1 from bi_1.mpr ⟨cc.1, cc.2.1⟩, if_neg (by decide)]
      refine wp_b (m_isWall0 r my cc.1 cc.2.2) ?_
      rw [hw, if_neg (by decide)]
      refine wp_b (m_isCistern r md k) ?_
      rw [← bi_t ⟨k0, k1⟩, if_neg (by decide)]
      refine wp_b e2 ?_
      exact wp_some ⟨rfl, P, b, I, l, s, h2⟩
  · have wi := hasW_in l c
    refine comb (P := P) (b := b) (I := I) (l := l) (s := s) (-1000000000) ?_ (fun m1 h => ?_)
    · obtain ⟨r, ⟨b3, bb, b4, ps, md, mn⟩, ⟨z, n, kc, vl, cl, fx, cm⟩, ⟨hl, my, gl⟩, pa, to, zz, hg, wk, se, rd, te, fe, oe, kst⟩ := id h; have h1 := ps.1; have tc := gl.1; have hs := vl.2.2.2.2
      unfold X10_down X10_down_J22
      refine wp_k k3 ?_
      refine wp_b (gX5 r) ?_
      refine wp_b (x_hasWall r hl c) ?_
      by_cases y : hasW l c = 1
      · rw [y, if_neg (by decide)]
        refine wp_b (b3_R b3) ?_
        refine wp_b (x_isCistern h1 k) ?_
        rw [← bi_f (fun u => q ⟨y, u⟩), if_neg (by decide)]
        exact wp_some ⟨rfl, h⟩
      · rw [if_pos (by omega)]
        exact wp_some ⟨rfl, h⟩
    · obtain ⟨r, ⟨b3, bb, b4, ps, md, mn⟩, ⟨z, n, kc, vl, cl, fx, cm⟩, ⟨hl, my, gl⟩, pa, to, zz, hg, wk, se, rd, te, fe, oe, kst⟩ := id h; have h1 := ps.1; have tc := gl.1; have hs := vl.2.2.2.2
      have z7 := z.2.2.2.2.2.2
      unfold X11_down X11_down_J34
      refine wp_k k264 ?_
      refine wp_b (m_isCell r md z c) ?_
      by_cases y0 : 0 ≤ c ∧ c < nC I
      · rw [show isC I c = 1 from bi_1.mpr y0, if_neg (by decide)]
        refine wp_b (m_isWall0 r my y0.1 (by omega)) ?_
        by_cases y : hasW l c = 1
        · rw [y, if_neg (by decide)]
          refine wp_b (m_isCistern r md k) ?_
          rw [← bi_f (fun u => q ⟨y, u⟩), if_pos (by decide)]
          exact wp_some ⟨rfl, P, b, I, l, s, h⟩
        · rw [if_pos (by omega)]
          exact wp_some ⟨rfl, P, b, I, l, s, h⟩
      · rw [show isC I c = 0 from bi_0.mpr y0, if_pos (by decide)]
        exact wp_some ⟨rfl, P, b, I, l, s, h⟩
