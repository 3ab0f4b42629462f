/-! hang, wall -/
def XA (P a k : Nat) : Prop := a = 77 ∨ (69 ≤ a ∧ a ≤ 72) ∨ (79 ≤ a ∧ a ≤ 158) ∨ (a = 3 ∧ (k = 8 ∨ k = 12)) ∨ (a = 250 ∧ k = 0) ∨ (160 ≤ a ∧ a ≤ 201) ∨ (203 ≤ a ∧ a ≤ 245) ∨ a = P + 27 ∨ a = P + 27
theorem psh_gl {I : Isl} {c : Nat} {l : Lnd} {ls : Nat → Lnd} (hc : c ≤ 20) (g : GL I l) (gs : ∀ i, i < c → GL I (ls i)) : ∀ i, i < min (c + 1) 20 → GL I (psh ls c l i) := by
  intro i hi
  unfold psh
  by_cases q : c = 20
  · rw [if_pos q]
    by_cases y : i = 19
    · rw [if_pos y]; exact g
    · rw [if_neg y]; exact gs (i + 1) (by omega)
  · rw [if_neg q]
    by_cases y : i = c
    · rw [if_pos y]; exact g
    · rw [if_neg y]; exact gs i (by omega)
theorem act_end {m m1 m2 : Mem} {P b : Nat} {I : Isl} {l l2 : Lnd} {s s2 : Int} (h : InvP m P b I l s) {c2 nx2 uf2 : Nat} {ls2 : Nat → Lnd} (px : PX m1 c2 nx2 ls2) (hl1 : LD m1 69 l2) (f1 : ∀ a k, ¬XA P a k → m1 a k = m a k) (t1 : TO m1 P I l2) (z1 : m1 204 0 = 0 ∧ m1 245 0 = 0) (g1 : HG m1 I l2) (s1 : m1 3 8 = s2) (pm2 : PM m2 c2 uf2 (nT I) ls2) (my2 : MY m2 0 l2 (nT I)) (r2 : Refs m2) (fa : ∀ a, a < 264 → m2 a = m1 a) (fb : ∀ a, 264 < a → ¬(296 ≤ a ∧ a ≤ 305) → m2 a = m1 a) (fc : ∀ j, ¬(j = 54 ∨ j = 55 ∨ j = 56 ∨ 58 ≤ j ∧ j ≤ 61) → m2 264 j = m1 264 j) (s56 : m2 264 56 = s2) (sb : 0 ≤ s2 ∧ s2 < 2147483648) (gl : GL I l2) (gls : ∀ i, i < c2 → GL I (ls2 i)) : Inv m2 := by
  have hP := h.2.1.1.1
  have n9 := h.2.2.1.2.1.2.2.2.1
  refine ⟨P, b, I, l2, s2, inv_act h r2 (fun a k hk => ?_) (ld_off hl1 fun a _ _ => fa a (by omega)) my2 gl ⟨c2, nx2, uf2, ls2, ?_, pm2, gls⟩ ?_ ?_ ?_ ?_⟩
  · by_cases y : a < 264
    · rw [fa a y]
      refine f1 a k fun u => hk ?_
      unfold XA at u
      rcases u with u | u | u | u | u | u | u | u | u
      · exact Or.inr (Or.inr (Or.inl u))
      · exact Or.inr (Or.inl u)
      · exact Or.inr (Or.inr (Or.inr (Or.inl u)))
      · exact Or.inl u
      · exact Or.inr (Or.inr (Or.inr (Or.inr (Or.inr (Or.inr (Or.inl u))))))
      · exact Or.inr (Or.inr (Or.inr (Or.inr (Or.inl u))))
      · exact Or.inr (Or.inr (Or.inr (Or.inr (Or.inr (Or.inl u)))))
      · exact Or.inr (Or.inr (Or.inr (Or.inr (Or.inr (Or.inr (Or.inr (Or.inl u)))))))
      · exact Or.inr (Or.inr (Or.inr (Or.inr (Or.inr (Or.inr (Or.inr (Or.inr (Or.inl u))))))))
    · have e1 : m1 a k = m a k := f1 a k fun u => by unfold XA at u; omega
      by_cases y2 : a = 264
      · subst y2
        rw [fc k fun u => hk (Or.inr (Or.inr (Or.inr (Or.inr (Or.inr (Or.inr (Or.inr (Or.inr (Or.inr (Or.inl ⟨rfl, u⟩)))))))))), e1]
      · rw [fb a (by omega) fun u => hk (Or.inr (Or.inr (Or.inr (Or.inr (Or.inr (Or.inr (Or.inr (Or.inr (Or.inr (Or.inr u)))))))))), e1]
  · obtain ⟨p1, p2, p3, p4, p5⟩ := px
    exact ⟨by rw [fa 77 (by decide)]; exact p1, by rw [fa 77 (by decide)]; exact p2, p3, p4, fun i hi => ld_off (p5 i hi) fun a _ _ => fa a (by omega)⟩
  · obtain ⟨t1, t2, t3⟩ := t1
    refine ⟨by rw [fa 161 (by decide)]; exact t1, by rw [fa 3 (by decide)]; exact t2, fun q => ?_⟩
    rw [fa 3 (by decide)] at q
    obtain ⟨⟨n1, n2, n3, n4, n5, n6⟩, n7, n8⟩ := t3 q
    refine ⟨⟨r2, sd_off n2 (fun q q1 q2 => fa q (by omega)), sd_off n3 (fun q q1 q2 => fa q (by omega)), ?_, ?_, ?_⟩, fun t ht => lay_off (n7 t ht) ⟨fa (159 + 7 + t) (by omega), fa (159 + 19 + t) (by omega), fa (159 + 31 + t) (by omega)⟩, ?_⟩
    · rw [fa (159 + 1) (by decide)]; exact n4
    · rw [fa (159 + 2) (by decide)]; exact n5
    · rw [fa (159 + 4) (by decide)]; exact n6
    · rw [fa (159 + 42) (by decide)]; exact n8
  · rw [fa 204 (by decide), fa 245 (by decide)]; exact z1
  · unfold HG
    rw [fa 250 (by decide), fa 257 (by decide)]
    exact g1
  · exact ⟨by rw [fa 3 (by decide)]; exact s1, s56, sb.1, sb.2⟩
/-- a refused call of both, by its number -/
theorem ref_x {m : Mem} {P b : Nat} {I : Isl} {l : Lnd} {s : Int} (h : InvP m P b I l s) {k : Nat} (hk : k < 6) : X10_refuse 3 k m = some (-1, up m 263 k (wI (m 263 k + 1))) ∧ X11_refuses 264 k (up m 263 k (wI (m 263 k + 1))) = some (-1, both m k) ∧ Inv (both m k) := by
  have a := refuse_x h.1 (s := (k : Int)) (by omega) (by omega)
  have b2 := refuse_m_x h.1 (s := (k : Int)) (by omega) (by omega)
  rw [Int.toNat_natCast] at a b2
  exact ⟨a, b2, P, b, I, l, s, inv_ref h hk⟩
theorem up263 {m : Mem} {a : Nat} (h : ¬a = 263) (k : Nat) (v : Int) : up m 263 k v a = m a := by rw [up_setA, setA_ne h]
/-- the relation's pieces that the reference reads stay behind the class's refusal -/
theorem md_263 {m : Mem} {b : Nat} {I : Isl} (h : MD m b I) (k : Nat) (v : Int) : MD (up m 263 k v) b I := md_off h (by rw [up263 (by decide)]) (fun a _ _ => up263 (by omega) k v)
theorem my_263 {m : Mem} {n u : Nat} {l : Lnd} (h : MY m u l n) (k : Nat) (v : Int) : MY (up m 263 k v) u l n := ml_off h (fun a _ _ => up263 (by omega) k v)
theorem fnd_all {f : Int → Int} {c : Int} {n : Nat} (h : fnd f c n = -1) (j : Nat) (hj : j < n) : ¬f j = c := by
  intro e
  by_cases q : fnd f c j = -1
  · have y := fnd_yes q e hj
    omega
  · have y := fnd_more q (n - j)
    rw [show j + (n - j) = n from by omega] at y
    omega
theorem isF_fnd {I : Isl} {l : Lnd} {c : Int} (h : isF I l c = 1) : fnd (l 1) c (nT I) = -1 := by
  unfold isF at h
  obtain ⟨h1, h2⟩ := bi_1.mp h
  have e : isC I c = 1 := bi_1.mpr h1
  unfold cont at h2
  rw [e] at h2
  by_cases q : fnd (l 1) c (nT I) = -1
  · exact q
  · exfalso
    by_cases a : hasW l c = 1
    · rw [if_pos a] at h2; omega
    · rw [if_neg a, if_neg (by decide)] at h2
      by_cases b : I 4 c = 1
      · rw [if_pos b] at h2; omega
      · rw [if_neg b, if_pos q] at h2; omega
theorem gl_mv {I : Isl} {l : Lnd} (n : Cn I) (cl : Cl I) (g : GL I l) {k c : Int} (k0 : 0 ≤ k) (k1 : k < I 12 0) (c0 : 0 ≤ c) (c1 : c < nC I) (hf : fnd (l 1) c (nT I) = -1) : GL I (mvL l (I 13 k) c) := by
  obtain ⟨g1, g2, g3, g4, g5, g6⟩ := g
  obtain ⟨t, ht, hs, hk, hv⟩ := cl_ok n cl k0 k1
  have no : ∀ u : Int, 0 ≤ u → u < I 9 0 → ¬l 1 u = c := fun u u0 u1 e => by
    have y := fnd_all hf u.toNat (by unfold nT; omega)
    rw [Int.toNat_of_nonneg u0] at y
    exact y e
  refine ⟨fun u u0 u1 => ?_, g2, g3, g4, fun u u0 u1 hu => ?_, fun u w u0 u1 w0 w1 e => ?_⟩
  · unfold mvL
    by_cases q : u = I 13 k
    · rw [if_pos ⟨rfl, q⟩]; exact ⟨c0, c1⟩
    · rw [if_neg (fun x => q x.2)]; exact g1 u u0 u1
  · unfold mvL
    rw [if_neg (fun x => hu (by rw [x.2, hv]; exact hs))]; exact g5 u u0 u1 hu
  · unfold mvL at e
    by_cases q : u = I 13 k
    · by_cases q2 : w = I 13 k
      · rw [q, q2]
      · rw [if_pos ⟨rfl, q⟩, if_neg (fun x => q2 x.2)] at e
        exact absurd e.symm (no w w0 w1)
    · by_cases q2 : w = I 13 k
      · rw [if_neg (fun x => q x.2), if_pos ⟨rfl, q2⟩] at e
        exact absurd e (no u u0 u1)
      · rw [if_neg (fun x => q x.2), if_neg (fun x => q2 x.2)] at e
        exact g6 u w u0 u1 w0 w1 e
theorem hang_ok {N : Nat} (hN : 2000 ≤ N) {m : Mem} (h : Inv m) (k c : Int) : ∃ v m1 m2, X10_hang N 3 k c m = some (v, m1) ∧ X11_hang N 264 k c m1 = some (v, m2) ∧ Inv m2 := by
  obtain ⟨P, b, I, l, s, h⟩ := h
  obtain ⟨r, ⟨b3, bb, b4, ps, md, mn⟩, ⟨z, n, kc, vl, cl, fx, cm⟩, ⟨hl, my, gl⟩, pa, to, zz, hg, wk, se, rd, te, fe, oe, kst⟩ := id h; have h1 := ps.1; have tc := gl.1; have hs := vl.2.2.2.2
  obtain ⟨n1, n2, n3, n4, n5, n6⟩ := id n
  have hP := b3.1
  obtain ⟨e1, e2, e3⟩ := ref_x h (k := 2) (by decide)
  have fin := bi_in ((0 ≤ c ∧ c < nC I) ∧ cont I l c = 0)
  by_cases q : (0 ≤ k ∧ k < I 12 0) ∧ isF I l c = 1
  · obtain ⟨⟨k0, k1⟩, q2⟩ := q
    have cc : 0 ≤ c ∧ c < nC I := by
      unfold isF at q2
      exact (bi_1.mp q2).1
    have z7 := z.2.2.2.2.2.2
    obtain ⟨t, ht, hts, htk, htv⟩ := cl_ok n cl k0 k1
    obtain ⟨cn, nx, uf, ls, pa1, pa2, pa3⟩ := pa
    have X : Wp (X10_hang N 3 k c m) (fun p => p.1 = 1 ∧ (∃ nx2, PX p.2 (min (cn + 1) 20) nx2 (psh ls cn l)) ∧ LD p.2 69 (mvL l (I 13 k) c) ∧ Refs p.2 ∧ p.2 3 12 = 1 ∧ p.2 250 0 = 0 ∧ ∀ a k, ¬(a = 77 ∨ 79 ≤ a ∧ a ≤ 158 ∨ a = 71 ∨ (a = 3 ∧ k = 12) ∨ (a = 250 ∧ k = 0)) → p.2 a k = m a k) := by
      unfold X10_hang
      refine wp_k k3 ?_
      refine wp_b (b3_R b3) ?_
      refine wp_b (x_isCloth h1 _) ?_
      rw [← bi_t ⟨k0, k1⟩, if_neg (by decide)]
      refine wp_b (b3_R b3) ?_
      refine wp_b (gX5 r) ?_
      refine wp_b (x_isFree hN r h1 hl z n c) ?_
      rw [q2, if_pos (by decide)]
      refine wp_b (gX7 r) ?_
      refine wp_b (gX5 r) ?_
      refine wp_bw (x_remember r hl pa1) (fun m2 hm2 => ?_)
      obtain ⟨c2, nx2, ec, px, r2, o⟩ := hm2
      subst ec
      have oo : ∀ a, ¬(a = 77 ∨ 79 ≤ a ∧ a ≤ 158) → m2 a = m a := o
      have b32 : B3 m2 P := ⟨hP, by rw [oo 3 (by decide)]; exact b3.2⟩
      have h12 : PD m2 P I := pd_off h1 fun a _ _ _ _ _ => oo a (by omega)
      have hl2 : LD m2 69 l := ld_off hl fun a _ _ => oo a (by omega)
      refine wp_b (gX5 r2) ?_
      refine wp_b (ld_R r2 hl2 (by decide)) ?_
      refine wp_b (b3_R b32) ?_
      refine wp_b (pd_R r2 h12 (by decide)) ?_
      refine wp_b (pd_r13 h12 k0 (by omega)) ?_
      have sL := ld_S (L := 69) (by decide) (k := 1) (by decide)
      obtain ⟨g, e, a4, k4⟩ := ar_stE sL.1 sL.2 (by decide) (i := I 13 k) (by omega) (by show I 13 k < ((10 : Nat) : Int); omega) c m2
      refine wp_b e ?_
      have r3 := refs_set r2 (Or.inl sL.1) g
      refine wp_b (x_changed r3) ?_
      have ee : ∀ a, ¬a = 3 → ¬a = 250 → up (up (setA m2 (69 + 1 + 1) g) 3 12 1) 250 0 0 a = setA m2 (69 + 1 + 1) g a := fun a q1 q2 => by
        rw [up_setA, setA_ne q2, up_setA, setA_ne q1]
      obtain ⟨p1, p2, p3, p4, p5⟩ := px
      refine wp_some ⟨rfl, ⟨nx2, ?_, ?_, by omega, p4, fun i hi => ld_off (p5 i hi) fun a _ _ => by
        show up (up (setA m2 (69 + 1 + 1) g) 3 12 1) 250 0 0 a = m2 a
        rw [ee a (by omega) (by omega), setA_ne (by omega)]⟩, ⟨by decide, fun k2 i hk i0 i1 => ?_, ?_⟩, refs_up (refs_up r3 (by decide +kernel) 1) (by decide +kernel) 0, ?_, ?_, fun a k hk => ?_⟩
      · show up (up (setA m2 (69 + 1 + 1) g) 3 12 1) 250 0 0 77 2 = _
        rw [ee 77 (by decide) (by decide), setA_ne (by decide), p1]
      · show up (up (setA m2 (69 + 1 + 1) g) 3 12 1) 250 0 0 77 1 = _
        rw [ee 77 (by decide) (by decide), setA_ne (by decide)]; exact p2
      · show up (up (setA m2 (69 + 1 + 1) g) 3 12 1) 250 0 0 (69 + 1 + k2) i.toNat = _
        rw [ee (69 + 1 + k2) (by omega) (by omega)]
        have o2 := hl2.2.1 k2 i hk i0 i1
        unfold mvL
        by_cases y : k2 = 1
        · subst y
          rw [setA_same]
          by_cases y2 : i = I 13 k
          · rw [if_pos ⟨rfl, y2⟩, y2]; exact a4
          · rw [if_neg (fun x => y2 x.2), k4 _ (by omega)]; exact o2
        · rw [if_neg (fun x => y x.1), setA_ne (by omega)]; exact o2
      · show up (up (setA m2 (69 + 1 + 1) g) 3 12 1) 250 0 0 69 3 = mvL l (I 13 k) c 3 0
        rw [ee 69 (by decide) (by decide), setA_ne (by decide)]
        exact hl2.2.2
      · show up (up (setA m2 (69 + 1 + 1) g) 3 12 1) 250 0 0 3 12 = 1
        rw [up_obj (by decide), up_same]
      · show up (up (setA m2 (69 + 1 + 1) g) 3 12 1) 250 0 0 250 0 = 0
        rw [up_same]
      · show up (up (setA m2 (69 + 1 + 1) g) 3 12 1) 250 0 0 a k = _
        by_cases y : a = 3
        · rw [y, up_obj (by decide), up_at, if_neg (fun u => hk (Or.inr (Or.inr (Or.inr (Or.inl ⟨y, u⟩))))), setA_ne (by decide), oo 3 (by decide)]
        · by_cases y2 : a = 250
          · rw [y2, up_at, if_neg (fun u => hk (Or.inr (Or.inr (Or.inr (Or.inr ⟨y2, u⟩))))), up_obj (by decide), setA_ne (by decide), oo 250 (by decide)]
          · rw [ee a y y2, setA_ne (fun u => hk (Or.inr (Or.inr (Or.inl u)))), oo a (fun u => hk (by omega))]
    obtain ⟨⟨v1, m1⟩, ex, x1, ⟨nx2, px⟩, hl1, r1, t1, g1, f1⟩ := X
    have x1' : v1 = 1 := x1
    subst x1'
    replace f1 : ∀ a k, ¬(a = 77 ∨ 79 ≤ a ∧ a ≤ 158 ∨ a = 71 ∨ (a = 3 ∧ k = 12) ∨ (a = 250 ∧ k = 0)) → m1 a k = m a k := f1
    replace t1 : m1 3 12 = 1 := t1
    have ro : ∀ a, 263 ≤ a → m1 a = m a := fun a ha => funext fun k => f1 a k (by omega)
    have my1 : MY m1 0 l (nT I) := ml_off my fun a _ _ => ro a (by omega)
    have md1 : MD m1 b I := md_off md (by rw [ro 264 (by decide)]) (fun a _ _ => ro a (by omega))
    have pm1 : PM m1 cn uf (nT I) ls := by
      obtain ⟨p1, p2, p3, p4, p5⟩ := pa2
      exact ⟨by rw [ro 264 (by decide)]; exact p1, by rw [ro 264 (by decide)]; exact p2, p3, p4, fun i hi => ml_off (p5 i hi) fun a _ _ => ro a (by omega)⟩
    have Mm : Wp (X11_hang N 264 k c m1) (fun p => p.1 = 1 ∧ (∃ uf2, PM p.2 (min (cn + 1) 20) uf2 (nT I) (psh ls cn l)) ∧ MY p.2 0 (mvL l (I 13 k) c) (nT I) ∧ Refs p.2 ∧ RiF m1 p.2) := by
      unfold X11_hang; simp only [X11_hang_J34, X11_hang_J35]
      refine wp_k k264 ?_
      refine wp_b (m_cloths hN r1 md1 n cl) ?_
      rw [wI_of2 (x := I 12 0 - 1) (by omega) (by omega)]
      refine wp_b (m_is _ _ _ _) ?_
      rw [← bi_t (show 0 ≤ k ∧ k ≤ I 12 0 - 1 from by omega), if_neg (by decide)]
      refine wp_b (m_isCell r1 md1 z c) ?_
      rw [show isC I c = 1 from bi_1.mpr cc, if_neg (by decide)]
      refine wp_b (m_isFree hN r1 md1 my1 z n cc.1 cc.2) ?_
      rw [q2, if_neg (by decide), if_pos (by decide)]
      refine wp_bw (m_keeps hN r1 my1 pm1) (fun m2 hm2 => ?_)
      obtain ⟨c2, uf2, ec, pm2, my2, r2, f2⟩ := hm2
      have md2 : MD m2 b I := md_off md1 (f2.2 13 (by decide)) (fun a _ _ => f2.1 a (by omega))
      refine wp_b (gR52 r2) ?_
      refine wp_b (m_cloth hN r2 md2 n cl k0 k1) ?_
      obtain ⟨g, e, a4, k4⟩ := ar_stE (a := 298) (n := 220) (i := I 13 k) (by decide +kernel) (by decide +kernel) (by decide) (by omega) (by omega) c m2
      refine wp_b e ?_
      have ly : LyF 0 m2 (setA m2 298 g) := lyf_298 (lyf_refl 0 m2) (fun x hx => k4 x (by omega))
      obtain ⟨p1, p2, p3, p4, p5⟩ := pm2
      refine wp_some ⟨rfl, ⟨uf2, ?_, ?_, by omega, p4, fun i hi => lyf_my ly (by omega) (p5 i (by omega))⟩, ?_, lyf_refs ly r2, ⟨fun a ha => ?_, fun j hj => ?_⟩⟩
      · show setA m2 298 g 264 55 = _
        rw [setA_ne (by decide), p1, ec]
      · show setA m2 298 g 264 54 = _
        rw [setA_ne (by decide)]; exact p2
      · obtain ⟨y1, y2, y3, y4, y5, y6⟩ := my2
        refine ⟨by decide, fun i i0 i1 => ?_, fun i i0 i1 => ?_, fun i i0 i1 => ?_, ?_, y6⟩
        · show setA m2 298 g 297 _ = _
          rw [setA_ne (by decide)]; exact y2 i i0 i1
        · show setA m2 298 g 298 (10 * 0 + i.toNat) = mvL l (I 13 k) c 1 i
          rw [setA_same]
          unfold mvL
          by_cases w : i = I 13 k
          · rw [if_pos ⟨rfl, w⟩, w, show 10 * 0 + (I 13 k).toNat = (I 13 k).toNat from by omega]; exact a4
          · rw [if_neg (fun x => w x.2), k4 _ (by omega)]; exact y3 i i0 i1
        · show setA m2 298 g 299 _ = _
          rw [setA_ne (by decide)]; exact y4 i i0 i1
        · show setA m2 298 g 296 0 = _
          rw [setA_ne (by decide)]; exact y5
      · show setA m2 298 g a = _
        rw [setA_ne (by omega)]; exact f2.1 a ha
      · show setA m2 298 g 264 j = _
        rw [setA_ne (by decide)]; exact f2.2 j hj
    obtain ⟨⟨v2, m2⟩, ey, y1, ⟨uf2, pm2⟩, my2, r2, f2⟩ := Mm
    have y1' : v2 = 1 := y1
    subst y1'
    replace f2 : RiF m1 m2 := f2
    refine ⟨1, m1, m2, ex, ey, act_end h px hl1 (fun a k hk => f1 a k fun u => hk ?_) ⟨(f1 161 0 (by decide)).trans to.1, Or.inr t1, fun u => absurd (t1.symm.trans u) (by decide)⟩ ⟨(f1 204 0 (by decide)).trans zz.1, (f1 245 0 (by decide)).trans zz.2⟩ (Or.inl g1) ((f1 3 8 (by decide)).trans se.1) pm2 my2 r2 (fun a ha => f2.1 a (by omega)) (fun a ha hb => f2.1 a (by omega)) (fun j hj => f2.2 j (by omega)) ((f2.2 56 (by decide)).trans ((f1 264 56 (by decide)).trans se.2.1)) se.2.2 (gl_mv n cl gl k0 k1 cc.1 cc.2 (isF_fnd q2)) (psh_gl pa1.2.2.1 gl pa3)⟩
    unfold XA
    omega
  · refine ⟨0, up m 263 2 (wI (m 263 2 + 1)), both m 2, ?_, ?_, e3⟩
    · refine wp_eq ?_
      unfold X10_hang; simp only [X10_hang_J26]
      refine wp_k k3 ?_
      refine wp_b (b3_R b3) ?_
      refine wp_b (x_isCloth h1 _) ?_
      have tail : Wp ((X10_refuse 3 2 m).bind fun p3 => (retZ 0).bind fun r4 => some (r4, p3.2)) (fun r => r = (0, up m 263 2 (wI (m 263 2 + 1)))) := by
        refine wp_b e1 ?_
        exact wp_some rfl
      by_cases y : 0 ≤ k ∧ k < I 12 0
      · rw [← bi_t y, if_neg (by decide)]
        refine wp_b (b3_R b3) ?_
        refine wp_b (gX5 r) ?_
        refine wp_b (x_isFree hN r h1 hl z n c) ?_
        have y2 : isF I l c = 0 := by
          rcases fin with w | w
          · exact w
          · exact absurd ⟨y, w⟩ q
        rw [y2, if_neg (fun u => u rfl)]
        exact tail
      · rw [← bi_f y, if_pos rfl]
        exact tail
    · have r1 : Refs (up m 263 2 (wI (m 263 2 + 1))) := refs_arr r (by decide +kernel) _ _
      have md1 := md_263 md 2 (wI (m 263 2 + 1))
      have my1 := my_263 my 2 (wI (m 263 2 + 1))
      refine wp_eq ?_
      have tail : Wp (X11_hang_J34 N 264 k c (up m 263 2 (wI (m 263 2 + 1)))) (fun r => r = (0, both m 2)) := by
        unfold X11_hang_J34 X11_hang_J35
        rw [if_neg (fun u => u rfl)]
        refine wp_b e2 ?_
        exact wp_some rfl
      unfold X11_hang
      refine wp_k k264 ?_
      refine wp_b (m_cloths hN r1 md1 n cl) ?_
      rw [wI_of2 (x := I 12 0 - 1) (by omega) (by omega)]
      refine wp_b (m_is _ _ _ _) ?_
      by_cases y : 0 ≤ k ∧ k ≤ I 12 0 - 1
      · rw [← bi_t y, if_neg (by decide)]
        refine wp_b (m_isCell r1 md1 z c) ?_
        by_cases w : 0 ≤ c ∧ c < nC I
        · rw [show isC I c = 1 from bi_1.mpr w, if_neg (by decide)]
          refine wp_b (m_isFree hN r1 md1 my1 z n w.1 w.2) ?_
          have y2 : isF I l c = 0 := by
            rcases fin with u | u
            · exact u
            · exact absurd ⟨⟨y.1, by omega⟩, u⟩ q
          rw [y2, if_pos rfl]
          exact tail
        · rw [show isC I c = 0 from bi_0.mpr w, if_pos rfl]
          exact tail
      · rw [← bi_f y, if_pos rfl]
        exact tail
