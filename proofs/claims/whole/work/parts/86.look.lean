/-! calls that look: cell, thing, cistern, cold, dew -/
theorem scr_1 {P a k : Nat} (h : (a = 3 ∧ k = 12)) : Scr P a k := Or.inl h
theorem scr_2 {P a k : Nat} (h : (160 ≤ a ∧ a ≤ 201 ∧ ¬a = 165 ∧ ¬a = 177 ∧ ¬a = 189)) : Scr P a k := Or.inr (Or.inl h)
theorem scr_3 {P a k : Nat} (h : (203 ≤ a ∧ a ≤ 244 ∧ ¬a = 208 ∧ ¬a = 220 ∧ ¬a = 232 ∧ ¬(a = 204 ∧ k = 0))) : Scr P a k := Or.inr (Or.inr (Or.inl h))
theorem scr_4 {P a k : Nat} (h : (a = 245 ∧ ¬k = 0)) : Scr P a k := Or.inr (Or.inr (Or.inr (Or.inl h)))
theorem scr_5 {P a k : Nat} (h : (a = 73 ∧ k = 3)) : Scr P a k := Or.inr (Or.inr (Or.inr (Or.inr (Or.inl h))))
theorem scr_6 {P a k : Nat} (h : (74 ≤ a ∧ a ≤ 76)) : Scr P a k := Or.inr (Or.inr (Or.inr (Or.inr (Or.inr (Or.inl h)))))
theorem scr_7 {P a k : Nat} (h : (a = 246 ∧ (k = 2 ∨ k = 3))) : Scr P a k := Or.inr (Or.inr (Or.inr (Or.inr (Or.inr (Or.inr (Or.inl h))))))
theorem scr_8 {P a k : Nat} (h : (247 ≤ a ∧ a ≤ 249)) : Scr P a k := Or.inr (Or.inr (Or.inr (Or.inr (Or.inr (Or.inr (Or.inr (Or.inl h)))))))
theorem scr_9 {P a k : Nat} (h : (a = 250 ∧ (k = 0 ∨ k = 4 ∨ k = 5 ∨ k = 8 ∨ k = 9))) : Scr P a k := Or.inr (Or.inr (Or.inr (Or.inr (Or.inr (Or.inr (Or.inr (Or.inr (Or.inl h))))))))
theorem scr_10 {P a k : Nat} (h : (252 ≤ a ∧ a ≤ 257)) : Scr P a k := Or.inr (Or.inr (Or.inr (Or.inr (Or.inr (Or.inr (Or.inr (Or.inr (Or.inr (Or.inl h)))))))))
theorem scr_11 {P a k : Nat} (h : a = 259) : Scr P a k := Or.inr (Or.inr (Or.inr (Or.inr (Or.inr (Or.inr (Or.inr (Or.inr (Or.inr (Or.inr (Or.inl h))))))))))
theorem scr_12 {P a k : Nat} (h : a = 260) : Scr P a k := Or.inr (Or.inr (Or.inr (Or.inr (Or.inr (Or.inr (Or.inr (Or.inr (Or.inr (Or.inr (Or.inr (Or.inl h)))))))))))
theorem scr_13 {P a k : Nat} (h : a = P + 27) : Scr P a k := Or.inr (Or.inr (Or.inr (Or.inr (Or.inr (Or.inr (Or.inr (Or.inr (Or.inr (Or.inr (Or.inr (Or.inr (Or.inl h))))))))))))
theorem scr_14 {P a k : Nat} (h : a = P + 27) : Scr P a k := Or.inr (Or.inr (Or.inr (Or.inr (Or.inr (Or.inr (Or.inr (Or.inr (Or.inr (Or.inr (Or.inr (Or.inr (Or.inr (Or.inl h)))))))))))))
theorem scr_15 {P a k : Nat} (h : (a = 264 ∧ (58 ≤ k ∧ k ≤ 61 ∨ k = 69 ∨ k = 70))) : Scr P a k := Or.inr (Or.inr (Or.inr (Or.inr (Or.inr (Or.inr (Or.inr (Or.inr (Or.inr (Or.inr (Or.inr (Or.inr (Or.inr (Or.inr (Or.inl h))))))))))))))
theorem scr_16 {P a k : Nat} (h : (300 ≤ a ∧ a ≤ 308)) : Scr P a k := Or.inr (Or.inr (Or.inr (Or.inr (Or.inr (Or.inr (Or.inr (Or.inr (Or.inr (Or.inr (Or.inr (Or.inr (Or.inr (Or.inr (Or.inr (Or.inl h)))))))))))))))
theorem scr_17 {P a k : Nat} (h : a = 310) : Scr P a k := Or.inr (Or.inr (Or.inr (Or.inr (Or.inr (Or.inr (Or.inr (Or.inr (Or.inr (Or.inr (Or.inr (Or.inr (Or.inr (Or.inr (Or.inr (Or.inr (Or.inl h))))))))))))))))
theorem scr_18 {P a k : Nat} (h : a = 311) : Scr P a k := Or.inr (Or.inr (Or.inr (Or.inr (Or.inr (Or.inr (Or.inr (Or.inr (Or.inr (Or.inr (Or.inr (Or.inr (Or.inr (Or.inr (Or.inr (Or.inr (Or.inr (Or.inl h)))))))))))))))))
theorem scr_19 {P a k : Nat} (h : (a = 296 ∧ k = 1)) : Scr P a k := Or.inr (Or.inr (Or.inr (Or.inr (Or.inr (Or.inr (Or.inr (Or.inr (Or.inr (Or.inr (Or.inr (Or.inr (Or.inr (Or.inr (Or.inr (Or.inr (Or.inr (Or.inr (Or.inl h))))))))))))))))))
theorem scr_20 {P a k : Nat} (h : (a = 297 ∧ 42 ≤ k ∧ k < 84)) : Scr P a k := Or.inr (Or.inr (Or.inr (Or.inr (Or.inr (Or.inr (Or.inr (Or.inr (Or.inr (Or.inr (Or.inr (Or.inr (Or.inr (Or.inr (Or.inr (Or.inr (Or.inr (Or.inr (Or.inr (Or.inl h)))))))))))))))))))
theorem scr_21 {P a k : Nat} (h : (a = 298 ∧ 10 ≤ k ∧ k < 20)) : Scr P a k := Or.inr (Or.inr (Or.inr (Or.inr (Or.inr (Or.inr (Or.inr (Or.inr (Or.inr (Or.inr (Or.inr (Or.inr (Or.inr (Or.inr (Or.inr (Or.inr (Or.inr (Or.inr (Or.inr (Or.inr (Or.inl h))))))))))))))))))))
theorem scr_22 {P a k : Nat} (h : (a = 299 ∧ 5 ≤ k ∧ k < 10)) : Scr P a k := Or.inr (Or.inr (Or.inr (Or.inr (Or.inr (Or.inr (Or.inr (Or.inr (Or.inr (Or.inr (Or.inr (Or.inr (Or.inr (Or.inr (Or.inr (Or.inr (Or.inr (Or.inr (Or.inr (Or.inr (Or.inr (h)))))))))))))))))))))
theorem scr_told {P a k : Nat} (y : ToS P a) : Scr P a k := by
  rcases y with y | y | y
  · exact scr_2 ⟨by omega, y.2.1, y.2.2.1, y.2.2.2.1, y.2.2.2.2⟩
  · exact scr_13 y
  · exact scr_14 y
theorem scr_ntf {P a k : Nat} (y : a = 264 ∧ 58 ≤ k ∧ k ≤ 61 ∨ 300 ≤ a ∧ a ≤ 305) : Scr P a k := by
  rcases y with y | y
  · exact scr_15 ⟨y.1, Or.inl y.2⟩
  · exact scr_16 ⟨y.1, by omega⟩
theorem gX0 {m : Mem} (r : Refs m) : getR 10 0 3 m = some 4 := rc r 4 (by decide +kernel)
theorem gX2 {m : Mem} (r : Refs m) : getR 10 2 3 m = some 5 := rc r 5 (by decide +kernel)
theorem gX5 {m : Mem} (r : Refs m) : getR 10 5 3 m = some 69 := rc r 69 (by decide +kernel)
theorem gX6 {m : Mem} (r : Refs m) : getR 10 6 3 m = some 73 := rc r 73 (by decide +kernel)
theorem gX7 {m : Mem} (r : Refs m) : getR 10 7 3 m = some 77 := rc r 77 (by decide +kernel)
theorem gX9 {m : Mem} (r : Refs m) : getR 10 9 3 m = some 159 := rc r 159 (by decide +kernel)
theorem gX10 {m : Mem} (r : Refs m) : getR 10 10 3 m = some 202 := rc r 202 (by decide +kernel)
theorem gX11 {m : Mem} (r : Refs m) : getR 10 11 3 m = some 245 := rc r 245 (by decide +kernel)
theorem gX13 {m : Mem} (r : Refs m) : getR 10 13 3 m = some 246 := rc r 246 (by decide +kernel)
theorem gX14 {m : Mem} (r : Refs m) : getR 10 14 3 m = some 250 := rc r 250 (by decide +kernel)
theorem gX15 {m : Mem} (r : Refs m) : getR 10 15 3 m = some 258 := rc r 258 (by decide +kernel)
theorem gX16 {m : Mem} (r : Refs m) : getR 10 16 3 m = some 262 := rc r 262 (by decide +kernel)
theorem gX18 {m : Mem} (r : Refs m) : getR 10 18 3 m = some 263 := rc r 263 (by decide +kernel)
theorem my0_51 {m : Mem} {n : Nat} {l : Lnd} (h : MY m 0 l n) {i : Int} (h0 : 0 ≤ i) (h1 : i < 42) : aldI 297 i m = some (l 0 i) := by
  have e := h.2.1 i h0 h1
  rw [show 42 * 0 + i.toNat = i.toNat from by omega] at e
  rw [arI 924 (by decide +kernel) (by omega) (by omega), e]
theorem my0_52 {m : Mem} {n : Nat} {l : Lnd} (h : MY m 0 l n) {i : Int} (h0 : 0 ≤ i) (h1 : i < n) : aldI 298 i m = some (l 1 i) := by
  have e := h.2.2.1 i h0 h1
  have := h.2.2.2.2.2
  rw [show 10 * 0 + i.toNat = i.toNat from by omega] at e
  rw [arI 220 (by decide +kernel) (by omega) (by omega), e]
theorem my0_53 {m : Mem} {n : Nat} {l : Lnd} (h : MY m 0 l n) {i : Int} (h0 : 0 ≤ i) (h1 : i < 5) : aldI 299 i m = some (l 2 i) := by
  have e := h.2.2.2.1 i h0 h1
  rw [show 5 * 0 + i.toNat = i.toNat from by omega] at e
  rw [arI 110 (by decide +kernel) (by omega) (by omega), e]
theorem m_open0 {N : Nat} (hN : 2000 ≤ N) {m : Mem} {b n : Nat} {I : Isl} {l : Lnd} (r : Refs m) (h : MD m b I) (hl : MY m 0 l n) (z : Sz I) {c : Int} (c0 : 0 ≤ c) (c1 : c < nC I) : X11_opennessOf N 264 0 c m = some (opn I l c) := m_open (v := 0) hN r h hl z c0 c1
theorem m_isWall0 {m : Mem} {n : Nat} {l : Lnd} (r : Refs m) (h : MY m 0 l n) {c : Int} (c0 : 0 ≤ c) (c1 : c < 42) : X11_isWall 264 0 c m = some (hasW l c) := m_isWall (v := 0) r h c0 c1
theorem m_ner0 {N : Nat} (hN : 2000 ≤ N) {m : Mem} {b k : Nat} {I : Isl} {l : Lnd} (r : Refs m) (h : MD m b I) (hl : MY m 0 l k) (z : Sz I) (n : Cn I) (kc : Kc I) {t : Int} (t0 : 0 ≤ t) (t1 : t < k) (c0 : 0 ≤ l 1 t) (c1 : l 1 t < nC I) : X11_cisternOf N 264 0 t m = some (ner I (l 1 t)) := m_ner (v := 0) hN r h hl z n kc t0 t1 c0 c1
theorem m_comes0 {N : Nat} (hN : 2000 ≤ N) {m : Mem} {b : Nat} {I : Isl} {l : Lnd} {sk : Int → Int} (r : Refs m) (h : MD m b I) (hl : MY m 0 l (nT I)) (z : Sz I) (n : Cn I) (kc : Kc I) (tc : Tc I l) (nm : NM m I l sk) (k : Int) : X11_comes N 264 0 k m = some (cms I l sk k) := m_comes2 (v := 0) hN r h hl z n kc tc nm k
theorem comb {X M : Mem → Option (Int × Mem)} {m : Mem} {P b : Nat} {I : Isl} {l : Lnd} {s : Int} (ans : Int) (hx : Wp (X m) (fun p => p.1 = ans ∧ InvP p.2 P b I l s)) (hm : ∀ m1, InvP m1 P b I l s → Wp (M m1) (fun p => p.1 = ans ∧ Inv p.2)) : ∃ v m1 m2, X m = some (v, m1) ∧ M m1 = some (v, m2) ∧ Inv m2 := by
  obtain ⟨⟨v1, m1⟩, e1, q1, i1⟩ := hx
  obtain ⟨⟨v2, m2⟩, e2, q2, i2⟩ := hm m1 i1
  subst q1
  subst q2
  exact ⟨v2, m1, m2, e1, e2, i2⟩
/-- the class's night as told, asked within the relation -/
theorem i_told {N : Nat} (hN : 2000 ≤ N) {m : Mem} {P b : Nat} {I : Isl} {l : Lnd} {s : Int} (h : InvP m P b I l s) : Wp (X10_asTold N 3 m) (fun p => p.1 = 159 ∧ InvP p.2 P b I l s ∧ NX p.2 159 P I l (I 15) ∧ ∀ a, ¬a = 3 → ¬ToS P a → p.2 a = m a) := by
  obtain ⟨r, ⟨b3, bb, b4, ps, md, mn⟩, ⟨z, n, kc, vl, cl, fx, cm⟩, ⟨hl, my, gl⟩, pa, to, zz, hg, wk, se, rd, te, fe, oe, kst⟩ := id h; have h1 := ps.1; have tc := gl.1; have hs := vl.2.2.2.2
  have hP := b3.1
  refine wp_c (x_told hN r b3 ps hl z n vl kc tc to) (fun p hp => ?_)
  obtain ⟨p1, p2, p3, f⟩ := hp
  have z161 : p.2 161 0 = 0 := p2.1.2.2.2.2.1 0 (by decide)
  refine ⟨p1, inv_fr h (fun a k hk => ?_) ⟨z161, Or.inl p3, fun _ => p2⟩ ?_, p2, f.1⟩
  · by_cases q : a = 3
    · rw [q]
      exact f.2 k (fun y => hk (by rw [q, y]; exact scr_1 ⟨rfl, rfl⟩))
    · rw [f.1 a q (fun y => hk (scr_told y))]
  · have e : ∀ a, 250 ≤ a → a ≤ 257 → p.2 a = m a := fun a a0 a1 => f.1 a (by omega) (by unfold ToS PasS; omega)
    unfold HG
    rw [e 250 (by decide) (by decide), e 257 (by decide) (by decide)]
    exact hg
/-- the reference's night as told, within the relation -/
theorem i_mtold {N : Nat} (hN : 2000 ≤ N) {m : Mem} {P b : Nat} {I : Isl} {l : Lnd} {s : Int} (h : InvP m P b I l s) : Wp (X11_nightAsTold N 264 0 m) (fun m2 => InvP m2 P b I l s ∧ NM m2 I l (I 15) ∧ ∀ a, a < 264 → m2 a = m a) := by
  obtain ⟨r, ⟨b3, bb, b4, ps, md, mn⟩, ⟨z, n, kc, vl, cl, fx, cm⟩, ⟨hl, my, gl⟩, pa, to, zz, hg, wk, se, rd, te, fe, oe, kst⟩ := id h; have h1 := ps.1; have tc := gl.1; have hs := vl.2.2.2.2
  have hP := b3.1
  refine wp_c (m_told (v := 0) hN r md my z n vl tc) (fun m2 hp => ?_)
  obtain ⟨f, nm⟩ := hp
  have e : ∀ a, a < 264 → m2 a = m a := fun a ha => f.1 a (by omega)
  refine ⟨inv_fr h (fun a k hk => ?_) ?_ ?_, nm, e⟩
  · by_cases q : a = 264
    · rw [q]
      exact f.2 k (fun y => hk (by rw [q]; exact scr_ntf (Or.inl ⟨rfl, y⟩)))
    · rw [f.1 a (fun y => hk (scr_ntf (Or.inr (by omega))))]
  · obtain ⟨t1, t2, t3⟩ := to
    refine ⟨by rw [e 161 (by decide)]; exact t1, by rw [e 3 (by decide)]; exact t2, fun q => ?_⟩
    rw [e 3 (by decide)] at q
    obtain ⟨⟨n1, n2, n3, n4, n5, n6⟩, n7, n8⟩ := t3 q
    have n9 := n.2.2.2.1
    refine ⟨⟨ntf_refs f r, sd_off n2 (fun q q1 q2 => e q (by omega)), sd_off n3 (fun q q1 q2 => e q (by omega)), ?_, ?_, ?_⟩, fun t ht => lay_off (n7 t ht) ⟨e (159 + 7 + t) (by omega), e (159 + 19 + t) (by omega), e (159 + 31 + t) (by omega)⟩, ?_⟩
    · rw [e (159 + 1) (by decide)]; exact n4
    · rw [e (159 + 2) (by decide)]; exact n5
    · rw [e (159 + 4) (by decide)]; exact n6
    · rw [e (159 + 42) (by decide)]; exact n8
  · unfold HG
    rw [e 250 (by decide), e 257 (by decide)]
    exact hg
