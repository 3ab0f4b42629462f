/-! cold, dew -/
theorem x_isHour (a : Int) (m : Mem) : X10_isHour a m = some (bi (1 ≤ a ∧ a ≤ 12)) := by
  refine wp_eq ?_
  (unfold X10_isHour; repeat' ((with_reducible show Wp _ _); first | with_reducible exact wp_some rfl | with_reducible refine wp_some ?_ | with_reducible refine wp_z0 ?_ | with_reducible refine wp_z1 ?_ | (with_reducible refine wp_if (fun hc => ?_) (fun hc => ?_) <;> (try simp (disch := omega) only [isC, bi_0, bi_1, wI_of2, Decidable.not_not, not_true_eq_false, not_false_eq_true] at hc) <;> (try (exfalso; omega)))))
  all_goals first | exact bi_t (by omega) | exact bi_f (by omega)
theorem cold_ok {N : Nat} (hN : 2000 ≤ N) {m : Mem} (h : Inv m) (c x : Int) : ∃ v m1 m2, X10_cold N 3 c x m = some (v, m1) ∧ X11_cold N 264 c x m1 = some (v, m2) ∧ Inv m2 := by
  obtain ⟨P, b, I, l, s, h⟩ := h
  by_cases q : (0 ≤ c ∧ c < nC I) ∧ 0 ≤ x ∧ x ≤ 12
  · obtain ⟨⟨c0, c1⟩, x0, x1⟩ := q
    have ic : isC I c = 1 := bi_1.mpr ⟨c0, c1⟩
    refine comb (P := P) (b := b) (I := I) (l := l) (s := s) (cold I l (I 15) c x.toNat) ?_ (fun m1 h => ?_)
    · obtain ⟨r, ⟨b3, bb, b4, ps, md, mn⟩, ⟨z, n, kc, vl, cl, fx, cm⟩, ⟨hl, my, gl⟩, pa, to, zz, hg, wk, se, rd, te, fe, oe, kst⟩ := id h; have h1 := ps.1; have tc := gl.1; have hs := vl.2.2.2.2
      obtain ⟨mt, et, ht, nx, _⟩ := i_told2 hN h
      have go : Wp (X10_cold_J22 N 3 c x m) (fun p => p.1 = cold I l (I 15) c x.toNat ∧ InvP p.2 P b I l s) := by
        unfold X10_cold_J22 X10_cold_J27
        rw [if_neg (by decide)]
        refine wp_b et ?_
        refine wp_b (x_coldIn (Or.inl rfl) z nx.1 c0 c1 x0 x1) ?_
        exact wp_some ⟨rfl, ht⟩
      unfold X10_cold
      refine wp_k k3 ?_
      refine wp_b (b3_R b3) ?_
      refine wp_b (x_isCell h1 z c) ?_
      rw [ic, if_neg (by decide)]
      by_cases y : x = 0
      · rw [if_pos y]; exact go
      · rw [if_neg y]
        refine wp_b (x_isHour _ _) ?_
        rw [← bi_t (show 1 ≤ x ∧ x ≤ 12 from by omega), if_neg (by decide)]
        exact go
    · obtain ⟨r, ⟨b3, bb, b4, ps, md, mn⟩, ⟨z, n, kc, vl, cl, fx, cm⟩, ⟨hl, my, gl⟩, pa, to, zz, hg, wk, se, rd, te, fe, oe, kst⟩ := id h; have h1 := ps.1; have tc := gl.1; have hs := vl.2.2.2.2
      have z7 := z.2.2.2.2.2.2
      obtain ⟨mt, et, ht, nm, _⟩ := i_mtold hN h
      unfold X11_cold
      refine wp_k k264 ?_
      refine wp_b (m_isCell r md z c) ?_
      rw [ic, if_neg (by decide)]
      refine wp_b (m_is _ _ _ _) ?_
      rw [← bi_t (show 0 ≤ x ∧ x ≤ 12 from ⟨x0, x1⟩), if_pos (by decide)]
      refine wp_b et ?_
      refine wp_b (gR63 ht.1) ?_
      rw [wI_of2 (x := 42 * x) (by omega) (by omega), wI_of2 (x := 42 * x + c) (by omega) (by omega)]
      refine wp_b (arI 546 (by decide +kernel) (by omega) (by omega) mt) ?_
      have e := nm.2.1 x.toNat (by omega) c c0 c1
      rw [show (42 * x + c).toNat = 42 * x.toNat + c.toNat from by omega, e]
      exact wp_some ⟨rfl, P, b, I, l, s, ht⟩
  · refine comb (P := P) (b := b) (I := I) (l := l) (s := s) (-1) ?_ (fun m1 h => ?_)
    · obtain ⟨r, ⟨b3, bb, b4, ps, md, mn⟩, ⟨z, n, kc, vl, cl, fx, cm⟩, ⟨hl, my, gl⟩, pa, to, zz, hg, wk, se, rd, te, fe, oe, kst⟩ := id h; have h1 := ps.1; have tc := gl.1; have hs := vl.2.2.2.2
      (unfold X10_cold; simp only [X10_cold_J26, X10_cold_J22, X10_cold_J27]; repeat' ((with_reducible show Wp _ _); first | with_reducible exact wp_some rfl | with_reducible refine wp_some ?_ | with_reducible refine wp_z0 ?_ | with_reducible refine wp_z1 ?_ | with_reducible refine wp_k k3 ?_ | with_reducible refine wp_b (b3_R (by assumption)) ?_ | with_reducible refine wp_b (x_isHour _ _) ?_ | with_reducible refine wp_b (x_isCell (by assumption) (by assumption) _) ?_ | (with_reducible refine wp_if (fun hc => ?_) (fun hc => ?_) <;> (try simp (disch := omega) only [isC, bi_0, bi_1, wI_of2, Decidable.not_not, not_true_eq_false, not_false_eq_true] at hc) <;> (try (exfalso; omega)))))
      all_goals exact ⟨rfl, h⟩
    · obtain ⟨r, ⟨b3, bb, b4, ps, md, mn⟩, ⟨z, n, kc, vl, cl, fx, cm⟩, ⟨hl, my, gl⟩, pa, to, zz, hg, wk, se, rd, te, fe, oe, kst⟩ := id h; have h1 := ps.1; have tc := gl.1; have hs := vl.2.2.2.2
      (unfold X11_cold; repeat' ((with_reducible show Wp _ _); first | with_reducible exact wp_some rfl | with_reducible refine wp_some ?_ | with_reducible refine wp_z0 ?_ | with_reducible refine wp_z1 ?_ | with_reducible refine wp_k k264 ?_ | with_reducible refine wp_b (gR63 (by assumption)) ?_ | with_reducible refine wp_b (m_is _ _ _ _) ?_ | with_reducible refine wp_b (m_isCell (by assumption) (by assumption) (by assumption) _) ?_ | (with_reducible refine wp_if (fun hc => ?_) (fun hc => ?_) <;> (try simp (disch := omega) only [isC, bi_0, bi_1, wI_of2, Decidable.not_not, not_true_eq_false, not_false_eq_true] at hc) <;> (try (exfalso; omega)))))
      all_goals exact ⟨rfl, ⟨P, b, I, l, s, h⟩⟩
theorem dew_ok {N : Nat} (hN : 2000 ≤ N) {m : Mem} (h : Inv m) (t x w : Int) : ∃ v m1 m2, X10_dew N 3 t x w m = some (v, m1) ∧ X11_dew N 264 t x w m1 = some (v, m2) ∧ Inv m2 := by
  obtain ⟨P, b, I, l, s, h⟩ := h
  have hn := h.2.2.1.2.1
  obtain ⟨n1, n2, n3, n4, n5, n6⟩ := hn
  by_cases q : (0 ≤ t ∧ t < I 9 0) ∧ (1 ≤ x ∧ x ≤ 12) ∧ 0 ≤ w ∧ w ≤ 2
  · obtain ⟨⟨t0, t1⟩, ⟨x0, x1⟩, w0, w1⟩ := q
    have et' : ((t.toNat : Nat) : Int) = t := Int.toNat_of_nonneg t0
    have key : ∀ (v : Int), (w = 0 → v = cam I l (I 15) (l 1 t) (I 10 t) (x.toNat - 1)) → (w = 1 → v = dri I l (I 15) (l 1 t) (I 10 t) (x.toNat - 1)) → (w = 2 → v = dwt I l (I 15) (l 1 t) (I 10 t) (x.toNat - 1 + 1)) → ∃ v m1 m2, X10_dew N 3 t x w m = some (v, m1) ∧ X11_dew N 264 t x w m1 = some (v, m2) ∧ Inv m2 := by
      intro v v0 v1 v2
      refine comb (P := P) (b := b) (I := I) (l := l) (s := s) v ?_ (fun m1 h => ?_)
      · obtain ⟨r, ⟨b3, bb, b4, ps, md, mn⟩, ⟨z, n, kc, vl, cl, fx, cm⟩, ⟨hl, my, gl⟩, pa, to, zz, hg, wk, se, rd, te, fe, oe, kst⟩ := id h; have h1 := ps.1; have tc := gl.1; have hs := vl.2.2.2.2
        obtain ⟨mt, et, ht, nx, _⟩ := i_told2 hN h
        have rt := ht.1
        have hT9 : isN 159 := Or.inl rfl
        have la := nx.2.1 t.toNat (by omega) (x.toNat - 1) (by omega)
        rw [et', show x.toNat - 1 + 1 = x.toNat from by omega] at la
        have sa := nt_S0 hT9 (i := t.toNat) (by omega)
        have sb := nt_S1 hT9 (i := t.toNat) (by omega)
        have sc := nt_S2 hT9 (i := t.toNat) (by omega)
        have rr := nt_R rt hT9
        unfold X10_dew
        refine wp_k k3 ?_
        refine wp_b (b3_R b3) ?_
        refine wp_b (x_isThing h1 _) ?_
        rw [← bi_t ⟨t0, t1⟩, if_neg (by decide)]
        refine wp_b (x_isHour _ _) ?_
        rw [← bi_t ⟨x0, x1⟩, if_pos (by decide)]
        by_cases y0 : w = 0
        · rw [if_pos y0]
          refine wp_b et ?_
          refine wp_b rr.2.2.2.2.2.1 ?_
          refine wp_b (nt_row0 rt hT9 t0 (by omega)) ?_
          refine wp_b (ar_ld sa.1 sa.2 (by omega) (by omega) _) ?_
          exact wp_some ⟨la.1.trans (by rw [v0 y0]), ht⟩
        rw [if_neg y0]
        by_cases y1 : w = 1
        · rw [if_pos y1]
          refine wp_b et ?_
          refine wp_b rr.2.2.2.2.2.2.1 ?_
          refine wp_b (nt_row1 rt hT9 t0 (by omega)) ?_
          refine wp_b (ar_ld sb.1 sb.2 (by omega) (by omega) _) ?_
          exact wp_some ⟨la.2.1.trans (by rw [v1 y1]), ht⟩
        rw [if_neg y1, if_pos (by omega)]
        refine wp_b et ?_
        refine wp_b rr.2.2.2.2.2.2.2.1 ?_
        refine wp_b (nt_row2 rt hT9 t0 (by omega)) ?_
        refine wp_b (ar_ld sc.1 sc.2 (by omega) (by omega) _) ?_
        exact wp_some ⟨la.2.2.trans (by rw [v2 (by omega), show x.toNat - 1 + 1 = x.toNat from by omega]), ht⟩
      · obtain ⟨r, ⟨b3, bb, b4, ps, md, mn⟩, ⟨z, n, kc, vl, cl, fx, cm⟩, ⟨hl, my, gl⟩, pa, to, zz, hg, wk, se, rd, te, fe, oe, kst⟩ := id h; have h1 := ps.1; have tc := gl.1; have hs := vl.2.2.2.2
        obtain ⟨mt, et, ht, nm, _⟩ := i_mtold hN h
        have rt := ht.1
        have la := nm.2.2 (x.toNat - 1) t.toNat (by omega) (by omega)
        unfold DwM at la
        rw [et'] at la
        unfold X11_dew
        refine wp_k k264 ?_
        refine wp_b (m_isThing r md _) ?_
        rw [← bi_t ⟨t0, t1⟩, if_neg (by decide)]
        refine wp_b (m_is _ _ _ _) ?_
        rw [← bi_t ⟨x0, x1⟩, if_neg (by decide)]
        refine wp_b (m_is _ _ _ _) ?_
        rw [← bi_t ⟨w0, w1⟩, if_pos (by decide)]
        refine wp_b et ?_
        rw [wI_of2 (x := 10 * x) (by omega) (by omega), wI_of2 (x := 10 * x + t) (by omega) (by omega)]
        have ix : (10 * x + t).toNat = 10 * (x.toNat - 1 + 1) + t.toNat := by omega
        by_cases y0 : w = 0
        · rw [if_neg (fun u => u y0)]
          refine wp_b (gR64 rt) ?_
          refine wp_b (arI 130 (by decide +kernel) (by omega) (by omega) mt) ?_
          rw [ix, la.1, v0 y0]
          exact wp_some ⟨rfl, P, b, I, l, s, ht⟩
        rw [if_pos y0]
        by_cases y1 : w = 1
        · rw [if_neg (fun u => u y1)]
          refine wp_b (gR65 rt) ?_
          refine wp_b (arI 130 (by decide +kernel) (by omega) (by omega) mt) ?_
          rw [ix, la.2.1, v1 y1]
          exact wp_some ⟨rfl, P, b, I, l, s, ht⟩
        rw [if_pos y1]
        refine wp_b (gR66 rt) ?_
        refine wp_b (arI 130 (by decide +kernel) (by omega) (by omega) mt) ?_
        rw [ix, la.2.2, v2 (by omega)]
        exact wp_some ⟨rfl, P, b, I, l, s, ht⟩
    by_cases y0 : w = 0
    · exact key _ (fun _ => rfl) (fun u => by omega) (fun u => by omega)
    by_cases y1 : w = 1
    · exact key _ (fun u => by omega) (fun _ => rfl) (fun u => by omega)
    · exact key _ (fun u => by omega) (fun u => by omega) (fun _ => rfl)
  · refine comb (P := P) (b := b) (I := I) (l := l) (s := s) (-1) ?_ (fun m1 h => ?_)
    · obtain ⟨r, ⟨b3, bb, b4, ps, md, mn⟩, ⟨z, n, kc, vl, cl, fx, cm⟩, ⟨hl, my, gl⟩, pa, to, zz, hg, wk, se, rd, te, fe, oe, kst⟩ := id h; have h1 := ps.1; have tc := gl.1; have hs := vl.2.2.2.2
      (unfold X10_dew; repeat' ((with_reducible show Wp _ _); first | with_reducible exact wp_some rfl | with_reducible refine wp_some ?_ | with_reducible refine wp_z0 ?_ | with_reducible refine wp_z1 ?_ | with_reducible refine wp_k k3 ?_ | with_reducible refine wp_b (b3_R (by assumption)) ?_ | with_reducible refine wp_b (x_isHour _ _) ?_ | with_reducible refine wp_b (x_isThing (by assumption) _) ?_ | (with_reducible refine wp_if (fun hc => ?_) (fun hc => ?_) <;> (try simp (disch := omega) only [isC, bi_0, bi_1, wI_of2, Decidable.not_not, not_true_eq_false, not_false_eq_true] at hc) <;> (try (exfalso; omega)))))
      all_goals exact ⟨rfl, h⟩
    · obtain ⟨r, ⟨b3, bb, b4, ps, md, mn⟩, ⟨z, n, kc, vl, cl, fx, cm⟩, ⟨hl, my, gl⟩, pa, to, zz, hg, wk, se, rd, te, fe, oe, kst⟩ := id h; have h1 := ps.1; have tc := gl.1; have hs := vl.2.2.2.2
      (unfold X11_dew; repeat' ((with_reducible show Wp _ _); first | with_reducible exact wp_some rfl | with_reducible refine wp_some ?_ | with_reducible refine wp_z0 ?_ | with_reducible refine wp_z1 ?_ | with_reducible refine wp_k k264 ?_ | with_reducible refine wp_b (gR64 (by assumption)) ?_ | with_reducible refine wp_b (gR65 (by assumption)) ?_ | with_reducible refine wp_b (gR66 (by assumption)) ?_ | with_reducible refine wp_b (m_is _ _ _ _) ?_ | with_reducible refine wp_b (m_isThing (by assumption) (by assumption) _) ?_ | (with_reducible refine wp_if (fun hc => ?_) (fun hc => ?_) <;> (try simp (disch := omega) only [isC, bi_0, bi_1, wI_of2, Decidable.not_not, not_true_eq_false, not_false_eq_true] at hc) <;> (try (exfalso; omega)))))
      all_goals exact ⟨rfl, ⟨P, b, I, l, s, h⟩⟩
