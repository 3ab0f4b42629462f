/-! sky -/
theorem sky_call {m : Mem} (h : Inv m) (a : Int) : ∃ v, X10_sky 3 a m = some v ∧ X11_sky 264 a m = some v := by
  obtain ⟨P, b, I, l, s, h⟩ := h
  obtain ⟨r, ⟨b3, bb, b4, ps, md, mn⟩, ⟨z, n, kc, vl, cl, fx, cm⟩, ⟨hl, my, gl⟩, pa, to, zz, hg, wk, se, rd, te, fe, oe, kst⟩ := id h; have h1 := ps.1; have tc := gl.1; have hs := vl.2.2.2.2
  by_cases q : 1 ≤ a ∧ a ≤ 12
  · refine ⟨I 15 a, ?_, ?_⟩ <;> refine wp_eq ?_
    · (unfold X10_sky; repeat' ((with_reducible show Wp _ _); first | with_reducible exact wp_some rfl | with_reducible refine wp_some ?_ | with_reducible refine wp_z0 ?_ | with_reducible refine wp_z1 ?_ | with_reducible refine wp_k k3 ?_ | with_reducible refine wp_b (pd_R (by assumption) (by assumption) (by decide)) ?_ | with_reducible refine wp_b (pd_r15 (by assumption) (by omega) (by omega)) ?_ | with_reducible refine wp_b (b3_R (by assumption)) ?_ | with_reducible refine wp_b (x_isHour _ _) ?_ | (with_reducible refine wp_if (fun hc => ?_) (fun hc => ?_) <;> (try simp (disch := omega) only [isC, bi_0, bi_1, wI_of2, Decidable.not_not, not_true_eq_false, not_false_eq_true] at hc) <;> (try (exfalso; omega)))))
    · unfold X11_sky
      refine wp_k k264 ?_
      refine wp_b (m_is _ _ _ _) ?_
      rw [← bi_t q, if_neg (by decide)]
      refine wp_b (gR27 r) ?_
      refine wp_b (md_bank md) ?_
      have bb2 := md.1.1
      have e := md_r27 md (i := a - 1) (by omega) (by omega)
      rw [wI_of2 (x := 12 * (b : Int)) (by omega) (by omega), wI_of2 (x := 12 * (b : Int) + (a - 1)) (by omega) (by omega), show a - 1 + 1 = a from by omega] at e
      rw [wI_of2 (x := 12 * (b : Int)) (by omega) (by omega), wI_of2 (x := 12 * (b : Int) + a) (by omega) (by omega), wI_of2 (x := 12 * (b : Int) + a - 1) (by omega) (by omega), show 12 * (b : Int) + a - 1 = 12 * (b : Int) + (a - 1) from by omega]
      refine wp_b e ?_
      exact wp_some rfl
  · refine ⟨-1, ?_, ?_⟩ <;> refine wp_eq ?_
    · (unfold X10_sky; repeat' ((with_reducible show Wp _ _); first | with_reducible exact wp_some rfl | with_reducible refine wp_some ?_ | with_reducible refine wp_z0 ?_ | with_reducible refine wp_z1 ?_ | with_reducible refine wp_k k3 ?_ | with_reducible refine wp_b (pd_R (by assumption) (by assumption) (by decide)) ?_ | with_reducible refine wp_b (pd_r15 (by assumption) (by omega) (by omega)) ?_ | with_reducible refine wp_b (b3_R (by assumption)) ?_ | with_reducible refine wp_b (x_isHour _ _) ?_ | (with_reducible refine wp_if (fun hc => ?_) (fun hc => ?_) <;> (try simp (disch := omega) only [isC, bi_0, bi_1, wI_of2, Decidable.not_not, not_true_eq_false, not_false_eq_true] at hc) <;> (try (exfalso; omega)))))
    · unfold X11_sky
      refine wp_k k264 ?_
      refine wp_b (m_is _ _ _ _) ?_
      rw [← bi_f q, if_pos rfl]
      exact wp_some rfl
