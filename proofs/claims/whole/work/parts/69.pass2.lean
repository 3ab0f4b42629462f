/-! the class's night, whole -/
def cmsTo (I : Isl) (l : Lnd) (sk : Int → Int) (k : Int) : Nat → Int
  | 0 => 0
  | t + 1 => cmsTo I l sk k t + if ner I (l 1 t) = k then dwt I l sk (l 1 t) (I 10 t) 12 else 0
def cms (I : Isl) (l : Lnd) (sk : Int → Int) (k : Int) : Int := cmsTo I l sk k (nT I)
theorem cmsTo_in (I : Isl) (l : Lnd) (sk : Int → Int) (k : Int) (t : Nat) : 0 ≤ cmsTo I l sk k t ∧ cmsTo I l sk k t ≤ 1188 * t := by
  induction t with
  | zero => exact ⟨Int.le_refl _, Int.le_refl _⟩
  | succ t ih =>
    have b := (dwt_in I l sk (l 1 t) (I 10 t) 12).1
    have e : cmsTo I l sk k (t + 1) = cmsTo I l sk k t + if ner I (l 1 t) = k then dwt I l sk (l 1 t) (I 10 t) 12 else 0 := rfl
    by_cases q : ner I (l 1 t) = k
    · rw [if_pos q] at e; omega
    · rw [if_neg q] at e; omega
def PasS (T P : Nat) : Nat → Prop := fun a => (T + 1 ≤ a ∧ a ≤ T + 42 ∧ ¬a = T + 6 ∧ ¬a = T + 18 ∧ ¬a = T + 30) ∨ a = P + 27 ∨ a = P + 27
/-- a night of the class that has gone by under a sky -/
def NX (m : Mem) (T P : Nat) (I : Isl) (l : Lnd) (sk : Int → Int) : Prop := NL m T P I l sk ∧ (∀ t : Nat, t < nT I → Lay m T t I l sk (l 1 t) (I 10 t) 12) ∧ ∀ k : Nat, k < 5 → m (T + 42) k = cms I l sk k
theorem lay_off {m m2 : Mem} {T w : Nat} {I : Isl} {l : Lnd} {sk : Int → Int} {c tk : Int} {n : Nat} (h : Lay m T w I l sk c tk n) (q : m2 (T + 7 + w) = m (T + 7 + w) ∧ m2 (T + 19 + w) = m (T + 19 + w) ∧ m2 (T + 31 + w) = m (T + 31 + w)) : Lay m2 T w I l sk c tk n := fun i hi => by
  rw [q.1, q.2.1, q.2.2]
  exact h i hi
theorem ner_in {I : Isl} (n : Cn I) (c : Int) : ner I c = -1 ∨ 0 ≤ ner I c ∧ ner I c < I 6 0 := by
  have := nerTo_in I c (nK I)
  obtain ⟨n1, n2, n3, n4, n5, n6⟩ := id n
  unfold ner
  omega
theorem x_pass {N : Nat} (hN : 2000 ≤ N) {m : Mem} {T P L D : Nat} {I : Isl} {l : Lnd} {sk : Int → Int} (hT : isN T) (r : Refs m) (h : PD m P I) (hl : LD m L l) (z : Sz I) (n : Cn I) (v : Vl I) (kc : Kc I) (tc : Tc I l) (sd1 : SD m (P + 23) 0 (I 22) (nD I)) (sd2 : SD m (P + 23) 1 (I 24) (nR I)) (hc : m (T + 2) 0 = 0) (hD : shK D = 1 ∧ shN D = 13 ∧ 3 ≤ D) (hs : ∀ x : Int, 0 ≤ x → x < 13 → m D x.toNat = sk x) : Wp (X3_pass N T P L D m) (fun m2 => NX m2 T P I l sk ∧ Off (PasS T P) m m2) := by
  have s := nt_S hT
  have hT2 := hT
  unfold isN at hT2
  have hP := h.1
  have hL := isLd_le hl.1
  obtain ⟨z1, z2, z3, z4, z5, z6, z7⟩ := id z
  obtain ⟨n1, n2, n3, n4, n5, n6⟩ := id n
  have sc := sd_c sd1.1
  have fr : ∀ (mm : Mem), Off (PasS T P) m mm → PD mm P I ∧ LD mm L l := by
    intro mm o
    have oo : ∀ a, ¬((T + 1 ≤ a ∧ a ≤ T + 42 ∧ ¬a = T + 6 ∧ ¬a = T + 18 ∧ ¬a = T + 30) ∨ a = P + 27 ∨ a = P + 27) → mm a = m a := o
    have hL2 := hl.1
    unfold isLd at hL2
    simp only [Bool.or_eq_true, Bool.and_eq_true, beq_iff_eq, decide_eq_true_eq] at hL2
    exact ⟨pd_off h fun a _ _ _ _ _ => oo a (by omega), ld_off hl fun a _ _ => oo a (by omega)⟩
  unfold X3_pass
  refine wp_k (nt_K hT) ?_
  refine wp_b (nt_R r hT).1 ?_
  refine wp_b (ar_len hD.1 hD.2.1) ?_
  refine wp_b (nt_R r hT).1 ?_
  refine wp_b (ar_len s.1.1 s.1.2) ?_
  refine wp_b (x_acopy hD.1 s.1.1 hD.2.2 (by omega) (by omega) (by rw [hD.2.1]; omega) (by rw [s.1.2]; omega) m) ?_
  have r1 := refs_set r (Or.inl s.1.1) (fun j => if j < (min ((13 : Nat) : Int) ((13 : Nat) : Int)).toNat then m D j else m (T + 1) j)
  have o1 : Off (PasS T P) m (setA m (T + 1) (fun j => if j < (min ((13 : Nat) : Int) ((13 : Nat) : Int)).toNat then m D j else m (T + 1) j)) := off_set (off_refl m) (by unfold PasS; omega) _
  obtain ⟨h1, hl1⟩ := fr _ o1
  refine wp_bw (x_chill hN (sk := sk) hT r1 h1 hl1 z (sd_set sd1 (by omega) _) (sd_set sd2 (by omega) _) (fun x x0 x1 => ?_) (by rw [setA_ne (by omega)]; exact hc)) (fun m2 hm2 => ?_)
  · rw [setA_same, if_pos (by omega)]
    exact hs x x0 x1
  obtain ⟨n2, oc⟩ := hm2
  have o2 := off_trans o1 oc (fun a ha => by unfold ChS at ha; unfold PasS; omega)
  refine wp_b (nt_R n2.1 hT).2.2.2.2.2.2.2.2 ?_
  refine wp_b (x_fill s.2.2.2.2.2.1 s.2.2.2.2.2.2 (by omega) (by omega) (by omega) 0 m2) ?_
  have n3 := nl_set n2 (a := T + 42) s.2.2.2.2.2.1 (by omega) (fun j => if j < 5 then 0 else m2 (T + 42) j)
  have o3 := off_set o2 (a := T + 42) (by unfold PasS; omega) (fun j => if j < 5 then 0 else m2 (T + 42) j)
  refine lw_1 (fun j mm => NL mm T P I l sk ∧ Off (PasS T P) m mm ∧ (∀ t : Nat, t < j → Lay mm T t I l sk (l 1 t) (I 10 t) 12) ∧ ∀ k : Nat, k < 5 → mm (T + 42) k = cmsTo I l sk k j) (fun F i mm => X3_pass_L37 N F T P L i mm) (nT I) _ (fun F j mm hj hI ih => ?_) (fun F mm hI => ?_) N _ (by omega) ⟨n3, o3, fun t ht => absurd ht (by omega), fun k hk => by rw [setA_same]; exact if_pos hk⟩
  · obtain ⟨n4, o4, lay, cm⟩ := hI
    obtain ⟨h4, hl4⟩ := fr mm o4
    have tj := tc j (by omega) (by omega)
    have kj := v.2.1 j (by omega) (by omega)
    have nr := ner_in n (l 1 j)
    show Wp (X3_pass_L37_b N (X3_pass_L37 N F) T P L j mm) _
    unfold X3_pass_L37_b; simp only [X3_pass_J104]
    refine wp_b (pd_I h4 (by decide)) ?_
    rw [if_neg (by omega)]
    refine wp_b (ld_R n4.1 hl4 (by decide)) ?_
    refine wp_b (ld_r1 hl4 (by omega) (by omega)) ?_
    refine wp_b (pd_R n4.1 h4 (by decide)) ?_
    refine wp_b (pd_r10 h4 (by omega) (by omega)) ?_
    refine wp_bw (x_lie hN hT h4 hl4 z v n4 tj.1 tj.2 kj.1 kj.2 (w := j) (by omega)) (fun p hp => ?_)
    obtain ⟨p1, n5, ol, lay5⟩ := hp
    have oo : ∀ a, ¬(a = T + 5 ∨ a = T + 7 + j ∨ a = T + 19 + j ∨ a = T + 31 + j ∨ a = P + 27 ∨ a = P + 27) → p.2 a = mm a := ol
    have o5 := off_trans o4 ol (fun a ha => by unfold LieS at ha; unfold PasS; omega)
    obtain ⟨h5, hl5⟩ := fr p.2 o5
    refine wp_b (ld_R n5.1 hl5 (by decide)) ?_
    refine wp_b (ld_r1 hl5 (by omega) (by omega)) ?_
    refine wp_b (x_ner hN n5.1 h5 z n kc tj.1 tj.2) ?_
    refine wp_b (x_isCistern h5 _) ?_
    have lay6 : ∀ t : Nat, t < j + 1 → Lay p.2 T t I l sk (l 1 t) (I 10 t) 12 := by
      intro t ht
      by_cases q : t = j
      · rw [q]; exact lay5
      · exact lay_off (lay t (by omega)) ⟨oo _ (by omega), oo _ (by omega), oo _ (by omega)⟩
    have st : ∀ k, cmsTo I l sk k (j + 1) = cmsTo I l sk k j + if ner I (l 1 j) = k then dwt I l sk (l 1 j) (I 10 j) 12 else 0 := fun _ => rfl
    by_cases q : 0 ≤ ner I (l 1 j) ∧ ner I (l 1 j) < I 6 0
    · rw [← bi_t q, if_neg (by decide)]
      refine wp_b (nt_R n5.1 hT).2.2.2.2.2.2.2.2 ?_
      refine wp_b (ar_ld s.2.2.2.2.2.1 s.2.2.2.2.2.2 (by omega) (by omega) p.2) ?_
      rw [oo (T + 42) (by omega), cm _ (by omega), p1]
      have b1 := cmsTo_in I l sk (ner I (l 1 j)) j
      have b2 := (dwt_in I l sk (l 1 j) (I 10 j) 12).1
      have e0 : (((ner I (l 1 j)).toNat : Nat) : Int) = ner I (l 1 j) := Int.toNat_of_nonneg q.1
      rw [e0, wI_of2 (x := cmsTo I l sk (ner I (l 1 j)) j + dwt I l sk (l 1 j) (I 10 j) 12) (by omega) (by omega)]
      obtain ⟨g, e, a, k⟩ := ar_stE s.2.2.2.2.2.1 s.2.2.2.2.2.2 (by omega) (i := ner I (l 1 j)) (by omega) (by omega) (cmsTo I l sk (ner I (l 1 j)) j + dwt I l sk (l 1 j) (I 10 j) 12) p.2
      refine wp_b e ?_
      refine ih _ _ (by first | omega | (simp (disch := omega) only [wI_of2] <;> omega)) ⟨nl_set n5 (a := T + 42) s.2.2.2.2.2.1 (by omega) g, off_set o5 (by unfold PasS; omega) g, fun t ht => lay_off (lay6 t ht) ⟨setA_ne (by omega) _ _, setA_ne (by omega) _ _, setA_ne (by omega) _ _⟩, fun x hx => ?_⟩
      rw [setA_same, st x]
      by_cases y : x = (ner I (l 1 j)).toNat
      · rw [y, a, e0, if_pos rfl]
      · rw [k x y, oo (T + 42) (by omega), cm x hx, if_neg (by omega)]; omega
    · rw [← bi_f q, if_pos rfl]
      refine ih _ _ (by first | omega | (simp (disch := omega) only [wI_of2] <;> omega)) ⟨n5, o5, lay6, fun x hx => ?_⟩
      rw [st x, oo (T + 42) (by omega), cm x hx, if_neg (by omega)]; omega
  · obtain ⟨n4, o4, lay, cm⟩ := hI
    obtain ⟨h4, hl4⟩ := fr mm o4
    show Wp (X3_pass_L37_b N (X3_pass_L37 N F) T P L (nT I) mm) _
    unfold X3_pass_L37_b
    refine wp_b (pd_I h4 (by decide)) ?_
    rw [if_pos (by omega)]
    exact wp_some ⟨⟨n4, lay, cm⟩, o4⟩
