/-! nights by a seed; the night as told, when it is asked -/
def B3 (m : Mem) (P : Nat) : Prop := (P = 11 ∨ P = 40) ∧ m 3 3 = (P : Int)
theorem b3_R {m : Mem} {P : Nat} (h : B3 m P) : getR 10 3 3 m = some P := gtR P h.2 (by rcases h.1 with e | e <;> subst e <;> decide +kernel)
/-- of the class's main object the slots J may have changed, of others those of S -/
def F3 (S J : Nat → Prop) (m m2 : Mem) : Prop := (∀ a, ¬a = 3 → ¬S a → m2 a = m a) ∧ ∀ j, ¬J j → m2 3 j = m 3 j
theorem f3_refl {S J : Nat → Prop} (m : Mem) : F3 S J m m := ⟨fun _ _ _ => rfl, fun _ _ => rfl⟩
theorem f3_trans {S J S2 J2 S3 J3 : Nat → Prop} {m m2 m3 : Mem} (h : F3 S J m m2) (g : F3 S2 J2 m2 m3) (i : ∀ a, S a ∨ S2 a → S3 a) (k : ∀ a, J a ∨ J2 a → J3 a) : F3 S3 J3 m m3 := ⟨fun a ha hs => by rw [g.1 a ha (fun x => hs (i a (Or.inr x))), h.1 a ha (fun x => hs (i a (Or.inl x)))], fun j hj => by rw [g.2 j (fun x => hj (k j (Or.inr x))), h.2 j (fun x => hj (k j (Or.inl x)))]⟩
theorem f3_off {S J S2 : Nat → Prop} {m m2 : Mem} (h : Off S2 m m2) (i : ∀ a, S2 a → S a) (n3 : ¬S2 3) : F3 S J m m2 := ⟨fun a _ hs => h a (fun x => hs (i a x)), fun j _ => by rw [h 3 n3]⟩
theorem f3_b3 {S J : Nat → Prop} {m m2 : Mem} {P : Nat} (h : F3 S J m m2) (n : ¬J 3) (b : B3 m P) : B3 m2 P := ⟨b.1, by rw [h.2 3 n]; exact b.2⟩
theorem g3 {m : Mem} {k : Nat} (c : (shK 3 == 10 + 10 && decide (k < shN 3)) = true) : getI 10 k 3 m = some (m 3 k) := gtI c m
/-- the skies by a seed -/
def skC (I : Isl) (s : Int) : Int → Int := fun h => if h ≤ 0 then 0 else if I 18 0 ≤ sdN s h.toNat / 64 % 100 then 0 else 1
theorem sdN_add (s : Int) (a : Nat) : ∀ b : Nat, sdN s (a + b) = sdN (sdN s a) b := by
  intro b
  induction b with
  | zero => rfl
  | succ b ih =>
    show nxt (sdN s (a + b)) = nxt (sdN (sdN s a) b)
    rw [ih]
theorem pd_3 {m m2 : Mem} {P : Nat} {I : Isl} {S J : Nat → Prop} (f : F3 S J m m2) (h : PD m P I) (q : ∀ a, P ≤ a → a ≤ P + 22 → ¬S a) : PD m2 P I := pd_off h fun a a1 a2 _ _ _ => f.1 a (by have := h.1; omega) (q a a1 a2)
theorem sd_3 {m m2 : Mem} {T w : Nat} {code : Int → Int} {n : Nat} {S J : Nat → Prop} (f : F3 S J m m2) (h : SD m T w code n) (q : ∀ a, T ≤ a → a ≤ T + 3 → ¬S a) : SD m2 T w code n := sd_off h (fun a a1 a2 => f.1 a (by have := h.1; omega) (q a a1 a2))
theorem ld_3f {m m2 : Mem} {L : Nat} {l : Lnd} {S J : Nat → Prop} (f : F3 S J m m2) (h : LD m L l) (q : ∀ a, L ≤ a → a ≤ L + 3 → ¬S a) : LD m2 L l := ld_off h fun a a1 a2 => f.1 a (by
    have := h.1
    unfold isLd at this
    simp only [Bool.or_eq_true, Bool.and_eq_true, beq_iff_eq, decide_eq_true_eq] at this
    omega) (q a a1 a2)
theorem x_drawSky {N : Nat} (hN : 2000 ≤ N) {m : Mem} {P : Nat} {I : Isl} {s : Int} (r : Refs m) (b3 : B3 m P) (h : PD m P I) (hs : m 3 8 = s) (s0 : 0 ≤ s) (s1 : s < 2147483648) (z0 : m 245 0 = 0) : Wp (X10_drawSky N 3 m) (fun m2 => Refs m2 ∧ m2 3 8 = sdN s 12 ∧ (∀ x : Int, 0 ≤ x → x < 13 → m2 245 x.toNat = skC I s x) ∧ F3 (fun a => a = 245) (fun j => j = 8) m m2) := by
  unfold X10_drawSky
  refine wp_k k3 ?_
  refine lw_1 (fun j mm => Refs mm ∧ mm 3 8 = sdN s j ∧ (∀ x : Int, 0 ≤ x → x ≤ j → mm 245 x.toNat = skC I s x) ∧ F3 (fun a => a = 245) (fun j => j = 8) m mm) (fun F i mm => X10_drawSky_L2 N F 3 (i + 1) mm) 12 _ (fun F j mm hj hI ih => ?_) (fun F mm hI => ?_) N m (by omega) ⟨r, hs, fun x x0 x1 => by rw [show x = 0 from by omega]; exact z0, f3_refl m⟩
  · obtain ⟨rr, es, ex, f⟩ := hI
    have si := sdN_in s0 s1 j
    show Wp (X10_drawSky_L2_b N (X10_drawSky_L2 N F) 3 ((j : Int) + 1) mm) _
    unfold X10_drawSky_L2_b
    rw [if_neg (by omega)]
    refine wp_b (rc rr 245 (by decide +kernel)) ?_
    refine wp_b (x_draw es si.1 si.2) ?_
    have r1 : Refs (up mm 3 8 (nxt (sdN s j))) := refs_up rr (by decide +kernel) _
    have f1 : F3 (fun a => a = 245) (fun j => j = 8) m (up mm 3 8 (nxt (sdN s j))) := ⟨fun a ha hq => by rw [up_setA, setA_ne ha]; exact f.1 a ha hq, fun i hi => by rw [up_at, if_neg hi]; exact f.2 i hi⟩
    have h1 : PD (up mm 3 8 (nxt (sdN s j))) P I := pd_3 f1 h (fun a _ _ => by have := h.1; omega)
    refine wp_b (b3_R (f3_b3 f1 (by decide) b3)) ?_
    refine wp_b (pd_I h1 (by decide)) ?_
    have J32 : ∀ v, v = skC I s ((j : Int) + 1) → Wp (X10_drawSky_J32 N (X10_drawSky_L2 N F) 3 ((j : Int) + 1) 245 ((j : Int) + 1) v (up mm 3 8 (nxt (sdN s j)))) (fun m2 => Refs m2 ∧ m2 3 8 = sdN s 12 ∧ (∀ x : Int, 0 ≤ x → x < 13 → m2 245 x.toNat = skC I s x) ∧ F3 (fun a => a = 245) (fun j => j = 8) m m2) := by
      intro v hv
      unfold X10_drawSky_J32
      obtain ⟨g, e, a, k⟩ := ar_stE (a := 245) (n := 13) (i := (j : Int) + 1) (by decide +kernel) (by decide +kernel) (by decide) (by omega) (by omega) v (up mm 3 8 (nxt (sdN s j)))
      refine wp_b e ?_
      rw [show wI ((j : Int) + 1 + 1) = ((j : Int) + 1) + 1 from wI_of2 (by omega) (by omega)]
      refine ih ((j : Int) + 1) _ rfl ⟨refs_set r1 (Or.inl (by decide +kernel)) g, ?_, fun x x0 x1 => ?_, ⟨fun a ha hq => by rw [setA_ne hq]; exact f1.1 a ha hq, fun i hi => by rw [setA_ne (by decide)]; exact f1.2 i hi⟩⟩
      · rw [setA_ne (by decide), up_same]; rfl
      · rw [setA_same]
        by_cases q : x = (j : Int) + 1
        · rw [q, a]; exact hv
        · rw [k _ (by omega), up_obj (by decide)]; exact ex x x0 (by omega)
    have sk : skC I s ((j : Int) + 1) = if I 18 0 ≤ nxt (sdN s j) / 64 % 100 then 0 else 1 := by
      unfold skC
      rw [if_neg (by omega), show ((j : Int) + 1).toNat = j + 1 from by omega]
      rfl
    by_cases q : I 18 0 ≤ nxt (sdN s j) / 64 % 100
    · rw [if_pos q]
      exact J32 0 (by rw [sk, if_pos q])
    · rw [if_neg q]
      exact J32 1 (by rw [sk, if_neg q])
  · obtain ⟨rr, es, ex, f⟩ := hI
    show Wp (X10_drawSky_L2_b N (X10_drawSky_L2 N F) 3 (((12 : Nat) : Int) + 1) mm) _
    unfold X10_drawSky_L2_b
    rw [if_pos (by decide)]
    exact wp_some ⟨rr, es, fun x x0 x1 => ex x x0 (by omega), f⟩
/-- the land behind the first nights by a seed, and what came by them -/
def nLd (I : Isl) (s : Int) (l : Lnd) : Nat → Lnd
  | 0 => l
  | j + 1 => pouL I (nLd I s l j) (cms I (nLd I s l j) (skC I (sdN s (12 * j))))
def nSm (I : Isl) (s : Int) (l : Lnd) : Nat → Int
  | 0 => 0
  | j + 1 => nSm I s l j + pouS (cms I (nLd I s l j) (skC I (sdN s (12 * j)))) (nK I)
theorem cms_in {I : Isl} (n : Cn I) (l : Lnd) (sk : Int → Int) (k : Int) : 0 ≤ cms I l sk k ∧ cms I l sk k ≤ 20000 := by
  have := cmsTo_in I l sk k (nT I)
  obtain ⟨n1, n2, n3, n4, n5, n6⟩ := id n
  unfold cms
  omega
theorem gl_pou {I : Isl} (n : Cn I) {l : Lnd} (g : GL I l) (sk : Int → Int) (h : l 3 0 + 1 ≤ 9999) : GL I (pouL I l (cms I l sk)) := by
  obtain ⟨g1, g2, g3, ⟨g4, g5, g6, g7, g8⟩, g9⟩ := g
  refine ⟨g1, g2, g3, ⟨fun k k0 k1 => ?_, g5, g6, ?_, ?_⟩, g9⟩
  · have c := cms_in n l sk k
    have d := g4 k k0 k1
    show 0 ≤ (if k < I 6 0 then pou I (l 2 k) (cms I l sk k) else l 2 k) ∧ (if k < I 6 0 then pou I (l 2 k) (cms I l sk k) else l 2 k) ≤ 9999
    by_cases q : k < I 6 0
    · rw [if_pos q]; unfold pou; omega
    · rw [if_neg q]; exact d
  · show 0 ≤ l 3 0 + 1; omega
  · show l 3 0 + 1 ≤ 9999; exact h
theorem nLd_3 (I : Isl) (s : Int) (l : Lnd) (j : Nat) : nLd I s l j 3 0 = l 3 0 + j := by
  induction j with
  | zero => show l 3 0 = l 3 0 + 0; omega
  | succ j ih =>
    show nLd I s l j 3 0 + 1 = l 3 0 + ((j + 1 : Nat) : Int)
    rw [ih]; omega
theorem gl_nLd {I : Isl} (n : Cn I) (s : Int) {l : Lnd} (g : GL I l) : ∀ j : Nat, l 3 0 + j ≤ 9999 → GL I (nLd I s l j) := by
  intro j
  induction j with
  | zero => intro _; exact g
  | succ j ih =>
    intro h
    exact gl_pou n (ih (by omega)) _ (by rw [nLd_3]; omega)
theorem nSm_in {I : Isl} (n : Cn I) (s : Int) (l : Lnd) (j : Nat) : 0 ≤ nSm I s l j ∧ nSm I s l j ≤ 100000 * j := by
  induction j with
  | zero => exact ⟨Int.le_refl _, Int.le_refl _⟩
  | succ j ih =>
    have a := pouS_in (cms_in n (nLd I s l j) (skC I (sdN s (12 * j)))) (nK I)
    have e : nSm I s l (j + 1) = nSm I s l j + pouS (cms I (nLd I s l j) (skC I (sdN s (12 * j)))) (nK I) := rfl
    obtain ⟨n1, n2, n3, n4, n5, n6⟩ := id n
    omega
/-- the class's plan with its sums -/
def PS (m : Mem) (P : Nat) (I : Isl) : Prop := PD m P I ∧ SD m (P + 23) 0 (I 22) (nD I) ∧ SD m (P + 23) 1 (I 24) (nR I)
theorem ps_3 {m m2 : Mem} {P : Nat} {I : Isl} {S J : Nat → Prop} (f : F3 S J m m2) (h : PS m P I) (q : ∀ a, P ≤ a → a ≤ P + 27 → ¬a = P + 27 → ¬S a) : PS m2 P I := ⟨pd_3 f h.1 (fun a a1 a2 => q a a1 (by omega) (by omega)), sd_3 f h.2.1 (fun a a1 a2 => q a (by omega) (by omega) (by omega)), sd_3 f h.2.2 (fun a a1 a2 => q a (by omega) (by omega) (by omega))⟩
def NtS (P : Nat) : Nat → Prop := fun a => a = 245 ∨ (203 ≤ a ∧ a ≤ 244 ∧ ¬a = 208 ∧ ¬a = 220 ∧ ¬a = 232) ∨ a = P + 27 ∨ a = P + 27 ∨ a = 69 ∨ a = 72
theorem x_nightsL {N : Nat} (hN : 2000 ≤ N) {m : Mem} {P : Nat} {I : Isl} {l : Lnd} {s : Int} (r : Refs m) (b3 : B3 m P) (h : PS m P I) (hl : LD m 69 l) (z : Sz I) (n : Cn I) (v : Vl I) (kc : Kc I) (g : GL I l) (hs : m 3 8 = s) (s0 : 0 ≤ s) (s1 : s < 2147483648) (z0 : m 245 0 = 0) (z2 : m 204 0 = 0) {k : Nat} (hk : k ≤ 40) (hp : l 3 0 + k ≤ 9999) : Wp (X10_nights_L40 N N 3 k 0 0 m) (fun p => p.1 = nSm I s l k ∧ Refs p.2 ∧ LD p.2 69 (nLd I s l k) ∧ p.2 3 8 = sdN s (12 * k) ∧ p.2 245 0 = 0 ∧ p.2 204 0 = 0 ∧ F3 (NtS P) (fun j => j = 8) m p.2) := by
  obtain ⟨n1, n2, n3, n4, n5, n6⟩ := id n
  have hP := b3.1
  refine lw_2 (fun j x mm => x = nSm I s l j ∧ Refs mm ∧ LD mm 69 (nLd I s l j) ∧ mm 3 8 = sdN s (12 * j) ∧ mm 245 0 = 0 ∧ mm 204 0 = 0 ∧ F3 (NtS P) (fun j => j = 8) m mm) (fun F x i mm => X10_nights_L40 N F 3 k x i mm) k _ (fun F j x mm hj hI ih => ?_) (fun F x mm hI => ?_) N 0 m (by omega) ⟨rfl, r, hl, hs, z0, z2, f3_refl m⟩
  · obtain ⟨hx, rr, ll, es, e245, e204, f⟩ := hI
    have si := sdN_in s0 s1 (12 * j)
    have gj := gl_nLd n s g j (by omega)
    have l3 := nLd_3 I s l j
    have nsP : ∀ a, P ≤ a → a ≤ P + 27 → ¬a = P + 27 → ¬NtS P a := fun a _ _ _ => by unfold NtS; omega
    have pj := ps_3 f h nsP
    show Wp (X10_nights_L40_b N (X10_nights_L40 N F) 3 k x j mm) _
    unfold X10_nights_L40_b
    rw [if_neg (by omega)]
    refine wp_bw (x_drawSky hN rr (f3_b3 f (by decide) b3) pj.1 es si.1 si.2 e245) (fun m2 hm2 => ?_)
    obtain ⟨r2, es2, e2, f2⟩ := hm2
    have p2 : PS m2 P I := ps_3 f2 pj (fun a _ _ _ => by omega)
    have l2 : LD m2 69 (nLd I s l j) := ld_3f f2 ll (fun a _ _ => by omega)
    have b2 := f3_b3 f2 (by decide) (f3_b3 f (by decide) b3)
    refine wp_b (rc r2 202 (by decide +kernel)) ?_
    refine wp_b (b3_R b2) ?_
    refine wp_b (rc r2 69 (by decide +kernel)) ?_
    refine wp_b (rc r2 245 (by decide +kernel)) ?_
    refine wp_bw (x_pass hN (T := 202) (D := 245) (sk := skC I (sdN s (12 * j))) (Or.inr rfl) r2 p2.1 l2 z n v kc gj.1 p2.2.1 p2.2.2 (by rw [f2.1 204 (by decide) (by decide)]; exact e204) (by decide +kernel) e2) (fun m3 hm3 => ?_)
    obtain ⟨nx, o3⟩ := hm3
    have r3 := nx.1.1
    have f3' : F3 (NtS P) (fun j => j = 8) m2 m3 := f3_off o3 (fun a ha => by unfold PasS at ha; unfold NtS; omega) (by unfold PasS; omega)
    have oo : ∀ a, ¬((202 + 1 ≤ a ∧ a ≤ 202 + 42 ∧ ¬a = 202 + 6 ∧ ¬a = 202 + 18 ∧ ¬a = 202 + 30) ∨ a = P + 27 ∨ a = P + 27) → m3 a = m2 a := o3
    have p3 : PS m3 P I := ps_3 f3' p2 nsP
    have l3' : LD m3 69 (nLd I s l j) := ld_off l2 fun a _ _ => oo a (by omega)
    have b3' := f3_b3 f3' (by decide) b2
    refine wp_b (rc r3 69 (by decide +kernel)) ?_
    refine wp_b (b3_R b3') ?_
    refine wp_b (rc r3 202 (by decide +kernel)) ?_
    refine wp_bw (x_pour hN (T := 202) r3 (Or.inr rfl) p3.1 l3' n gj.2.2.2.1 nx.2.2 (cms_in n _ _) (by omega)) (fun p hp => ?_)
    obtain ⟨q1, q2, q3, q4⟩ := hp
    have f4 : F3 (NtS P) (fun j => j = 8) m3 p.2 := f3_off q4 (fun a ha => by unfold NtS; omega) (by decide)
    have o4 : ∀ a, ¬(a = 69 ∨ a = 69 + 3) → p.2 a = m3 a := q4
    have bb := nSm_in n s l (j + 1)
    have e1 : nSm I s l (j + 1) = nSm I s l j + pouS (cms I (nLd I s l j) (skC I (sdN s (12 * j)))) (nK I) := rfl
    refine ih _ _ _ (by first | omega | (simp (disch := omega) only [wI_of2] <;> omega)) ⟨by rw [hx, q1, e1]; exact wI_of2 (by omega) (by omega), q3, q2, ?_, ?_, ?_, ?_⟩
    · rw [o4 3 (by omega), oo 3 (by omega), es2, show 12 * (j + 1) = 12 * j + 12 from by omega, sdN_add]
    · rw [o4 245 (by omega), oo 245 (by omega)]; exact e2 0 (by decide) (by decide)
    · rw [o4 204 (by omega)]; exact nx.1.2.2.2.2.1 0 (by decide)
    · refine f3_trans (S3 := NtS P) (J3 := fun j => j = 8) f (f3_trans (S3 := NtS P) (J3 := fun j => j = 8) f2 (f3_trans (S3 := NtS P) (J3 := fun j => j = 8) f3' f4 ?_ ?_) ?_ ?_) ?_ ?_
      · intro a ha; rcases ha with y | y <;> exact y
      · intro a ha; rcases ha with y | y <;> exact y
      · intro a ha
        rcases ha with y | y
        · exact Or.inl y
        · exact y
      · intro a ha; rcases ha with y | y <;> exact y
      · intro a ha; rcases ha with y | y <;> exact y
      · intro a ha; rcases ha with y | y <;> exact y
  · obtain ⟨hx, rr, ll, es, e245, e204, f⟩ := hI
    show Wp (X10_nights_L40_b N (X10_nights_L40 N F) 3 k x k mm) _
    unfold X10_nights_L40_b
    rw [if_pos (Int.le_refl _)]
    exact wp_some ⟨hx, rr, ll, es, e245, e204, f⟩
/-- the night as told, when it is asked -/
def TO (m : Mem) (P : Nat) (I : Isl) (l : Lnd) : Prop := m 161 0 = 0 ∧ (m 3 12 = 0 ∨ m 3 12 = 1) ∧ (m 3 12 = 0 → NX m 159 P I l (I 15))
def ToS (P : Nat) : Nat → Prop := PasS 159 P
theorem x_told {N : Nat} (hN : 2000 ≤ N) {m : Mem} {P : Nat} {I : Isl} {l : Lnd} (r : Refs m) (b3 : B3 m P) (h : PS m P I) (hl : LD m 69 l) (z : Sz I) (n : Cn I) (v : Vl I) (kc : Kc I) (tc : Tc I l) (t : TO m P I l) : Wp (X10_asTold N 3 m) (fun p => p.1 = 159 ∧ NX p.2 159 P I l (I 15) ∧ p.2 3 12 = 0 ∧ F3 (ToS P) (fun j => j = 12) m p.2) := by
  obtain ⟨t1, t2, t3⟩ := t
  have hP := b3.1
  unfold X10_asTold; simp only [X10_asTold_J34]
  refine wp_k k3 ?_
  refine wp_b (g3 (by decide +kernel)) ?_
  by_cases q : m 3 12 = 0
  · rw [if_pos q]
    refine wp_b (rc r 159 (by decide +kernel)) ?_
    exact wp_some ⟨rfl, t3 q, q, f3_refl m⟩
  · rw [if_neg q]
    refine wp_b (rc r 159 (by decide +kernel)) ?_
    refine wp_b (b3_R b3) ?_
    refine wp_b (rc r 69 (by decide +kernel)) ?_
    refine wp_b (b3_R b3) ?_
    refine wp_b (pd_R r h.1 (by decide)) ?_
    have sD := pd_S h.1 (k := 15) (by decide) (by decide)
    refine wp_bw (x_pass hN (T := 159) (D := P + ofs 15) (sk := I 15) (Or.inl rfl) r h.1 hl z n v kc tc h.2.1 h.2.2 t1 ⟨sD.1, sD.2, by omega⟩ (fun x x0 x1 => h.1.2.2.1 15 x x0 x1)) (fun m2 hm2 => ?_)
    obtain ⟨nx, o⟩ := hm2
    have f : F3 (ToS P) (fun j => j = 12) m m2 := f3_off o (fun a ha => ha) (by unfold PasS; omega)
    refine wp_b (ptZ0 (by decide +kernel) _) ?_
    have r3 : Refs (up m2 3 12 0) := refs_up nx.1.1 (by decide +kernel) 0
    refine wp_b (rc r3 159 (by decide +kernel)) ?_
    refine wp_some ⟨rfl, ?_, up_same m2 3 12 0, ⟨fun a ha hs => ?_, fun j hj => ?_⟩⟩
    · obtain ⟨⟨_, n2, n3, n4, n5, n6⟩, n7, n8⟩ := nx
      have e : ∀ a, ¬a = 3 → up m2 3 12 0 a = m2 a := fun a ha => by rw [up_setA, setA_ne ha]
      refine ⟨⟨r3, sd_off n2 (fun q q1 q2 => e q (by omega)), sd_off n3 (fun q q1 q2 => e q (by omega)), ?_, ?_, ?_⟩, fun t ht => lay_off (n7 t ht) ⟨e (159 + 7 + t) (by omega), e (159 + 19 + t) (by omega), e (159 + 31 + t) (by omega)⟩, ?_⟩
      · show ∀ x : Int, 0 ≤ x → x < 13 → up m2 3 12 0 (159 + 1) x.toNat = I 15 x
        rw [e _ (by decide)]; exact n4
      · show ∀ x : Nat, x < 13 → up m2 3 12 0 (159 + 2) x = clr (I 15) x
        rw [e _ (by decide)]; exact n5
      · show ∀ c : Int, 0 ≤ c → c < nC I → up m2 3 12 0 (159 + 4) c.toNat = flw I l c
        rw [e _ (by decide)]; exact n6
      · show ∀ k : Nat, k < 5 → up m2 3 12 0 (159 + 42) k = cms I l (I 15) k
        rw [e _ (by decide)]; exact n8
    · show up m2 3 12 0 a = m a
      rw [up_setA, setA_ne ha]; exact f.1 a ha hs
    · show up m2 3 12 0 3 j = m 3 j
      rw [up_at, if_neg hj]; exact f.2 j hj
