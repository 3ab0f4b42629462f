/-! on: the land told -/
def updL (l : Lnd) (k : Nat) (i v : Int) : Lnd := fun k2 i2 => if k2 = k ∧ i2 = i then v else l k2 i2
def oWl (l : Lnd) (T : Nat → Int) (p : Int) (j : Nat) : Lnd := fun k i => if k = 0 then (if i < j then T (2 + i.toNat) else l 0 i) else if k = 3 then p else l k i
def oSl (I : Isl) (l : Lnd) (T : Nat → Int) (p : Int) : Nat → Lnd
  | 0 => oWl l T p (nC I).toNat
  | j + 1 => updL (oSl I l T p j) 1 (I 13 j) (hgC I T j)
def oDl (I : Isl) (l : Lnd) (T : Nat → Int) (p : Int) (j : Nat) : Lnd := fun k i => if k = 2 ∧ 0 ≤ i ∧ i < j then tw T (o2 I + 2 * i.toNat) else oSl I l T p (nH I) k i
/-- the land that a tape tells -/
def onL (I : Isl) (l : Lnd) (T : Nat → Int) (p : Int) : Lnd := oDl I l T p (nK I)
theorem oW_s (l : Lnd) (T : Nat → Int) (p : Int) (j : Nat) : updL (oWl l T p j) 0 j (T (2 + j)) = oWl l T p (j + 1) := by
  funext k i
  unfold updL oWl
  by_cases q : k = 0
  · subst q
    rw [if_pos rfl, if_pos rfl]
    by_cases y : i = j
    · subst y
      rw [if_pos ⟨rfl, rfl⟩, if_pos (by omega), Int.toNat_natCast]
    · rw [if_neg (fun u => y u.2)]
      by_cases w : i < j
      · rw [if_pos w, if_pos (by omega)]
      · rw [if_neg w, if_neg (by omega)]
  · rw [if_neg (fun u => q u.1), if_neg q, if_neg q]
theorem oD_s (I : Isl) (l : Lnd) (T : Nat → Int) (p : Int) (j : Nat) : updL (oDl I l T p j) 2 j (tw T (o2 I + 2 * j)) = oDl I l T p (j + 1) := by
  funext k i
  unfold updL oDl
  by_cases q : k = 2 ∧ i = j
  · rw [if_pos q, if_pos (by omega), q.2, Int.toNat_natCast]
  · rw [if_neg q]
    by_cases w : k = 2 ∧ 0 ≤ i ∧ i < j
    · rw [if_pos w, if_pos (by omega)]
    · rw [if_neg w, if_neg (by omega)]
theorem oD_0 (I : Isl) (l : Lnd) (T : Nat → Int) (p : Int) : oDl I l T p 0 = oSl I l T p (nH I) := by
  funext k i
  unfold oDl
  rw [if_neg (by omega)]
theorem oW_0 (l : Lnd) (T : Nat → Int) (p : Int) (k : Nat) (i : Int) (h : k = 0 → 0 ≤ i) : oWl l T p 0 k i = if k = 3 then p else l k i := by
  unfold oWl
  by_cases q : k = 0
  · have := h q
    subst q
    rw [if_pos rfl, if_neg (by omega), if_neg (by decide)]
  · rw [if_neg q]
/-- rows of the told land -/
theorem oS_0 (I : Isl) (l : Lnd) (T : Nat → Int) (p : Int) (k : Nat) (hk : ¬k = 1) (i : Int) : ∀ j, oSl I l T p j k i = oWl l T p (nC I).toNat k i := by
  intro j
  induction j with
  | zero => rfl
  | succ j ih =>
    show updL (oSl I l T p j) 1 (I 13 j) (hgC I T j) k i = _
    unfold updL
    rw [if_neg (fun u => hk u.1)]
    exact ih
theorem oS_no (I : Isl) (l : Lnd) (T : Nat → Int) (p : Int) (i : Int) : ∀ j, (∀ k : Nat, k < j → ¬I 13 k = i) → oSl I l T p j 1 i = l 1 i := by
  intro j
  induction j with
  | zero => intro _; rfl
  | succ j ih =>
    intro h
    show updL (oSl I l T p j) 1 (I 13 j) (hgC I T j) 1 i = _
    unfold updL
    rw [if_neg (fun u => h j (by omega) u.2.symm)]
    exact ih (fun k hk => h k (by omega))
theorem oS_at (I : Isl) (l : Lnd) (T : Nat → Int) (p : Int) (k : Nat) : ∀ j, k < j → (∀ a : Nat, a < j → I 13 a = I 13 k → a = k) → oSl I l T p j 1 (I 13 k) = hgC I T k := by
  intro j
  induction j with
  | zero => intro hk; omega
  | succ j ih =>
    intro hk h
    show updL (oSl I l T p j) 1 (I 13 j) (hgC I T j) 1 (I 13 k) = _
    unfold updL
    by_cases q : k = j
    · subst q
      exact if_pos ⟨rfl, rfl⟩
    · rw [if_neg (fun u => q (h j (by omega) u.2.symm).symm)]
      exact ih (by omega) (fun a ha e => h a (by omega) e)
theorem on_row0 (I : Isl) (l : Lnd) (T : Nat → Int) (p : Int) (z : Sz I) (c : Int) : onL I l T p 0 c = if c < nC I then T (2 + c.toNat) else l 0 c := by
  have z6 := z.2.2.2.2.2.1
  have ec : (((nC I).toNat : Nat) : Int) = nC I := Int.toNat_of_nonneg z6
  unfold onL oDl
  rw [if_neg (by omega), oS_0 I l T p 0 (by decide) c]
  unfold oWl
  rw [if_pos rfl, ec]
theorem on_row1 (I : Isl) (l : Lnd) (T : Nat → Int) (p : Int) (n : Cn I) (cl : Cl I) : (∀ k : Nat, k < nH I → onL I l T p 1 (I 13 k) = hgC I T k) ∧ ∀ t : Int, ¬I 11 t = 0 → onL I l T p 1 t = l 1 t := by
  obtain ⟨n1, n2, n3, n4, n5, n6⟩ := id n
  have e1 : ∀ t, onL I l T p 1 t = oSl I l T p (nH I) 1 t := fun t => by
    unfold onL oDl
    rw [if_neg (by omega)]
  refine ⟨fun k hk => ?_, fun t ht => ?_⟩
  · rw [e1]
    refine oS_at I l T p k _ hk (fun a ha e => ?_)
    obtain ⟨t, ht, hs, hk1, hv⟩ := cl_ok n cl (k := (k : Int)) (by omega) (by omega)
    obtain ⟨u, hu, hs2, hk2, hv2⟩ := cl_ok n cl (k := (a : Int)) (by omega) (by omega)
    have : t = u := by omega
    subst this
    omega
  · rw [e1]
    refine oS_no I l T p t _ (fun k hk e => ?_)
    obtain ⟨u, hu, hs, hk1, hv⟩ := cl_ok n cl (k := (k : Int)) (by omega) (by omega)
    rw [hv] at e
    exact ht (by rw [← e]; exact hs)
theorem on_row2 (I : Isl) (l : Lnd) (T : Nat → Int) (p : Int) (i : Int) : onL I l T p 2 i = if 0 ≤ i ∧ i < nK I then tw T (o2 I + 2 * i.toNat) else l 2 i := by
  unfold onL oDl
  rw [oS_0 I l T p 2 (by decide) i]
  by_cases q : 0 ≤ i ∧ i < nK I
  · rw [if_pos ⟨rfl, q⟩, if_pos q]
  · rw [if_neg (fun u => q u.2), if_neg q]
    rfl
theorem on_row3 (I : Isl) (l : Lnd) (T : Nat → Int) (p : Int) (i : Int) : onL I l T p 3 i = p := by
  unfold onL oDl
  rw [if_neg (by omega), oS_0 I l T p 3 (by decide) i]
  rfl
/-- what the reference asks of the told land -/
def okB1 (I : Isl) (L : Lnd) : Prop := ∀ c : Nat, (c : Int) < nC I → L 0 c = 1 → ¬I 4 c = 1 ∧ fnd (I 7) c (nK I) = -1
def okB2 (I : Isl) (L : Lnd) (t : Nat) : Prop := (0 ≤ L 1 t ∧ L 1 t < nC I) ∧ ¬L 0 (L 1 t) = 1 ∧ ¬I 4 (L 1 t) = 1 ∧ fnd (I 7) (L 1 t) (nK I) = -1 ∧ fnd (L 1) (L 1 t) (nT I) = t
def okBl (I : Isl) (L : Lnd) : Prop := okB1 I L ∧ ∀ t : Nat, t < nT I → okB2 I L t
def GoM (I : Isl) (l : Lnd) (T : Nat → Int) (len p : Int) : Prop := okP I T len ∧ (∀ c : Nat, (c : Int) < nC I → T (2 + c) ≤ 1) ∧ okBl I (onL I l T p)
theorem fnd_inj {f : Int → Int} {n : Nat} : (∀ t : Nat, t < n → fnd f (f t) n = t) ↔ ∀ t u : Nat, t < n → u < n → f t = f u → t = u := by
  constructor
  · intro h t u ht hu e
    have a := h t ht
    have b := h u hu
    rw [e] at a
    omega
  · intro h t ht
    exact fnd_yes (fnd_none fun j hj e => by have := h j t (by omega) ht e; omega) rfl ht
theorem tkn_0 {I : Isl} {c : Int} : tkn I c = 0 ↔ (0 ≤ c ∧ c < nC I) ∧ ¬I 4 c = 1 ∧ fnd (I 7) c (nK I) = -1 ∧ fnd (fix I) c (nT I) = -1 := by
  unfold tkn
  rw [bi_0]
  omega
theorem fix_no {I : Isl} {c : Int} (h : fnd (fix I) c (nT I) = -1) (u : Nat) (hu : u < nT I) (s : ¬I 11 u = 0) : ¬I 21 u = c := by
  have := fnd_all h u hu
  unfold fix at this
  rw [if_neg s] at this
  exact this
theorem fix_none {I : Isl} {c : Int} (c0 : 0 ≤ c) (h : ∀ u : Nat, u < nT I → ¬I 11 u = 0 → ¬I 21 u = c) : fnd (fix I) c (nT I) = -1 := by
  refine fnd_none fun j hj => ?_
  unfold fix
  by_cases s : I 11 j = 0
  · rw [if_pos s]; omega
  · rw [if_neg s]; exact h j hj s
theorem clTo_lt9 (I : Isl) {t n : Nat} (ht : t < n) (s : I 11 t = 0) : clTo I t < clTo I n := by
  have e : clTo I (t + 1) = clTo I t + bi (I 11 t = 0) := rfl
  rw [show bi (I 11 t = 0) = 1 from bi_1.mpr s] at e
  have := clTo_mono I (t + 1) (n - (t + 1))
  rw [show t + 1 + (n - (t + 1)) = n from by omega] at this
  omega
/-- both ask for the same -/
theorem go_same {I : Isl} {l : Lnd} {T : Nat → Int} {len p : Int} (z : Sz I) (n : Cn I) (cl : Cl I) (fx : Fx I) (gl : GL I l) : GoX I T len ↔ GoM I l T len p := by
  have z6 := z.2.2.2.2.2.1
  have z7 := z.2.2.2.2.2.2
  have g5 := gl.2.2.2.2.1
  obtain ⟨n1, n2, n3, n4, n5, n6⟩ := id n
  obtain ⟨rc1, rc2⟩ := on_row1 I l T p n cl
  have r0 : ∀ c : Int, c < nC I → onL I l T p 0 c = T (2 + c.toNat) := fun c hc => by rw [on_row0 I l T p z c, if_pos hc]
  -- a thing is a cloth, or stays
  have kind : ∀ t : Nat, t < nT I → (∃ k : Nat, k < nH I ∧ I 13 k = t ∧ onL I l T p 1 t = hgC I T k) ∨ (¬I 11 t = 0 ∧ onL I l T p 1 t = I 21 t) := fun t ht => by
    by_cases s : I 11 t = 0
    · refine Or.inl ?_
      have c1 := cl.2 t ht s
      have c0 := clTo_in I t
      have c2 : clTo I t < I 12 0 := by
        rw [cl.1]
        have a := clTo_lt9 I ht s
        omega
      refine ⟨(clTo I t).toNat, by omega, ?_, ?_⟩
      · rw [Int.toNat_of_nonneg c0.1]; exact c1
      · rw [← c1]
        have := rc1 (clTo I t).toNat (by omega)
        rw [Int.toNat_of_nonneg c0.1] at this
        exact this
    · exact Or.inr ⟨s, by rw [rc2 t s]; exact g5 t (by omega) (by omega) s⟩
  constructor
  · intro ⟨g1, gw, gh⟩
    refine ⟨g1, fun c hc => (gw c hc).1, fun c hc hw => ?_, fun t ht => ?_⟩
    · rw [r0 c hc, Int.toNat_natCast] at hw
      have := tkn_0.mp ((gw c hc).2 hw)
      exact ⟨this.2.1, this.2.2.1⟩
    · have inj : ∀ t u : Nat, t < nT I → u < nT I → onL I l T p 1 t = onL I l T p 1 u → t = u := fun t u ht hu e => by
        rcases kind t ht with ⟨k, hk, k1, k2⟩ | ⟨s, k2⟩
        · rcases kind u hu with ⟨k', hk', k1', k2'⟩ | ⟨s', k2'⟩
          · rw [k2, k2'] at e
            have : k = k' := by
              rcases Nat.lt_trichotomy k k' with q | q | q
              · exact absurd e ((gh k' hk').2.2.2 k q)
              · exact q
              · exact absurd e.symm ((gh k hk).2.2.2 k' q)
            subst this
            omega
          · rw [k2, k2'] at e
            exact absurd e.symm (fix_no (tkn_0.mp (gh k hk).2.1).2.2.2 u hu s')
        · rcases kind u hu with ⟨k', hk', k1', k2'⟩ | ⟨s', k2'⟩
          · rw [k2, k2'] at e
            exact absurd e (fix_no (tkn_0.mp (gh k' hk').2.1).2.2.2 t ht s)
          · rw [k2, k2'] at e
            exact ((fx t ht s).2.2.2 u hu s' e.symm).symm
      have f := fnd_inj.mpr inj t ht
      rcases kind t ht with ⟨k, hk, k1, k2⟩ | ⟨s, k2⟩
      · obtain ⟨h1, h2, h3, h4⟩ := gh k hk
        have := tkn_0.mp h2
        unfold okB2
        rw [f, k2]
        exact ⟨h1, by rw [r0 _ h1.2]; exact h3, this.2.1, this.2.2.1, rfl⟩
      · obtain ⟨x1, x2, x3, x4⟩ := fx t ht s
        unfold okB2
        rw [f, k2]
        refine ⟨x1, ?_, x2, x3, rfl⟩
        rw [r0 _ x1.2]
        intro w
        have ww := gw (I 21 t).toNat (by omega)
        rw [Int.toNat_of_nonneg x1.1] at ww
        exact fix_no (tkn_0.mp (ww.2 w)).2.2.2 t ht s rfl
  · intro ⟨g1, gw, b1, b2⟩
    have inj := fnd_inj.mp fun t ht => (b2 t ht).2.2.2.2
    have st : ∀ u : Nat, u < nT I → ¬I 11 u = 0 → onL I l T p 1 u = I 21 u := fun u hu s => by rw [rc2 u s]; exact g5 u (by omega) (by omega) s
    have cls : ∀ k : Nat, k < nH I → ∃ t : Nat, t < nT I ∧ I 11 t = 0 ∧ I 13 k = t ∧ onL I l T p 1 t = hgC I T k := fun k hk => by
      obtain ⟨t, ht, hs, hk1, hv⟩ := cl_ok n cl (k := (k : Int)) (by omega) (by omega)
      have := rc1 k hk
      rw [hv] at this
      exact ⟨t, ht, hs, hv, this⟩
    refine ⟨g1, fun c hc => ⟨gw c hc, fun hw => ?_⟩, fun k hk => ?_⟩
    · have w : onL I l T p 0 c = 1 := by rw [r0 c hc, Int.toNat_natCast]; exact hw
      have bb := b1 c hc w
      refine tkn_0.mpr ⟨by omega, bb.1, bb.2, fix_none (by omega) fun u hu s e => ?_⟩
      have := (b2 u hu).2.1
      rw [st u hu s, e] at this
      exact this w
    · obtain ⟨t, ht, hs, hv, he⟩ := cls k hk
      obtain ⟨x1, x2, x3, x4, x5⟩ := b2 t ht
      rw [he] at x1 x2 x3 x4
      refine ⟨x1, tkn_0.mpr ⟨x1, x3, x4, fix_none x1.1 fun u hu s e => ?_⟩, by rw [r0 _ x1.2] at x2; exact x2, fun j hj e => ?_⟩
      · have := inj u t hu ht (by rw [st u hu s, he, e])
        subst this
        exact s hs
      · obtain ⟨t', ht', hs', hv', he'⟩ := cls j (by omega)
        have := inj t' t ht' ht (by rw [he', he, e])
        subst this
        obtain ⟨a1, _, _, a4, a5⟩ := cl_ok n cl (k := (k : Int)) (by omega) (by omega)
        obtain ⟨c1, _, _, c4, c5⟩ := cl_ok n cl (k := (j : Int)) (by omega) (by omega)
        have : a1 = c1 := by omega
        subst this
        omega
/-- what is told is a land of the island -/
theorem on_gl {I : Isl} {l : Lnd} {T : Nat → Int} {len p : Int} (z : Sz I) (n : Cn I) (cl : Cl I) (gl : GL I l) (hb : ∀ j : Nat, j < imN I → 0 ≤ T j ∧ T j ≤ 255) (hp : 0 ≤ p ∧ p ≤ 9999) (g : GoM I l T len p) : GL I (onL I l T p) := by
  have z6 := z.2.2.2.2.2.1
  have z7 := z.2.2.2.2.2.2
  obtain ⟨n1, n2, n3, n4, n5, n6⟩ := id n
  obtain ⟨oa, ob, oc, od⟩ := on_n z n
  obtain ⟨rc1, rc2⟩ := on_row1 I l T p n cl
  obtain ⟨⟨p1, p2, p3, p4, p5⟩, gw, b1, b2⟩ := g
  obtain ⟨g1, g2, g3, ⟨d1, d2, d3, d4⟩, g5, g6⟩ := gl
  have inj := fnd_inj.mp fun t ht => (b2 t ht).2.2.2.2
  refine ⟨fun t t0 t1 => ?_, fun c c0 c1 => ?_, fun c c0 c1 => ?_, ⟨fun k k0 k1 => ?_, d2, d3, ?_⟩, fun t t0 t1 s => ?_, fun t u t0 t1 u0 u1 e => ?_⟩
  · have := (b2 t.toNat (by omega)).1
    rw [Int.toNat_of_nonneg t0] at this
    exact this
  · rw [on_row0 I l T p z c]
    by_cases q : c < nC I
    · rw [if_pos q]
      have w := gw c.toNat (by omega)
      have b := hb (2 + c.toNat) (by omega)
      omega
    · rw [if_neg q]; exact g2 c c0 c1
  · rw [on_row0 I l T p z c, if_neg (by omega)]; exact g3 c c0 c1
  · rw [on_row2]
    by_cases q : 0 ≤ k ∧ k < nK I
    · rw [if_pos q]
      have w := p5 k.toNat (by omega)
      have b := hb (o2 I + 2 * k.toNat) (by omega)
      have b' := hb (o2 I + 2 * k.toNat + 1) (by omega)
      unfold tw at w ⊢
      omega
    · rw [if_neg q]; exact d1 k k0 k1
  · rw [on_row3]; exact hp
  · rw [rc2 t s]; exact g5 t t0 t1 s
  · have := inj t.toNat u.toNat (by omega) (by omega) (by rw [Int.toNat_of_nonneg t0, Int.toNat_of_nonneg u0]; exact e)
    omega
