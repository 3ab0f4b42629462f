/-! both read a word, a number, a place -/
variable {T : Nat → Int} {len K D B : Nat} {m0 n0 : Mem}
def Ok (T : Nat → Int) (len K D B : Nat) (m0 n0 m n m2 n2 : Mem) (a a' : Nat) (I : Isl) (l : Lnd) : Prop := JP T len K m2 n2 a' ∧ JS D B m0 n0 m2 n2 I l ∧ a < a' ∧ (m2 5 7 = m 5 7 ∧ ∀ b, ¬b = 264 → n2 b = n b) ∧ m2 5 11 = m 5 11
def No (D B : Nat) (m0 n0 m2 n2 : Mem) (I : Isl) (l : Lnd) : Prop := FL m2 n2 ∧ Refs m2 ∧ Refs n2 ∧ JS D B m0 n0 m2 n2 I l
theorem no_of {m n m2 n2 : Mem} {I : Isl} {l : Lnd} {f p : Int} (hf : 0 < f) (r : Refs m) (r2 : Refs n) (s : JS D B m0 n0 m n I l) (t : Told m m2 f p) (g : FtM n n2 f p) : No D B m0 n0 m2 n2 I l := ⟨fl_tf hf t g, told_refs r t, ft_refs r2 g, js_tf s t g⟩
theorem rs_lt {n : Mem} {a : Nat} (h : RS n T len a) (q : rsg T len a = 1 ∨ rsg T len a = 2 ∨ rsg T len a = 3) : a < nx T len a ∧ nx T len a ≤ len := nx_in (rs_end h (by omega))
theorem b_word {N : Nat} (hN : 2000 ≤ N) {m n : Mem} {a : Nat} {I : Isl} {l : Lnd} (p : JP T len K m n a) (s : JS D B m0 n0 m n I l) {i : Nat} (hi : i < 27) (h10 : ¬i = 10) {x w : Int} (hx : x = (i : Int)) (hw : w = ((pk8 (owT.getD i []) : Nat) : Int)) : Wp (X6_word 5 x m) (fun v => Wp (X11_must_ N 264 w n) (fun q => (v.1 = 1 ∧ Ok T len K D B m0 n0 m n v.2 q a (nx T len a) I l) ∨ (v.1 = 0 ∧ No D B m0 n0 v.2 q I l))) := by
  obtain ⟨r, r2, rp, rs⟩ := p
  have al := rp_le rp
  subst hx hw
  have os := own_same (T := T) al hi
  refine p_word r rp _ (by omega) (fun u m2 d f => ?_) (fun u m2 t => ?_)
  · refine m_mustW hN r2 rs _ (fun u2 n2 f2 rs2 r3 => ?_) (fun u2 => absurd (os.mp u) u2)
    exact Or.inl ⟨rfl, ⟨ref_refs (fun j h => by omega) f r, r3, d, rs2⟩, js_mv (fun j h => by omega) s f f2, (rs_lt rs (Or.inl u2.2.1)).1, ⟨f.2 7 (by omega), f2.1⟩, f.2 11 (by omega)⟩
  · refine m_mustW hN r2 rs _ (fun u2 n2 f2 rs2 r3 => absurd (os.mpr u2) u) (fun u2 => ?_)
    exact Or.inr ⟨rfl, no_of (by decide) r r2 s t ⟨n, ahf_refl n, rfl⟩⟩
theorem b_number {N : Nat} (hN : 2000 ≤ N) {m n : Mem} {a : Nat} {I : Isl} {l : Lnd} (p : JP T len K m n a) (s : JS D B m0 n0 m n I l) (lo hi : Int) : Wp (X6_number 5 lo hi m) (fun v => Wp (X11_number N 264 lo hi n) (fun q => (v.1 = 1 ∧ Ok T len K D B m0 n0 m n v.2 q.2 a (nx T len a) I l ∧ v.2 5 5 = q.1 ∧ lo ≤ q.1 ∧ q.1 ≤ hi) ∨ (v.1 = 0 ∧ q.1 = 0 ∧ No D B m0 n0 v.2 q.2 I l))) := by
  obtain ⟨r, r2, rp, rs⟩ := p
  refine p_number r rp lo hi (fun u v w m2 d f g1 g2 => ?_) (fun u v m2 t => ?_) (fun u m2 t => ?_)
  · refine m_number hN r2 rs lo hi (fun u2 _ _ n2 f2 rs2 r3 => ?_) (fun _ u2 => absurd ⟨v, w⟩ u2) (fun u2 => absurd u u2)
    exact Or.inl ⟨rfl, ⟨⟨ref_refs (fun j h => by omega) f r, r3, d, rs2⟩, js_mv (fun j h => by omega) s f f2, (rs_lt rs (Or.inr (Or.inl u2.2))).1, ⟨f.2 7 (by omega), f2.1⟩, f.2 11 (by omega)⟩, g1, v, w⟩
  · refine m_number hN r2 rs lo hi (fun _ v2 w2 n2 f2 rs2 r3 => absurd ⟨v2, w2⟩ v) (fun _ u2 => ?_) (fun u2 => absurd u u2)
    exact Or.inr ⟨rfl, rfl, no_of (by decide) r r2 s t ⟨n, ahf_refl n, rfl⟩⟩
  · refine m_number hN r2 rs lo hi (fun u2 _ _ n2 f2 rs2 r3 => absurd u2 u) (fun u2 _ => absurd u2 u) (fun u2 => ?_)
    exact Or.inr ⟨rfl, rfl, no_of (by decide) r r2 s t ⟨n, ahf_refl n, rfl⟩⟩
theorem sp_ok {W H : Int} {fr : Int → Int} {a a' : Nat} {c : Int} (h : spP T len W H fr a = (0, 0, c, a')) (al : a ≤ len) (w : 0 < W) : (∃ x y : Int, 0 ≤ x ∧ x < W ∧ 0 ≤ y ∧ y < H ∧ c = y * W + x) ∧ fr c = 0 ∧ a < a' := by
  unfold spP at h
  by_cases q1 : ¬kdP T len a = (2, 2)
  · rw [if_pos q1] at h; exact absurd (congrArg Prod.fst h) (by show ¬(1 : Int) = 0; decide)
  rw [if_neg q1] at h
  by_cases q2 : ¬(rlx T len (nx T len a) = -1 ∧ rsg T len (nx T len a) = 2)
  · rw [if_pos q2] at h; exact absurd (congrArg Prod.fst h) (by show ¬(1 : Int) = 0; decide)
  rw [if_neg q2] at h
  by_cases q3 : ¬(0 ≤ rvl T len (nx T len a) ∧ rvl T len (nx T len a) ≤ W - 1)
  · rw [if_pos q3] at h; exact absurd (congrArg Prod.fst h) (by show ¬(4 : Int) = 0; decide)
  rw [if_neg q3] at h
  by_cases q4 : ¬(rlx T len (nx T len (nx T len a)) = -1 ∧ rsg T len (nx T len (nx T len a)) = 2)
  · rw [if_pos q4] at h; exact absurd (congrArg Prod.fst h) (by show ¬(1 : Int) = 0; decide)
  rw [if_neg q4] at h
  by_cases q5 : ¬(0 ≤ rvl T len (nx T len (nx T len a)) ∧ rvl T len (nx T len (nx T len a)) ≤ H - 1)
  · rw [if_pos q5] at h; exact absurd (congrArg Prod.fst h) (by show ¬(4 : Int) = 0; decide)
  rw [if_neg q5] at h
  by_cases q6 : ¬fr (rvl T len (nx T len (nx T len a)) * W + rvl T len (nx T len a)) = 0
  · rw [if_pos q6] at h; exact absurd (congrArg Prod.fst h) (by show ¬(4 : Int) = 0; decide)
  rw [if_neg q6] at h
  have e1 : rvl T len (nx T len (nx T len a)) * W + rvl T len (nx T len a) = c := congrArg (fun p : Int × Int × Int × Nat => p.2.2.1) h
  have e2 : nx T len (nx T len (nx T len a)) = a' := congrArg (fun p : Int × Int × Int × Nat => p.2.2.2) h
  have q1' := Decidable.not_not.mp q1
  have q2' := Decidable.not_not.mp q2
  have q3' := Decidable.not_not.mp q3
  have q4' := Decidable.not_not.mp q4
  have q5' := Decidable.not_not.mp q5
  have q6' := Decidable.not_not.mp q6
  have g : ∀ b, ¬rsg T len b = 0 → b < nx T len b ∧ nx T len b ≤ len := fun b hb => nx_in (by
    rcases Nat.lt_or_ge b len with y | y
    · exact y
    · exact absurd (show rsg T len b = 0 from if_pos y) hb)
  have a1 := g a (by have := ((own_same (T := T) al (i := 2) (by decide)).mp q1').2.1; omega)
  have a2 := g _ (show ¬rsg T len (nx T len a) = 0 from by have := q2'.2; omega)
  have a3 := g _ (show ¬rsg T len (nx T len (nx T len a)) = 0 from by have := q4'.2; omega)
  refine ⟨⟨_, _, q3'.1, by omega, q5'.1, by omega, e1.symm⟩, by rw [← e1]; exact q6', by omega⟩
theorem sp_no {W H : Int} {fr : Int → Int} {a b : Nat} {f p x : Int} (h : spP T len W H fr a = (f, p, x, b)) (hf : ¬f = 0) : 0 < f := by
  have e : (spP T len W H fr a).1 = 1 ∨ (spP T len W H fr a).1 = 4 ∨ (spP T len W H fr a).1 = 0 := by
    unfold spP
    repeat (first | exact Or.inl rfl | exact Or.inr (Or.inl rfl) | exact Or.inr (Or.inr rfl) | split)
  rw [h] at e
  have : f = 1 ∨ f = 4 ∨ f = 0 := e
  omega
theorem b_spot {N : Nat} (hN : 2000 ≤ N) {m n : Mem} {a : Nat} {I : Isl} {l : Lnd} (p : JP T len K m n a) (s : JS D B m0 n0 m n I l) (free : Int) : Wp (X6_spot N 5 D free m) (fun v => Wp (X11_cellAt N 264 free n) (fun q => (v.1 = 1 ∧ ∃ a', Ok T len K D B m0 n0 m n v.2 q.2 a a' I l ∧ v.2 5 8 = q.1 ∧ (0 ≤ q.1 ∧ q.1 < nC I) ∧ (¬free = 0 → cont I l q.1 = 0)) ∨ (v.1 = 0 ∧ No D B m0 n0 v.2 q.2 I l))) := by
  obtain ⟨r, r2, rp, rs⟩ := p
  have al := rp_le rp
  obtain ⟨ps, ld, rw', gw, cf, rf⟩ := id s
  obtain ⟨z, w, cn, _⟩ := gw
  refine p_spot hN r rp ps.1 ld z cn w free (fun c a' e m2 d f g => ?_) (fun f p x b e hf m2 t => ?_)
  · refine m_cellAt hN r2 rs rw'.1 z cn w free (fun c2 a2 e2 n2 f2 rs2 r3 => ?_) (fun f2 p2 x2 b2 e2 hf2 => ?_)
    · rw [e] at e2
      have ec : c = c2 := congrArg (fun p : Int × Int × Int × Nat => p.2.2.1) e2
      have ea : a' = a2 := congrArg (fun p : Int × Int × Int × Nat => p.2.2.2) e2
      subst ec ea
      obtain ⟨⟨x, y, x0, x1, y0, y1, ex⟩, fr, lt⟩ := sp_ok e al (by omega)
      have ci := cell_in (I := I) x0 x1 y0 y1
      rw [← ex] at ci
      exact Or.inl ⟨rfl, a', ⟨⟨ref_refs (fun j h => by omega) f r, r3, d, rs2⟩, js_mv (fun j h => by omega) s f f2, lt, ⟨f.2 7 (by omega), f2.1⟩, f.2 11 (by omega)⟩, g, ci, fun hfr => by rw [if_neg hfr] at fr; exact fr⟩
    · rw [e] at e2
      exact absurd (congrArg Prod.fst e2).symm hf2
  · refine m_cellAt hN r2 rs rw'.1 z cn w free (fun c2 a2 e2 n2 f2 rs2 r3 => ?_) (fun f2 p2 x2 b2 e2 hf2 v n2 g => ?_)
    · rw [e] at e2
      exact absurd (congrArg Prod.fst e2) hf
    · rw [e] at e2
      have ef : f = f2 := congrArg Prod.fst e2
      have ep : p = p2 := congrArg (fun p : Int × Int × Int × Nat => p.2.1) e2
      subst ef ep
      exact Or.inr ⟨rfl, no_of (sp_no e hf) r r2 s t g⟩
/-- a told fault goes through a place -/
theorem m_cellAtF {N : Nat} (hN : 2000 ≤ N) {n : Mem} (r : Refs n) {I : Isl} {l : Lnd} (h : IB n B I l) (z : Sz I) (free : Int) (f : FS n) : X11_cellAt N 264 free n = some (0, n) := by
  refine wp_eq ?_
  obtain ⟨g1, g2, g3, g4, g5⟩ := ib_w r h
  unfold X11_cellAt
  refine wp_k k264 ?_
  refine wp_b (m_mustWF f _) ?_
  refine wp_b g1 ?_
  refine wp_b g3 ?_
  refine wp_b g4 ?_
  refine wp_b (m_numberF f _ _) ?_
  refine wp_b g2 ?_
  refine wp_b g3 ?_
  refine wp_b g5 ?_
  refine wp_b (m_lookedF f _ _) ?_
  exact m_cellEnd hN r h z 0 0 free f rfl
/-- the class passes the word of a statement, the reference counts it -/
theorem m_countsG {N : Nat} (hN : 2000 ≤ N) {n : Mem} {a : Nat} (r : Refs n) (rs : RS n T len a) (q : a < len) {full : Int} (hf : full = 0) : ∃ n2, X11_counts N 264 full n = some (1, n2) ∧ AhF n n2 ∧ RS n2 T len (nx T len a) ∧ Refs n2 := by
  obtain ⟨n2, e, f, rs2, r2⟩ := m_goN hN r rs q
  refine ⟨n2, ?_, f, rs2, r2⟩
  refine wp_eq ?_
  unfold X11_counts
  refine wp_k k264 ?_
  refine wp_b (g264 (by decide)) ?_
  rw [rs.2.1, if_neg (fun u => u rfl), if_pos hf]
  unfold X11_counts_J21
  refine wp_b (g264 (by decide)) ?_
  rw [rs.2.1, if_neg (fun u => u rfl)]
  refine wp_b e ?_
  unfold X11_counts_J32
  refine wp_b (g264 (by decide)) ?_
  rw [rs2.2.1, if_neg (fun u => u rfl)]
  exact wp_b (v := 1) rfl (wp_some rfl)
theorem m_countsF {N : Nat} {n : Mem} {a : Nat} (rs : RS n T len a) {full : Int} (hf : ¬full = 0) : X11_counts N 264 full n = some (0, Bl n 6 (a : Int)) := by
  have fs := bl_fs n (k := 6) (by decide) (a : Int)
  refine wp_eq ?_
  unfold X11_counts
  refine wp_k k264 ?_
  refine wp_b (g264 (by decide)) ?_
  rw [rs.2.1, if_neg (fun u => u rfl), if_neg hf]
  refine wp_b (g264 (by decide)) ?_
  rw [rs.1.1]
  refine wp_b (m_blame0 rs.2.1 _ _) ?_
  unfold X11_counts_J21
  refine wp_b (g264 (by decide)) ?_
  rw [if_pos (by unfold FS at fs; omega)]
  unfold X11_counts_J32
  refine wp_b (g264 (by decide)) ?_
  rw [if_pos (by unfold FS at fs; omega)]
  exact wp_b (v := 0) rfl (wp_some rfl)
theorem b_count {N : Nat} (hN : 2000 ≤ N) {m n : Mem} {a : Nat} {I : Isl} {l : Lnd} (p : JP T len K m n a) (s : JS D B m0 n0 m n I l) {i : Nat} (hi : i < 27) (h10 : ¬i = 10) {x full : Int} (hx : x = (i : Int)) (k : kdP T len a = (2, (i : Int))) (hf : full = 0) : Wp (X6_word 5 x m) (fun v => Wp (X11_counts N 264 full n) (fun q => v.1 = 1 ∧ q.1 = 1 ∧ Ok T len K D B m0 n0 m n v.2 q.2 a (nx T len a) I l)) := by
  obtain ⟨r, r2, rp, rs⟩ := p
  have al := rp_le rp
  subst hx
  have os := (own_same (T := T) al hi).mp k
  have lt := rs_end rs (by have := os.2.1; omega)
  obtain ⟨n2, e, f2, rs2, r3⟩ := m_countsG hN r2 rs lt hf
  refine p_word r rp _ (by omega) (fun u m2 d f => ?_) (fun u => absurd k u)
  exact wp_of e ⟨rfl, rfl, ⟨ref_refs (fun j h => by omega) f r, r3, d, rs2⟩, js_mv (fun j h => by omega) s f f2, (rs_lt rs (Or.inl os.2.1)).1, ⟨f.2 7 (by omega), f2.1⟩, f.2 11 (by omega)⟩
