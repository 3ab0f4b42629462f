/-! statement by statement, both -/
variable {T : Nat → Int} {len K D B : Nat} {m0 n0 : Mem}
def Rl (T : Nat → Int) (len K D B : Nat) (m0 n0 : Mem) (k : Nat → Int → Mem → Option (Int × Mem)) (y : Option (Int × Mem)) (v : Int × Mem) : Prop := ∃ (s2 : Int) (n2 : Mem), y = k 264 s2 n2 ∧ ((v.1 = 1 ∧ (1 ≤ s2 ∧ s2 ≤ 80) ∧ ∃ I' l', JI T len K D B m0 n0 v.2 n2 len s2 I' l') ∨ (v.1 = 0 ∧ JF D B m0 n0 v.2 n2))
theorem x_late {N : Nat} {m : Mem} {a : Nat} (rp : RP m T len K a) (e11 : m 5 11 = 80) : ∃ m2, X6_statement N 5 D m = some (0, m2) ∧ Told m m2 6 (a : Int) := by
  obtain ⟨k2, k4, k3⟩ := p_kind rp
  obtain ⟨m2, e2, t⟩ := x_refuseR m 6 (a : Int)
  refine ⟨m2, ?_, t⟩
  have J : ∀ own : Int, Wp (X6_statement_J16 N 5 D own m) (fun r => r = (0, m2)) := fun own => by
    unfold X6_statement_J16
    refine wp_b (gtI (by decide +kernel) _) ?_
    rw [e11, if_pos (by decide)]
    unfold X6_statement_J34
    refine wp_b (gtI (by decide +kernel) _) ?_
    rw [k3]
    refine wp_b e2 ?_
    refine wp_b (v := 0) rfl ?_
    exact wp_some rfl
  refine wp_eq ?_
  unfold X6_statement
  refine wp_k k5r ?_
  refine wp_b (gtI (by decide +kernel) _) ?_
  by_cases q : m 5 2 = 2
  · rw [if_neg (fun u => u q)]
    refine wp_b (gtI (by decide +kernel) _) ?_
    exact J _
  · rw [if_pos q]
    exact J _
theorem l_FS {N F : Nat} {n : Mem} (f : FS n) (k : Nat → Int → Mem → Option (Int × Mem)) (x : Int) : X11_island_L271 N k (F + 1) 264 x n = k 264 x n := by
  show X11_island_L271_b N k (X11_island_L271 N k F) 264 x n = _
  unfold X11_island_L271_b
  rw [g264 (by decide), Option.bind_some, if_pos (by have : 0 < n 264 8 := f; omega)]
theorem c_stop {N F : Nat} {l5 : Int} {m : Mem} : X6_read_J97 N (X6_read_L59 N (F + 1)) 5 D l5 m = some (0, m) := by
  unfold X6_read_J97 X6_read_J98
  show X6_read_L59_b N (X6_read_L59 N F) 5 D 0 (wI (l5 + 1)) m = _
  unfold X6_read_L59_b
  by_cases q : 80 < wI (l5 + 1)
  · rw [if_pos q]; rfl
  · rw [if_neg q, if_pos rfl]; rfl
theorem kd_ne0 {a : Nat} (lt : a < len) : ¬(kdP T len a).1 = 0 := by
  rcases sign_is T (show a ≤ len from by omega) with h | h | h | h | h | h
  · have := h.1; omega
  · obtain ⟨_, p, kk, _⟩ := h; rw [kk]; show ¬(6 : Int) = 0; decide
  · obtain ⟨_, i, _, kk, _⟩ := h; rw [kk]; show ¬(2 : Int) = 0; decide
  · obtain ⟨_, L, _, _, _, _, kk, _⟩ := h; rw [kk]; show ¬(3 : Int) = 0; decide
  · obtain ⟨_, v, _, kk, _⟩ := h; rw [kk]; show ¬(1 : Int) = 0; decide
  · obtain ⟨_, kk, _⟩ := h; rw [kk]; show ¬(5 : Int) = 0; decide
theorem rsg_ne0 {a : Nat} (lt : a < len) : ¬rsg T len a = 0 := by
  unfold rsg
  rw [if_neg (by omega)]
  by_cases q : isLt (T a)
  · rw [if_pos q]; decide
  · rw [if_neg q]
    by_cases q2 : isDg (T a)
    · rw [if_pos q2]; decide
    · rw [if_neg q2]; decide
theorem rd_loop {N : Nat} (hN : 4000 ≤ N) {k : Nat → Int → Mem → Option (Int × Mem)} : ∀ (w F1 F2 : Nat) (m n : Mem) (a : Nat) (s : Int) (I : Isl) (l : Lnd), len - a ≤ w → w + 1 < F1 → w + 1 < F2 → JI T len K D B m0 n0 m n a s I l → 1 ≤ s → s ≤ 80 → (s = 80 → a = len) → Wp (X6_read_L59 N F1 5 D 1 (s - 1) m) (fun v => Rl T len K D B m0 n0 k (X11_island_L271 N k F2 264 s n) v) := by
  intro w
  induction w with
  | zero =>
    intro F1 F2 m n a s I l hw hF1 hF2 j s0 s1 s80
    obtain ⟨F1, rfl⟩ : ∃ f, F1 = f + 1 := ⟨F1 - 1, by omega⟩
    obtain ⟨F2, rfl⟩ : ∃ f, F2 = f + 1 := ⟨F2 - 1, by omega⟩
    have rs := j.1.2.2.2
    have al := rs.2.2.2.2.1
    have ea : a = len := by omega
    subst ea
    obtain ⟨k2, k4, k3⟩ := p_kind j.1.2.2.1
    have k0 : (kdP T a a).1 = 0 := by
      show (kdC T a false a).1 = 0
      unfold kdC
      rw [if_pos (Nat.le_refl _)]
    show Wp (X6_read_L59_b N (X6_read_L59 N F1) 5 D 1 (s - 1) m) _
    unfold X6_read_L59_b
    rw [if_neg (by omega), if_neg (by decide)]
    refine wp_b (gtI (by decide +kernel) _) ?_
    rw [k2, k0, if_pos rfl]
    refine wp_b (v := 1) rfl ?_
    refine wp_some ⟨s, n, ?_, Or.inl ⟨rfl, ⟨s0, s1⟩, I, l, j⟩⟩
    show X11_island_L271_b N k (X11_island_L271 N k F2) 264 s n = _
    unfold X11_island_L271_b
    rw [g264 (by decide), Option.bind_some, rs.2.1, if_neg (fun u => u rfl), g264 (by decide), Option.bind_some, rs.1.2.1, if_pos (show rsg T a a = 0 from if_pos (Nat.le_refl _))]
  | succ w ih =>
    intro F1 F2 m n a s I l hw hF1 hF2 j s0 s1 s80
    by_cases ea : a = len
    · exact ih F1 F2 m n a s I l (by omega) (by omega) (by omega) j s0 s1 s80
    obtain ⟨F1, rfl⟩ : ∃ f, F1 = f + 2 := ⟨F1 - 2, by omega⟩
    obtain ⟨F2, rfl⟩ : ∃ f, F2 = f + 2 := ⟨F2 - 2, by omega⟩
    have rs := j.1.2.2.2
    have al := rs.2.2.2.2.1
    have lt : a < len := by omega
    have slt : s < 80 := by
      rcases Int.lt_or_le s 80 with z | z
      · exact z
      · exact absurd (s80 (by omega)) ea
    obtain ⟨k2, k4, k3⟩ := p_kind j.1.2.2.1
    obtain ⟨v, ev, n2, en, po⟩ := st_all (s := s) hN j slt
    have rstep : ∀ n3, X11_finishes N 264 (s + 1) n2 = some n3 → X11_island_L271 N k (F2 + 2) 264 s n = X11_island_L271 N k (F2 + 1) 264 (s + 1) n3 := fun n3 e3 => by
      show X11_island_L271_b N k (X11_island_L271 N k (F2 + 1)) 264 s n = _
      unfold X11_island_L271_b
      rw [g264 (by decide), Option.bind_some, rs.2.1, if_neg (fun u => u rfl), g264 (by decide), Option.bind_some, rs.1.2.1, if_neg (rsg_ne0 lt), en, Option.bind_some, wI_of2 (x := s + 1) (by omega) (by omega), e3, Option.bind_some]
    show Wp (X6_read_L59_b N (X6_read_L59 N (F1 + 1)) 5 D 1 (s - 1) m) _
    unfold X6_read_L59_b
    rw [if_neg (by omega), if_neg (by decide)]
    refine wp_b (gtI (by decide +kernel) _) ?_
    rw [k2, if_neg (kd_ne0 lt)]
    refine wp_b ev ?_
    have bad : ∀ (mm n3 : Mem), X11_finishes N 264 (s + 1) n2 = some n3 → JF D B m0 n0 mm n3 → Wp (X6_read_J97 N (X6_read_L59 N (F1 + 1)) 5 D (s - 1) mm) (fun v => Rl T len K D B m0 n0 k (X11_island_L271 N k (F2 + 2) 264 s n) v) := fun mm n3 e3 jf => by
      rw [c_stop]
      exact wp_some ⟨s + 1, n3, by rw [rstep n3 e3]; exact l_FS (fl_fs jf.1) k _, Or.inr ⟨rfl, jf⟩⟩
    rcases po with (⟨v1, a', I', l', la, j'⟩ | ⟨v0, jf⟩) | hf
    · rw [v1, if_neg (by decide)]
      obtain ⟨x, ex, n3, en3, clr⟩ := b_fin (N := N) (by omega) j' (show 0 ≤ s from by omega) slt
      refine wp_b ex ?_
      rcases clr with ⟨x1, j3, lx, e80⟩ | ⟨x1, e80, lx, rp, rr, e11, rn, ⟨e8, e9⟩, cf, rf⟩ | ⟨x0, jf⟩
      · rw [x1, if_neg (by decide)]
        unfold X6_read_J98
        rw [wI_of2 (x := s - 1 + 1) (by omega) (by omega), show s - 1 + 1 = s + 1 - 1 from by omega, rstep n3 en3]
        exact ih (F1 + 1) (F2 + 1) x.2 n3 (nx T len a') (s + 1) I' l' (by omega) (by omega) (by omega) j3 (by omega) (by omega) e80
      · rw [x1, if_neg (by decide)]
        unfold X6_read_J98
        rw [wI_of2 (x := s - 1 + 1) (by omega) (by omega)]
        obtain ⟨kk2, _, _⟩ := p_kind rp
        show Wp (X6_read_L59_b N (X6_read_L59 N F1) 5 D 1 (s - 1 + 1) x.2) _
        unfold X6_read_L59_b
        rw [if_neg (by omega), if_neg (by decide)]
        refine wp_b (gtI (by decide +kernel) _) ?_
        rw [kk2, if_neg (kd_ne0 lx)]
        obtain ⟨m4, e4, t4⟩ := x_late (N := N) (D := D) rp e11
        refine wp_b e4 ?_
        rw [if_pos rfl]
        obtain ⟨F1, rfl⟩ : ∃ f, F1 = f + 1 := ⟨F1 - 1, by omega⟩
        rw [c_stop]
        have fs : FS n3 := by show 0 < n3 264 8; omega
        refine wp_some ⟨s + 1, n3, by rw [rstep n3 en3]; exact l_FS fs k _, Or.inr ⟨rfl, ⟨6, ((nx T len a' : Nat) : Int), by decide, t4.1, t4.2.1, e8, e9⟩, told_refs rr t4, rn, cf_up cf (fun b j h1 _ => ?_), rf⟩⟩
        show m4 b j = x.2 b j
        by_cases q : b = 5
        · rw [q]; exact t4.2.2.2 j (fun u => h1 ⟨q, u.1⟩)
        · rw [t4.2.2.1 b q]
      · rw [x0, if_pos rfl]
        exact bad x.2 n3 en3 jf
    · rw [v0, if_pos rfl]
      exact bad v.2 n2 (m_finF (fl_fs jf.1) _) jf
    · obtain ⟨x, ex, n3, en3, x0, jf⟩ := b_finH (N := N) (s := s) hf
      rw [hf.1, if_neg (by decide)]
      refine wp_b ex ?_
      rw [x0, if_pos rfl]
      exact bad x.2 n3 en3 jf
