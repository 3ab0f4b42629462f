/-! the ends of statements, the loops over them -/
variable {T : Nat → Int} {len K D B : Nat} {m0 n0 : Mem} {I : Isl} {l : Lnd}
theorem m_mustSF {N : Nat} {n : Mem} (f : FS n) (c : Int) : X11_must N 264 c n = some n := by
  have J : Wp (X11_must_J21 N 264 n) (fun r => r = n) := by
    unfold X11_must_J21
    refine wp_b (g264 (by decide)) ?_
    rw [if_pos (by have : 0 < n 264 8 := f; omega)]
    exact wp_some rfl
  have is : ∃ v, X11_isSign 264 c n = some v := by
    unfold X11_isSign
    rw [if_pos k264, g264 (by decide), Option.bind_some]
    by_cases z : n 264 3 = 3
    · rw [if_neg (fun u => u z), g264 (by decide), Option.bind_some]
      by_cases z2 : n 264 6 = c
      · rw [if_neg (fun u => u z2)]; exact ⟨_, rfl⟩
      · rw [if_pos z2]; exact ⟨_, rfl⟩
    · rw [if_pos z]; exact ⟨_, rfl⟩
  obtain ⟨v, ev⟩ := is
  refine wp_eq ?_
  unfold X11_must
  refine wp_k k264 ?_
  refine wp_b (m_lexF f) ?_
  refine wp_b ev ?_
  by_cases z : v = 0
  · rw [if_neg (fun u => u z)]
    refine wp_b (g264 (by decide)) ?_
    refine wp_b (m_blame1 f _ _) ?_
    exact J
  · rw [if_pos z]; exact J
theorem m_finF {N : Nat} {n : Mem} (f : FS n) (c : Int) : X11_finishes N 264 c n = some n := by
  refine wp_eq ?_
  unfold X11_finishes
  refine wp_k k264 ?_
  refine wp_b (m_lexF f) ?_
  refine wp_b (g264 (by decide)) ?_
  rw [if_neg (by have : 0 < n 264 8 := f; omega)]
  exact wp_some rfl
/-- the blanks ahead of the next sign are passed over -/
theorem fin_loop {N : Nat} {n : Mem} (r : Refs n) (e2 : n 264 2 = (len : Int)) (hT : ∀ i, i < len → n 265 i = T i) (hl : len ≤ 1600) {k : Nat → Int → Int → Mem → Option Mem} {c : Int} : ∀ d F p : Nat, len - p = d → d < F → p ≤ len → X11_finishes_L17 N k F 264 c (p : Int) n = k 264 c ((sk T len p : Nat) : Int) n := by
  intro d
  induction d with
  | zero =>
    intro F p hd hF hp
    obtain ⟨F, rfl⟩ : ∃ f, F = f + 1 := ⟨F - 1, by omega⟩
    show X11_finishes_L17_b N k (X11_finishes_L17 N k F) 264 c (p : Int) n = _
    unfold X11_finishes_L17_b
    rw [g264 (by decide), Option.bind_some, e2, if_pos (by omega), show sk T len p = p from run_n (by omega)]
  | succ d ih =>
    intro F p hd hF hp
    obtain ⟨F, rfl⟩ : ∃ f, F = f + 1 := ⟨F - 1, by omega⟩
    show X11_finishes_L17_b N k (X11_finishes_L17 N k F) 264 c (p : Int) n = _
    unfold X11_finishes_L17_b X11_finishes_J47
    have ld := arI (a := 265) 1800 (i := (p : Int)) (by decide +kernel) (by omega) (by omega) n
    rw [Int.toNat_natCast, hT p (by omega)] at ld
    rw [g264 (by decide), Option.bind_some, e2, if_neg (by omega), gR0 r, Option.bind_some, ld, Option.bind_some, show wI ((p : Int) + 1) = ((p + 1 : Nat) : Int) from by rw [wI_of2 (by omega) (by omega)]; omega]
    by_cases q : isBl (T p)
    · have go : sk T len p = sk T len (p + 1) := run_y (by omega) (cBl_i.mpr q)
      have ihp := ih F (p + 1) (by omega) (by omega) (by omega)
      rcases q with q | q
      · rw [if_pos q, go]; exact ihp
      · rw [if_neg (by omega), Option.bind_some, ld, Option.bind_some, if_neg (show ¬¬T p = 10 from fun u => u q), go]; exact ihp
    · rw [if_neg (fun u => q (Or.inl u)), Option.bind_some, ld, Option.bind_some, if_pos (show ¬T p = 10 from fun u => q (Or.inr u)), show sk T len p = p from run_n (fun u => q (cBl_i.mp u.2))]
def ClR (T : Nat → Int) (len K D B : Nat) (m0 n0 : Mem) (I : Isl) (l : Lnd) (a : Nat) (s : Int) (v : Int × Mem) (n2 : Mem) : Prop := (v.1 = 1 ∧ JI T len K D B m0 n0 v.2 n2 (nx T len a) (s + 1) I l ∧ a < nx T len a ∧ (s + 1 = 80 → nx T len a = len)) ∨ (v.1 = 1 ∧ s + 1 = 80 ∧ nx T len a < len ∧ RP v.2 T len K (nx T len a) ∧ Refs v.2 ∧ v.2 5 11 = 80 ∧ Refs n2 ∧ (n2 264 8 = 6 ∧ n2 264 9 = ((nx T len a : Nat) : Int)) ∧ CFr D m0 v.2 ∧ RF B n0 n2) ∨ (v.1 = 0 ∧ JF D B m0 n0 v.2 n2)
theorem rp_11 {m : Mem} {a : Nat} (h : RP m T len K a) (v : Int) : RP (up m 5 11 v) T len K a := by
  obtain ⟨i, d, p, k, kz⟩ := h
  refine ⟨i, ⟨wd_ref (J := fun j => 1 ≤ j ∧ j ≤ 11) (m := m) (ref_up (ref_refl _ _) (by omega) _) d.1, d.2.1, ?_, ?_, ?_, ?_⟩, p, k, by rw [up_slot (by decide), up_slot (by decide)]; exact kz⟩
  · rw [up_slot (by decide)]; exact d.2.2.1
  · rw [up_slot (by decide)]; exact d.2.2.2.1
  · rw [up_slot (by decide)]; exact d.2.2.2.2.1
  · rw [up_slot (by decide)]; exact d.2.2.2.2.2
theorem b_fin {N : Nat} (hN : 2000 ≤ N) {m n : Mem} {a : Nat} {s : Int} (j : JI T len K D B m0 n0 m n a s I l) (s0 : 0 ≤ s) (s1 : s < 80) : Wp (X6_close 5 m) (fun v => Wp (X11_finishes N 264 (s + 1) n) (fun n2 => ClR T len K D B m0 n0 I l a s v n2)) := by
  obtain ⟨⟨r, r2, rp, rs⟩, js, e11, ab⟩ := j
  have al := rs.2.2.2.2.1
  have hl := rs.2.2.2.2.2.1
  obtain ⟨m1, hm1⟩ : ∃ m1, m1 = up m 5 11 (s + 1) := ⟨_, rfl⟩
  have f1 : ReF (fun j => j = 11) m m1 := by rw [hm1]; exact ref_up (J := fun j => j = 11) (ref_refl _ _) rfl _
  have r1 : Refs m1 := ref_refs (fun j h => by omega) f1 r
  have rp1 : RP m1 T len K a := by rw [hm1]; exact rp_11 rp _
  have e1 : m1 5 11 = s + 1 := by rw [hm1, up_same]
  have js1 : JS D B m0 n0 m1 n I l := js_mv (J := fun j => j = 11) (fun j h => by omega) js f1 (ahf_refl n)
  -- the reference at a sign
  have ref : ∀ {Q : Mem → Prop}, (isS T len a 59 → ((s + 1 = 80 → nx T len a = len) → ∀ n2, AhF n n2 → RS n2 T len (nx T len a) → Refs n2 → Q n2) ∧ (s + 1 = 80 → nx T len a < len → Q (Bl n 6 ((nx T len a : Nat) : Int)))) → (¬isS T len a 59 → Q (Bl n 1 (tkQ T len a))) → Wp (X11_finishes N 264 (s + 1) n) Q := fun {Q} y no => by
    unfold X11_finishes
    refine wp_k k264 ?_
    by_cases rl : rlx T len a = -1
    rotate_left
    · refine wp_b (m_lex0 rs rl) ?_
      have fs := bl_fs n (k := 1) (by decide) (tkQ T len a)
      refine wp_b (g264 (by decide)) ?_
      rw [if_neg (by unfold FS at fs; omega)]
      exact wp_some (no (fun u => rl u.1))
    refine wp_b (m_lex1 rs rl) ?_
    refine wp_b (g264 (by decide)) ?_
    rw [rs.2.1, if_pos (by decide)]
    refine wp_b (g264 (by decide)) ?_
    obtain ⟨p, hp⟩ : ∃ p : Nat, n 264 5 = (p : Int) ∧ p ≤ len ∧ (a < len → sk T len p = nx T len a) := by
      by_cases z : a < len
      · exact ⟨tE T len a, by rw [rs.1.2.2.2.1, if_neg (by omega)], (tE_in z).2, fun _ => rfl⟩
      · exact ⟨a, by rw [rs.1.2.2.2.1, if_pos (by omega)], al, fun u => absurd u z⟩
    obtain ⟨p1, p2, p3⟩ := hp
    rw [p1, fin_loop (T := T) r2 rs.2.2.1 rs.2.2.2.1 hl (len - p) N p rfl (by omega) p2]
    show Wp ((X11_isSign 264 59 n).bind fun p16 => if p16 = 0 then X11_finishes_J83 N 264 n else (if ¬s + 1 = 80 then X11_finishes_J83 N 264 n else (getI 11 2 264 n).bind fun t18 => if t18 ≤ ((sk T len p : Nat) : Int) then X11_finishes_J83 N 264 n else (X11_blame 264 6 ((sk T len p : Nat) : Int) n).bind fun p19 => X11_finishes_J83 N 264 p19)) Q
    have J83 : ¬(isS T len a 59 ∧ s + 1 = 80 ∧ nx T len a < len) → Wp (X11_finishes_J83 N 264 n) Q := fun u => by
      unfold X11_finishes_J83
      rw [some_id]
      exact m_mustS hN r2 rs 59 (fun sg n2 f rs2 rr => (y sg).1 (fun w => by
        have lt : a < len := rs_end rs (by have := sg.2.1; omega)
        have := (nx_in (T := T) lt).2
        rcases Nat.lt_or_ge (nx T len a) len with z | z
        · exact absurd ⟨sg, w, z⟩ u
        · omega) n2 f rs2 rr) no
    by_cases sg : isS T len a 59
    · rw [isS_y rs sg, Option.bind_some, if_neg (by decide)]
      have lt : a < len := rs_end rs (by have := sg.2.1; omega)
      by_cases z : s + 1 = 80
      · rw [if_neg (fun u => u z)]
        refine wp_b (g264 (by decide)) ?_
        rw [rs.2.2.1, p3 lt]
        by_cases z2 : nx T len a < len
        · rw [if_neg (by omega)]
          refine wp_b (m_blame0 rs.2.1 _ _) ?_
          unfold X11_finishes_J83
          refine wp_b (m_mustSF (bl_fs n (by decide) _) 59) ?_
          exact wp_some ((y sg).2 z z2)
        · rw [if_pos (by omega)]
          exact J83 (fun u => z2 u.2.2)
      · rw [if_pos z]
        exact J83 (fun u => z u.2.1)
    · rw [isS_n rs rl sg, Option.bind_some, if_pos rfl]
      exact J83 (fun u => sg u.1)
  unfold X6_close
  refine wp_k k5r ?_
  refine wp_b (gtI (by decide +kernel) _) ?_
  rw [e11, wI_of2 (x := s + 1) (by omega) (by omega)]
  refine wp_b (ptI (by decide +kernel) _ _) ?_
  rw [← hm1]
  refine wp_bw (p_sign r1 rp1 59 (Q := fun p => (isS T len a 59 ∧ p.1 = 1 ∧ RP p.2 T len K (nx T len a) ∧ ReF J14 m1 p.2) ∨ (¬isS T len a 59 ∧ p.1 = 0 ∧ Told m1 p.2 1 (tkQ T len a))) (fun u m2 d f => Or.inl ⟨(sgn_same al 59).mp u, rfl, d, f⟩) (fun u m2 t => Or.inr ⟨fun v => u ((sgn_same al 59).mpr v), rfl, t⟩)) (fun v hv => ?_)
  rcases hv with ⟨sg, v1, rp2, f2⟩ | ⟨nsg, v0, t⟩
  · rw [v1]
    refine wp_b (v := 1) rfl ?_
    refine wp_some ?_
    have lt : a < len := rs_end rs (by have := sg.2.1; omega)
    have nx1 := nx_in (T := T) lt
    have e2 : v.2 5 11 = s + 1 := by rw [f2.2 11 (by omega)]; exact e1
    refine ref (fun _ => ⟨fun w n2 g rs2 rr => Or.inl ⟨rfl, ⟨⟨ref_refs (fun j h => by omega) f2 r1, rr, rp2, rs2⟩, js_mv (fun j h => by omega) js1 f2 g, e2, by omega⟩, nx1.1, w⟩, fun w z => Or.inr (Or.inl ⟨rfl, w, z, rp2, ref_refs (fun j h => by omega) f2 r1, by show v.2 5 11 = 80; rw [e2]; exact w, bl_refs r2 _ _, bl_8 _ _ _, ?_, ?_⟩)⟩) (fun u => absurd sg u)
    · exact (js_mv (fun j h => by omega) js1 f2 (ahf_refl n)).2.2.2.2.1
    · exact rf_up js.2.2.2.2.2 (fun b j h1 _ _ => by
        by_cases qq : b = 264
        · rw [qq, bl_at (fun u => h1 ⟨qq, by omega⟩)]
        · rw [bl_ne qq])
  · rw [v0]
    refine wp_b (v := 0) rfl ?_
    refine wp_some ?_
    refine ref (fun sg => absurd sg nsg) (fun _ => ?_)
    have no := no_of (I := I) (l := l) (by decide) r1 r2 js1 t ⟨n, ahf_refl n, rfl⟩
    exact Or.inr (Or.inr ⟨rfl, jf_of no.2.2.2 no.1 no.2.1 no.2.2.1⟩)
/-- behind a sum whose end is wrong in itself -/
theorem b_finH {N : Nat} {v : Int × Mem} {n2 : Mem} {s : Int} (h : Hf T len K D B m0 n0 v n2) : Wp (X6_close 5 v.2) (fun w => Wp (X11_finishes N 264 (s + 1) n2) (fun n3 => w.1 = 0 ∧ JF D B m0 n0 w.2 n3)) := by
  obtain ⟨v1, a', rp, rl, r, r2, ⟨e8, e9⟩, cf, rf⟩ := h
  have al := rp_le rp
  have fs : FS n2 := by show 0 < n2 264 8; omega
  rw [m_finF fs]
  obtain ⟨m1, hm1⟩ : ∃ m1, m1 = up v.2 5 11 (wI (v.2 5 11 + 1)) := ⟨_, rfl⟩
  have f1 : ReF (fun j => j = 11) v.2 m1 := by rw [hm1]; exact ref_up (J := fun j => j = 11) (ref_refl _ _) rfl _
  have r1 : Refs m1 := ref_refs (fun j h => by omega) f1 r
  have rp1 : RP m1 T len K a' := by rw [hm1]; exact rp_11 rp _
  unfold X6_close
  refine wp_k k5r ?_
  refine wp_b (gtI (by decide +kernel) _) ?_
  refine wp_b (ptI (by decide +kernel) _ _) ?_
  rw [← hm1]
  refine wp_bw (p_sign r1 rp1 59 (Q := fun p => p.1 = 0 ∧ Told m1 p.2 1 (tkQ T len a')) (fun u => absurd ((sgn_same al 59).mp u).1 rl) (fun u m2 t => ⟨rfl, t⟩)) (fun w hw => ?_)
  obtain ⟨w0, t⟩ := hw
  rw [w0]
  refine wp_b (v := 0) rfl ?_
  refine wp_some (wp_some ⟨rfl, ⟨1, tkQ T len a', by decide, t.1, t.2.1, e8, e9⟩, told_refs r1 t, r2, ?_, rf⟩)
  refine cf_up cf (fun b j h1 _ => ?_)
  show w.2 b j = v.2 b j
  by_cases q : b = 5
  · rw [q, t.2.2.2 j (fun u => h1 ⟨q, u.1⟩), f1.2 j (fun u => h1 ⟨q, by omega⟩)]
  · rw [t.2.2.1 b q, f1.1 b q]
