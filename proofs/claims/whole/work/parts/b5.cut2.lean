/-! the class cuts a text -/
/-- what the class writes down of the sign at a; asked: behind the word for skies -/
def kdC (T : Nat → Int) (len : Nat) (ask : Bool) (a : Nat) : Int × Int :=
  if len ≤ a then (0, (len : Int)) else if jnd T a then (6, (a : Int)) else if ask = true ∧ (isLt (T a) ∨ isDg (T a)) then (if skG T a (tE T len a - a) then (4, ((skP T a (tE T len a - a) : Nat) : Int)) else (6, (a : Int))) else if isLt (T a) then (if ¬ow (lts T a (tE T len a - a)) = -1 then (2, ow (lts T a (tE T len a - a))) else if tE T len a - a ≤ 6 then (3, ((pk5 (lts T a (tE T len a - a)) : Nat) : Int)) else (6, ((a + 6 : Nat) : Int))) else if isDg (T a) then (if tE T len a - a ≤ 4 then (1, nmv T a (tE T len a - a)) else (6, ((a + 4 : Nat) : Int))) else (5, T a)
theorem x_endL {N : Nat} {m : Mem} {len a : Nat} (hl : len ≤ 1600) (K : Nat → Nat → Int → Int → Int → Int → Mem → Option (Int × Mem)) {Q : Int × Mem → Prop} (c : Int → Bool) (p2 p4 : Int) (hc : (c = cLt ∧ p2 = 1) ∨ (c = cDg ∧ p2 = 0 ∧ p4 = 1) ∨ ((∀ x, c x = false) ∧ p2 = 0 ∧ p4 = 0)) (h4 : p2 = 1 → p4 = 0) : ∀ d F p : Nat, len - p = d → d < F → p ≤ len → Wp (K 6 4 (a : Int) p2 p4 ((run c (m 4) len p : Nat) : Int) m) Q → Wp (X8_cutOne_L21 N K F 6 4 (len : Int) (a : Int) p2 p4 (p : Int) m) Q := by
  have stop : ∀ (p : Nat), ¬(p < len ∧ c (m 4 p) = true) → run c (m 4) len p = p := fun p h => run_n h
  intro d
  induction d with
  | zero =>
    intro F p hd hF hp g
    obtain ⟨F, rfl⟩ : ∃ f, F = f + 1 := ⟨F - 1, by omega⟩
    rw [stop p (by omega)] at g
    show Wp (X8_cutOne_L21_b N K (X8_cutOne_L21 N K F) 6 4 (len : Int) (a : Int) p2 p4 (p : Int) m) Q
    unfold X8_cutOne_L21_b
    rw [if_pos (by omega)]
    exact g
  | succ d ih =>
    intro F p hd hF hp g
    obtain ⟨F, rfl⟩ : ∃ f, F = f + 1 := ⟨F - 1, by omega⟩
    show Wp (X8_cutOne_L21_b N K (X8_cutOne_L21 N K F) 6 4 (len : Int) (a : Int) p2 p4 (p : Int) m) Q
    unfold X8_cutOne_L21_b
    rw [if_neg (by omega)]
    have ld := arI (a := 4) 1600 (i := (p : Int)) (by decide +kernel) (by omega) (by omega) m
    rw [Int.toNat_natCast] at ld
    have go : c (m 4 p) = true → Wp (X8_cutOne_J57 N (X8_cutOne_L21 N K F) 6 4 (len : Int) (a : Int) p2 p4 (p : Int) m) Q := fun y => by
      unfold X8_cutOne_J57
      rw [show wI ((p : Int) + 1) = ((p + 1 : Nat) : Int) from by rw [wI_of2 (by omega) (by omega)]; omega]
      refine ih F (p + 1) (by omega) (by omega) (by omega) ?_
      rw [← run_y (by omega) y]
      exact g
    have no : ¬c (m 4 p) = true → Wp (K 6 4 (a : Int) p2 p4 (p : Int) m) Q := fun y => by
      rw [stop p (fun u => y u.2)] at g
      exact g
    rcases hc with ⟨e, e2⟩ | ⟨e, e2, e4⟩ | ⟨e, e2, e4⟩
    · have e4 := h4 e2
      subst e
      subst e2
      subst e4
      rw [if_neg (by decide)]
      refine wp_b ld ?_
      refine wp_b (x_isLetter _ m) ?_
      by_cases q : isLt (m 4 p)
      · rw [← bi_t q, if_pos (by decide)]
        exact go (cLt_i.mpr q)
      · rw [← bi_f q, if_neg (fun u => u rfl)]
        unfold X8_cutOne_J42
        rw [if_pos rfl]
        exact no (fun u => q (cLt_i.mp u))
    · subst e
      subst e2
      subst e4
      rw [if_pos rfl]
      unfold X8_cutOne_J42
      rw [if_neg (by decide)]
      refine wp_b ld ?_
      refine wp_b (x_isDigit _ m) ?_
      by_cases q : isDg (m 4 p)
      · rw [← bi_t q, if_neg (by decide)]
        exact go (cDg_i.mpr q)
      · rw [← bi_f q, if_pos rfl]
        exact no (fun u => q (cDg_i.mp u))
    · subst e2
      subst e4
      rw [if_pos rfl]
      unfold X8_cutOne_J42
      rw [if_pos rfl]
      exact no (fun u => by rw [e] at u; exact absurd u (by decide))
theorem x_cutOne {N : Nat} (hN : 2000 ≤ N) {m : Mem} (r : Refs m) (ks : Kst m) {k : Nat} (hc : m 6 2 = (k : Int)) (hk : k < 1601) {ask : Bool} (ha : m 6 4 = if ask = true then 1 else 0) {len a : Nat} (hl : len ≤ 1600) (hb : ∀ j : Nat, j < len → 0 ≤ m 4 j ∧ m 4 j ≤ 255) (h1 : a < len) (cl : cln (m 4) a) : ∃ m2, X8_cutOne N 6 4 (len : Int) (a : Int) m = some (((tE (m 4) len a : Nat) : Int), m2) ∧ Put m m2 k (kdC (m 4) len ask a).1 a (kdC (m 4) len ask a).2 := by
  obtain ⟨t1, t2⟩ := tE_in (T := m 4) h1
  obtain ⟨e, he⟩ : ∃ e, e = tE (m 4) len a := ⟨_, rfl⟩
  rw [← he] at t1 t2 ⊢
  have ld := arI (a := 4) 1600 (i := (a : Int)) (by decide +kernel) (by omega) (by omega) m
  rw [Int.toNat_natCast] at ld
  have X : Wp (X8_cutOne N 6 4 (len : Int) (a : Int) m) (fun p => p.1 = (e : Int) ∧ Put m p.2 k (kdC (m 4) len ask a).1 a (kdC (m 4) len ask a).2) := by
    obtain ⟨Q, hQ⟩ : ∃ Q : Int × Mem → Prop, Q = fun p => p.1 = (e : Int) ∧ Put m p.2 k (kdC (m 4) len ask a).1 a (kdC (m 4) len ask a).2 := ⟨_, rfl⟩
    rw [← hQ]
    unfold X8_cutOne
    refine wp_k k6w ?_
    refine wp_b ld ?_
    refine wp_b (x_isLetter _ m) ?_
    refine wp_b ld ?_
    refine wp_b (x_isDigit _ m) ?_
    rw [show wI ((a : Int) + 1) = ((a + 1 : Nat) : Int) from by rw [wI_of2 (by omega) (by omega)]; omega]
    -- what is put, by what stands there
    have jy : jnd (m 4) a → Wp (X8_cutOne_J104 N 6 4 (a : Int) (bi (isLt (m 4 a))) (bi (isDg (m 4 a))) (e : Int) 1 m) Q := fun j => by
      unfold X8_cutOne_J104
      rw [if_neg (by decide)]
      obtain ⟨m2, e2, p⟩ := x_put r hc hk 6 (a : Int) (a : Int) (by unfold okPk; omega)
      refine wp_b e2 ?_
      rw [hQ]
      refine wp_some ⟨rfl, ?_⟩
      unfold kdC
      rw [if_neg (by omega), if_pos j]
      exact p
    have jn0 : ¬jnd (m 4) a → Wp (X8_cutOne_J104 N 6 4 (a : Int) (bi (isLt (m 4 a))) (bi (isDg (m 4 a))) (e : Int) 0 m) Q := fun j => by
      unfold X8_cutOne_J104
      rw [if_pos rfl]
      refine wp_b (gtI (by decide +kernel) m) ?_
      have letters : ask = true → (isLt (m 4 a) ∨ isDg (m 4 a)) → Wp (X8_cutOne_J139 N 6 4 (a : Int) (e : Int) m) Q := fun y1 y2 => by
        unfold X8_cutOne_J139
        obtain ⟨m2, e2, p⟩ := x_putLetters hN r hc hk (a := a) (e := e) t1 (by omega)
        refine wp_b e2 ?_
        rw [hQ]
        refine wp_some ⟨rfl, ?_⟩
        unfold kdC
        rw [if_neg (by omega), if_neg j, if_pos ⟨y1, y2⟩, ← he]
        by_cases w : skG (m 4) a (e - a)
        · rw [if_pos w] at p ⊢; exact p
        · rw [if_neg w] at p ⊢; exact p
      have plain : ¬(ask = true ∧ (isLt (m 4 a) ∨ isDg (m 4 a))) → Wp (X8_cutOne_J150 N 6 4 (a : Int) (bi (isLt (m 4 a))) (bi (isDg (m 4 a))) (e : Int) m) Q := fun y => by
        unfold X8_cutOne_J150
        by_cases q : isLt (m 4 a)
        · rw [← bi_t q, if_neg (by decide)]
          have hd : ∀ i, i < e - a → isLt (m 4 (a + i)) := fun i hi => by
            unfold tE at he
            rw [if_pos q] at he
            have := (run_in cLt (m 4) len _ a rfl (by omega)).2.2.1 (a + i) (by omega) (by omega)
            exact cLt_i.mp this
          obtain ⟨m2, e2, p⟩ := x_putWord hN r ks hc hk (a := a) (e := e) t1 (by omega) hd
          refine wp_b e2 ?_
          rw [hQ]
          refine wp_some ⟨rfl, ?_⟩
          unfold kdC
          rw [if_neg (by omega), if_neg j, if_neg y, if_pos q, ← he]
          by_cases w : ow (lts (m 4) a (e - a)) = -1
          · rw [if_neg (fun u => u w)] at p ⊢
            by_cases w2 : e - a ≤ 6
            · rw [if_pos w2] at p ⊢; exact p
            · rw [if_neg w2] at p ⊢; exact p
          · rw [if_pos w] at p ⊢; exact p
        · rw [← bi_f q, if_pos rfl]
          by_cases q2 : isDg (m 4 a)
          · rw [← bi_t q2, if_neg (by decide)]
            have hd : ∀ i, a ≤ i → i < e → isDg (m 4 i) := fun i i0 i1 => by
              unfold tE at he
              rw [if_neg q, if_pos q2] at he
              have := (run_in cDg (m 4) len _ a rfl (by omega)).2.2.1 i i0 (by omega)
              exact cDg_i.mp this
            obtain ⟨m2, e2, p⟩ := x_putNumber hN r hc hk (a := a) (e := e) t1 (by omega) hd
            refine wp_b e2 ?_
            rw [hQ]
            refine wp_some ⟨rfl, ?_⟩
            unfold kdC
            rw [if_neg (by omega), if_neg j, if_neg y, if_neg q, if_pos q2, ← he]
            by_cases w2 : e - a ≤ 4
            · rw [if_pos w2] at p ⊢; exact p
            · rw [if_neg w2] at p ⊢; exact p
          · rw [← bi_f q2, if_pos rfl]
            refine wp_b ld ?_
            obtain ⟨m2, e2, p⟩ := x_put r hc hk 5 (a : Int) (m 4 a) (by have := hb a h1; unfold okPk; omega)
            refine wp_b e2 ?_
            rw [hQ]
            refine wp_some ⟨rfl, ?_⟩
            unfold kdC
            rw [if_neg (by omega), if_neg j, if_neg y, if_neg q, if_neg q2]
            exact p
      rw [ha]
      cases ask with
      | false =>
        rw [if_pos (by decide)]
        exact plain (fun u => absurd u.1 (by decide))
      | true =>
        rw [if_pos rfl, if_neg (by decide)]
        by_cases q : isLt (m 4 a)
        · rw [if_pos (by rw [← bi_t q]; decide)]
          exact letters rfl (Or.inl q)
        · rw [if_neg (fun u => u (bi_f q).symm)]
          by_cases q2 : isDg (m 4 a)
          · rw [if_neg (by rw [← bi_t q2]; decide)]
            exact letters rfl (Or.inr q2)
          · rw [if_pos (bi_f q2).symm]
            exact plain (fun u => by rcases u.2 with w | w; exact q w; exact q2 w)
    -- whether it is joined
    obtain ⟨c, hc1, hc2⟩ : ∃ c : Int → Bool, ((c = cLt ∧ bi (isLt (m 4 a)) = 1) ∨ (c = cDg ∧ bi (isLt (m 4 a)) = 0 ∧ bi (isDg (m 4 a)) = 1) ∨ ((∀ x, c x = false) ∧ bi (isLt (m 4 a)) = 0 ∧ bi (isDg (m 4 a)) = 0)) ∧ run c (m 4) len (a + 1) = e := by
      by_cases q : isLt (m 4 a)
      · refine ⟨cLt, Or.inl ⟨rfl, (bi_t q).symm⟩, ?_⟩
        rw [← run_y h1 (cLt_i.mpr q), he]
        unfold tE
        rw [if_pos q]
      · by_cases q2 : isDg (m 4 a)
        · refine ⟨cDg, Or.inr (Or.inl ⟨rfl, (bi_f q).symm, (bi_t q2).symm⟩), ?_⟩
          rw [← run_y h1 (cDg_i.mpr q2), he]
          unfold tE
          rw [if_neg q, if_pos q2]
        · refine ⟨fun _ => false, Or.inr (Or.inr ⟨fun _ => rfl, (bi_f q).symm, (bi_f q2).symm⟩), ?_⟩
          rw [run_n (fun u => absurd u.2 (by decide)), he]
          unfold tE
          rw [if_neg q, if_neg q2]
    refine x_endL hl _ c _ _ hc1 (fun u => (bi_f (by have := bi_1.mp u; omega)).symm) (len - (a + 1)) N (a + 1) rfl (by omega) (by omega) ?_
    rw [hc2]
    show Wp (if (a : Int) ≤ 0 then X8_cutOne_J103 N 6 4 (a : Int) (bi (isLt (m 4 a))) (bi (isDg (m 4 a))) (e : Int) m else if bi (isLt (m 4 a)) = 0 then X8_cutOne_J83 N 6 4 (a : Int) (bi (isLt (m 4 a))) (bi (isDg (m 4 a))) (e : Int) m else (aldI 4 (wI ((a : Int) - 1)) m).bind fun t38 => (X8_isDigit t38 m).bind fun p39 => if ¬p39 = 0 then X8_cutOne_J99 N 6 4 (a : Int) (bi (isLt (m 4 a))) (bi (isDg (m 4 a))) (e : Int) m else X8_cutOne_J83 N 6 4 (a : Int) (bi (isLt (m 4 a))) (bi (isDg (m 4 a))) (e : Int) m) Q
    have jc := jnd_c cl
    by_cases q0 : a = 0
    · rw [if_pos (by omega)]
      unfold X8_cutOne_J103
      exact jn0 (fun u => by have := u.1; omega)
    · rw [if_neg (by omega)]
      have ld1 := arI (a := 4) 1600 (i := (a : Int) - 1) (by decide +kernel) (by omega) (by omega) m
      rw [show ((a : Int) - 1).toNat = a - 1 from by omega] at ld1
      have J83 : ¬(isLt (m 4 a) ∧ isDg (m 4 (a - 1))) → Wp (X8_cutOne_J83 N 6 4 (a : Int) (bi (isLt (m 4 a))) (bi (isDg (m 4 a))) (e : Int) m) Q := fun w => by
        unfold X8_cutOne_J83
        by_cases q2 : isDg (m 4 a)
        · rw [if_neg (by rw [← bi_t q2]; decide), wI_of2 (x := (a : Int) - 1) (by omega) (by omega)]
          refine wp_b ld1 ?_
          refine wp_b (x_isLetter _ m) ?_
          by_cases q3 : isLt (m 4 (a - 1))
          · rw [if_neg (by rw [← bi_t q3]; decide)]
            unfold X8_cutOne_J99
            exact jy (jc.mpr ⟨by omega, Or.inr ⟨q2, q3⟩⟩)
          · rw [if_pos (bi_f q3).symm]
            unfold X8_cutOne_J103
            exact jn0 (fun u => by
              rcases (jc.mp u).2 with v | v
              · exact w v
              · exact q3 v.2)
        · rw [if_pos (bi_f q2).symm]
          unfold X8_cutOne_J103
          exact jn0 (fun u => by
            rcases (jc.mp u).2 with v | v
            · exact w v
            · exact q2 v.1)
      by_cases q : isLt (m 4 a)
      · rw [if_neg (by rw [← bi_t q]; decide), wI_of2 (x := (a : Int) - 1) (by omega) (by omega)]
        refine wp_b ld1 ?_
        refine wp_b (x_isDigit _ m) ?_
        by_cases q3 : isDg (m 4 (a - 1))
        · rw [if_pos (by rw [← bi_t q3]; decide)]
          unfold X8_cutOne_J99
          exact jy (jc.mpr ⟨by omega, Or.inl ⟨q, q3⟩⟩)
        · rw [if_neg (fun u => u (bi_f q3).symm)]
          exact J83 (fun u => q3 u.2)
      · rw [if_pos (bi_f q).symm]
        exact J83 (fun u => q u.1)
  obtain ⟨⟨v, m2⟩, e2, h3, h4⟩ := X
  have h3' : v = (e : Int) := h3
  subst h3'
  exact ⟨m2, e2, h4⟩
