/-! both see the same sign -/
abbrev kdP (T : Nat → Int) (len a : Nat) : Int × Int := kdC T len false a
def SgE (T : Nat → Int) (len a : Nat) : Prop := a = len ∧ kdP T len a = (0, (len : Int)) ∧ rlx T len a = -1 ∧ rsg T len a = 0
def SgB (T : Nat → Int) (len a : Nat) : Prop := a < len ∧ ∃ p : Nat, kdP T len a = (6, (p : Int)) ∧ rlx T len a = (p : Int)
def SgO (T : Nat → Int) (len a : Nat) : Prop := a < len ∧ ∃ i : Nat, i < 27 ∧ kdP T len a = (2, (i : Int)) ∧ rlx T len a = -1 ∧ rsg T len a = 1 ∧ rwd T len a = ((pk8 (owT.getD i []) : Nat) : Int)
def SgA (T : Nat → Int) (len a : Nat) : Prop := a < len ∧ ∃ L : List Nat, okLt L ∧ 1 ≤ L.length ∧ L.length ≤ 6 ∧ ow L = -1 ∧ kdP T len a = (3, ((pk5 L : Nat) : Int)) ∧ rlx T len a = -1 ∧ rsg T len a = 1 ∧ rwd T len a = ((pk8 L : Nat) : Int)
def SgN (T : Nat → Int) (len a : Nat) : Prop := a < len ∧ ∃ v : Int, (0 ≤ v ∧ v ≤ 9999) ∧ kdP T len a = (1, v) ∧ rlx T len a = -1 ∧ rsg T len a = 2 ∧ rvl T len a = v
def SgS (T : Nat → Int) (len a : Nat) : Prop := a < len ∧ kdP T len a = (5, T a) ∧ rlx T len a = -1 ∧ rsg T len a = 3 ∧ rvl T len a = T a
theorem nmv_in {T : Nat → Int} {a : Nat} : ∀ n, (∀ i, i < n → isDg (T (a + i))) → 0 ≤ nmv T a n ∧ nmv T a n < 10 ^ n := by
  intro n
  induction n with
  | zero => intro _; exact ⟨Int.le_refl 0, (by decide : (0 : Int) < 10 ^ 0)⟩
  | succ n ih =>
    intro h
    obtain ⟨i1, i2⟩ := ih (fun i hi => h i (by omega))
    have d := h n (by omega)
    have ee : nmv T a (n + 1) = 10 * nmv T a n + T (a + n) - 48 := rfl
    rw [ee, Int.pow_succ]
    omega
theorem sign_is (T : Nat → Int) {len a : Nat} (al : a ≤ len) : SgE T len a ∨ SgB T len a ∨ SgO T len a ∨ SgA T len a ∨ SgN T len a ∨ SgS T len a := by
  by_cases q : a < len
  · have nl : ¬len ≤ a := by omega
    have te := tE_in (T := T) q
    have nask : ¬(false = true ∧ (isLt (T a) ∨ isDg (T a))) := fun u => absurd u.1 (by decide)
    by_cases j : jnd T a
    · refine Or.inr (Or.inl ⟨q, a, ?_, rlx_jn q j⟩)
      show kdC T len false a = _
      unfold kdC
      rw [if_neg nl, if_pos j]
    · by_cases ql : isLt (T a)
      · have hlt : ∀ i, i < tE T len a - a → isLt (T (a + i)) := fun i hi => by
          have te2 : tE T len a = run cLt T len a := by unfold tE; rw [if_pos ql]
          have := (run_in cLt T len _ a rfl (by omega)).2.2.1 (a + i) (by omega) (by omega)
          exact cLt_i.mp this
        have lo : okLt (lts T a (tE T len a - a)) := lts_ok hlt
        have ll := lts_len T a (tE T len a - a)
        have s1 : rsg T len a = 1 := by unfold rsg; rw [if_neg nl, if_pos ql]
        have rl := rlx_lt q j ql
        have kd : kdP T len a = (if ¬ow (lts T a (tE T len a - a)) = -1 then (2, ow (lts T a (tE T len a - a))) else if tE T len a - a ≤ 6 then (3, ((pk5 (lts T a (tE T len a - a)) : Nat) : Int)) else (6, ((a + 6 : Nat) : Int))) := by
          show kdC T len false a = _
          unfold kdC
          rw [if_neg nl, if_neg j, if_neg nask, if_pos ql]
        have wd : tE T len a - a ≤ 8 → rwd T len a = ((pk8 (lts T a (tE T len a - a)) : Nat) : Int) := fun h8 => by
          unfold rwd
          rw [if_pos ql, show min (tE T len a - a) 8 = tE T len a - a from by omega, w8_pk _ hlt]
        by_cases qo : ow (lts T a (tE T len a - a)) = -1
        · have qo2 : ¬¬ow (lts T a (tE T len a - a)) = -1 := fun u => u qo
          rw [if_neg qo2] at kd rl
          by_cases q6 : tE T len a - a ≤ 6
          · rw [if_pos q6] at kd rl
            exact Or.inr (Or.inr (Or.inr (Or.inl ⟨q, _, lo, by omega, by omega, qo, kd, rl, s1, wd (by omega)⟩)))
          · rw [if_neg q6] at kd rl
            exact Or.inr (Or.inl ⟨q, _, kd, rl⟩)
        · rw [if_pos qo] at kd rl
          obtain ⟨o1, i, hi, oe, ol⟩ := ow_len qo
          rw [oe] at kd
          exact Or.inr (Or.inr (Or.inl ⟨q, i, hi, kd, rl, s1, by rw [ol]; exact wd (by omega)⟩))
      · by_cases qd : isDg (T a)
        · have s2 : rsg T len a = 2 := by unfold rsg; rw [if_neg nl, if_neg ql, if_pos qd]
          have rl := rlx_dg q j ql qd
          have kd : kdP T len a = (if tE T len a - a ≤ 4 then (1, nmv T a (tE T len a - a)) else (6, ((a + 4 : Nat) : Int))) := by
            show kdC T len false a = _
            unfold kdC
            rw [if_neg nl, if_neg j, if_neg nask, if_neg ql, if_pos qd]
          by_cases q4 : tE T len a - a ≤ 4
          · rw [if_pos q4] at kd
            rw [if_neg (show ¬4 < tE T len a - a from by omega)] at rl
            have hd : ∀ i, i < tE T len a - a → isDg (T (a + i)) := fun i hi => by
              have te2 : tE T len a = run cDg T len a := by unfold tE; rw [if_neg ql, if_pos qd]
              have := (run_in cDg T len _ a rfl (by omega)).2.2.1 (a + i) (by omega) (by omega)
              exact cDg_i.mp this
            have nb := nmv_in _ hd
            have nb2 : nmv T a (tE T len a - a) ≤ 9999 := by
              obtain ⟨_, n2⟩ := nb
              generalize tE T len a - a = n at n2 q4
              have c4 : n = 0 ∨ n = 1 ∨ n = 2 ∨ n = 3 ∨ n = 4 := by omega
              rcases c4 with c4 | c4 | c4 | c4 | c4 <;> subst c4 <;> omega
            refine Or.inr (Or.inr (Or.inr (Or.inr (Or.inl ⟨q, _, ⟨nb.1, nb2⟩, kd, rl, s2, ?_⟩))))
            unfold rvl
            rw [if_neg ql, if_pos qd, show min (tE T len a - a) 4 = tE T len a - a from by omega]
          · rw [if_neg q4] at kd
            rw [if_pos (show 4 < tE T len a - a from by omega)] at rl
            exact Or.inr (Or.inl ⟨q, _, kd, rl⟩)
        · refine Or.inr (Or.inr (Or.inr (Or.inr (Or.inr ⟨q, ?_, rlx_sg q ql qd, ?_, ?_⟩))))
          · show kdC T len false a = _
            unfold kdC
            rw [if_neg nl, if_neg j, if_neg nask, if_neg ql, if_neg qd]
          · unfold rsg
            rw [if_neg nl, if_neg ql, if_neg qd]
          · unfold rvl
            rw [if_neg ql, if_neg qd]
  · have e : a = len := by omega
    refine Or.inl ⟨e, ?_, rlx_end (by omega), if_pos (by omega)⟩
    show kdC T len false a = _
    unfold kdC
    rw [if_pos (by omega)]
/-- an own word -/
theorem own_same {T : Nat → Int} {len a : Nat} (al : a ≤ len) {i : Nat} (hi : i < 27) : kdP T len a = (2, (i : Int)) ↔ isW T len a ((pk8 (owT.getD i []) : Nat) : Int) := by
  rcases sign_is T al with h | h | h | h | h | h
  · obtain ⟨_, k, _, s⟩ := h
    exact ⟨fun u => by rw [k] at u; exact absurd (congrArg Prod.fst u) (by show ¬(0 : Int) = 2; decide), fun u => by have := u.2.1; omega⟩
  · obtain ⟨_, p, k, rl⟩ := h
    exact ⟨fun u => by rw [k] at u; exact absurd (congrArg Prod.fst u) (by show ¬(6 : Int) = 2; decide), fun u => by have := u.1; omega⟩
  · obtain ⟨_, i', hi', k, rl, s, w⟩ := h
    constructor
    · intro u
      rw [k] at u
      have : (i' : Int) = (i : Int) := congrArg Prod.snd u
      have e : i' = i := by omega
      rw [e] at w
      exact ⟨rl, s, w⟩
    · intro u
      have e := u.2.2
      rw [w] at e
      have : owT.getD i' [] = owT.getD i [] := pk8_inj _ _ _ rfl (owT_ok i' hi').1 (owT_ok i hi).1 (by omega)
      have uni : ∀ x, x < 27 → ∀ y, y < 27 → owT.getD x [] = owT.getD y [] → x = y := by decide +kernel
      rw [k, uni i' hi' i hi this]
  · obtain ⟨_, L, lo, l1, l2, no, k, rl, s, w⟩ := h
    constructor
    · intro u
      rw [k] at u
      exact absurd (congrArg Prod.fst u) (by show ¬(3 : Int) = 2; decide)
    · intro u
      have e := u.2.2
      rw [w] at e
      have : L = owT.getD i [] := pk8_inj _ _ _ rfl lo (owT_ok i hi).1 (by omega)
      exact absurd no (owN_at hi this.symm)
  · obtain ⟨_, v, _, k, _, s, _⟩ := h
    exact ⟨fun u => by rw [k] at u; exact absurd (congrArg Prod.fst u) (by show ¬(1 : Int) = 2; decide), fun u => by have := u.2.1; omega⟩
  · obtain ⟨_, k, _, s, _⟩ := h
    exact ⟨fun u => by rw [k] at u; exact absurd (congrArg Prod.fst u) (by show ¬(5 : Int) = 2; decide), fun u => by have := u.2.1; omega⟩
theorem sgn_same {T : Nat → Int} {len a : Nat} (al : a ≤ len) (c : Int) : kdP T len a = (5, c) ↔ isS T len a c := by
  rcases sign_is T al with h | h | h | h | h | h
  · obtain ⟨_, k, _, s⟩ := h
    exact ⟨fun u => by rw [k] at u; exact absurd (congrArg Prod.fst u) (by show ¬(0 : Int) = 5; decide), fun u => by have := u.2.1; omega⟩
  · obtain ⟨_, p, k, rl⟩ := h
    exact ⟨fun u => by rw [k] at u; exact absurd (congrArg Prod.fst u) (by show ¬(6 : Int) = 5; decide), fun u => by have := u.1; omega⟩
  · obtain ⟨_, i', hi', k, rl, s, w⟩ := h
    exact ⟨fun u => by rw [k] at u; exact absurd (congrArg Prod.fst u) (by show ¬(2 : Int) = 5; decide), fun u => by have := u.2.1; omega⟩
  · obtain ⟨_, L, lo, l1, l2, no, k, rl, s, w⟩ := h
    exact ⟨fun u => by rw [k] at u; exact absurd (congrArg Prod.fst u) (by show ¬(3 : Int) = 5; decide), fun u => by have := u.2.1; omega⟩
  · obtain ⟨_, v, _, k, _, s, _⟩ := h
    exact ⟨fun u => by rw [k] at u; exact absurd (congrArg Prod.fst u) (by show ¬(1 : Int) = 5; decide), fun u => by have := u.2.1; omega⟩
  · obtain ⟨_, k, rl, s, v⟩ := h
    constructor
    · intro u
      rw [k] at u
      have : T a = c := congrArg Prod.snd u
      exact ⟨rl, s, by rw [v]; exact this⟩
    · intro u
      have := u.2.2
      rw [k, ← v, this]
theorem num_same {T : Nat → Int} {len a : Nat} (al : a ≤ len) : ((kdP T len a).1 = 1 ↔ isNm T len a) ∧ (isNm T len a → (kdP T len a).2 = rvl T len a ∧ 0 ≤ rvl T len a ∧ rvl T len a ≤ 9999) := by
  rcases sign_is T al with h | h | h | h | h | h
  · obtain ⟨_, k, _, s⟩ := h
    have no : ¬isNm T len a := fun u => by have := u.2; omega
    exact ⟨⟨fun u => by rw [k] at u; exact absurd u (by show ¬(0 : Int) = 1; decide), fun u => absurd u no⟩, fun u => absurd u no⟩
  · obtain ⟨_, p, k, rl⟩ := h
    have no : ¬isNm T len a := fun u => by have := u.1; omega
    exact ⟨⟨fun u => by rw [k] at u; exact absurd u (by show ¬(6 : Int) = 1; decide), fun u => absurd u no⟩, fun u => absurd u no⟩
  · obtain ⟨_, i', hi', k, rl, s, w⟩ := h
    have no : ¬isNm T len a := fun u => by have := u.2; omega
    exact ⟨⟨fun u => by rw [k] at u; exact absurd u (by show ¬(2 : Int) = 1; decide), fun u => absurd u no⟩, fun u => absurd u no⟩
  · obtain ⟨_, L, lo, l1, l2, nn, k, rl, s, w⟩ := h
    have no : ¬isNm T len a := fun u => by have := u.2; omega
    exact ⟨⟨fun u => by rw [k] at u; exact absurd u (by show ¬(3 : Int) = 1; decide), fun u => absurd u no⟩, fun u => absurd u no⟩
  · obtain ⟨_, v, vb, k, rl, s, e⟩ := h
    refine ⟨⟨fun _ => ⟨rl, s⟩, fun _ => by rw [k]⟩, fun _ => ⟨by rw [k, e], by omega, by omega⟩⟩
  · obtain ⟨_, k, rl, s, v⟩ := h
    have no : ¬isNm T len a := fun u => by have := u.2; omega
    exact ⟨⟨fun u => by rw [k] at u; exact absurd u (by show ¬(5 : Int) = 1; decide), fun u => absurd u no⟩, fun u => absurd u no⟩
/-- faults of a sign are told at one place -/
theorem plc_same {T : Nat → Int} {len a : Nat} (al : a ≤ len) : (if (kdP T len a).1 = 6 then (kdP T len a).2 else (a : Int)) = tkQ T len a := by
  unfold tkQ
  rcases sign_is T al with h | h | h | h | h | h
  · obtain ⟨_, k, rl, s⟩ := h
    rw [k, rl, if_pos rfl]; exact if_neg (show ¬(0 : Int) = 6 from by decide)
  · obtain ⟨_, p, k, rl⟩ := h
    rw [k, rl, if_neg (show ¬(p : Int) = -1 from by omega)]; exact if_pos rfl
  · obtain ⟨_, i', hi', k, rl, s, w⟩ := h
    rw [k, rl, if_pos rfl]; exact if_neg (show ¬(2 : Int) = 6 from by decide)
  · obtain ⟨_, L, lo, l1, l2, nn, k, rl, s, w⟩ := h
    rw [k, rl, if_pos rfl]; exact if_neg (show ¬(3 : Int) = 6 from by decide)
  · obtain ⟨_, v, vb, k, rl, s, e⟩ := h
    rw [k, rl, if_pos rfl]; exact if_neg (show ¬(1 : Int) = 6 from by decide)
  · obtain ⟨_, k, rl, s, v⟩ := h
    rw [k, rl, if_pos rfl]; exact if_neg (show ¬(5 : Int) = 6 from by decide)
