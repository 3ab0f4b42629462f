/-! the class cuts the text -/
def posA (T : Nat → Int) (len : Nat) : Nat → Nat
  | 0 => sk T len 0
  | i + 1 => nx T len (posA T len i)
def askA (T : Nat → Int) (len : Nat) : Nat → Bool
  | 0 => false
  | i + 1 => decide ((kdC T len (askA T len i) (posA T len i)).1 = 2 ∧ (kdC T len (askA T len i) (posA T len i)).2 = 10)
abbrev kdA (T : Nat → Int) (len i : Nat) : Int × Int := kdC T len (askA T len i) (posA T len i)
def WDs (m : Mem) (T : Nat → Int) (len k : Nat) : Prop := ∀ i, i < k → m 8 i = pkw (kdA T len i).1 ((posA T len i : Nat) : Int) (kdA T len i).2 ∧ okPk (kdA T len i).1 ((posA T len i : Nat) : Int) (kdA T len i).2
/-- the class's words hold K signs of the text -/
def WD (m : Mem) (T : Nat → Int) (len K : Nat) : Prop := m 6 2 = (K : Int) ∧ 1 ≤ K ∧ K ≤ 1601 ∧ WDs m T len K ∧ (∀ i, i + 1 < K → posA T len i < len ∧ ¬(kdA T len i).1 = 6) ∧ (posA T len (K - 1) = len ∨ (kdA T len (K - 1)).1 = 6) ∧ ∀ i, i < K → posA T len i ≤ len
def CuF (m m2 : Mem) : Prop := ∀ a j, ¬(a = 6 ∧ (j = 2 ∨ j = 3 ∨ j = 4)) → ¬(a = 8 ∨ a = 9 ∨ a = 10) → m2 a j = m a j
theorem cuf_refl (m : Mem) : CuF m m := fun _ _ _ _ => rfl
theorem cuf_put {m m2 m3 : Mem} {k : Nat} {a b c : Int} (h : CuF m m2) (p : Put m2 m3 k a b c) : CuF m m3 := fun x j h1 h2 => by
  rw [p.2.2.2.2 x j h1 (fun u => h2 (Or.inl u.1))]
  exact h x j h1 h2
theorem cuf_ro {m m2 : Mem} (h : CuF m m2) {a : Nat} (h1 : ¬a = 6) (h2 : ¬(a = 8 ∨ a = 9 ∨ a = 10)) : m2 a = m a := funext fun j => h a j (fun u => h1 u.1) h2
/-- a number that no object has holds no reference -/
theorem isRef_0 {a k : Nat} (h : shK a = 0) : isRef a k = false := by
  unfold isRef
  rw [h]
  rfl
theorem cuf_refs {m m2 : Mem} (h : CuF m m2) (r : Refs m) : Refs m2 := refs_of r fun a j hk => h a j (fun u => by
    rcases u with ⟨ua, u | u | u⟩ <;> rw [ua, u] at hk
    · exact absurd hk (by decide +kernel)
    · exact absurd hk (by decide +kernel)
    · exact absurd hk (by decide +kernel)) (fun u => by
    rcases u with ua | ua | ua <;> rw [ua] at hk
    · rw [arr_ref (by decide +kernel)] at hk; exact absurd hk (by decide)
    · rw [isRef_0 (by decide +kernel)] at hk; exact absurd hk (by decide)
    · rw [isRef_0 (by decide +kernel)] at hk; exact absurd hk (by decide))
def CI (m0 m : Mem) (T : Nat → Int) (len p k : Nat) : Prop := Refs m ∧ CuF m0 m ∧ m 6 2 = (k : Int) ∧ k ≤ p ∧ p ≤ len ∧ (m 6 3 = if k = 0 then 0 else (kdA T len (k - 1)).1) ∧ (m 6 4 = if askA T len k = true then 1 else 0) ∧ WDs m T len k ∧ (∀ i, i < k → posA T len i < len ∧ (i + 1 < k → ¬(kdA T len i).1 = 6)) ∧ (¬m 6 3 = 6 → sk T len p = posA T len k ∧ (posA T len k < len → cln T (posA T len k)))
theorem x_cut {N : Nat} (hN : 2000 ≤ N) {m : Mem} (r : Refs m) (ks : Kst m) {len : Nat} (hl : len ≤ 1600) (hb : ∀ j : Nat, j < len → 0 ≤ m 4 j ∧ m 4 j ≤ 255) : ∃ m2 K, X8_cut N 6 4 (len : Int) m = some m2 ∧ Refs m2 ∧ CuF m m2 ∧ WD m2 (m 4) len K := by
  obtain ⟨T, hT⟩ : ∃ T, T = m 4 := ⟨_, rfl⟩
  rw [← hT]
  have X : Wp (X8_cut N 6 4 (len : Int) m) (fun m2 => Refs m2 ∧ CuF m m2 ∧ ∃ K, WD m2 T len K) := by
    obtain ⟨Q, hQ⟩ : ∃ Q : Mem → Prop, Q = fun m2 => Refs m2 ∧ CuF m m2 ∧ ∃ K, WD m2 T len K := ⟨_, rfl⟩
    rw [← hQ]
    unfold X8_cut
    refine wp_k k6w ?_
    refine wp_b (ptI (by decide +kernel) _ _) ?_
    refine wp_b (ptI (by decide +kernel) _ _) ?_
    refine wp_b (ptZ0 (by decide +kernel) _) ?_
    obtain ⟨m0, hm0⟩ : ∃ m0, m0 = up (up (up m 6 2 0) 6 3 0) 6 4 0 := ⟨_, rfl⟩
    rw [← hm0]
    have c0 : CuF m m0 := fun a j h1 h2 => by
      rw [hm0]
      unfold up
      rw [if_neg (by omega), if_neg (by omega), if_neg (by omega)]
    -- the end
    have fin : ∀ (mm : Mem) (p k : Nat), CI m mm T len p k → (len ≤ p ∨ mm 6 3 = 6) → Wp ((getI 8 3 6 mm).bind fun t15 => if t15 = 6 then some mm else (X8_put 6 0 (len : Int) (len : Int) mm).bind fun p16 => some p16) Q := fun mm p k ci hp => by
      obtain ⟨rr, cf, i4, kp, pl, i5, i6, ws, ap, nxt⟩ := ci
      refine wp_b (gtI (by decide +kernel) mm) ?_
      by_cases q : mm 6 3 = 6
      · rw [if_pos q, hQ]
        have k0 : ¬k = 0 := fun u => by rw [if_pos u] at i5; omega
        rw [if_neg k0] at i5
        exact wp_some ⟨rr, cf, k, i4, by omega, by omega, ws, fun i hi => ⟨(ap i (by omega)).1, (ap i (by omega)).2 hi⟩, Or.inr (by rw [← i5]; exact q), fun i hi => Nat.le_of_lt (ap i hi).1⟩
      · rw [if_neg q]
        obtain ⟨n1, n2⟩ := nxt q
        have pe : p = len := by
          rcases hp with h | h
          · omega
          · exact absurd h q
        have ek : posA T len k = len := by
          rw [← n1, pe]
          exact run_n (by omega)
        obtain ⟨m2, e2, pt⟩ := x_put rr i4 (by omega) 0 (len : Int) (len : Int) (by unfold okPk; omega)
        refine wp_b e2 ?_
        rw [hQ]
        have kd : kdA T len k = (0, (len : Int)) := by
          show kdC T len _ (posA T len k) = _
          unfold kdC
          rw [if_pos (by omega)]
        refine wp_some ⟨put_refs pt rr, cuf_put cf pt, k + 1, pt.1, by omega, by omega, fun i hi => ?_, fun i hi => ⟨(ap i (by omega)).1, ?_⟩, Or.inl ek, fun i hi => ?_⟩
        · by_cases y : i = k
          · subst y
            rw [kd]
            rw [ek]
            exact pt.2.2.2.1
          · have o := pt.2.2.2.2
            rw [o 8 i (by omega) (by omega)]
            exact ws i (by omega)
        · by_cases y : i + 1 < k
          · exact (ap i (by omega)).2 y
          · have ei : i = k - 1 := by omega
            rw [if_neg (show ¬k = 0 from by omega)] at i5
            rw [ei, ← i5]
            exact q
        · by_cases y : i = k
          · rw [y, ek]; exact Nat.le_refl _
          · exact Nat.le_of_lt (ap i (by omega)).1
    refine lw_2 (fun j (x : Int) mm => ∃ p k : Nat, x = (p : Int) ∧ j ≤ p ∧ CI m mm T len p k) (fun F x i mm => X8_cut_L20 N _ F 6 4 (len : Int) x i mm) len Q (fun F j x mm hj hI ih => ?_) (fun F x mm hI => ?_) N 0 m0 (by omega) ⟨0, 0, rfl, Nat.le_refl _, cuf_refs c0 r, c0, ?_, Nat.le_refl _, Nat.zero_le _, ?_, ?_, fun i hi => absurd hi (Nat.not_lt_zero i), fun i hi => absurd hi (Nat.not_lt_zero i), fun _ => ⟨rfl, fun _ => cln_0 T len⟩⟩
    · obtain ⟨p, k, hx, jp, ci⟩ := hI
      subst hx
      obtain ⟨rr, cf, i4, kp, pl, i5, i6, ws, ap, nxt⟩ := id ci
      have e4 : mm 4 = T := by rw [hT]; exact cuf_ro cf (by decide) (by decide)
      show Wp (X8_cut_L20_b N _ (X8_cut_L20 N _ F) 6 4 (len : Int) (p : Int) (j : Int) mm) Q
      unfold X8_cut_L20_b
      rw [if_neg (by omega)]
      by_cases q : len ≤ p
      · rw [if_pos (by omega)]
        exact fin mm p k ci (Or.inl q)
      · rw [if_neg (by omega)]
        refine wp_b (gtI (by decide +kernel) mm) ?_
        by_cases q5 : mm 6 3 = 6
        · rw [if_pos q5]
          exact fin mm p k ci (Or.inr q5)
        · rw [if_neg q5]
          obtain ⟨n1, n2⟩ := nxt q5
          refine wp_b (arI 1600 (by decide +kernel) (by omega) (by omega) mm) ?_
          rw [Int.toNat_natCast, e4]
          refine wp_b (x_isBlank _ mm) ?_
          by_cases qb : isBl (T p)
          · rw [← bi_t qb, if_neg (by decide)]
            unfold X8_cut_J62
            refine ih _ _ mm (by first | omega | (simp (disch := omega) only [wI_of2] <;> omega)) ⟨p + 1, k, by rw [wI_of2 (by omega) (by omega)]; omega, by omega, rr, cf, i4, by omega, by omega, i5, i6, ws, ap, fun _ => ⟨?_, n2⟩⟩
            rw [← n1]
            exact (run_y (by omega) (cBl_i.mpr qb)).symm
          · rw [← bi_f qb, if_pos rfl]
            have ep : posA T len k = p := by
              rw [← n1]
              exact run_n (fun u => qb (cBl_i.mp u.2))
            have cp : cln T p := by have := n2 (by omega); rw [ep] at this; exact this
            obtain ⟨m2, e2, pt⟩ := x_cutOne hN rr (kst_off ks (cuf_ro cf (by decide) (by decide)) (cuf_ro cf (by decide) (by decide)) (cuf_ro cf (by decide) (by decide))) i4 (by omega) (ask := askA T len k) i6 hl (fun j hj => by rw [e4, hT]; exact hb j hj) (a := p) (by omega) (by rw [e4]; exact cp)
            rw [e4] at e2 pt
            have kd : kdA T len k = kdC T len (askA T len k) p := by
              show kdC T len _ (posA T len k) = _
              rw [ep]
            rw [← kd] at pt
            obtain ⟨t1, t2⟩ := tE_in (T := T) (show p < len from by omega)
            refine wp_b e2 ?_
            unfold X8_cut_J62
            refine ih _ _ m2 (by first | omega | (simp (disch := omega) only [wI_of2] <;> omega)) ⟨tE T len p, k + 1, rfl, by omega, put_refs pt rr, cuf_put cf pt, pt.1, by omega, t2, ?_, ?_, fun i hi => ?_, fun i hi => ⟨?_, fun h => ?_⟩, fun h => ⟨?_, fun g => ?_⟩⟩
            · rw [pt.2.1, if_neg (by omega)]
              rfl
            · rw [pt.2.2.1]
              show (if (kdA T len k).1 = 2 ∧ (kdA T len k).2 = 10 then (1 : Int) else 0) = if decide ((kdA T len k).1 = 2 ∧ (kdA T len k).2 = 10) = true then 1 else 0
              by_cases y : (kdA T len k).1 = 2 ∧ (kdA T len k).2 = 10
              · rw [if_pos y, if_pos (decide_eq_true y)]
              · rw [if_neg y, if_neg (by rw [decide_eq_true_iff]; exact y)]
            · by_cases y : i = k
              · subst y
                rw [ep]
                exact pt.2.2.2.1
              · have o := pt.2.2.2.2
                rw [o 8 i (by omega) (by omega)]
                exact ws i (by omega)
            · by_cases y : i = k
              · rw [y, ep]; omega
              · exact (ap i (by omega)).1
            · by_cases y : i + 1 < k
              · exact (ap i (by omega)).2 y
              · have ei : i = k - 1 := by omega
                rw [if_neg (show ¬k = 0 from by omega)] at i5
                rw [ei, ← i5]
                exact q5
            · show sk T len (tE T len p) = nx T len (posA T len k)
              rw [ep]; rfl
            · have e1 : posA T len (k + 1) = nx T len p := by
                show nx T len (posA T len k) = _
                rw [ep]
              rw [e1] at g ⊢
              exact cln_nx (by omega) g
    · obtain ⟨p, k, hx, jp, ci⟩ := hI
      subst hx
      show Wp (X8_cut_L20_b N _ (X8_cut_L20 N _ F) 6 4 (len : Int) (p : Int) (len : Int) mm) Q
      unfold X8_cut_L20_b
      rw [if_pos (Int.le_refl _)]
      exact fin mm p k ci (Or.inl jp)
    · rw [hm0, up_slot (by decide), up_slot (by decide), up_same]; rfl
    · rw [hm0, up_slot (by decide), up_same, if_pos rfl]
    · rw [hm0, up_same]
      rfl
  obtain ⟨m2, e, h1, h2, K, h3⟩ := X
  exact ⟨m2, K, e, h1, h2, h3⟩
