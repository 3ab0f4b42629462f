theorem cl_L_7 : Cond.classLink RL 7 RX10 ∈ tb := tbi_1 (i := 21) rfl rfl
theorem cl_L_10 : Cond.classLink RL 10 RX11 ∈ tb := tbi_6 (i := 106) rfl rfl
theorem il_L_9 : IL RL 9 yX10_init cX10_init 1 := ⟨tbi_1 (i := 23) rfl rfl, tbi_1 (i := 24) rfl rfl, tbi_1 (i := 1) rfl rfl, tbi_1 (i := 25) rfl rfl, ⟨by decide +kernel, by decide +kernel, by decide +kernel⟩, by decide, rfl⟩
theorem il_L_12 : IL RL 12 yX11_init cX11_init 1 := ⟨tbi_6 (i := 108) rfl rfl, tbi_6 (i := 109) rfl rfl, tbi_1 (i := 16) rfl rfl, tbi_6 (i := 110) rfl rfl, ⟨by decide +kernel, by decide +kernel, by decide +kernel⟩, by decide, rfl⟩
theorem j_widen {g : Gm} {w : Wd} {nL : Nat} {R : Room} {Q : State → Prop} {pc : Nat} {ls : List (Option V)} {st : List V} {n : Nat} {m : Mem} {cs sl cs' sl' : Nat} (h1 : cs ≤ cs') (h2 : sl ≤ sl') (k : Jd g w nL R Q pc ls st n m cs' sl') : Jd g w nL R Q pc ls st n m cs sl := by
  intro H locs la hR hS hl ho hs
  exact W.widen h1 h2 (k H locs la hR hS hl ho hs)
/-! the law from its entry -/
/-- what is owed of the pure law: on every script it comes to its end -/
def LawTrue : Prop := ∀ (xs : Nat → Int) (LL : Nat), LL ≤ 3072 → (∀ j, inI (xs j)) → ∃ (N : Nat) (out : Mem), law_L N xs LL N 0 (mo LM) = some out
theorem pick12 {P : Nat → Prop} (h : P 0 ∧ P 1 ∧ P 2 ∧ P 3 ∧ P 4 ∧ P 5 ∧ P 6 ∧ P 7 ∧ P 8 ∧ P 9 ∧ P 10 ∧ P 11) : ∀ k, k < 12 → P k := by
  intro k hk
  rcases (by omega : k = 0 ∨ k = 1 ∨ k = 2 ∨ k = 3 ∨ k = 4 ∨ k = 5 ∨ k = 6 ∨ k = 7 ∨ k = 8 ∨ k = 9 ∨ k = 10 ∨ k = 11) with e | e | e | e | e | e | e | e | e | e | e | e <;> subst e
  · exact h.1
  · exact h.2.1
  · exact h.2.2.1
  · exact h.2.2.2.1
  · exact h.2.2.2.2.1
  · exact h.2.2.2.2.2.1
  · exact h.2.2.2.2.2.2.1
  · exact h.2.2.2.2.2.2.2.1
  · exact h.2.2.2.2.2.2.2.2.1
  · exact h.2.2.2.2.2.2.2.2.2.1
  · exact h.2.2.2.2.2.2.2.2.2.2.1
  · exact h.2.2.2.2.2.2.2.2.2.2.2
theorem classes_of {s : State} {a : Array Value} (hw : ∀ q ∈ tb, q.before a s = true) (hI : ∀ k, k < 12 → ∃ n, (vwCl[k]?).map (fun q => (Cond.instantiable q.1 n).before a s) = some true) : ∃ (dC : Nat → ClassId) (dI : Nat → Nat → Nat), ∀ (k : Nat) (q : vw_C), vwCl[k]? = some q → u_Kn s q.1 q.2.1 q.2.2 (dC k) (dI k) := by
  have key : ∀ k : Nat, ∃ x : ClassId × (Nat → Nat), ∀ q : vw_C, vwCl[k]? = some q → u_Kn s q.1 q.2.1 q.2.2 x.1 x.2 := by
    intro k
    rcases Nat.lt_or_ge k 12 with hk | hk
    · obtain ⟨n, hn⟩ := hI k hk
      cases hq : vwCl[k]? with
      | none => rw [hq] at hn; cases hn
      | some q =>
        rw [hq] at hn
        have hin : ∀ w ∈ u_ws q.1 q.2.1 q.2.2, w ∈ tb := by
          have : ∀ k, k < 12 → ∀ q, vwCl[k]? = some q → ∀ w ∈ u_ws q.1 q.2.1 q.2.2, w ∈ tb := pick12 ⟨fun q e => by cases e; exact CF0.2.1, fun q e => by cases e; exact CF1.2.1, fun q e => by cases e; exact CF2.2.1, fun q e => by cases e; exact CF3.2.1, fun q e => by cases e; exact CF4.2.1, fun q e => by cases e; exact CF5.2.1, fun q e => by cases e; exact CF6.2.1, fun q e => by cases e; exact CF7.2.1, fun q e => by cases e; exact CF8.2.1, fun q e => by cases e; exact CF9.2.1, fun q e => by cases e; exact CF10.2.1, fun q e => by cases e; exact CF11.2.1⟩
          exact this k hk q hq
        obtain ⟨c, i, h⟩ := u_known (C := q.1) (T := q.2.1) (N := q.2.2) (n := n) hw hin (Option.some.inj hn)
        exact ⟨(c, i), fun q' e => by cases e; exact h⟩
    · exact ⟨(0, fun _ => 0), fun q e => by
        have : vwCl.length = 12 := rfl
        rw [List.getElem?_eq_none (by omega)] at e; cases e⟩
  obtain ⟨f, hf⟩ := Classical.axiomOfChoice key
  exact ⟨fun k => (f k).1, fun k => (f k).2, hf⟩
def strBy : List Int32 := strI.map Int32.ofInt
theorem str_pl : ((flatC (Jvm.Cond.and given_1 narrow_1)).drop 35).take 146 = (List.range 146).map (fun j => Cond.eq (.elem (.field (.string "DewBaron$Words" 29) "java/lang/String" "value" "[B") (.int (Int32.ofNat j))) (.int (strBy.getD j 0))) := by decide +kernel
theorem str_el (j : Nat) (hj : j < 146) : Cond.eq (.elem (.field (.string "DewBaron$Words" 29) "java/lang/String" "value" "[B") (.int (Int32.ofNat j))) (.int (strBy.getD j 0)) ∈ flatC (Jvm.Cond.and given_1 narrow_1) := by
  refine List.mem_of_mem_drop (i := 35) (List.mem_of_mem_take (i := 146) ?_)
  rw [str_pl]
  exact List.mem_map.mpr ⟨j, List.mem_range.mpr hj, rfl⟩
theorem acr_el : ∀ j : Nat, j < 8 → Cond.eq (.elem (.static "DewBaron$Plan" "ACROSS" "[I") (.int (Int32.ofNat j))) (.int (Int32.ofInt (mst 1 j))) ∈ flatC (Jvm.Cond.and given_1 narrow_1) := by decide +kernel
theorem dow_el : ∀ j : Nat, j < 8 → Cond.eq (.elem (.static "DewBaron$Plan" "DOWNWARD" "[I") (.int (Int32.ofNat j))) (.int (Int32.ofInt (mst 2 j))) ∈ flatC (Jvm.Cond.and given_1 narrow_1) := by decide +kernel
theorem fl1 : Cond.arrayOf (.static "DewBaron$Plan" "ACROSS" "[I") .int ∈ flatC (Jvm.Cond.and given_1 narrow_1) ∧ Cond.eq (.length (.static "DewBaron$Plan" "ACROSS" "[I")) (.int 8) ∈ flatC (Jvm.Cond.and given_1 narrow_1) := by decide +kernel
theorem fl2 : Cond.arrayOf (.static "DewBaron$Plan" "DOWNWARD" "[I") .int ∈ flatC (Jvm.Cond.and given_1 narrow_1) ∧ Cond.eq (.length (.static "DewBaron$Plan" "DOWNWARD" "[I")) (.int 8) ∈ flatC (Jvm.Cond.and given_1 narrow_1) := by decide +kernel
theorem fl3 : Cond.eq (.static "java/lang/String" "COMPACT_STRINGS" "Z") (.int 1) ∈ flatC (Jvm.Cond.and given_1 narrow_1) ∧ Cond.isRef (.static "jdk/internal/util/Preconditions" "SIOOBE_FORMATTER" "Ljava/util/function/BiFunction;") ∈ flatC (Jvm.Cond.and given_1 narrow_1) := by decide +kernel
theorem fl4 : Cond.exactly (.string "DewBaron$Words" 29) "java/lang/String" ∈ flatC (Jvm.Cond.and given_1 narrow_1) ∧ Cond.eq (.field (.string "DewBaron$Words" 29) "java/lang/String" "coder" "B") (.int 0) ∈ flatC (Jvm.Cond.and given_1 narrow_1) ∧ Cond.arrayOf (.field (.string "DewBaron$Words" 29) "java/lang/String" "value" "[B") .byte ∈ flatC (Jvm.Cond.and given_1 narrow_1) ∧ Cond.eq (.length (.field (.string "DewBaron$Words" 29) "java/lang/String" "value" "[B")) (.int 146) ∈ flatC (Jvm.Cond.and given_1 narrow_1) := by decide +kernel
theorem tw1 : Cond.laysStatic RX5 "ACROSS" "[I" ∈ lw_tbl ∧ Cond.laysStatic RX5 "DOWNWARD" "[I" ∈ lw_tbl ∧ Cond.laysStatic "java/lang/String" "COMPACT_STRINGS" "Z" ∈ lw_tbl ∧ Cond.laysStatic "jdk/internal/util/Preconditions" "SIOOBE_FORMATTER" "Ljava/util/function/BiFunction;" ∈ lw_tbl := by decide +kernel
theorem tw2 : Cond.initialized RX5 ∈ lw_tbl ∧ Cond.initialized "java/lang/String" ∈ lw_tbl ∧ Cond.initialized "jdk/internal/util/Preconditions" ∈ lw_tbl ∧ Cond.arrayClass .int ∈ lw_tbl ∧ Cond.arrayClass .long ∈ lw_tbl ∧ Cond.arrayOver (.array .int) ∈ lw_tbl ∧ Cond.arrayOver (.object RX1) ∈ lw_tbl ∧ Cond.stringRef RX8 29 strT ∈ lw_tbl := by decide +kernel
theorem tw3 : ∀ k, k < 12 → ∃ n, ∀ q, vwCl[k]? = some q → Cond.instantiable q.1 n ∈ lw_tbl := pick12 ⟨⟨10, fun q e => by cases e; decide +kernel⟩, ⟨4, fun q e => by cases e; decide +kernel⟩, ⟨5, fun q e => by cases e; decide +kernel⟩, ⟨9, fun q e => by cases e; decide +kernel⟩, ⟨3, fun q e => by cases e; decide +kernel⟩, ⟨20, fun q e => by cases e; decide +kernel⟩, ⟨12, fun q e => by cases e; decide +kernel⟩, ⟨6, fun q e => by cases e; decide +kernel⟩, ⟨5, fun q e => by cases e; decide +kernel⟩, ⟨5, fun q e => by cases e; decide +kernel⟩, ⟨19, fun q e => by cases e; decide +kernel⟩, ⟨78, fun q e => by cases e; decide +kernel⟩⟩
theorem mst_ok : ∀ a k, okC a k (mst a k) := by
  intro a k
  have h : ∀ x, (x = 0 ∨ x = 1 ∨ x = -1) → okC a k x := fun x hx => ⟨fun _ => by unfold inI; omega, fun _ => by unfold inL; omega⟩
  apply h
  unfold mst
  split
  · rcases Nat.lt_or_ge k 8 with q | q
    · exact (show ∀ k, k < 8 → (([0, 1, 0, -1, 1, 1, -1, -1] : List Int).getD k 0 = 0 ∨ ([0, 1, 0, -1, 1, 1, -1, -1] : List Int).getD k 0 = 1 ∨ ([0, 1, 0, -1, 1, 1, -1, -1] : List Int).getD k 0 = -1) by decide) k q
    · rw [List.getD_eq_getElem?_getD, List.getElem?_eq_none (by simpa using q)]; exact Or.inl rfl
  · split
    · rcases Nat.lt_or_ge k 8 with q | q
      · exact (show ∀ k, k < 8 → (([-1, 0, 1, 0, -1, 1, 1, -1] : List Int).getD k 0 = 0 ∨ ([-1, 0, 1, 0, -1, 1, 1, -1] : List Int).getD k 0 = 1 ∨ ([-1, 0, 1, 0, -1, 1, 1, -1] : List Int).getD k 0 = -1) by decide) k q
      · rw [List.getD_eq_getElem?_getD, List.getElem?_eq_none (by simpa using q)]; exact Or.inl rfl
    · exact Or.inl rfl
set_option maxHeartbeats 4000000 in
set_option maxRecDepth 100000 in
theorem start_of (HL : LawTrue) {p : Program} {e : Env} {s : State} {m : MethodId} {below : List Frame} {meth : Method} {c : Code} (l : Launch) {b L : Nat} {xs : Nat → Int32} (hL : L ≤ 3072) (C0 : lw_At p s m meth c b L xs) : W p l e room_1 s m #[Value.ref b] below meth c s.heap [] 0 0 (lw_Z below #[Value.ref b] s) (entryFrame m ([Value.ref b] : List Value).toArray 4) := by
  obtain ⟨hx, hb, hr, hml, hown, hts, hX, hbl, hlocks, hgv⟩ := id C0
  have hs := flat_of_before _ hgv
  have hw : ∀ q ∈ tb, q.before #[.ref b] s = true := fun q hq => hts q (List.mem_filter.mp hq).1
  have hA : ∀ a : Nat, a < s.heap.size → ¬ (s.heap.size ≤ a) := fun a h => Nat.not_le.mpr h
  obtain ⟨dC, dI, hKc⟩ := classes_of hw (fun k hk => by
    obtain ⟨n, hn⟩ := tw3 k hk
    refine ⟨n, ?_⟩
    cases hq : vwCl[k]? with
    | none => exact absurd hq (by have : vwCl.length = 12 := rfl
                                  rw [List.getElem?_eq_getElem (by omega)]; exact fun z => by cases z)
    | some q => simp only [Option.map_some]; rw [hts _ (hn q hq)])
  obtain ⟨cI, kI, pI, i1, i2, i3⟩ := Cond.arrayClass_spec (hts _ tw2.2.2.2.1)
  obtain ⟨cJ, kJ, pJ, j1, j2, j3⟩ := Cond.arrayClass_spec (hts _ tw2.2.2.2.2.1)
  obtain ⟨pA, cA, kA, a1, a2, a3, a4, a5⟩ := arrayOverA_spec (hts _ tw2.2.2.2.2.2.1)
  obtain ⟨pB, cB, kB, b1, b2, b3, b4, b5⟩ := Cond.arrayOver_spec (hts _ tw2.2.2.2.2.2.2.1)
  obtain ⟨t1, ht1, hT1⟩ := va_Tof (tm := .static "DewBaron$Plan" "ACROSS" "[I") (ty := .int) (N := 8) (f := fun j => .int (Int32.ofInt (mst 1 j))) (A := fun q => s.heap.size ≤ q) (by decide) (hs _ fl1.1) (va_eqt (hs _ fl1.2)) (fun j hj => va_eqt (hs _ (acr_el j hj))) hA
  obtain ⟨t2, ht2, hT2⟩ := va_Tof (tm := .static "DewBaron$Plan" "DOWNWARD" "[I") (ty := .int) (N := 8) (f := fun j => .int (Int32.ofInt (mst 2 j))) (A := fun q => s.heap.size ≤ q) (by decide) (hs _ fl2.1) (va_eqt (hs _ fl2.2)) (fun j hj => va_eqt (hs _ (dow_el j hj))) hA
  obtain ⟨adK, adV, hSt, hev⟩ := vk_Sof (s := s) (args := #[.ref b]) (N := 1) (tm := fun _ => .string "DewBaron$Words" 29) (len := [146]) (byt := [strBy]) (A := fun q => s.heap.size ≤ q) (fun i hi => by rw [show i = 0 by omega]; decide) (fun i hi => hs _ fl4.1) (fun i hi => hs _ fl4.2.1) (fun i hi => hs _ fl4.2.2.1) (fun i hi => by rw [show i = 0 by omega]; exact hs _ fl4.2.2.2) (fun i hi j hj => by
    rw [show i = 0 by omega] at hj ⊢
    exact hs _ (str_el j hj)) (fun i j hi hj hn => absurd (show i = j by omega) hn) hA
  obtain ⟨hSt0, -⟩ := hSt
  obtain ⟨g1, g2, g3, g4⟩ := hSt0 0 (by decide)
  have hk := hev 0 (by decide)
  let w : Wd := ((dC, dI), (fun a => if a = 1 then t1 else if a = 2 then t2 else if a = 1000 then b else if a = 20000 then adK 0 else if a = 20001 then adV 0 else s.heap.size + (a - 3) - ghc a), (fun k => if k = 0 then cI else if k = 1 then cJ else if k = 2 then cA else cB), s.heap.size)
  have hKn : va_K (wD w) vwCl (tysW w) s := by
    refine ⟨hKc, fun k q hq => ?_⟩
    rcases (show k = 0 ∨ k = 1 ∨ k = 2 ∨ k = 3 by have h := (List.getElem?_eq_some_iff.mp hq).1; have : (tysW w).length = 4 := rfl; omega) with e | e | e | e <;> subst e <;> cases hq
    · exact ⟨fun n z => ⟨(fun k h => by cases h), kI, i2, pI, i3⟩, i1⟩
    · exact ⟨fun n z => ⟨(fun k h => by cases h), kJ, j2, pJ, j3⟩, j1⟩
    · exact ⟨fun n z => ⟨(fun k h => by cases h), kA, a3, pA, a4⟩, a5⟩
    · exact ⟨fun n z => ⟨(fun k h => by cases h), kB, b3, pB, b4⟩, kB, pB, b3, b4, b1, b5⟩
  have hRS : RelS w s := by
    refine ⟨hKn, fun a h1 h2 => ?_, (Array.getElem?_eq_some_iff.mp hT1.choose_spec.1).1, (Array.getElem?_eq_some_iff.mp hT2.choose_spec.1).1, va_Zof (hts _ tw1.1) (hts _ tw2.1) ht1 hA, va_Zof (hts _ tw1.2.1) (hts _ tw2.1) ht2 hA, Nat.le_refl _, fun q hq => ?_, va_AO.of (hts _ tw2.2.2.2.2.2.2.1), over_moved (u := s) (E := s) (Vm.Alike.refl _) (hts _ tw2.2.2.2.2.2.1), ?_⟩
    · show (if a = 1 then t1 else if a = 2 then t2 else if a = 1000 then b else if a = 20000 then adK 0 else if a = 20001 then adV 0 else s.heap.size + (a - 3) - ghc a) + ghc a = s.heap.size + (a - 3)
      rw [if_neg (by omega), if_neg (by omega), if_neg (by omega), if_neg (by omega), if_neg (by omega)]
      have := ghc_c a
      omega
    · have hq2 := List.mem_filter.mp hq
      refine va_Nw.of ?_ (hts _ hq2.1)
      have hb2 := hq2.2
      cases q <;> first | rfl | cases hb2
    · refine ⟨vk_R.of (hts _ tw2.2.2.2.2.2.2.2) hk, g1, g2, g3, ?_, va_Zof (hts _ tw1.2.2.1) (hts _ tw2.2.1) (va_eqi (hs _ fl3.1)) hA, va_Zqof (hts _ tw1.2.2.2) (hts _ tw2.2.2.1) (hs _ fl3.2) hA, hT1, hT2⟩
      have e : (fun j => Value.int (([strBy].getD 0 []).getD j 0)) = fun j => Value.int (Int32.ofInt (strI.getD j 0)) := by
        funext j
        show Value.int (strBy.getD j 0) = _
        unfold strBy
        rw [List.getD_eq_getElem?_getD, List.getD_eq_getElem?_getD, List.getElem?_map]
        cases strI[j]? <;> rfl
      rw [e] at g4
      exact g4
  have hRH : RelH w 2 (mo []) s.heap := ⟨fun a h1 h2 => absurd h2 (by omega), rfl, Nat.le_refl _, mst_ok, fun a ha k => by
    show mst a k = 0
    unfold mst; rw [if_neg (by omega), if_neg (by omega)], fun k => rfl, fun k => rfl⟩
  let g : Gm := (p, l, e, s, m, #[Value.ref b], below, meth, c)
  have C : Cx g w RL cL_law 4 ret := ⟨hx, hb, hml, hown, hw, hlocks, hr, hRS⟩
  have SC : SX g w (fun j => (xs j).toInt) L := by
    refine ⟨?_, hbl, rfl, hL, fun j => inI_toInt _, rfl⟩
    have e : (fun j => Int32.ofInt ((xs j).toInt)) = xs := by funext j; rw [Int32.ofInt_toInt]
    rw [e]
    exact hX
  obtain ⟨N, out, hlaw⟩ := HL (fun j => (xs j).toInt) L hL (fun j => inI_toInt _)
  have K : Jd g w 4 room_1 (lw_Z below #[Value.ref b] s) 0 [some (vR 1000), none, none, none] [] 2 (mo []) 0 0 := by
    have h1 : (newO 10 19 2).bind (fun k => if k = 3 then some () else none) = some () := by decide +kernel
    refine j_new (ci := 10) C dL_law_0 CF10 cl_L_7 (tbi_1 (i := 22) rfl rfl) (tbi_1 (i := 1) rfl rfl) df10 (Nat.le_of_ble_eq_true rfl) (Nat.le_of_ble_eq_true rfl) h1 (fun n1 hn1 => ?_)
    have en1 := (ite_some hn1).1
    subst en1
    refine j_dup C dL_law_3 rfl ?_
    refine j_callI (lv' := 7) (mc := 256) (ms := 10649) C dL_law_4 il_L_9 (X10_init_ct init_x) (Nat.le_of_ble_eq_true rfl) (Nat.le_of_ble_eq_true rfl) (Nat.le_of_ble_eq_true rfl) (Nat.le_of_ble_eq_true rfl) (Nat.le_of_ble_eq_true rfl) ?_
    refine j_astore_n (ls' := [some (vR _), some (vR _), none, none]) C dL_law_7 (by decide) rfl ?_
    have h2 : (newO 11 78 263).bind (fun k => if k = 264 then some () else none) = some () := by decide +kernel
    refine j_new (ci := 11) C dL_law_8 CF11 cl_L_10 (tbi_6 (i := 107) rfl rfl) (tbi_1 (i := 16) rfl rfl) df11 (Nat.le_of_ble_eq_true rfl) (Nat.le_of_ble_eq_true rfl) h2 (fun n2 hn2 => ?_)
    have en2 := (ite_some hn2).1
    subst en2
    refine j_dup C dL_law_11 rfl ?_
    refine j_callI (lv' := 1) (mc := 48) (ms := 22244) C dL_law_12 il_L_12 (X11_init_ct init_m) (Nat.le_of_ble_eq_true rfl) (Nat.le_of_ble_eq_true rfl) (Nat.le_of_ble_eq_true rfl) (Nat.le_of_ble_eq_true rfl) (Nat.le_of_ble_eq_true rfl) ?_
    refine j_astore_n (ls' := [some (vR _), some (vR _), some (vR _), none]) C dL_law_15 (by decide) rfl ?_
    refine j_iconst C dL_law_16 rfl ?_
    refine j_istore_n (ls' := [some (vR _), some (vR _), some (vR _), some (vI _)]) C dL_law_17 (by decide) rfl ?_
    refine j_widen (cs' := 600000) (sl' := 7302250) (Nat.le_of_ble_eq_true rfl) (Nat.le_of_ble_eq_true rfl) ?_
    exact law_Lok C SC N hlaw
  rw [lg_entry_eq]
  have hl := lv_entry ([Value.ref b]) (n := 4) (Nat.le_of_ble_eq_true rfl)
  refine K s.heap [] _ hRH va_S.rf ?_ ⟨trivial, trivial⟩ trivial
  exact hl
