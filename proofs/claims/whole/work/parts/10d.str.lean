theorem dJ0_length_8abf5_0 : decode cJ0_length_8abf5 0 = .ok (.aload_n 0, 1) := by decide +kernel
theorem dJ0_length_8abf5_1 : decode cJ0_length_8abf5 1 = .ok (.getfield 9, 3) := by decide +kernel
theorem dJ0_length_8abf5_4 : decode cJ0_length_8abf5 4 = .ok (.arraylength, 1) := by decide +kernel
theorem dJ0_length_8abf5_5 : decode cJ0_length_8abf5 5 = .ok (.aload_n 0, 1) := by decide +kernel
theorem dJ0_length_8abf5_6 : decode cJ0_length_8abf5 6 = .ok (.invokevirtual 335, 3) := by decide +kernel
theorem dJ0_length_8abf5_9 : decode cJ0_length_8abf5 9 = .ok (.ishr, 1) := by decide +kernel
theorem dJ0_length_8abf5_10 : decode cJ0_length_8abf5 10 = .ok (.ireturn, 1) := by decide +kernel
theorem dJ0_charAt_5068e_0 : decode cJ0_charAt_5068e 0 = .ok (.aload_n 0, 1) := by decide +kernel
theorem dJ0_charAt_5068e_1 : decode cJ0_charAt_5068e 1 = .ok (.invokevirtual 492, 3) := by decide +kernel
theorem dJ0_charAt_5068e_4 : decode cJ0_charAt_5068e 4 = .ok (.ifCond .eq 12, 3) := by decide +kernel
theorem dJ0_charAt_5068e_7 : decode cJ0_charAt_5068e 7 = .ok (.aload_n 0, 1) := by decide +kernel
theorem dJ0_charAt_5068e_8 : decode cJ0_charAt_5068e 8 = .ok (.getfield 9, 3) := by decide +kernel
theorem dJ0_charAt_5068e_11 : decode cJ0_charAt_5068e 11 = .ok (.iload_n 1, 1) := by decide +kernel
theorem dJ0_charAt_5068e_12 : decode cJ0_charAt_5068e 12 = .ok (.invokestatic 495, 3) := by decide +kernel
theorem dJ0_charAt_5068e_15 : decode cJ0_charAt_5068e 15 = .ok (.ireturn, 1) := by decide +kernel
theorem dJ0_charAt_5068e_16 : decode cJ0_charAt_5068e 16 = .ok (.aload_n 0, 1) := by decide +kernel
theorem dJ0_charAt_5068e_17 : decode cJ0_charAt_5068e 17 = .ok (.getfield 9, 3) := by decide +kernel
theorem dJ0_charAt_5068e_20 : decode cJ0_charAt_5068e 20 = .ok (.iload_n 1, 1) := by decide +kernel
theorem dJ0_charAt_5068e_21 : decode cJ0_charAt_5068e 21 = .ok (.invokestatic 498, 3) := by decide +kernel
theorem dJ0_charAt_5068e_24 : decode cJ0_charAt_5068e 24 = .ok (.ireturn, 1) := by decide +kernel
theorem dJ0_coder_7d493_0 : decode cJ0_coder_7d493 0 = .ok (.getstatic 38, 3) := by decide +kernel
theorem dJ0_coder_7d493_3 : decode cJ0_coder_7d493 3 = .ok (.ifCond .eq 10, 3) := by decide +kernel
theorem dJ0_coder_7d493_6 : decode cJ0_coder_7d493 6 = .ok (.aload_n 0, 1) := by decide +kernel
theorem dJ0_coder_7d493_7 : decode cJ0_coder_7d493 7 = .ok (.getfield 15, 3) := by decide +kernel
theorem dJ0_coder_7d493_10 : decode cJ0_coder_7d493 10 = .ok (.goto 4, 3) := by decide +kernel
theorem dJ0_coder_7d493_13 : decode cJ0_coder_7d493 13 = .ok (.iconst 1, 1) := by decide +kernel
theorem dJ0_coder_7d493_14 : decode cJ0_coder_7d493 14 = .ok (.ireturn, 1) := by decide +kernel
theorem dJ0_isLatin1_aae02_0 : decode cJ0_isLatin1_aae02 0 = .ok (.getstatic 38, 3) := by decide +kernel
theorem dJ0_isLatin1_aae02_3 : decode cJ0_isLatin1_aae02 3 = .ok (.ifCond .eq 14, 3) := by decide +kernel
theorem dJ0_isLatin1_aae02_6 : decode cJ0_isLatin1_aae02 6 = .ok (.aload_n 0, 1) := by decide +kernel
theorem dJ0_isLatin1_aae02_7 : decode cJ0_isLatin1_aae02 7 = .ok (.getfield 15, 3) := by decide +kernel
theorem dJ0_isLatin1_aae02_10 : decode cJ0_isLatin1_aae02 10 = .ok (.ifCond .ne 7, 3) := by decide +kernel
theorem dJ0_isLatin1_aae02_13 : decode cJ0_isLatin1_aae02 13 = .ok (.iconst 1, 1) := by decide +kernel
theorem dJ0_isLatin1_aae02_14 : decode cJ0_isLatin1_aae02 14 = .ok (.goto 4, 3) := by decide +kernel
theorem dJ0_isLatin1_aae02_17 : decode cJ0_isLatin1_aae02 17 = .ok (.iconst 0, 1) := by decide +kernel
theorem dJ0_isLatin1_aae02_18 : decode cJ0_isLatin1_aae02 18 = .ok (.ireturn, 1) := by decide +kernel
theorem dJ0_checkIndex_df160_0 : decode cJ0_checkIndex_df160 0 = .ok (.iload_n 0, 1) := by decide +kernel
theorem dJ0_checkIndex_df160_1 : decode cJ0_checkIndex_df160 1 = .ok (.iload_n 1, 1) := by decide +kernel
theorem dJ0_checkIndex_df160_2 : decode cJ0_checkIndex_df160 2 = .ok (.getstatic 1053, 3) := by decide +kernel
theorem dJ0_checkIndex_df160_5 : decode cJ0_checkIndex_df160 5 = .ok (.invokestatic 1059, 3) := by decide +kernel
theorem dJ0_checkIndex_df160_8 : decode cJ0_checkIndex_df160 8 = .ok (.pop, 1) := by decide +kernel
theorem dJ0_checkIndex_df160_9 : decode cJ0_checkIndex_df160 9 = .ok (.return_, 1) := by decide +kernel
theorem dJ1_charAt_3b067_0 : decode cJ1_charAt_3b067 0 = .ok (.iload_n 1, 1) := by decide +kernel
theorem dJ1_charAt_3b067_1 : decode cJ1_charAt_3b067 1 = .ok (.aload_n 0, 1) := by decide +kernel
theorem dJ1_charAt_3b067_2 : decode cJ1_charAt_3b067 2 = .ok (.arraylength, 1) := by decide +kernel
theorem dJ1_charAt_3b067_3 : decode cJ1_charAt_3b067 3 = .ok (.invokestatic 9, 3) := by decide +kernel
theorem dJ1_charAt_3b067_6 : decode cJ1_charAt_3b067 6 = .ok (.aload_n 0, 1) := by decide +kernel
theorem dJ1_charAt_3b067_7 : decode cJ1_charAt_3b067 7 = .ok (.iload_n 1, 1) := by decide +kernel
theorem dJ1_charAt_3b067_8 : decode cJ1_charAt_3b067 8 = .ok (.baload, 1) := by decide +kernel
theorem dJ1_charAt_3b067_9 : decode cJ1_charAt_3b067 9 = .ok (.sipush 255, 3) := by decide +kernel
theorem dJ1_charAt_3b067_12 : decode cJ1_charAt_3b067 12 = .ok (.iand, 1) := by decide +kernel
theorem dJ1_charAt_3b067_13 : decode cJ1_charAt_3b067 13 = .ok (.i2c, 1) := by decide +kernel
theorem dJ1_charAt_3b067_14 : decode cJ1_charAt_3b067 14 = .ok (.ireturn, 1) := by decide +kernel
theorem dJ3_checkIndex_8e157_0 : decode cJ3_checkIndex_8e157 0 = .ok (.iload_n 0, 1) := by decide +kernel
theorem dJ3_checkIndex_8e157_1 : decode cJ3_checkIndex_8e157 1 = .ok (.ifCond .lt 8, 3) := by decide +kernel
theorem dJ3_checkIndex_8e157_4 : decode cJ3_checkIndex_8e157 4 = .ok (.iload_n 0, 1) := by decide +kernel
theorem dJ3_checkIndex_8e157_5 : decode cJ3_checkIndex_8e157 5 = .ok (.iload_n 1, 1) := by decide +kernel
theorem dJ3_checkIndex_8e157_6 : decode cJ3_checkIndex_8e157 6 = .ok (.if_icmp .lt 10, 3) := by decide +kernel
theorem dJ3_checkIndex_8e157_9 : decode cJ3_checkIndex_8e157 9 = .ok (.aload_n 2, 1) := by decide +kernel
theorem dJ3_checkIndex_8e157_10 : decode cJ3_checkIndex_8e157 10 = .ok (.iload_n 0, 1) := by decide +kernel
theorem dJ3_checkIndex_8e157_11 : decode cJ3_checkIndex_8e157 11 = .ok (.iload_n 1, 1) := by decide +kernel
theorem dJ3_checkIndex_8e157_12 : decode cJ3_checkIndex_8e157 12 = .ok (.invokestatic 95, 3) := by decide +kernel
theorem dJ3_checkIndex_8e157_15 : decode cJ3_checkIndex_8e157 15 = .ok (.athrow, 1) := by decide +kernel
theorem dJ3_checkIndex_8e157_16 : decode cJ3_checkIndex_8e157 16 = .ok (.iload_n 0, 1) := by decide +kernel
theorem dJ3_checkIndex_8e157_17 : decode cJ3_checkIndex_8e157 17 = .ok (.ireturn, 1) := by decide +kernel
theorem fsS_9 : Cond.fieldLink RJ0 9 "java/lang/String" "value" "[B" ∈ tb := tbi_9 (i := 174) rfl rfl
theorem fsS_15 : Cond.fieldLink RJ0 15 "java/lang/String" "coder" "B" ∈ tb := tbi_9 (i := 175) rfl rfl
theorem fsS_38 : Cond.fieldLink RJ0 38 "java/lang/String" "COMPACT_STRINGS" "Z" ∈ tb := tbi_1 (i := 50) rfl rfl
theorem fsS_1053 : Cond.fieldLink RJ0 1053 "jdk/internal/util/Preconditions" "SIOOBE_FORMATTER" "Ljava/util/function/BiFunction;" ∈ tb := tbi_1 (i := 66) rfl rfl
theorem vl_X8_31 : VL RX8 31 yJ0_length_8abf5 cJ0_length_8abf5 1 (some .int) 0 := ⟨tbi_1 (i := 42) rfl rfl, tbi_1 (i := 43) rfl rfl, tbi_1 (i := 44) rfl rfl, tbi_1 (i := 4) rfl rfl, tbi_1 (i := 45) rfl rfl, ⟨by decide +kernel, by decide +kernel, by decide +kernel⟩, by decide⟩
theorem vl_X8_37 : VL RX8 37 yJ0_charAt_5068e cJ0_charAt_5068e 2 (some .char) 1 := ⟨tbi_1 (i := 52) rfl rfl, tbi_1 (i := 53) rfl rfl, tbi_1 (i := 54) rfl rfl, tbi_1 (i := 4) rfl rfl, tbi_1 (i := 55) rfl rfl, ⟨by decide +kernel, by decide +kernel, by decide +kernel⟩, by decide⟩
theorem vl_J0_335 : VL RJ0 335 yJ0_coder_7d493 cJ0_coder_7d493 1 (some .byte) 0 := ⟨tbi_1 (i := 46) rfl rfl, tbi_1 (i := 47) rfl rfl, tbi_1 (i := 48) rfl rfl, tbi_1 (i := 4) rfl rfl, tbi_1 (i := 49) rfl rfl, ⟨by decide +kernel, by decide +kernel, by decide +kernel⟩, by decide⟩
theorem vl_J0_492 : VL RJ0 492 yJ0_isLatin1_aae02 cJ0_isLatin1_aae02 1 (some .boolean) 0 := ⟨tbi_1 (i := 56) rfl rfl, tbi_1 (i := 57) rfl rfl, tbi_1 (i := 58) rfl rfl, tbi_1 (i := 4) rfl rfl, tbi_1 (i := 59) rfl rfl, ⟨by decide +kernel, by decide +kernel, by decide +kernel⟩, by decide⟩
theorem sl_J0_495 : SL RJ0 495 yJ1_charAt_3b067 cJ1_charAt_3b067 2 (some .char) 2 := ⟨tbi_1 (i := 60) rfl rfl, tbi_1 (i := 61) rfl rfl, tbi_1 (i := 5) rfl rfl, tbi_1 (i := 62) rfl rfl, ⟨by decide +kernel, by decide +kernel, by decide +kernel⟩, by decide⟩
theorem sl_J1_9 : SL RJ1 9 yJ0_checkIndex_df160 cJ0_checkIndex_df160 2 none 2 := ⟨tbi_1 (i := 63) rfl rfl, tbi_1 (i := 64) rfl rfl, tbi_1 (i := 4) rfl rfl, tbi_1 (i := 65) rfl rfl, ⟨by decide +kernel, by decide +kernel, by decide +kernel⟩, by decide⟩
theorem sl_J0_1059 : SL RJ0 1059 yJ3_checkIndex_8e157 cJ3_checkIndex_8e157 3 (some .int) 3 := ⟨tbi_1 (i := 68) rfl rfl, tbi_1 (i := 69) rfl rfl, tbi_1 (i := 6) rfl rfl, tbi_1 (i := 70) rfl rfl, ⟨by decide +kernel, by decide +kernel, by decide +kernel⟩, by decide⟩
-- vl_X8_31 vl_X8_37 vl_J0_335 vl_J0_492 sl_J0_495 sl_J1_9 sl_J0_1059
section JS
variable {g : Gm} {w : Wd} {own : String} {cc : ByteArray} {nL : Nat} {rt : Option FieldType} {R : Room} {Q : State → Prop} {pc : Nat} {ls : List (Option V)} {st : List V} {n : Nat} {m : Mem} {cs sl : Nat}
theorem strI_ok : ∀ j : Nat, j < 146 → inIb (strI.getD j 0) = true ∧ 0 ≤ strI.getD j 0 ∧ strI.getD j 0 < 128 := by decide +kernel
theorem j_ldcS (C : Cx g w RX8 cc nL rt) (d : decode cc pc = .ok (.ldc 29, 2)) (k : Jd g w nL R Q (pc + 2) ls (vR 20000 :: st) n m cs sl) : Jd g w nL R Q pc ls st n m cs sl := by
  intro H locs la hR hS hl ho hs
  exact va_ldcS C.1 C.2.1 C.2.2.2.1 C.str.1 d (k H locs la hR hS hl ho ⟨trivial, hs⟩)
theorem j_Sval (C : Cx g w RJ0 cc nL rt) (d : decode cc pc = .ok (.getfield 9, 3)) (k : Jd g w nL R Q (pc + 3) ls (vR 20001 :: st) n m cs sl) : Jd g w nL R Q pc ls (vR 20000 :: st) n m cs sl := by
  intro H locs la hR hS hl ho hs
  exact va_getX (N := 1) (i := 0) (v := fun _ => .ref (wA w 20001)) (ad := fun _ => wA w 20000) C.1 C.2.1 (fun i _ => C.str.2.2.2.1) (by decide) hS C.2.2.2.1 (C.tbl fsS_9) (fun x h => h) d (k H locs la hR hS hl ho ⟨trivial, hs.2⟩)
theorem j_Scod (C : Cx g w RJ0 cc nL rt) (d : decode cc pc = .ok (.getfield 15, 3)) (k : Jd g w nL R Q (pc + 3) ls (vI 0 :: st) n m cs sl) : Jd g w nL R Q pc ls (vR 20000 :: st) n m cs sl := by
  intro H locs la hR hS hl ho hs
  exact va_getX (N := 1) (i := 0) (v := fun _ => .int 0) (ad := fun _ => wA w 20000) C.1 C.2.1 (fun i _ => C.str.2.2.1) (by decide) hS C.2.2.2.1 (C.tbl fsS_15) (fun x h => h) d (k H locs la hR hS hl ho ⟨inI_b rfl, hs.2⟩)
theorem j_Scom (C : Cx g w RJ0 cc nL rt) (d : decode cc pc = .ok (.getstatic 38, 3)) (k : Jd g w nL R Q (pc + 3) ls (vI 1 :: st) n m cs sl) : Jd g w nL R Q pc ls st n m cs sl := by
  intro H locs la hR hS hl ho hs
  exact va_gets C.1 C.2.1 C.str.2.2.2.2.2.1 hS C.2.2.2.1 (C.tbl fsS_38) (fun x h => h) d (k H locs la hR hS hl ho ⟨inI_b rfl, hs⟩)
theorem j_Blen (C : Cx g w own cc nL rt) (d : decode cc pc = .ok (.arraylength, 1)) (k : Jd g w nL R Q (pc + 1) ls (vI 146 :: st) n m cs sl) : Jd g w nL R Q pc ls (vR 20001 :: st) n m cs sl := by
  intro H locs la hR hS hl ho hs
  obtain ⟨cell, h1, h2, h3, h4, h5, h6, h7⟩ := C.str.2.2.2.2.1.kept hS.2.1
  exact W.alen C.1 C.2.1 h1 h2 h5 rfl rfl d (k H locs la hR hS hl ho ⟨inI_b rfl, hs.2⟩)
theorem j_Bald (C : Cx g w own cc nL rt) {i : Int} (d : decode cc pc = .ok (.baload, 1)) (h0 : 0 ≤ i) (h1 : i < 146) (k : Jd g w nL R Q (pc + 1) ls (vI (strI.getD i.toNat 0) :: st) n m cs sl) : Jd g w nL R Q pc ls (vI i :: vR 20001 :: st) n m cs sl := by
  intro H locs la hR hS hl ho hs
  obtain ⟨cell, q1, q2, q3, q4, q5, q6, q7⟩ := C.str.2.2.2.2.1.kept hS.2.1
  have hlt : i.toNat < 146 := by omega
  have hin : ¬ (Int32.ofInt i < 0 ∨ cell.slots.size ≤ (Int32.ofInt i).toNatClampNeg) := by
    rw [natI hs.1]
    intro z
    rcases z with z | z
    · have := (ltI0 hs.1).mp z
      omega
    · omega
  exact W.bald C.1 C.2.1 q1 q2 q3 hin (by rw [natI hs.1]; exact q6 _ hlt) rfl rfl d (k H locs la hR hS hl ho ⟨inI_b (strI_ok _ hlt).1, hs.2.2⟩)
theorem j_i2c (C : Cx g w own cc nL rt) {x : Int} (d : decode cc pc = .ok (.i2c, 1)) (h0 : 0 ≤ x) (h1 : x < 128) (k : Jd g w nL R Q (pc + 1) ls (vI x :: st) n m cs sl) : Jd g w nL R Q pc ls (vI x :: st) n m cs sl := by
  intro H locs la hR hS hl ho hs
  exact lv_i2c C.1 C.2.1 d (lg_i2c_word (by rw [toI_of hs.1]; exact h0) (by rw [toI_of hs.1]; omega)) (k H locs la hR hS hl ho hs)
theorem j_callVS (C : Cx g w own cc nL rt) {idx k maxL lv' : Nat} {y : MethodName} {bytes : ByteArray} {ret : Option FieldType} {As : List V} {r : Option V} {st0 : List V} (hyc : y.cls = RJ0)
    (d : decode cc pc = .ok (.invokevirtual idx, 3)) (L : VL own idx y bytes maxL ret k) (hct : CT y bytes maxL ret lv' 0 0 (vR 20000 :: As) n m r n m)
    (hfr : lv' + 1 ≤ R.frames) (hlo : 64 * lv' + 64 ≤ R.locals) (hc : cs ≤ R.cells) (hsl : sl ≤ R.slots) (hk : As.length = k) (hst0 : st0 = As.reverse ++ vR 20000 :: st) (hcat : (st.map vcat).sum ≤ 8)
    (kk : Jd g w nL R Q (pc + 3) ls (r.toList ++ st) n m cs sl) : Jd g w nL R Q pc ls st0 n m cs sl := by
  intro H locs la hRel hS hl ho hs
  subst hst0
  obtain ⟨l1, l2, l3, l4, l5, l6, l7⟩ := L
  obtain ⟨hsA, hsB⟩ := okS_split hs
  obtain ⟨cell, c1, c2, c3, c4⟩ := C.str.2.1.kept hS.2.1
  have cw : CallW R (gs g) (ga g) own y.cls idx y bytes maxL ret (Cond.code y bytes maxL ret :: tb) (rmL lv' 0 0) 0 0 k :=
    ⟨callB_of k C.2.2.2.2.1 (gd_cons l5) rfl rfl rfl (C.tbl l4) (C.tbl l1) l6 ⟨hfr, by show 8 + (maxL + 11) + 64 * lv' ≤ _; omega⟩, C.tbl l2, C.tbl l3⟩
  refine j_run (m' := m) (n' := n) (r := r) (mc := 0) (ms := 0) (a := (Value.ref (wA w 20000) :: As.map (cv w)).toArray) (va_runV (As := As.map (cv w)) (rest := st.map (cv w)) (nL := nL) (Ts := tb) (own := own) ⟨C.1, C.2.1, C.2.2.1, C.2.2.2.1, C.2.2.2.2.1⟩ (hct (gl g) w) cw
    ⟨blindW w _ n m, ⟨cell, c1, c2, by rw [hyc]; exact c3⟩, fun U hU hW => ⟨rfl, C.rs.moved hW hS hU, by rw [hU]; exact hRel, ⟨trivial, okS_rev hsA⟩⟩⟩ rfl (by simpa using hk) hl.1 (by simp [cv]) (cat_sum hcat) d ⟨hc, hsl⟩) hS hl ho hsB.2 kk
theorem j_xret (C : Cx g w own cc nL rt) {mc ms : Nat} {x : Int} {r : Option V} {n' : Nat} {m' : Mem} {ty : FieldType} (d : decode cc pc = .ok (.ireturn, 1)) (hrt : rt = some ty) (hc : cs ≤ mc) (hs : sl ≤ ms) (hx : inI x → narrow ty (.int (Int32.ofInt x)) = .int (Int32.ofInt x)) (hr : r = some (vI x)) (hn : n' = n) (hm : m' = m) :
    Jd g w nL R (MQ (gb g) (Qw w n' m' r) (ga g) (gs g) mc ms (aw w)) pc ls [vI x] n m cs sl := by
  subst hr; subst hn; subst hm
  intro H locs la hR hS hl ho hk
  refine W.widen hc hs ?_
  exact W.zret (ty := ty) C.1 C.2.1 (C.2.2.2.2.2.2.1.trans hrt) (hx hk.1) (fun t ht hW => ⟨⟨rfl, hk.1, by rw [ht]; exact hR⟩, va_F_of hS ht⟩) hS.2.2 d C.2.2.2.2.2.1
end JS
theorem nar_char : ∀ j : Nat, j < 146 → narrow .char (.int (Int32.ofInt (strI.getD j 0))) = .int (Int32.ofInt (strI.getD j 0)) := by
  intro j hj
  obtain ⟨h1, h2, h3⟩ := strI_ok j hj
  generalize strI.getD j 0 = x at *
  have key : ∀ k : Nat, k < 128 → narrow .char (.int (Int32.ofInt (k : Int))) = .int (Int32.ofInt (k : Int)) := by decide +kernel
  have := key x.toNat (by omega)
  rwa [Int.toNat_of_nonneg h2] at this
theorem and255 : ∀ j : Nat, j < 146 → iand (strI.getD j 0) 255 = strI.getD j 0 := by decide +kernel
set_option maxRecDepth 100000 in
theorem coder_ct {n : Nat} {m : Mem} : CT yJ0_coder_7d493 cJ0_coder_7d493 1 (some .byte) 1 0 0 [vR 20000] n m (some (vI 0)) n m := by
  refine CT.of (by decide +kernel) rfl (Nat.le_of_ble_eq_true rfl) (ls := [some (vR 20000)]) rfl fun g w C hnm => ?_
  refine j_Scom C dJ0_coder_7d493_0 ?_
  refine j_if_eq (X := none) (Y := some ()) (out := ()) C 13 dJ0_coder_7d493_3 rfl rfl (fun c h => by cases h) (fun c h => ?_)
  refine j_aload_n C dJ0_coder_7d493_6 rfl ?_
  refine j_Scod C dJ0_coder_7d493_7 ?_
  refine j_goto C 14 dJ0_coder_7d493_10 rfl ?_
  exact j_xret (ty := .byte) C dJ0_coder_7d493_14 rfl (Nat.le_refl 0) (Nat.le_refl 0) (fun _ => rfl) rfl rfl rfl
set_option maxRecDepth 100000 in
theorem latin1_ct {n : Nat} {m : Mem} : CT yJ0_isLatin1_aae02 cJ0_isLatin1_aae02 1 (some .boolean) 1 0 0 [vR 20000] n m (some (vI 1)) n m := by
  refine CT.of (by decide +kernel) rfl (Nat.le_of_ble_eq_true rfl) (ls := [some (vR 20000)]) rfl fun g w C hnm => ?_
  refine j_Scom C dJ0_isLatin1_aae02_0 ?_
  refine j_if_eq (X := none) (Y := some ()) (out := ()) C 17 dJ0_isLatin1_aae02_3 rfl rfl (fun c h => by cases h) (fun c h => ?_)
  refine j_aload_n C dJ0_isLatin1_aae02_6 rfl ?_
  refine j_Scod C dJ0_isLatin1_aae02_7 ?_
  refine j_if_ne (X := none) (Y := some ()) (out := ()) C 17 dJ0_isLatin1_aae02_10 rfl rfl (fun c h => by cases h) (fun c h => ?_)
  refine j_iconst C dJ0_isLatin1_aae02_13 rfl ?_
  refine j_goto C 18 dJ0_isLatin1_aae02_14 rfl ?_
  exact j_zret C dJ0_isLatin1_aae02_18 rfl (Nat.le_refl 0) (Nat.le_refl 0) (Or.inr rfl) rfl rfl rfl
set_option maxRecDepth 100000 in
theorem strlen_ct {n : Nat} {m : Mem} : CT yJ0_length_8abf5 cJ0_length_8abf5 1 (some .int) 2 0 0 [vR 20000] n m (some (vI 146)) n m := by
  refine CT.of (by decide +kernel) rfl (Nat.le_of_ble_eq_true rfl) (ls := [some (vR 20000)]) rfl fun g w C hnm => ?_
  refine j_aload_n C dJ0_length_8abf5_0 rfl ?_
  refine j_Sval C dJ0_length_8abf5_1 ?_
  refine j_Blen C dJ0_length_8abf5_4 ?_
  refine j_aload_n C dJ0_length_8abf5_5 rfl ?_
  refine j_callVS C rfl dJ0_length_8abf5_6 vl_J0_335 coder_ct (Nat.le_of_ble_eq_true rfl) (Nat.le_of_ble_eq_true rfl) (Nat.le_refl 0) (Nat.le_refl 0) rfl rfl (Nat.le_of_ble_eq_true rfl) ?_
  refine j_ishr C dJ0_length_8abf5_9 ?_
  exact j_iret C dJ0_length_8abf5_10 rfl (Nat.le_refl 0) (Nat.le_refl 0) (by decide) rfl rfl
theorem RelS.same {w : Wd} {u U : State} (hv : U.vm = u.vm) (hh : U.heap = u.heap) (h : RelS w u) : RelS w U := by
  obtain ⟨e1, e2, e3, e4, e5, e6, e7, e8, e9, e10, e11⟩ := h
  have al : u.vm.Alike U.vm := by rw [hv]; exact Vm.Alike.refl _
  have hk : ∀ a : Nat, a < u.heap.size → ¬ aw w a → U.heap[a]? = u.heap[a]? := fun a _ _ => by rw [hh]
  refine ⟨va_K.moved al e1, e2, e3, e4, (va_Z.moved al e5).kept hk, (va_Z.moved al e6).kept hk, by rw [hh]; exact e7, fun q hq => va_Nw.same ?_ hv.symm (e8 q hq), e9.moved al, over_moved al e10, e11.same hv hh⟩
  have hb := (List.mem_filter.mp hq).2
  cases q <;> first | rfl | cases hb
def PcV (w : Wd) (av : List Value) (n : Nat) (m : Mem) : Array Value → State → Prop := va_Pc av (fun U => RelS w U ∧ RelH w n m U.heap)
theorem blindV (w : Wd) (av : List Value) (n : Nat) (m : Mem) : FrameBlind (PcV w av n m) := by
  intro a U g mk h
  obtain ⟨h1, h2, h3⟩ := h
  exact ⟨h1, RelS.same (u := U) (U := U.calling g mk a) rfl rfl h2, h3⟩
set_option maxRecDepth 100000 in
theorem pcheck_met {n : Nat} {m : Mem} {i : Int} (h0 : 0 ≤ i) (h1 : i < 146) (v : Value) (hv : v = .null ∨ ∃ t, v = .ref t) (l : Launch) (w : Wd) : Met l yJ3_checkIndex_8e157 (Cond.code yJ3_checkIndex_8e157 cJ3_checkIndex_8e157 3 (some .int) :: tb) (rmL 1 0 0) (PcV w [.int (Int32.ofInt i), .int (Int32.ofInt 146), v] n m) (Qw w n m (some (vI i))) 0 0 (aw w) := by
  refine Met.ofWF (cc := cJ3_checkIndex_8e157) (maxL := 3) (ret := some .int) (by decide +kernel) rfl ?_
  intro p e s mi as below meth c s₁ B hml hq
  obtain ⟨rfl, hS, hH⟩ := hq
  have hts := atoms_spec (ws := Cond.code yJ3_checkIndex_8e157 cJ3_checkIndex_8e157 3 (some .int) :: tb) B.pre
  have hown : s.vm.findClass RJ3 = some mi.cls := findClass_of_methodNamed B.named
  have C : Cx (p, l, e, s, mi, ([.int (Int32.ofInt i), .int (Int32.ofInt 146), v] : List Value).toArray, below, meth, c) w RJ3 cJ3_checkIndex_8e157 3 (some .int) := ⟨B.exec, B.bytes, hml, hown, fun q hq => hts q (List.mem_cons_of_mem _ hq), B.notSynchronized, B.returns, hS⟩
  have hin : inI i := by unfold inI; omega
  have K : Jd (p, l, e, s, mi, ([.int (Int32.ofInt i), .int (Int32.ofInt 146), v] : List Value).toArray, below, meth, c) w 3 (rmL 1 0 0) (MQ below (Qw w n m (some (vI i))) ([.int (Int32.ofInt i), .int (Int32.ofInt 146), v] : List Value).toArray s 0 0 (aw w)) 0 [some (vI i), some (vI 146), none] [] n m 0 0 := by
    refine j_iload_n C dJ3_checkIndex_8e157_0 rfl ?_
    refine j_if_lt (X := none) (Y := some ()) (out := ()) C 9 dJ3_checkIndex_8e157_1 rfl (if_neg (by omega)) (fun c h => by cases h) (fun c h => ?_)
    refine j_iload_n C dJ3_checkIndex_8e157_4 rfl ?_
    refine j_iload_n C dJ3_checkIndex_8e157_5 rfl ?_
    refine j_icmp_lt (X := some ()) (Y := none) (out := ()) C 16 dJ3_checkIndex_8e157_6 rfl (if_pos h1) (fun c h => ?_) (fun c h => by cases h)
    refine j_iload_n C dJ3_checkIndex_8e157_16 rfl ?_
    exact j_iret C dJ3_checkIndex_8e157_17 rfl (Nat.le_refl 0) (Nat.le_refl 0) rfl rfl rfl
  rw [lg_entry_eq]
  have hl := lv_entry ([.int (Int32.ofInt i), .int (Int32.ofInt 146), v] : List Value) (n := 3) (by rcases hv with rfl | ⟨t, rfl⟩ <;> exact Nat.le_of_ble_eq_true rfl)
  refine K s.heap [] _ hH va_S.rf ?_ ⟨hin, inI_b rfl, trivial⟩ trivial
  exact lv_sub hl [0, 1] rfl
set_option maxRecDepth 100000 in
theorem scheck_ct {n : Nat} {m : Mem} {i : Int} (h0 : 0 ≤ i) (h1 : i < 146) : CT yJ0_checkIndex_df160 cJ0_checkIndex_df160 2 none 2 0 0 [vI i, vI 146] n m none n m := by
  refine CT.of (by decide +kernel) rfl (Nat.le_of_ble_eq_true rfl) (ls := [some (vI i), some (vI 146)]) rfl fun g w C hnm => ?_
  refine j_iload_n C dJ0_checkIndex_df160_0 rfl ?_
  refine j_iload_n C dJ0_checkIndex_df160_1 rfl ?_
  have tail : ∀ v : Value, (v = .null ∨ ∃ t, v = .ref t) → va_Z "jdk/internal/util/Preconditions" "SIOOBE_FORMATTER" "Ljava/util/function/BiFunction;" v (aw w) (gs g) (gs g).heap → Jd g w 2 (rmL 2 0 0) (MQ (gb g) (Qw w n m none) (ga g) (gs g) 0 0 (aw w)) 2 [some (vI i), some (vI 146)] [vI 146, vI i] n m 0 0 := by
    intro v hv hz H locs la hRel hS hl ho hs
    refine va_gets C.1 C.2.1 hz hS C.2.2.2.1 (C.tbl fsS_1053) (fun x h => h) dJ0_checkIndex_df160_2 ?_
    obtain ⟨l1, l2, l4, l5, l6, l7⟩ := sl_J0_1059
    have cw : CallB (rmL 2 0 0) (gs g) (ga g) RJ0 1059 yJ3_checkIndex_8e157 cJ3_checkIndex_8e157 3 (some .int) (Cond.code yJ3_checkIndex_8e157 cJ3_checkIndex_8e157 3 (some .int) :: tb) (rmL 1 0 0) 0 0 3 ∧ (Cond.static yJ3_checkIndex_8e157).before (ga g) (gs g) = true :=
      ⟨callB_of 3 C.2.2.2.2.1 (gd_cons l5) rfl rfl rfl (C.tbl l4) (C.tbl l1) l6 ⟨by decide, by decide⟩, C.tbl l2⟩
    refine j_run (st := []) (pc := 5) (m' := m) (n' := n) (r := some (vI i)) (mc := 0) (ms := 0) (a := ([.int (Int32.ofInt i), .int (Int32.ofInt 146), v] : List Value).toArray) (va_runS (As := [.int (Int32.ofInt i), .int (Int32.ofInt 146), v]) (rest := []) (nL := 2) (Ts := tb) (own := RJ0) ⟨C.1, C.2.1, C.2.2.1, C.2.2.2.1, C.2.2.2.2.1⟩ (pcheck_met h0 h1 v hv (gl g) w) cw
      ⟨blindV w _ n m, fun U hU hW => ⟨rfl, C.rs.moved hW hS hU, by rw [hU]; exact hRel⟩⟩ rfl rfl hl.1 rfl (Nat.le_of_ble_eq_true rfl) dJ0_checkIndex_df160_5 ⟨Nat.le_refl 0, Nat.le_refl 0⟩) hS hl ho trivial ?_
    refine j_pop C dJ0_checkIndex_df160_8 rfl ?_
    exact j_vret C dJ0_checkIndex_df160_9 rfl (Nat.le_refl 0) (Nat.le_refl 0) rfl rfl rfl
  rcases C.str.2.2.2.2.2.2.1 with hz | ⟨t, hz⟩
  · exact tail .null (Or.inl rfl) hz
  · exact tail (.ref t) (Or.inr ⟨t, rfl⟩) hz
set_option maxRecDepth 100000 in
theorem lcharAt_ct {n : Nat} {m : Mem} {i : Int} (h0 : 0 ≤ i) (h1 : i < 146) : CT yJ1_charAt_3b067 cJ1_charAt_3b067 2 (some .char) 3 0 0 [vR 20001, vI i] n m (some (vI (strI.getD i.toNat 0))) n m := by
  have hlt : i.toNat < 146 := by omega
  refine CT.of (by decide +kernel) rfl (Nat.le_of_ble_eq_true rfl) (ls := [some (vR 20001), some (vI i)]) rfl fun g w C hnm => ?_
  refine j_iload_n C dJ1_charAt_3b067_0 rfl ?_
  refine j_aload_n C dJ1_charAt_3b067_1 rfl ?_
  refine j_Blen C dJ1_charAt_3b067_2 ?_
  refine j_callS C dJ1_charAt_3b067_3 sl_J1_9 (scheck_ct h0 h1) rfl (by decide) (Nat.le_refl 0) (Nat.le_refl 0) rfl rfl (Nat.le_of_ble_eq_true rfl) ?_
  refine j_aload_n C dJ1_charAt_3b067_6 rfl ?_
  refine j_iload_n C dJ1_charAt_3b067_7 rfl ?_
  refine j_Bald C dJ1_charAt_3b067_8 h0 h1 ?_
  refine j_sipush C dJ1_charAt_3b067_9 rfl ?_
  refine j_iand C dJ1_charAt_3b067_12 ?_
  rw [and255 _ hlt]
  obtain ⟨g1, g2, g3⟩ := strI_ok _ hlt
  refine j_i2c C dJ1_charAt_3b067_13 g2 g3 ?_
  exact j_xret (ty := .char) C dJ1_charAt_3b067_14 rfl (Nat.le_refl 0) (Nat.le_refl 0) (fun _ => nar_char _ hlt) rfl rfl rfl
set_option maxRecDepth 100000 in
theorem charAt_ct {n : Nat} {m : Mem} {i : Int} (h0 : 0 ≤ i) (h1 : i < 146) : CT yJ0_charAt_5068e cJ0_charAt_5068e 2 (some .char) 4 0 0 [vR 20000, vI i] n m (some (vI (strI.getD i.toNat 0))) n m := by
  have hlt : i.toNat < 146 := by omega
  refine CT.of (by decide +kernel) rfl (Nat.le_of_ble_eq_true rfl) (ls := [some (vR 20000), some (vI i)]) rfl fun g w C hnm => ?_
  refine j_aload_n C dJ0_charAt_5068e_0 rfl ?_
  refine j_callVS C rfl dJ0_charAt_5068e_1 vl_J0_492 latin1_ct (Nat.le_of_ble_eq_true rfl) (Nat.le_of_ble_eq_true rfl) (Nat.le_refl 0) (Nat.le_refl 0) rfl rfl (Nat.le_of_ble_eq_true rfl) ?_
  refine j_if_eq (X := none) (Y := some ()) (out := ()) C 16 dJ0_charAt_5068e_4 rfl rfl (fun c h => by cases h) (fun c h => ?_)
  refine j_aload_n C dJ0_charAt_5068e_7 rfl ?_
  refine j_Sval C dJ0_charAt_5068e_8 ?_
  refine j_iload_n C dJ0_charAt_5068e_11 rfl ?_
  refine j_callS C dJ0_charAt_5068e_12 sl_J0_495 (lcharAt_ct h0 h1) rfl (by decide) (Nat.le_refl 0) (Nat.le_refl 0) rfl rfl (Nat.le_of_ble_eq_true rfl) ?_
  exact j_xret (ty := .char) C dJ0_charAt_5068e_15 rfl (Nat.le_refl 0) (Nat.le_refl 0) (fun _ => nar_char _ hlt) rfl rfl rfl
