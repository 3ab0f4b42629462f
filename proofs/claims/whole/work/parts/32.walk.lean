theorem dX0_bestSpot_0 : decode cX0_bestSpot 0 = .ok (.iload_n 1, 1) := by decide +kernel
theorem dX0_bestSpot_1 : decode cX0_bestSpot 1 = .ok (.ifCond .lt 17, 3) := by decide +kernel
theorem dX0_bestSpot_4 : decode cX0_bestSpot 4 = .ok (.iload_n 1, 1) := by decide +kernel
theorem dX0_bestSpot_5 : decode cX0_bestSpot 5 = .ok (.iconst 2, 1) := by decide +kernel
theorem dX0_bestSpot_6 : decode cX0_bestSpot 6 = .ok (.if_icmp .ge 12, 3) := by decide +kernel
theorem dX0_bestSpot_9 : decode cX0_bestSpot 9 = .ok (.aload_n 0, 1) := by decide +kernel
theorem dX0_bestSpot_10 : decode cX0_bestSpot 10 = .ok (.getfield 36, 3) := by decide +kernel
theorem dX0_bestSpot_13 : decode cX0_bestSpot 13 = .ok (.iload_n 1, 1) := by decide +kernel
theorem dX0_bestSpot_14 : decode cX0_bestSpot 14 = .ok (.iaload, 1) := by decide +kernel
theorem dX0_bestSpot_15 : decode cX0_bestSpot 15 = .ok (.goto 4, 3) := by decide +kernel
theorem dX0_bestSpot_18 : decode cX0_bestSpot 18 = .ok (.iconst (-1), 1) := by decide +kernel
theorem dX0_bestSpot_19 : decode cX0_bestSpot 19 = .ok (.ireturn, 1) := by decide +kernel
set_option maxRecDepth 100000 in
set_option maxHeartbeats 4000000 in
theorem X0_bestSpot_ct {l0 : Nat} {l1 : Int} {m : Mem} {out : Int} (h : X0_bestSpot l0 l1 m = some out) : shK l0 = 0 + 10 ∧ CT yX0_bestSpot cX0_bestSpot 2 (some .int) 1 0 0 [vR l0, vI l1] 312 m (some (vI out)) 312 m := by
  unfold X0_bestSpot at h
  obtain ⟨hK, h⟩ := ite_some h
  have hlv : 0 < 1 := by decide
  refine ⟨hK, CT.of (by decide +kernel) rfl (Nat.le_of_ble_eq_true rfl) (ls := [some (vR l0), some (vI l1)]) rfl fun g w C _ => ?_⟩
  refine j_iload_n C dX0_bestSpot_0 rfl ?_
  refine j_if_lt C 18 dX0_bestSpot_1 rfl h (fun c4 h => ?_) (fun c4 h => ?_)
  · refine j_iconst C dX0_bestSpot_18 rfl ?_
    exact j_ri C dX0_bestSpot_19 rfl (Option.some.inj h).symm rfl
  · refine j_iload_n C dX0_bestSpot_4 rfl ?_
    refine j_iconst C dX0_bestSpot_5 rfl ?_
    refine j_icmp_ge C 18 dX0_bestSpot_6 rfl h (fun c3 h => ?_) (fun c3 h => ?_)
    · refine j_iconst C dX0_bestSpot_18 rfl ?_
      exact j_ri C dX0_bestSpot_19 rfl (Option.some.inj h).symm rfl
    · refine j_aload_n C dX0_bestSpot_9 rfl ?_
      refine j_getR C dX0_bestSpot_10 CF0 (by decide) fl_X0_36 rfl rfl h (fun t1 h => ?_)
      refine j_iload_n C dX0_bestSpot_13 rfl ?_
      refine j_iald C dX0_bestSpot_14 rfl h (fun t2 h => ?_)
      refine j_goto C 19 dX0_bestSpot_15 rfl ?_
      exact j_ri C dX0_bestSpot_19 rfl (Option.some.inj h).symm rfl
theorem dX10_alike_0 : decode cX10_alike 0 = .ok (.iload_n 1, 1) := by decide +kernel
theorem dX10_alike_1 : decode cX10_alike 1 = .ok (.iconst 1, 1) := by decide +kernel
theorem dX10_alike_2 : decode cX10_alike 2 = .ok (.if_icmp .lt 29, 3) := by decide +kernel
theorem dX10_alike_5 : decode cX10_alike 5 = .ok (.iload_n 1, 1) := by decide +kernel
theorem dX10_alike_6 : decode cX10_alike 6 = .ok (.iconst 2, 1) := by decide +kernel
theorem dX10_alike_7 : decode cX10_alike 7 = .ok (.if_icmp .gt 24, 3) := by decide +kernel
theorem dX10_alike_10 : decode cX10_alike 10 = .ok (.iload_n 1, 1) := by decide +kernel
theorem dX10_alike_11 : decode cX10_alike 11 = .ok (.aload_n 0, 1) := by decide +kernel
theorem dX10_alike_12 : decode cX10_alike 12 = .ok (.getfield 27, 3) := by decide +kernel
theorem dX10_alike_15 : decode cX10_alike 15 = .ok (.getfield 155, 3) := by decide +kernel
theorem dX10_alike_18 : decode cX10_alike 18 = .ok (.if_icmp .gt 13, 3) := by decide +kernel
theorem dX10_alike_21 : decode cX10_alike 21 = .ok (.aload_n 0, 1) := by decide +kernel
theorem dX10_alike_22 : decode cX10_alike 22 = .ok (.getfield 27, 3) := by decide +kernel
theorem dX10_alike_25 : decode cX10_alike 25 = .ok (.getfield 149, 3) := by decide +kernel
theorem dX10_alike_28 : decode cX10_alike 28 = .ok (.ifCond .ne 5, 3) := by decide +kernel
theorem dX10_alike_31 : decode cX10_alike 31 = .ok (.iconst (-1), 1) := by decide +kernel
theorem dX10_alike_32 : decode cX10_alike 32 = .ok (.ireturn, 1) := by decide +kernel
theorem dX10_alike_33 : decode cX10_alike 33 = .ok (.iload_n 2, 1) := by decide +kernel
theorem dX10_alike_34 : decode cX10_alike 34 = .ok (.iconst (-1), 1) := by decide +kernel
theorem dX10_alike_35 : decode cX10_alike 35 = .ok (.if_icmp .eq 20, 3) := by decide +kernel
theorem dX10_alike_38 : decode cX10_alike 38 = .ok (.iload_n 2, 1) := by decide +kernel
theorem dX10_alike_39 : decode cX10_alike 39 = .ok (.bipush 20, 2) := by decide +kernel
theorem dX10_alike_41 : decode cX10_alike 41 = .ok (.if_icmp .eq 14, 3) := by decide +kernel
theorem dX10_alike_44 : decode cX10_alike 44 = .ok (.iload_n 2, 1) := by decide +kernel
theorem dX10_alike_45 : decode cX10_alike 45 = .ok (.ifCond .lt 8, 3) := by decide +kernel
theorem dX10_alike_48 : decode cX10_alike 48 = .ok (.iload_n 2, 1) := by decide +kernel
theorem dX10_alike_49 : decode cX10_alike 49 = .ok (.iload_n 1, 1) := by decide +kernel
theorem dX10_alike_50 : decode cX10_alike 50 = .ok (.if_icmp .lt 5, 3) := by decide +kernel
theorem dX10_alike_53 : decode cX10_alike 53 = .ok (.iconst (-1), 1) := by decide +kernel
theorem dX10_alike_54 : decode cX10_alike 54 = .ok (.ireturn, 1) := by decide +kernel
theorem dX10_alike_55 : decode cX10_alike 55 = .ok (.aload_n 0, 1) := by decide +kernel
theorem dX10_alike_56 : decode cX10_alike 56 = .ok (.getfield 81, 3) := by decide +kernel
theorem dX10_alike_59 : decode cX10_alike 59 = .ok (.aload_n 0, 1) := by decide +kernel
theorem dX10_alike_60 : decode cX10_alike 60 = .ok (.getfield 27, 3) := by decide +kernel
theorem dX10_alike_63 : decode cX10_alike 63 = .ok (.aload_n 0, 1) := by decide +kernel
theorem dX10_alike_64 : decode cX10_alike 64 = .ok (.getfield 37, 3) := by decide +kernel
theorem dX10_alike_67 : decode cX10_alike 67 = .ok (.aload_n 0, 1) := by decide +kernel
theorem dX10_alike_68 : decode cX10_alike 68 = .ok (.invokevirtual 226, 3) := by decide +kernel
theorem dX10_alike_71 : decode cX10_alike 71 = .ok (.iload_n 1, 1) := by decide +kernel
theorem dX10_alike_72 : decode cX10_alike 72 = .ok (.invokevirtual 346, 3) := by decide +kernel
theorem dX10_alike_75 : decode cX10_alike 75 = .ok (.iload_n 2, 1) := by decide +kernel
theorem dX10_alike_76 : decode cX10_alike 76 = .ok (.iconst (-1), 1) := by decide +kernel
theorem dX10_alike_77 : decode cX10_alike 77 = .ok (.if_icmp .ne 11, 3) := by decide +kernel
theorem dX10_alike_80 : decode cX10_alike 80 = .ok (.aload_n 0, 1) := by decide +kernel
theorem dX10_alike_81 : decode cX10_alike 81 = .ok (.getfield 81, 3) := by decide +kernel
theorem dX10_alike_84 : decode cX10_alike 84 = .ok (.getfield 350, 3) := by decide +kernel
theorem dX10_alike_87 : decode cX10_alike 87 = .ok (.ireturn, 1) := by decide +kernel
theorem dX10_alike_88 : decode cX10_alike 88 = .ok (.iload_n 2, 1) := by decide +kernel
theorem dX10_alike_89 : decode cX10_alike 89 = .ok (.bipush 20, 2) := by decide +kernel
theorem dX10_alike_91 : decode cX10_alike 91 = .ok (.if_icmp .ne 13, 3) := by decide +kernel
theorem dX10_alike_94 : decode cX10_alike 94 = .ok (.aload_n 0, 1) := by decide +kernel
theorem dX10_alike_95 : decode cX10_alike 95 = .ok (.getfield 81, 3) := by decide +kernel
theorem dX10_alike_98 : decode cX10_alike 98 = .ok (.getfield 353, 3) := by decide +kernel
theorem dX10_alike_101 : decode cX10_alike 101 = .ok (.goto 11, 3) := by decide +kernel
theorem dX10_alike_104 : decode cX10_alike 104 = .ok (.aload_n 0, 1) := by decide +kernel
theorem dX10_alike_105 : decode cX10_alike 105 = .ok (.getfield 81, 3) := by decide +kernel
theorem dX10_alike_108 : decode cX10_alike 108 = .ok (.iload_n 2, 1) := by decide +kernel
theorem dX10_alike_109 : decode cX10_alike 109 = .ok (.invokevirtual 356, 3) := by decide +kernel
theorem dX10_alike_112 : decode cX10_alike 112 = .ok (.ireturn, 1) := by decide +kernel
set_option maxRecDepth 100000 in
set_option maxHeartbeats 4000000 in
theorem X10_alike_J55_ok {g : Gm} {w : Wd} (C : Cx g w RX10 cX10_alike 3 (some .int)) {lv : Nat} (hlv : 6 < lv) {N : Nat} {l0 : Nat} {l1 : Int} {l2 : Int} {m : Mem} {out : (Int × Mem)} (h : X10_alike_J55 N l0 l1 l2 m = some out) : Jd g w 3 (rmL lv 0 0) (Qm g w (some (vI out.1)) out.2) 55 [some (vR l0), some (vI l1), some (vI l2)] [] 312 m 0 0 := by
  unfold X10_alike_J55 at h
  refine j_aload_n C dX10_alike_55 rfl ?_
  refine j_getR C dX10_alike_56 CF10 (by decide) fl_X10_81 rfl rfl h (fun t5 h => ?_)
  refine j_aload_n C dX10_alike_59 rfl ?_
  refine j_getR C dX10_alike_60 CF10 (by decide) fl_X10_27 rfl rfl h (fun t6 h => ?_)
  refine j_aload_n C dX10_alike_63 rfl ?_
  refine j_getR C dX10_alike_64 CF10 (by decide) fl_X10_37 rfl rfl h (fun t7 h => ?_)
  refine j_aload_n C dX10_alike_67 rfl ?_
  obtain ⟨p8, ep8, h⟩ := bind_some h
  have qp8 := X10_asTold_ct ep8
  refine j_cVR C dX10_alike_68 vl_X10_226 CF10 rfl qp8.1 qp8.2 (by omega) rfl rfl (Nat.le_of_ble_eq_true rfl) ?_
  refine j_iload_n C dX10_alike_71 rfl ?_
  obtain ⟨p9, ep9, h⟩ := bind_some h
  have qp9 := X0_find_ct ep9
  refine j_cVV C dX10_alike_72 vl_X10_346 CF0 rfl qp9.1 qp9.2 (by omega) rfl rfl (Nat.le_of_ble_eq_true rfl) ?_
  refine j_iload_n C dX10_alike_75 rfl ?_
  refine j_iconst C dX10_alike_76 rfl ?_
  refine j_icmp_ne C 88 dX10_alike_77 rfl h (fun c17 h => ?_) (fun c17 h => ?_)
  · refine j_iload_n C dX10_alike_88 rfl ?_
    refine j_bipush C dX10_alike_89 rfl ?_
    refine j_icmp_ne C 104 dX10_alike_91 rfl h (fun c14 h => ?_) (fun c14 h => ?_)
    · refine j_aload_n C dX10_alike_104 rfl ?_
      refine j_getR C dX10_alike_105 CF10 (by decide) fl_X10_81 rfl rfl h (fun t10 h => ?_)
      refine j_iload_n C dX10_alike_108 rfl ?_
      obtain ⟨p11, ep11, h⟩ := bind_some h
      have qp11 := X0_bestSpot_ct ep11
      refine j_cVI C dX10_alike_109 vl_X10_356 CF0 rfl qp11.1 qp11.2 (by omega) rfl rfl (Nat.le_of_ble_eq_true rfl) ?_
      have e := Option.some.inj h
      subst e
      exact j_ri C dX10_alike_112 rfl rfl rfl
    · refine j_aload_n C dX10_alike_94 rfl ?_
      refine j_getR C dX10_alike_95 CF10 (by decide) fl_X10_81 rfl rfl h (fun t12 h => ?_)
      refine j_getI C dX10_alike_98 CF0 (by decide) fl_X10_353 rfl rfl h (fun t13 h => ?_)
      refine j_goto C 112 dX10_alike_101 rfl ?_
      have e := Option.some.inj h
      subst e
      exact j_ri C dX10_alike_112 rfl rfl rfl
  · refine j_aload_n C dX10_alike_80 rfl ?_
    refine j_getR C dX10_alike_81 CF10 (by decide) fl_X10_81 rfl rfl h (fun t15 h => ?_)
    refine j_getI C dX10_alike_84 CF0 (by decide) fl_X10_350 rfl rfl h (fun t16 h => ?_)
    have e := Option.some.inj h
    subst e
    exact j_ri C dX10_alike_87 rfl rfl rfl
set_option maxRecDepth 100000 in
set_option maxHeartbeats 4000000 in
theorem X10_alike_ct {N : Nat} {l0 : Nat} {l1 : Int} {l2 : Int} {m : Mem} {out : (Int × Mem)} (h : X10_alike N l0 l1 l2 m = some out) : shK l0 = 10 + 10 ∧ CT yX10_alike cX10_alike 3 (some .int) 7 0 0 [vR l0, vI l1, vI l2] 312 m (some (vI out.1)) 312 out.2 := by
  unfold X10_alike at h
  obtain ⟨hK, h⟩ := ite_some h
  have hlv : 6 < 7 := by decide
  refine ⟨hK, CT.of (by decide +kernel) rfl (Nat.le_of_ble_eq_true rfl) (ls := [some (vR l0), some (vI l1), some (vI l2)]) rfl fun g w C _ => ?_⟩
  refine j_iload_n C dX10_alike_0 rfl ?_
  refine j_iconst C dX10_alike_1 rfl ?_
  refine j_icmp_lt C 31 dX10_alike_2 rfl h (fun c25 h => ?_) (fun c25 h => ?_)
  · refine j_iconst C dX10_alike_31 rfl ?_
    have e := Option.some.inj h
    subst e
    exact j_ri C dX10_alike_32 rfl rfl rfl
  · refine j_iload_n C dX10_alike_5 rfl ?_
    refine j_iconst C dX10_alike_6 rfl ?_
    refine j_icmp_gt C 31 dX10_alike_7 rfl h (fun c24 h => ?_) (fun c24 h => ?_)
    · refine j_iconst C dX10_alike_31 rfl ?_
      have e := Option.some.inj h
      subst e
      exact j_ri C dX10_alike_32 rfl rfl rfl
    · refine j_iload_n C dX10_alike_10 rfl ?_
      refine j_aload_n C dX10_alike_11 rfl ?_
      refine j_getR C dX10_alike_12 CF10 (by decide) fl_X10_27 rfl rfl h (fun t1 h => ?_)
      refine j_getI C dX10_alike_15 CF5 (by decide) fl_X10_155 rfl rfl h (fun t2 h => ?_)
      refine j_icmp_gt C 31 dX10_alike_18 rfl h (fun c23 h => ?_) (fun c23 h => ?_)
      · refine j_iconst C dX10_alike_31 rfl ?_
        have e := Option.some.inj h
        subst e
        exact j_ri C dX10_alike_32 rfl rfl rfl
      · refine j_aload_n C dX10_alike_21 rfl ?_
        refine j_getR C dX10_alike_22 CF10 (by decide) fl_X10_27 rfl rfl h (fun t3 h => ?_)
        refine j_getI C dX10_alike_25 CF5 (by decide) fl_X10_149 rfl rfl h (fun t4 h => ?_)
        refine j_if_ne C 33 dX10_alike_28 rfl h (fun c22 h => ?_) (fun c22 h => ?_)
        · refine j_iload_n C dX10_alike_33 rfl ?_
          refine j_iconst C dX10_alike_34 rfl ?_
          refine j_icmp_eq C 55 dX10_alike_35 rfl h (fun c21 h => ?_) (fun c21 h => ?_)
          · exact X10_alike_J55_ok C hlv h
          · refine j_iload_n C dX10_alike_38 rfl ?_
            refine j_bipush C dX10_alike_39 rfl ?_
            refine j_icmp_eq C 55 dX10_alike_41 rfl h (fun c20 h => ?_) (fun c20 h => ?_)
            · exact X10_alike_J55_ok C hlv h
            · refine j_iload_n C dX10_alike_44 rfl ?_
              refine j_if_lt C 53 dX10_alike_45 rfl h (fun c19 h => ?_) (fun c19 h => ?_)
              · refine j_iconst C dX10_alike_53 rfl ?_
                have e := Option.some.inj h
                subst e
                exact j_ri C dX10_alike_54 rfl rfl rfl
              · refine j_iload_n C dX10_alike_48 rfl ?_
                refine j_iload_n C dX10_alike_49 rfl ?_
                refine j_icmp_lt C 55 dX10_alike_50 rfl h (fun c18 h => ?_) (fun c18 h => ?_)
                · exact X10_alike_J55_ok C hlv h
                · refine j_iconst C dX10_alike_53 rfl ?_
                  have e := Option.some.inj h
                  subst e
                  exact j_ri C dX10_alike_54 rfl rfl rfl
        · refine j_iconst C dX10_alike_31 rfl ?_
          have e := Option.some.inj h
          subst e
          exact j_ri C dX10_alike_32 rfl rfl rfl
theorem dX1_copyFrom_0 : decode cX1_copyFrom 0 = .ok (.aload_n 1, 1) := by decide +kernel
theorem dX1_copyFrom_1 : decode cX1_copyFrom 1 = .ok (.getfield 9, 3) := by decide +kernel
theorem dX1_copyFrom_4 : decode cX1_copyFrom 4 = .ok (.iconst 0, 1) := by decide +kernel
theorem dX1_copyFrom_5 : decode cX1_copyFrom 5 = .ok (.aload_n 0, 1) := by decide +kernel
theorem dX1_copyFrom_6 : decode cX1_copyFrom 6 = .ok (.getfield 9, 3) := by decide +kernel
theorem dX1_copyFrom_9 : decode cX1_copyFrom 9 = .ok (.iconst 0, 1) := by decide +kernel
theorem dX1_copyFrom_10 : decode cX1_copyFrom 10 = .ok (.aload_n 0, 1) := by decide +kernel
theorem dX1_copyFrom_11 : decode cX1_copyFrom 11 = .ok (.getfield 9, 3) := by decide +kernel
theorem dX1_copyFrom_14 : decode cX1_copyFrom 14 = .ok (.arraylength, 1) := by decide +kernel
theorem dX1_copyFrom_15 : decode cX1_copyFrom 15 = .ok (.invokestatic 31, 3) := by decide +kernel
theorem dX1_copyFrom_18 : decode cX1_copyFrom 18 = .ok (.aload_n 1, 1) := by decide +kernel
theorem dX1_copyFrom_19 : decode cX1_copyFrom 19 = .ok (.getfield 15, 3) := by decide +kernel
theorem dX1_copyFrom_22 : decode cX1_copyFrom 22 = .ok (.iconst 0, 1) := by decide +kernel
theorem dX1_copyFrom_23 : decode cX1_copyFrom 23 = .ok (.aload_n 0, 1) := by decide +kernel
theorem dX1_copyFrom_24 : decode cX1_copyFrom 24 = .ok (.getfield 15, 3) := by decide +kernel
theorem dX1_copyFrom_27 : decode cX1_copyFrom 27 = .ok (.iconst 0, 1) := by decide +kernel
theorem dX1_copyFrom_28 : decode cX1_copyFrom 28 = .ok (.aload_n 0, 1) := by decide +kernel
theorem dX1_copyFrom_29 : decode cX1_copyFrom 29 = .ok (.getfield 15, 3) := by decide +kernel
theorem dX1_copyFrom_32 : decode cX1_copyFrom 32 = .ok (.arraylength, 1) := by decide +kernel
theorem dX1_copyFrom_33 : decode cX1_copyFrom 33 = .ok (.invokestatic 31, 3) := by decide +kernel
theorem dX1_copyFrom_36 : decode cX1_copyFrom 36 = .ok (.aload_n 1, 1) := by decide +kernel
theorem dX1_copyFrom_37 : decode cX1_copyFrom 37 = .ok (.getfield 18, 3) := by decide +kernel
theorem dX1_copyFrom_40 : decode cX1_copyFrom 40 = .ok (.iconst 0, 1) := by decide +kernel
theorem dX1_copyFrom_41 : decode cX1_copyFrom 41 = .ok (.aload_n 0, 1) := by decide +kernel
theorem dX1_copyFrom_42 : decode cX1_copyFrom 42 = .ok (.getfield 18, 3) := by decide +kernel
theorem dX1_copyFrom_45 : decode cX1_copyFrom 45 = .ok (.iconst 0, 1) := by decide +kernel
theorem dX1_copyFrom_46 : decode cX1_copyFrom 46 = .ok (.aload_n 0, 1) := by decide +kernel
theorem dX1_copyFrom_47 : decode cX1_copyFrom 47 = .ok (.getfield 18, 3) := by decide +kernel
theorem dX1_copyFrom_50 : decode cX1_copyFrom 50 = .ok (.arraylength, 1) := by decide +kernel
theorem dX1_copyFrom_51 : decode cX1_copyFrom 51 = .ok (.invokestatic 31, 3) := by decide +kernel
theorem dX1_copyFrom_54 : decode cX1_copyFrom 54 = .ok (.aload_n 0, 1) := by decide +kernel
theorem dX1_copyFrom_55 : decode cX1_copyFrom 55 = .ok (.aload_n 1, 1) := by decide +kernel
theorem dX1_copyFrom_56 : decode cX1_copyFrom 56 = .ok (.getfield 21, 3) := by decide +kernel
theorem dX1_copyFrom_59 : decode cX1_copyFrom 59 = .ok (.putfield 21, 3) := by decide +kernel
theorem dX1_copyFrom_62 : decode cX1_copyFrom 62 = .ok (.return_, 1) := by decide +kernel
set_option maxRecDepth 100000 in
set_option maxHeartbeats 4000000 in
theorem X1_copyFrom_ct {l0 : Nat} {l1 : Nat} {m : Mem} {out : Mem} (h : X1_copyFrom l0 l1 m = some out) : shK l0 = 1 + 10 ∧ CT yX1_copyFrom cX1_copyFrom 2 none 1 0 0 [vR l0, vR l1] 312 m none 312 out := by
  unfold X1_copyFrom at h
  obtain ⟨hK, h⟩ := ite_some h
  have hlv : 0 < 1 := by decide
  refine ⟨hK, CT.of (by decide +kernel) rfl (Nat.le_of_ble_eq_true rfl) (ls := [some (vR l0), some (vR l1)]) rfl fun g w C _ => ?_⟩
  refine j_aload_n C dX1_copyFrom_0 rfl ?_
  refine j_getR C dX1_copyFrom_1 CF1 (by decide) fl_X1_9 rfl rfl h (fun t1 h => ?_)
  refine j_iconst C dX1_copyFrom_4 rfl ?_
  refine j_aload_n C dX1_copyFrom_5 rfl ?_
  refine j_getR C dX1_copyFrom_6 CF1 (by decide) fl_X1_9 rfl rfl h (fun t2 h => ?_)
  refine j_iconst C dX1_copyFrom_9 rfl ?_
  refine j_aload_n C dX1_copyFrom_10 rfl ?_
  refine j_getR C dX1_copyFrom_11 CF1 (by decide) fl_X1_9 rfl rfl h (fun t3 h => ?_)
  refine j_alen C dX1_copyFrom_14 rfl h (fun t4 h => ?_)
  refine j_acopy C dX1_copyFrom_15 al_X1_31 rfl (by omega) (Nat.le_of_ble_eq_true rfl) rfl h (fun m5 h => ?_)
  refine j_aload_n C dX1_copyFrom_18 rfl ?_
  refine j_getR C dX1_copyFrom_19 CF1 (by decide) fl_X1_15 rfl rfl h (fun t6 h => ?_)
  refine j_iconst C dX1_copyFrom_22 rfl ?_
  refine j_aload_n C dX1_copyFrom_23 rfl ?_
  refine j_getR C dX1_copyFrom_24 CF1 (by decide) fl_X1_15 rfl rfl h (fun t7 h => ?_)
  refine j_iconst C dX1_copyFrom_27 rfl ?_
  refine j_aload_n C dX1_copyFrom_28 rfl ?_
  refine j_getR C dX1_copyFrom_29 CF1 (by decide) fl_X1_15 rfl rfl h (fun t8 h => ?_)
  refine j_alen C dX1_copyFrom_32 rfl h (fun t9 h => ?_)
  refine j_acopy C dX1_copyFrom_33 al_X1_31 rfl (by omega) (Nat.le_of_ble_eq_true rfl) rfl h (fun m10 h => ?_)
  refine j_aload_n C dX1_copyFrom_36 rfl ?_
  refine j_getR C dX1_copyFrom_37 CF1 (by decide) fl_X1_18 rfl rfl h (fun t11 h => ?_)
  refine j_iconst C dX1_copyFrom_40 rfl ?_
  refine j_aload_n C dX1_copyFrom_41 rfl ?_
  refine j_getR C dX1_copyFrom_42 CF1 (by decide) fl_X1_18 rfl rfl h (fun t12 h => ?_)
  refine j_iconst C dX1_copyFrom_45 rfl ?_
  refine j_aload_n C dX1_copyFrom_46 rfl ?_
  refine j_getR C dX1_copyFrom_47 CF1 (by decide) fl_X1_18 rfl rfl h (fun t13 h => ?_)
  refine j_alen C dX1_copyFrom_50 rfl h (fun t14 h => ?_)
  refine j_acopy C dX1_copyFrom_51 al_X1_31 rfl (by omega) (Nat.le_of_ble_eq_true rfl) rfl h (fun m15 h => ?_)
  refine j_aload_n C dX1_copyFrom_54 rfl ?_
  refine j_aload_n C dX1_copyFrom_55 rfl ?_
  refine j_getI C dX1_copyFrom_56 CF1 (by decide) fl_X1_21 rfl rfl h (fun t16 h => ?_)
  refine j_putI C dX1_copyFrom_59 CF1 (by decide) fl_X1_21 rfl rfl rfl rfl h (fun m17 h => ?_)
  have e := Option.some.inj h
  subst e
  exact j_rv C dX1_copyFrom_62 rfl rfl
theorem dX10_passWithout_0 : decode cX10_passWithout 0 = .ok (.aload_n 0, 1) := by decide +kernel
theorem dX10_passWithout_1 : decode cX10_passWithout 1 = .ok (.getfield 41, 3) := by decide +kernel
theorem dX10_passWithout_4 : decode cX10_passWithout 4 = .ok (.aload_n 0, 1) := by decide +kernel
theorem dX10_passWithout_5 : decode cX10_passWithout 5 = .ok (.getfield 37, 3) := by decide +kernel
theorem dX10_passWithout_8 : decode cX10_passWithout 8 = .ok (.invokevirtual 116, 3) := by decide +kernel
theorem dX10_passWithout_11 : decode cX10_passWithout 11 = .ok (.aload_n 0, 1) := by decide +kernel
theorem dX10_passWithout_12 : decode cX10_passWithout 12 = .ok (.getfield 41, 3) := by decide +kernel
theorem dX10_passWithout_15 : decode cX10_passWithout 15 = .ok (.iload_n 1, 1) := by decide +kernel
theorem dX10_passWithout_16 : decode cX10_passWithout 16 = .ok (.invokevirtual 294, 3) := by decide +kernel
theorem dX10_passWithout_19 : decode cX10_passWithout 19 = .ok (.ifCond .eq 13, 3) := by decide +kernel
theorem dX10_passWithout_22 : decode cX10_passWithout 22 = .ok (.aload_n 0, 1) := by decide +kernel
theorem dX10_passWithout_23 : decode cX10_passWithout 23 = .ok (.getfield 41, 3) := by decide +kernel
theorem dX10_passWithout_26 : decode cX10_passWithout 26 = .ok (.getfield 297, 3) := by decide +kernel
theorem dX10_passWithout_29 : decode cX10_passWithout 29 = .ok (.iload_n 1, 1) := by decide +kernel
theorem dX10_passWithout_30 : decode cX10_passWithout 30 = .ok (.iconst 0, 1) := by decide +kernel
theorem dX10_passWithout_31 : decode cX10_passWithout 31 = .ok (.iastore, 1) := by decide +kernel
theorem dX10_passWithout_32 : decode cX10_passWithout 32 = .ok (.aload_n 0, 1) := by decide +kernel
theorem dX10_passWithout_33 : decode cX10_passWithout 33 = .ok (.getfield 61, 3) := by decide +kernel
theorem dX10_passWithout_36 : decode cX10_passWithout 36 = .ok (.aload_n 0, 1) := by decide +kernel
theorem dX10_passWithout_37 : decode cX10_passWithout 37 = .ok (.getfield 27, 3) := by decide +kernel
theorem dX10_passWithout_40 : decode cX10_passWithout 40 = .ok (.aload_n 0, 1) := by decide +kernel
theorem dX10_passWithout_41 : decode cX10_passWithout 41 = .ok (.getfield 41, 3) := by decide +kernel
theorem dX10_passWithout_44 : decode cX10_passWithout 44 = .ok (.aload_n 0, 1) := by decide +kernel
theorem dX10_passWithout_45 : decode cX10_passWithout 45 = .ok (.getfield 27, 3) := by decide +kernel
theorem dX10_passWithout_48 : decode cX10_passWithout 48 = .ok (.getfield 248, 3) := by decide +kernel
theorem dX10_passWithout_51 : decode cX10_passWithout 51 = .ok (.invokevirtual 310, 3) := by decide +kernel
theorem dX10_passWithout_54 : decode cX10_passWithout 54 = .ok (.return_, 1) := by decide +kernel
set_option maxRecDepth 100000 in
set_option maxHeartbeats 4000000 in
theorem X10_passWithout_J32_ok {g : Gm} {w : Wd} (C : Cx g w RX10 cX10_passWithout 2 none) {lv : Nat} (hlv : 5 < lv) {N : Nat} {l0 : Nat} {m : Mem} {out : Mem} (h : X10_passWithout_J32 N l0 m = some out) : Jd g w 2 (rmL lv 0 0) (Qm g w none out) 32 [some (vR l0), none] [] 312 m 0 0 := by
  unfold X10_passWithout_J32 at h
  refine j_aload_n C dX10_passWithout_32 rfl ?_
  refine j_getR C dX10_passWithout_33 CF10 (by decide) fl_X10_61 rfl rfl h (fun t6 h => ?_)
  refine j_aload_n C dX10_passWithout_36 rfl ?_
  refine j_getR C dX10_passWithout_37 CF10 (by decide) fl_X10_27 rfl rfl h (fun t7 h => ?_)
  refine j_aload_n C dX10_passWithout_40 rfl ?_
  refine j_getR C dX10_passWithout_41 CF10 (by decide) fl_X10_41 rfl rfl h (fun t8 h => ?_)
  refine j_aload_n C dX10_passWithout_44 rfl ?_
  refine j_getR C dX10_passWithout_45 CF10 (by decide) fl_X10_27 rfl rfl h (fun t9 h => ?_)
  refine j_getR C dX10_passWithout_48 CF5 (by decide) fl_X10_248 rfl rfl h (fun t10 h => ?_)
  obtain ⟨p11, ep11, h⟩ := bind_some h
  have qp11 := X3_pass_ct ep11
  refine j_cVV C dX10_passWithout_51 vl_X10_310 CF3 rfl qp11.1 qp11.2 (by omega) rfl rfl (Nat.le_of_ble_eq_true rfl) ?_
  have e := Option.some.inj h
  subst e
  exact j_rv C dX10_passWithout_54 rfl rfl
set_option maxRecDepth 100000 in
set_option maxHeartbeats 4000000 in
theorem X10_passWithout_ct {N : Nat} {l0 : Nat} {l1 : Int} {m : Mem} {out : Mem} (h : X10_passWithout N l0 l1 m = some out) : shK l0 = 10 + 10 ∧ CT yX10_passWithout cX10_passWithout 2 none 6 0 0 [vR l0, vI l1] 312 m none 312 out := by
  unfold X10_passWithout at h
  obtain ⟨hK, h⟩ := ite_some h
  have hlv : 5 < 6 := by decide
  refine ⟨hK, CT.of (by decide +kernel) rfl (Nat.le_of_ble_eq_true rfl) (ls := [some (vR l0), some (vI l1)]) rfl fun g w C _ => ?_⟩
  refine j_aload_n C dX10_passWithout_0 rfl ?_
  refine j_getR C dX10_passWithout_1 CF10 (by decide) fl_X10_41 rfl rfl h (fun t1 h => ?_)
  refine j_aload_n C dX10_passWithout_4 rfl ?_
  refine j_getR C dX10_passWithout_5 CF10 (by decide) fl_X10_37 rfl rfl h (fun t2 h => ?_)
  obtain ⟨p3, ep3, h⟩ := bind_some h
  have qp3 := X1_copyFrom_ct ep3
  refine j_cVV C dX10_passWithout_8 vl_X10_116 CF1 rfl qp3.1 qp3.2 (by omega) rfl rfl (Nat.le_of_ble_eq_true rfl) ?_
  refine j_aload_n C dX10_passWithout_11 rfl ?_
  refine j_getR C dX10_passWithout_12 CF10 (by decide) fl_X10_41 rfl rfl h (fun t4 h => ?_)
  refine j_iload_n C dX10_passWithout_15 rfl ?_
  obtain ⟨p5, ep5, h⟩ := bind_some h
  have qp5 := X1_hasWall_ct ep5
  refine j_cVI C dX10_passWithout_16 vl_X10_294 CF1 rfl qp5.1 qp5.2 (by omega) rfl rfl (Nat.le_of_ble_eq_true rfl) ?_
  refine j_if_eq C 32 dX10_passWithout_19 rfl h (fun c15 h => ?_) (fun c15 h => ?_)
  · refine j_mask [true, false] (ls' := [some (vR _), none]) rfl ?_
    exact X10_passWithout_J32_ok C hlv h
  · refine j_aload_n C dX10_passWithout_22 rfl ?_
    refine j_getR C dX10_passWithout_23 CF10 (by decide) fl_X10_41 rfl rfl h (fun t12 h => ?_)
    refine j_getR C dX10_passWithout_26 CF1 (by decide) fl_X10_297 rfl rfl h (fun t13 h => ?_)
    refine j_iload_n C dX10_passWithout_29 rfl ?_
    refine j_iconst C dX10_passWithout_30 rfl ?_
    refine j_iast C dX10_passWithout_31 rfl h (fun m14 h => ?_)
    refine j_mask [true, false] (ls' := [some (vR _), none]) rfl ?_
    exact X10_passWithout_J32_ok C hlv h
theorem dX10_gain_0 : decode cX10_gain 0 = .ok (.aload_n 0, 1) := by decide +kernel
theorem dX10_gain_1 : decode cX10_gain 1 = .ok (.getfield 27, 3) := by decide +kernel
theorem dX10_gain_4 : decode cX10_gain 4 = .ok (.iload_n 2, 1) := by decide +kernel
theorem dX10_gain_5 : decode cX10_gain 5 = .ok (.invokevirtual 173, 3) := by decide +kernel
theorem dX10_gain_8 : decode cX10_gain 8 = .ok (.ifCond .eq 22, 3) := by decide +kernel
theorem dX10_gain_11 : decode cX10_gain 11 = .ok (.aload_n 0, 1) := by decide +kernel
theorem dX10_gain_12 : decode cX10_gain 12 = .ok (.getfield 61, 3) := by decide +kernel
theorem dX10_gain_15 : decode cX10_gain 15 = .ok (.getfield 239, 3) := by decide +kernel
theorem dX10_gain_18 : decode cX10_gain 18 = .ok (.iload_n 2, 1) := by decide +kernel
theorem dX10_gain_19 : decode cX10_gain 19 = .ok (.iaload, 1) := by decide +kernel
theorem dX10_gain_20 : decode cX10_gain 20 = .ok (.aload_n 1, 1) := by decide +kernel
theorem dX10_gain_21 : decode cX10_gain 21 = .ok (.getfield 239, 3) := by decide +kernel
theorem dX10_gain_24 : decode cX10_gain 24 = .ok (.iload_n 2, 1) := by decide +kernel
theorem dX10_gain_25 : decode cX10_gain 25 = .ok (.iaload, 1) := by decide +kernel
theorem dX10_gain_26 : decode cX10_gain 26 = .ok (.isub, 1) := by decide +kernel
theorem dX10_gain_27 : decode cX10_gain 27 = .ok (.goto 4, 3) := by decide +kernel
theorem dX10_gain_30 : decode cX10_gain 30 = .ok (.iconst 0, 1) := by decide +kernel
theorem dX10_gain_31 : decode cX10_gain 31 = .ok (.ireturn, 1) := by decide +kernel
set_option maxRecDepth 100000 in
set_option maxHeartbeats 4000000 in
theorem X10_gain_ct {l0 : Nat} {l1 : Nat} {l2 : Int} {m : Mem} {out : Int} (h : X10_gain l0 l1 l2 m = some out) : shK l0 = 10 + 10 ∧ CT yX10_gain cX10_gain 3 (some .int) 2 0 0 [vR l0, vR l1, vI l2] 312 m (some (vI out)) 312 m := by
  unfold X10_gain at h
  obtain ⟨hK, h⟩ := ite_some h
  have hlv : 1 < 2 := by decide
  refine ⟨hK, CT.of (by decide +kernel) rfl (Nat.le_of_ble_eq_true rfl) (ls := [some (vR l0), some (vR l1), some (vI l2)]) rfl fun g w C _ => ?_⟩
  refine j_aload_n C dX10_gain_0 rfl ?_
  refine j_getR C dX10_gain_1 CF10 (by decide) fl_X10_27 rfl rfl h (fun t1 h => ?_)
  refine j_iload_n C dX10_gain_4 rfl ?_
  obtain ⟨p2, ep2, h⟩ := bind_some h
  have qp2 := X5_isCistern_ct ep2
  refine j_cVI C dX10_gain_5 vl_X10_173 CF5 rfl qp2.1 qp2.2 (by omega) rfl rfl (Nat.le_of_ble_eq_true rfl) ?_
  refine j_if_eq C 30 dX10_gain_8 rfl h (fun c8 h => ?_) (fun c8 h => ?_)
  · refine j_iconst C dX10_gain_30 rfl ?_
    exact j_ri C dX10_gain_31 rfl (Option.some.inj h).symm rfl
  · refine j_aload_n C dX10_gain_11 rfl ?_
    refine j_getR C dX10_gain_12 CF10 (by decide) fl_X10_61 rfl rfl h (fun t3 h => ?_)
    refine j_getR C dX10_gain_15 CF3 (by decide) fl_X10_239 rfl rfl h (fun t4 h => ?_)
    refine j_iload_n C dX10_gain_18 rfl ?_
    refine j_iald C dX10_gain_19 rfl h (fun t5 h => ?_)
    refine j_aload_n C dX10_gain_20 rfl ?_
    refine j_getR C dX10_gain_21 CF3 (by decide) fl_X10_239 rfl rfl h (fun t6 h => ?_)
    refine j_iload_n C dX10_gain_24 rfl ?_
    refine j_iald C dX10_gain_25 rfl h (fun t7 h => ?_)
    refine j_isub C dX10_gain_26 ?_
    refine j_goto C 31 dX10_gain_27 rfl ?_
    exact j_ri C dX10_gain_31 rfl (Option.some.inj h).symm rfl
theorem dX10_best_0 : decode cX10_best 0 = .ok (.aload_n 0, 1) := by decide +kernel
theorem dX10_best_1 : decode cX10_best 1 = .ok (.getfield 27, 3) := by decide +kernel
theorem dX10_best_4 : decode cX10_best 4 = .ok (.iload_n 1, 1) := by decide +kernel
theorem dX10_best_5 : decode cX10_best 5 = .ok (.invokevirtual 173, 3) := by decide +kernel
theorem dX10_best_8 : decode cX10_best 8 = .ok (.ifCond .ne 5, 3) := by decide +kernel
theorem dX10_best_11 : decode cX10_best 11 = .ok (.iconst (-1), 1) := by decide +kernel
theorem dX10_best_12 : decode cX10_best 12 = .ok (.ireturn, 1) := by decide +kernel
theorem dX10_best_13 : decode cX10_best 13 = .ok (.aload_n 0, 1) := by decide +kernel
theorem dX10_best_14 : decode cX10_best 14 = .ok (.invokevirtual 226, 3) := by decide +kernel
theorem dX10_best_17 : decode cX10_best 17 = .ok (.astore_n 2, 1) := by decide +kernel
theorem dX10_best_18 : decode cX10_best 18 = .ok (.iconst 0, 1) := by decide +kernel
theorem dX10_best_19 : decode cX10_best 19 = .ok (.istore_n 3, 1) := by decide +kernel
theorem dX10_best_20 : decode cX10_best 20 = .ok (.iconst (-1), 1) := by decide +kernel
theorem dX10_best_21 : decode cX10_best 21 = .ok (.istore 4, 2) := by decide +kernel
theorem dX10_best_23 : decode cX10_best 23 = .ok (.iconst 0, 1) := by decide +kernel
theorem dX10_best_24 : decode cX10_best 24 = .ok (.istore 5, 2) := by decide +kernel
theorem dX10_best_26 : decode cX10_best 26 = .ok (.iload 5, 2) := by decide +kernel
theorem dX10_best_28 : decode cX10_best 28 = .ok (.aload_n 0, 1) := by decide +kernel
theorem dX10_best_29 : decode cX10_best 29 = .ok (.getfield 27, 3) := by decide +kernel
theorem dX10_best_32 : decode cX10_best 32 = .ok (.invokevirtual 375, 3) := by decide +kernel
theorem dX10_best_35 : decode cX10_best 35 = .ok (.if_icmp .ge 57, 3) := by decide +kernel
theorem dX10_best_38 : decode cX10_best 38 = .ok (.aload_n 0, 1) := by decide +kernel
theorem dX10_best_39 : decode cX10_best 39 = .ok (.getfield 37, 3) := by decide +kernel
theorem dX10_best_42 : decode cX10_best 42 = .ok (.iload 5, 2) := by decide +kernel
theorem dX10_best_44 : decode cX10_best 44 = .ok (.invokevirtual 294, 3) := by decide +kernel
theorem dX10_best_47 : decode cX10_best 47 = .ok (.ifCond .eq 39, 3) := by decide +kernel
theorem dX10_best_50 : decode cX10_best 50 = .ok (.aload_n 0, 1) := by decide +kernel
theorem dX10_best_51 : decode cX10_best 51 = .ok (.iload 5, 2) := by decide +kernel
theorem dX10_best_53 : decode cX10_best 53 = .ok (.invokevirtual 368, 3) := by decide +kernel
theorem dX10_best_56 : decode cX10_best 56 = .ok (.aload_n 0, 1) := by decide +kernel
theorem dX10_best_57 : decode cX10_best 57 = .ok (.aload_n 2, 1) := by decide +kernel
theorem dX10_best_58 : decode cX10_best 58 = .ok (.iload_n 1, 1) := by decide +kernel
theorem dX10_best_59 : decode cX10_best 59 = .ok (.invokevirtual 371, 3) := by decide +kernel
theorem dX10_best_62 : decode cX10_best 62 = .ok (.istore 6, 2) := by decide +kernel
theorem dX10_best_64 : decode cX10_best 64 = .ok (.iload 6, 2) := by decide +kernel
theorem dX10_best_66 : decode cX10_best 66 = .ok (.iload_n 3, 1) := by decide +kernel
theorem dX10_best_67 : decode cX10_best 67 = .ok (.if_icmp .le 8, 3) := by decide +kernel
theorem dX10_best_70 : decode cX10_best 70 = .ok (.iload 5, 2) := by decide +kernel
theorem dX10_best_72 : decode cX10_best 72 = .ok (.goto 5, 3) := by decide +kernel
theorem dX10_best_75 : decode cX10_best 75 = .ok (.iload 4, 2) := by decide +kernel
theorem dX10_best_77 : decode cX10_best 77 = .ok (.istore 4, 2) := by decide +kernel
theorem dX10_best_79 : decode cX10_best 79 = .ok (.iload 6, 2) := by decide +kernel
theorem dX10_best_81 : decode cX10_best 81 = .ok (.iload_n 3, 1) := by decide +kernel
theorem dX10_best_82 : decode cX10_best 82 = .ok (.invokestatic 378, 3) := by decide +kernel
theorem dX10_best_85 : decode cX10_best 85 = .ok (.istore_n 3, 1) := by decide +kernel
theorem dX10_best_86 : decode cX10_best 86 = .ok (.iinc 5 1, 3) := by decide +kernel
theorem dX10_best_89 : decode cX10_best 89 = .ok (.goto (-63), 3) := by decide +kernel
theorem dX10_best_92 : decode cX10_best 92 = .ok (.iload 4, 2) := by decide +kernel
theorem dX10_best_94 : decode cX10_best 94 = .ok (.ireturn, 1) := by decide +kernel
set_option maxRecDepth 100000 in
set_option maxHeartbeats 4000000 in
theorem X10_best_J86_ok {g : Gm} {w : Wd} (C : Cx g w RX10 cX10_best 7 (some .int)) {lv : Nat} (hlv : 6 < lv) {N : Nat} {r26 : Nat → Int → Nat → Int → Int → Int → Mem → Option (Int × Mem) } {l0 : Nat} {l1 : Int} {l2 : Nat} {l3 : Int} {l4 : Int} {l5 : Int} {m : Mem} {out : (Int × Mem)} (hr26 : ∀ l0 l1 l2 l3 l4 l5 m, r26 l0 l1 l2 l3 l4 l5 m = some out → Jd g w 7 (rmL lv 0 0) (Qm g w (some (vI out.1)) out.2) 26 [some (vR l0), some (vI l1), some (vR l2), some (vI l3), some (vI l4), some (vI l5), none] [] 312 m 0 0) (h : X10_best_J86 N r26 l0 l1 l2 l3 l4 l5 m = some out) : Jd g w 7 (rmL lv 0 0) (Qm g w (some (vI out.1)) out.2) 86 [some (vR l0), some (vI l1), some (vR l2), some (vI l3), some (vI l4), some (vI l5), none] [] 312 m 0 0 := by
  unfold X10_best_J86 at h
  refine j_iinc (ls' := [some (vR _), some (vI _), some (vR _), some (vI _), some (vI _), some (vI _), none]) C dX10_best_86 rfl (by decide) rfl ?_
  refine j_goto C 26 dX10_best_89 rfl ?_
  exact hr26 _ _ _ _ _ _ _ h
set_option maxRecDepth 100000 in
set_option maxHeartbeats 4000000 in
theorem X10_best_J77_ok {g : Gm} {w : Wd} (C : Cx g w RX10 cX10_best 7 (some .int)) {lv : Nat} (hlv : 6 < lv) {N : Nat} {r26 : Nat → Int → Nat → Int → Int → Int → Mem → Option (Int × Mem) } {l0 : Nat} {l1 : Int} {l2 : Nat} {l3 : Int} {l5 : Int} {l6 : Int} {s0 : Int} {m : Mem} {out : (Int × Mem)} (hr26 : ∀ l0 l1 l2 l3 l4 l5 m, r26 l0 l1 l2 l3 l4 l5 m = some out → Jd g w 7 (rmL lv 0 0) (Qm g w (some (vI out.1)) out.2) 26 [some (vR l0), some (vI l1), some (vR l2), some (vI l3), some (vI l4), some (vI l5), none] [] 312 m 0 0) (h : X10_best_J77 N r26 l0 l1 l2 l3 l5 l6 s0 m = some out) : Jd g w 7 (rmL lv 0 0) (Qm g w (some (vI out.1)) out.2) 77 [some (vR l0), some (vI l1), some (vR l2), some (vI l3), none, some (vI l5), some (vI l6)] [vI s0] 312 m 0 0 := by
  unfold X10_best_J77 at h
  refine j_istore (ls' := [some (vR _), some (vI _), some (vR _), some (vI _), some (vI _), some (vI _), some (vI _)]) C dX10_best_77 (by decide) rfl ?_
  refine j_iload C dX10_best_79 rfl ?_
  refine j_iload_n C dX10_best_81 rfl ?_
  refine j_mmax C dX10_best_82 ml_X10_378 rfl (by omega) (Nat.le_refl 0) (Nat.le_refl 0) (Nat.le_of_ble_eq_true rfl) ?_
  refine j_istore_n (ls' := [some (vR _), some (vI _), some (vR _), some (vI _), some (vI _), some (vI _), some (vI _)]) C dX10_best_85 (by decide) rfl ?_
  refine j_mask [true, true, true, true, true, true, false] (ls' := [some (vR _), some (vI _), some (vR _), some (vI _), some (vI _), some (vI _), none]) rfl ?_
  exact X10_best_J86_ok C hlv hr26 h
set_option maxRecDepth 100000 in
set_option maxHeartbeats 4000000 in
theorem X10_best_L26_bok {g : Gm} {w : Wd} (C : Cx g w RX10 cX10_best 7 (some .int)) {lv : Nat} (hlv : 6 < lv) {N : Nat} {r26 : Nat → Int → Nat → Int → Int → Int → Mem → Option (Int × Mem)} {l0 : Nat} {l1 : Int} {l2 : Nat} {l3 : Int} {l4 : Int} {l5 : Int} {m : Mem} {out : (Int × Mem)} (hr26 : ∀ l0 l1 l2 l3 l4 l5 m, r26 l0 l1 l2 l3 l4 l5 m = some out → Jd g w 7 (rmL lv 0 0) (Qm g w (some (vI out.1)) out.2) 26 [some (vR l0), some (vI l1), some (vR l2), some (vI l3), some (vI l4), some (vI l5), none] [] 312 m 0 0) (h : X10_best_L26_b N r26 l0 l1 l2 l3 l4 l5 m = some out) : Jd g w 7 (rmL lv 0 0) (Qm g w (some (vI out.1)) out.2) 26 [some (vR l0), some (vI l1), some (vR l2), some (vI l3), some (vI l4), some (vI l5), none] [] 312 m 0 0 := by
  unfold X10_best_L26_b at h
  refine j_iload C dX10_best_26 rfl ?_
  refine j_aload_n C dX10_best_28 rfl ?_
  refine j_getR C dX10_best_29 CF10 (by decide) fl_X10_27 rfl rfl h (fun t4 h => ?_)
  obtain ⟨p5, ep5, h⟩ := bind_some h
  have qp5 := X5_cells_ct ep5
  refine j_cVI C dX10_best_32 vl_X10_375 CF5 rfl qp5.1 qp5.2 (by omega) rfl rfl (Nat.le_of_ble_eq_true rfl) ?_
  refine j_icmp_ge C 92 dX10_best_35 rfl h (fun c12 h => ?_) (fun c12 h => ?_)
  · refine j_iload C dX10_best_92 rfl ?_
    have e := Option.some.inj h
    subst e
    exact j_ri C dX10_best_94 rfl rfl rfl
  · refine j_aload_n C dX10_best_38 rfl ?_
    refine j_getR C dX10_best_39 CF10 (by decide) fl_X10_37 rfl rfl h (fun t6 h => ?_)
    refine j_iload C dX10_best_42 rfl ?_
    obtain ⟨p7, ep7, h⟩ := bind_some h
    have qp7 := X1_hasWall_ct ep7
    refine j_cVI C dX10_best_44 vl_X10_294 CF1 rfl qp7.1 qp7.2 (by omega) rfl rfl (Nat.le_of_ble_eq_true rfl) ?_
    refine j_if_eq C 86 dX10_best_47 rfl h (fun c11 h => ?_) (fun c11 h => ?_)
    · exact X10_best_J86_ok C hlv hr26 h
    · refine j_aload_n C dX10_best_50 rfl ?_
      refine j_iload C dX10_best_51 rfl ?_
      obtain ⟨p8, ep8, h⟩ := bind_some h
      have qp8 := X10_passWithout_ct ep8
      refine j_cVV C dX10_best_53 vl_X10_368 CF10 rfl qp8.1 qp8.2 (by omega) rfl rfl (Nat.le_of_ble_eq_true rfl) ?_
      refine j_aload_n C dX10_best_56 rfl ?_
      refine j_aload_n C dX10_best_57 rfl ?_
      refine j_iload_n C dX10_best_58 rfl ?_
      obtain ⟨p9, ep9, h⟩ := bind_some h
      have qp9 := X10_gain_ct ep9
      refine j_cVI C dX10_best_59 vl_X10_371 CF10 rfl qp9.1 qp9.2 (by omega) rfl rfl (Nat.le_of_ble_eq_true rfl) ?_
      refine j_istore (ls' := [some (vR _), some (vI _), some (vR _), some (vI _), some (vI _), some (vI _), some (vI _)]) C dX10_best_62 (by decide) rfl ?_
      refine j_iload C dX10_best_64 rfl ?_
      refine j_iload_n C dX10_best_66 rfl ?_
      refine j_icmp_le C 75 dX10_best_67 rfl h (fun c10 h => ?_) (fun c10 h => ?_)
      · refine j_iload C dX10_best_75 rfl ?_
        refine j_mask [true, true, true, true, false, true, true] (ls' := [some (vR _), some (vI _), some (vR _), some (vI _), none, some (vI _), some (vI _)]) rfl ?_
        exact X10_best_J77_ok C hlv hr26 h
      · refine j_iload C dX10_best_70 rfl ?_
        refine j_goto C 77 dX10_best_72 rfl ?_
        refine j_mask [true, true, true, true, false, true, true] (ls' := [some (vR _), some (vI _), some (vR _), some (vI _), none, some (vI _), some (vI _)]) rfl ?_
        exact X10_best_J77_ok C hlv hr26 h
set_option maxRecDepth 100000 in
set_option maxHeartbeats 4000000 in
theorem X10_best_L26_ok {g : Gm} {w : Wd} (C : Cx g w RX10 cX10_best 7 (some .int)) {lv : Nat} (hlv : 6 < lv) {N : Nat} {out : (Int × Mem)} (f : Nat) : ∀ {l0 : Nat} {l1 : Int} {l2 : Nat} {l3 : Int} {l4 : Int} {l5 : Int} {m : Mem}, X10_best_L26 N f l0 l1 l2 l3 l4 l5 m = some out → Jd g w 7 (rmL lv 0 0) (Qm g w (some (vI out.1)) out.2) 26 [some (vR l0), some (vI l1), some (vR l2), some (vI l3), some (vI l4), some (vI l5), none] [] 312 m 0 0 := by
  induction f with
  | zero => intro l0 l1 l2 l3 l4 l5 m h; exact none_ne (α := (Int × Mem)) h
  | succ f ih => intro l0 l1 l2 l3 l4 l5 m h; exact X10_best_L26_bok C hlv (fun l0 l1 l2 l3 l4 l5 m h => ih h) h
set_option maxRecDepth 100000 in
set_option maxHeartbeats 4000000 in
theorem X10_best_ct {N : Nat} {l0 : Nat} {l1 : Int} {m : Mem} {out : (Int × Mem)} (h : X10_best N l0 l1 m = some out) : shK l0 = 10 + 10 ∧ CT yX10_best cX10_best 7 (some .int) 7 0 0 [vR l0, vI l1] 312 m (some (vI out.1)) 312 out.2 := by
  unfold X10_best at h
  obtain ⟨hK, h⟩ := ite_some h
  have hlv : 6 < 7 := by decide
  refine ⟨hK, CT.of (by decide +kernel) rfl (Nat.le_of_ble_eq_true rfl) (ls := [some (vR l0), some (vI l1), none, none, none, none, none]) rfl fun g w C _ => ?_⟩
  refine j_aload_n C dX10_best_0 rfl ?_
  refine j_getR C dX10_best_1 CF10 (by decide) fl_X10_27 rfl rfl h (fun t1 h => ?_)
  refine j_iload_n C dX10_best_4 rfl ?_
  obtain ⟨p2, ep2, h⟩ := bind_some h
  have qp2 := X5_isCistern_ct ep2
  refine j_cVI C dX10_best_5 vl_X10_173 CF5 rfl qp2.1 qp2.2 (by omega) rfl rfl (Nat.le_of_ble_eq_true rfl) ?_
  refine j_if_ne C 13 dX10_best_8 rfl h (fun c13 h => ?_) (fun c13 h => ?_)
  · refine j_aload_n C dX10_best_13 rfl ?_
    obtain ⟨p3, ep3, h⟩ := bind_some h
    have qp3 := X10_asTold_ct ep3
    refine j_cVR C dX10_best_14 vl_X10_226 CF10 rfl qp3.1 qp3.2 (by omega) rfl rfl (Nat.le_of_ble_eq_true rfl) ?_
    refine j_astore_n (ls' := [some (vR _), some (vI _), some (vR _), none, none, none, none]) C dX10_best_17 (by decide) rfl ?_
    refine j_iconst C dX10_best_18 rfl ?_
    refine j_istore_n (ls' := [some (vR _), some (vI _), some (vR _), some (vI _), none, none, none]) C dX10_best_19 (by decide) rfl ?_
    refine j_iconst C dX10_best_20 rfl ?_
    refine j_istore (ls' := [some (vR _), some (vI _), some (vR _), some (vI _), some (vI _), none, none]) C dX10_best_21 (by decide) rfl ?_
    refine j_iconst C dX10_best_23 rfl ?_
    refine j_istore (ls' := [some (vR _), some (vI _), some (vR _), some (vI _), some (vI _), some (vI _), none]) C dX10_best_24 (by decide) rfl ?_
    exact X10_best_L26_ok C hlv N h
  · refine j_iconst C dX10_best_11 rfl ?_
    have e := Option.some.inj h
    subst e
    exact j_ri C dX10_best_12 rfl rfl rfl
theorem dX10_hasIsland_0 : decode cX10_hasIsland 0 = .ok (.aload_n 0, 1) := by decide +kernel
theorem dX10_hasIsland_1 : decode cX10_hasIsland 1 = .ok (.getfield 27, 3) := by decide +kernel
theorem dX10_hasIsland_4 : decode cX10_hasIsland 4 = .ok (.invokevirtual 375, 3) := by decide +kernel
theorem dX10_hasIsland_7 : decode cX10_hasIsland 7 = .ok (.ifCond .le 7, 3) := by decide +kernel
theorem dX10_hasIsland_10 : decode cX10_hasIsland 10 = .ok (.iconst 1, 1) := by decide +kernel
theorem dX10_hasIsland_11 : decode cX10_hasIsland 11 = .ok (.goto 4, 3) := by decide +kernel
theorem dX10_hasIsland_14 : decode cX10_hasIsland 14 = .ok (.iconst 0, 1) := by decide +kernel
theorem dX10_hasIsland_15 : decode cX10_hasIsland 15 = .ok (.ireturn, 1) := by decide +kernel
set_option maxRecDepth 100000 in
set_option maxHeartbeats 4000000 in
theorem X10_hasIsland_ct {l0 : Nat} {m : Mem} {out : Int} (h : X10_hasIsland l0 m = some out) : shK l0 = 10 + 10 ∧ CT yX10_hasIsland cX10_hasIsland 1 (some .boolean) 2 0 0 [vR l0] 312 m (some (vI out)) 312 m := by
  unfold X10_hasIsland at h
  obtain ⟨hK, h⟩ := ite_some h
  have hlv : 1 < 2 := by decide
  refine ⟨hK, CT.of (by decide +kernel) rfl (Nat.le_of_ble_eq_true rfl) (ls := [some (vR l0)]) rfl fun g w C _ => ?_⟩
  refine j_aload_n C dX10_hasIsland_0 rfl ?_
  refine j_getR C dX10_hasIsland_1 CF10 (by decide) fl_X10_27 rfl rfl h (fun t1 h => ?_)
  obtain ⟨p2, ep2, h⟩ := bind_some h
  have qp2 := X5_cells_ct ep2
  refine j_cVI C dX10_hasIsland_4 vl_X10_375 CF5 rfl qp2.1 qp2.2 (by omega) rfl rfl (Nat.le_of_ble_eq_true rfl) ?_
  refine j_if_le C 14 dX10_hasIsland_7 rfl h (fun c3 h => ?_) (fun c3 h => ?_)
  · refine j_iconst C dX10_hasIsland_14 rfl ?_
    exact j_rz C dX10_hasIsland_15 rfl (retZ_some h) rfl
  · refine j_iconst C dX10_hasIsland_10 rfl ?_
    refine j_goto C 15 dX10_hasIsland_11 rfl ?_
    exact j_rz C dX10_hasIsland_15 rfl (retZ_some h) rfl
theorem dX10_canPass_0 : decode cX10_canPass 0 = .ok (.aload_n 0, 1) := by decide +kernel
theorem dX10_canPass_1 : decode cX10_canPass 1 = .ok (.invokevirtual 264, 3) := by decide +kernel
theorem dX10_canPass_4 : decode cX10_canPass 4 = .ok (.ifCond .eq 22, 3) := by decide +kernel
theorem dX10_canPass_7 : decode cX10_canPass 7 = .ok (.aload_n 0, 1) := by decide +kernel
theorem dX10_canPass_8 : decode cX10_canPass 8 = .ok (.getfield 37, 3) := by decide +kernel
theorem dX10_canPass_11 : decode cX10_canPass 11 = .ok (.getfield 167, 3) := by decide +kernel
theorem dX10_canPass_14 : decode cX10_canPass 14 = .ok (.iload_n 1, 1) := by decide +kernel
theorem dX10_canPass_15 : decode cX10_canPass 15 = .ok (.iadd, 1) := by decide +kernel
theorem dX10_canPass_16 : decode cX10_canPass 16 = .ok (.sipush 9999, 3) := by decide +kernel
theorem dX10_canPass_19 : decode cX10_canPass 19 = .ok (.if_icmp .gt 7, 3) := by decide +kernel
theorem dX10_canPass_22 : decode cX10_canPass 22 = .ok (.iconst 1, 1) := by decide +kernel
theorem dX10_canPass_23 : decode cX10_canPass 23 = .ok (.goto 4, 3) := by decide +kernel
theorem dX10_canPass_26 : decode cX10_canPass 26 = .ok (.iconst 0, 1) := by decide +kernel
theorem dX10_canPass_27 : decode cX10_canPass 27 = .ok (.ireturn, 1) := by decide +kernel
set_option maxRecDepth 100000 in
set_option maxHeartbeats 4000000 in
theorem X10_canPass_ct {l0 : Nat} {l1 : Int} {m : Mem} {out : Int} (h : X10_canPass l0 l1 m = some out) : shK l0 = 10 + 10 ∧ CT yX10_canPass cX10_canPass 2 (some .boolean) 3 0 0 [vR l0, vI l1] 312 m (some (vI out)) 312 m := by
  unfold X10_canPass at h
  obtain ⟨hK, h⟩ := ite_some h
  have hlv : 2 < 3 := by decide
  refine ⟨hK, CT.of (by decide +kernel) rfl (Nat.le_of_ble_eq_true rfl) (ls := [some (vR l0), some (vI l1)]) rfl fun g w C _ => ?_⟩
  refine j_aload_n C dX10_canPass_0 rfl ?_
  obtain ⟨p1, ep1, h⟩ := bind_some h
  have qp1 := X10_hasIsland_ct ep1
  refine j_cVI C dX10_canPass_1 vl_X10_264 CF10 rfl qp1.1 qp1.2 (by omega) rfl rfl (Nat.le_of_ble_eq_true rfl) ?_
  refine j_if_eq C 26 dX10_canPass_4 rfl h (fun c5 h => ?_) (fun c5 h => ?_)
  · refine j_iconst C dX10_canPass_26 rfl ?_
    exact j_rz C dX10_canPass_27 rfl (retZ_some h) rfl
  · refine j_aload_n C dX10_canPass_7 rfl ?_
    refine j_getR C dX10_canPass_8 CF10 (by decide) fl_X10_37 rfl rfl h (fun t2 h => ?_)
    refine j_getI C dX10_canPass_11 CF1 (by decide) fl_X10_167 rfl rfl h (fun t3 h => ?_)
    refine j_iload_n C dX10_canPass_14 rfl ?_
    refine j_iadd C dX10_canPass_15 ?_
    refine j_sipush C dX10_canPass_16 rfl ?_
    refine j_icmp_gt C 26 dX10_canPass_19 rfl h (fun c4 h => ?_) (fun c4 h => ?_)
    · refine j_iconst C dX10_canPass_26 rfl ?_
      exact j_rz C dX10_canPass_27 rfl (retZ_some h) rfl
    · refine j_iconst C dX10_canPass_22 rfl ?_
      refine j_goto C 27 dX10_canPass_23 rfl ?_
      exact j_rz C dX10_canPass_27 rfl (retZ_some h) rfl
theorem dX5_cellAt_0 : decode cX5_cellAt 0 = .ok (.iload_n 1, 1) := by decide +kernel
theorem dX5_cellAt_1 : decode cX5_cellAt 1 = .ok (.ifCond .lt 27, 3) := by decide +kernel
theorem dX5_cellAt_4 : decode cX5_cellAt 4 = .ok (.iload_n 1, 1) := by decide +kernel
theorem dX5_cellAt_5 : decode cX5_cellAt 5 = .ok (.aload_n 0, 1) := by decide +kernel
theorem dX5_cellAt_6 : decode cX5_cellAt 6 = .ok (.getfield 9, 3) := by decide +kernel
theorem dX5_cellAt_9 : decode cX5_cellAt 9 = .ok (.if_icmp .ge 19, 3) := by decide +kernel
theorem dX5_cellAt_12 : decode cX5_cellAt 12 = .ok (.iload_n 2, 1) := by decide +kernel
theorem dX5_cellAt_13 : decode cX5_cellAt 13 = .ok (.ifCond .lt 15, 3) := by decide +kernel
theorem dX5_cellAt_16 : decode cX5_cellAt 16 = .ok (.iload_n 2, 1) := by decide +kernel
theorem dX5_cellAt_17 : decode cX5_cellAt 17 = .ok (.aload_n 0, 1) := by decide +kernel
theorem dX5_cellAt_18 : decode cX5_cellAt 18 = .ok (.getfield 15, 3) := by decide +kernel
theorem dX5_cellAt_21 : decode cX5_cellAt 21 = .ok (.if_icmp .ge 7, 3) := by decide +kernel
theorem dX5_cellAt_24 : decode cX5_cellAt 24 = .ok (.iconst 1, 1) := by decide +kernel
theorem dX5_cellAt_25 : decode cX5_cellAt 25 = .ok (.goto 4, 3) := by decide +kernel
theorem dX5_cellAt_28 : decode cX5_cellAt 28 = .ok (.iconst 0, 1) := by decide +kernel
theorem dX5_cellAt_29 : decode cX5_cellAt 29 = .ok (.istore_n 3, 1) := by decide +kernel
theorem dX5_cellAt_30 : decode cX5_cellAt 30 = .ok (.iload_n 3, 1) := by decide +kernel
theorem dX5_cellAt_31 : decode cX5_cellAt 31 = .ok (.ifCond .eq 14, 3) := by decide +kernel
theorem dX5_cellAt_34 : decode cX5_cellAt 34 = .ok (.iload_n 2, 1) := by decide +kernel
theorem dX5_cellAt_35 : decode cX5_cellAt 35 = .ok (.aload_n 0, 1) := by decide +kernel
theorem dX5_cellAt_36 : decode cX5_cellAt 36 = .ok (.getfield 9, 3) := by decide +kernel
theorem dX5_cellAt_39 : decode cX5_cellAt 39 = .ok (.imul, 1) := by decide +kernel
theorem dX5_cellAt_40 : decode cX5_cellAt 40 = .ok (.iload_n 1, 1) := by decide +kernel
theorem dX5_cellAt_41 : decode cX5_cellAt 41 = .ok (.iadd, 1) := by decide +kernel
theorem dX5_cellAt_42 : decode cX5_cellAt 42 = .ok (.goto 4, 3) := by decide +kernel
theorem dX5_cellAt_45 : decode cX5_cellAt 45 = .ok (.iconst (-1), 1) := by decide +kernel
theorem dX5_cellAt_46 : decode cX5_cellAt 46 = .ok (.ireturn, 1) := by decide +kernel
set_option maxRecDepth 100000 in
set_option maxHeartbeats 4000000 in
theorem X5_cellAt_J29_ok {g : Gm} {w : Wd} (C : Cx g w RX5 cX5_cellAt 4 (some .int)) {lv : Nat} (hlv : 0 < lv) {l0 : Nat} {l1 : Int} {l2 : Int} {s0 : Int} {m : Mem} {out : Int} (h : X5_cellAt_J29 l0 l1 l2 s0 m = some out) : Jd g w 4 (rmL lv 0 0) (Qm g w (some (vI out)) m) 29 [some (vR l0), some (vI l1), some (vI l2), none] [vI s0] 312 m 0 0 := by
  unfold X5_cellAt_J29 at h
  refine j_istore_n (ls' := [some (vR _), some (vI _), some (vI _), some (vI _)]) C dX5_cellAt_29 (by decide) rfl ?_
  refine j_iload_n C dX5_cellAt_30 rfl ?_
  refine j_if_eq C 45 dX5_cellAt_31 rfl h (fun c2 h => ?_) (fun c2 h => ?_)
  · refine j_iconst C dX5_cellAt_45 rfl ?_
    exact j_ri C dX5_cellAt_46 rfl (Option.some.inj h).symm rfl
  · refine j_iload_n C dX5_cellAt_34 rfl ?_
    refine j_aload_n C dX5_cellAt_35 rfl ?_
    refine j_getI C dX5_cellAt_36 CF5 (by decide) fl_X5_9 rfl rfl h (fun t1 h => ?_)
    refine j_imul C dX5_cellAt_39 ?_
    refine j_iload_n C dX5_cellAt_40 rfl ?_
    refine j_iadd C dX5_cellAt_41 ?_
    refine j_goto C 46 dX5_cellAt_42 rfl ?_
    exact j_ri C dX5_cellAt_46 rfl (Option.some.inj h).symm rfl
set_option maxRecDepth 100000 in
set_option maxHeartbeats 4000000 in
theorem X5_cellAt_J28_ok {g : Gm} {w : Wd} (C : Cx g w RX5 cX5_cellAt 4 (some .int)) {lv : Nat} (hlv : 0 < lv) {l0 : Nat} {l1 : Int} {l2 : Int} {m : Mem} {out : Int} (h : X5_cellAt_J28 l0 l1 l2 m = some out) : Jd g w 4 (rmL lv 0 0) (Qm g w (some (vI out)) m) 28 [some (vR l0), some (vI l1), some (vI l2), none] [] 312 m 0 0 := by
  unfold X5_cellAt_J28 at h
  refine j_iconst C dX5_cellAt_28 rfl ?_
  exact X5_cellAt_J29_ok C hlv h
set_option maxRecDepth 100000 in
set_option maxHeartbeats 4000000 in
theorem X5_cellAt_ct {l0 : Nat} {l1 : Int} {l2 : Int} {m : Mem} {out : Int} (h : X5_cellAt l0 l1 l2 m = some out) : shK l0 = 5 + 10 ∧ CT yX5_cellAt cX5_cellAt 4 (some .int) 1 0 0 [vR l0, vI l1, vI l2] 312 m (some (vI out)) 312 m := by
  unfold X5_cellAt at h
  obtain ⟨hK, h⟩ := ite_some h
  have hlv : 0 < 1 := by decide
  refine ⟨hK, CT.of (by decide +kernel) rfl (Nat.le_of_ble_eq_true rfl) (ls := [some (vR l0), some (vI l1), some (vI l2), none]) rfl fun g w C _ => ?_⟩
  refine j_iload_n C dX5_cellAt_0 rfl ?_
  refine j_if_lt C 28 dX5_cellAt_1 rfl h (fun c8 h => ?_) (fun c8 h => ?_)
  · exact X5_cellAt_J28_ok C hlv h
  · refine j_iload_n C dX5_cellAt_4 rfl ?_
    refine j_aload_n C dX5_cellAt_5 rfl ?_
    refine j_getI C dX5_cellAt_6 CF5 (by decide) fl_X5_9 rfl rfl h (fun t3 h => ?_)
    refine j_icmp_ge C 28 dX5_cellAt_9 rfl h (fun c7 h => ?_) (fun c7 h => ?_)
    · exact X5_cellAt_J28_ok C hlv h
    · refine j_iload_n C dX5_cellAt_12 rfl ?_
      refine j_if_lt C 28 dX5_cellAt_13 rfl h (fun c6 h => ?_) (fun c6 h => ?_)
      · exact X5_cellAt_J28_ok C hlv h
      · refine j_iload_n C dX5_cellAt_16 rfl ?_
        refine j_aload_n C dX5_cellAt_17 rfl ?_
        refine j_getI C dX5_cellAt_18 CF5 (by decide) fl_X5_15 rfl rfl h (fun t4 h => ?_)
        refine j_icmp_ge C 28 dX5_cellAt_21 rfl h (fun c5 h => ?_) (fun c5 h => ?_)
        · exact X5_cellAt_J28_ok C hlv h
        · refine j_iconst C dX5_cellAt_24 rfl ?_
          refine j_goto C 29 dX5_cellAt_25 rfl ?_
          exact X5_cellAt_J29_ok C hlv h
theorem dX5_sun_0 : decode cX5_sun 0 = .ok (.iconst 0, 1) := by decide +kernel
theorem dX5_sun_1 : decode cX5_sun 1 = .ok (.istore_n 3, 1) := by decide +kernel
theorem dX5_sun_2 : decode cX5_sun 2 = .ok (.aload_n 0, 1) := by decide +kernel
theorem dX5_sun_3 : decode cX5_sun 3 = .ok (.iload_n 2, 1) := by decide +kernel
theorem dX5_sun_4 : decode cX5_sun 4 = .ok (.invokevirtual 93, 3) := by decide +kernel
theorem dX5_sun_7 : decode cX5_sun 7 = .ok (.iconst 1, 1) := by decide +kernel
theorem dX5_sun_8 : decode cX5_sun 8 = .ok (.iadd, 1) := by decide +kernel
theorem dX5_sun_9 : decode cX5_sun 9 = .ok (.istore 4, 2) := by decide +kernel
theorem dX5_sun_11 : decode cX5_sun 11 = .ok (.iload 4, 2) := by decide +kernel
theorem dX5_sun_13 : decode cX5_sun 13 = .ok (.aload_n 0, 1) := by decide +kernel
theorem dX5_sun_14 : decode cX5_sun 14 = .ok (.getfield 9, 3) := by decide +kernel
theorem dX5_sun_17 : decode cX5_sun 17 = .ok (.if_icmp .ge 30, 3) := by decide +kernel
theorem dX5_sun_20 : decode cX5_sun 20 = .ok (.aload_n 1, 1) := by decide +kernel
theorem dX5_sun_21 : decode cX5_sun 21 = .ok (.aload_n 0, 1) := by decide +kernel
theorem dX5_sun_22 : decode cX5_sun 22 = .ok (.iload 4, 2) := by decide +kernel
theorem dX5_sun_24 : decode cX5_sun 24 = .ok (.aload_n 0, 1) := by decide +kernel
theorem dX5_sun_25 : decode cX5_sun 25 = .ok (.iload_n 2, 1) := by decide +kernel
theorem dX5_sun_26 : decode cX5_sun 26 = .ok (.invokevirtual 100, 3) := by decide +kernel
theorem dX5_sun_29 : decode cX5_sun 29 = .ok (.invokevirtual 106, 3) := by decide +kernel
theorem dX5_sun_32 : decode cX5_sun 32 = .ok (.invokevirtual 125, 3) := by decide +kernel
theorem dX5_sun_35 : decode cX5_sun 35 = .ok (.ifCond .eq 6, 3) := by decide +kernel
theorem dX5_sun_38 : decode cX5_sun 38 = .ok (.iinc 3 10, 3) := by decide +kernel
theorem dX5_sun_41 : decode cX5_sun 41 = .ok (.iinc 4 1, 3) := by decide +kernel
theorem dX5_sun_44 : decode cX5_sun 44 = .ok (.goto (-33), 3) := by decide +kernel
theorem dX5_sun_47 : decode cX5_sun 47 = .ok (.iload_n 3, 1) := by decide +kernel
theorem dX5_sun_48 : decode cX5_sun 48 = .ok (.ireturn, 1) := by decide +kernel
set_option maxRecDepth 100000 in
set_option maxHeartbeats 4000000 in
theorem X5_sun_J41_ok {g : Gm} {w : Wd} (C : Cx g w RX5 cX5_sun 5 (some .int)) {lv : Nat} (hlv : 1 < lv) {N : Nat} {r11 : Nat → Nat → Int → Int → Int → Option Int } {l0 : Nat} {l1 : Nat} {l2 : Int} {l3 : Int} {l4 : Int} {m : Mem} {out : Int} (hr11 : ∀ l0 l1 l2 l3 l4, r11 l0 l1 l2 l3 l4 = some out → Jd g w 5 (rmL lv 0 0) (Qm g w (some (vI out)) m) 11 [some (vR l0), some (vR l1), some (vI l2), some (vI l3), some (vI l4)] [] 312 m 0 0) (h : X5_sun_J41 N r11 l0 l1 l2 l3 l4 m = some out) : Jd g w 5 (rmL lv 0 0) (Qm g w (some (vI out)) m) 41 [some (vR l0), some (vR l1), some (vI l2), some (vI l3), some (vI l4)] [] 312 m 0 0 := by
  unfold X5_sun_J41 at h
  refine j_iinc (ls' := [some (vR _), some (vR _), some (vI _), some (vI _), some (vI _)]) C dX5_sun_41 rfl (by decide) rfl ?_
  refine j_goto C 11 dX5_sun_44 rfl ?_
  exact hr11 _ _ _ _ _ h
set_option maxRecDepth 100000 in
set_option maxHeartbeats 4000000 in
theorem X5_sun_L11_bok {g : Gm} {w : Wd} (C : Cx g w RX5 cX5_sun 5 (some .int)) {lv : Nat} (hlv : 1 < lv) {N : Nat} {r11 : Nat → Nat → Int → Int → Int → Option Int} {l0 : Nat} {l1 : Nat} {l2 : Int} {l3 : Int} {l4 : Int} {m : Mem} {out : Int} (hr11 : ∀ l0 l1 l2 l3 l4, r11 l0 l1 l2 l3 l4 = some out → Jd g w 5 (rmL lv 0 0) (Qm g w (some (vI out)) m) 11 [some (vR l0), some (vR l1), some (vI l2), some (vI l3), some (vI l4)] [] 312 m 0 0) (h : X5_sun_L11_b N m r11 l0 l1 l2 l3 l4 = some out) : Jd g w 5 (rmL lv 0 0) (Qm g w (some (vI out)) m) 11 [some (vR l0), some (vR l1), some (vI l2), some (vI l3), some (vI l4)] [] 312 m 0 0 := by
  unfold X5_sun_L11_b at h
  refine j_iload C dX5_sun_11 rfl ?_
  refine j_aload_n C dX5_sun_13 rfl ?_
  refine j_getI C dX5_sun_14 CF5 (by decide) fl_X5_9 rfl rfl h (fun t2 h => ?_)
  refine j_icmp_ge C 47 dX5_sun_17 rfl h (fun c7 h => ?_) (fun c7 h => ?_)
  · refine j_iload_n C dX5_sun_47 rfl ?_
    exact j_ri C dX5_sun_48 rfl (Option.some.inj h).symm rfl
  · refine j_aload_n C dX5_sun_20 rfl ?_
    refine j_aload_n C dX5_sun_21 rfl ?_
    refine j_iload C dX5_sun_22 rfl ?_
    refine j_aload_n C dX5_sun_24 rfl ?_
    refine j_iload_n C dX5_sun_25 rfl ?_
    obtain ⟨p3, ep3, h⟩ := bind_some h
    have qp3 := X5_downOf_ct ep3
    refine j_cVI C dX5_sun_26 vl_X5_100 CF5 rfl qp3.1 qp3.2 (by omega) rfl rfl (Nat.le_of_ble_eq_true rfl) ?_
    obtain ⟨p4, ep4, h⟩ := bind_some h
    have qp4 := X5_cellAt_ct ep4
    refine j_cVI C dX5_sun_29 vl_X5_106 CF5 rfl qp4.1 qp4.2 (by omega) rfl rfl (Nat.le_of_ble_eq_true rfl) ?_
    obtain ⟨p5, ep5, h⟩ := bind_some h
    have qp5 := X1_hasWall_ct ep5
    refine j_cVI C dX5_sun_32 vl_X5_125 CF1 rfl qp5.1 qp5.2 (by omega) rfl rfl (Nat.le_of_ble_eq_true rfl) ?_
    refine j_if_eq C 41 dX5_sun_35 rfl h (fun c6 h => ?_) (fun c6 h => ?_)
    · exact X5_sun_J41_ok C hlv hr11 h
    · refine j_iinc (ls' := [some (vR _), some (vR _), some (vI _), some (vI _), some (vI _)]) C dX5_sun_38 rfl (by decide) rfl ?_
      exact X5_sun_J41_ok C hlv hr11 h
set_option maxRecDepth 100000 in
set_option maxHeartbeats 4000000 in
theorem X5_sun_L11_ok {g : Gm} {w : Wd} (C : Cx g w RX5 cX5_sun 5 (some .int)) {lv : Nat} (hlv : 1 < lv) {N : Nat} {m : Mem} {out : Int} (f : Nat) : ∀ {l0 : Nat} {l1 : Nat} {l2 : Int} {l3 : Int} {l4 : Int}, X5_sun_L11 N m f l0 l1 l2 l3 l4 = some out → Jd g w 5 (rmL lv 0 0) (Qm g w (some (vI out)) m) 11 [some (vR l0), some (vR l1), some (vI l2), some (vI l3), some (vI l4)] [] 312 m 0 0 := by
  induction f with
  | zero => intro l0 l1 l2 l3 l4 h; exact none_ne (α := Int) h
  | succ f ih => intro l0 l1 l2 l3 l4 h; exact X5_sun_L11_bok C hlv (fun l0 l1 l2 l3 l4 h => ih h) h
set_option maxRecDepth 100000 in
set_option maxHeartbeats 4000000 in
theorem X5_sun_ct {N : Nat} {l0 : Nat} {l1 : Nat} {l2 : Int} {m : Mem} {out : Int} (h : X5_sun N l0 l1 l2 m = some out) : shK l0 = 5 + 10 ∧ CT yX5_sun cX5_sun 5 (some .int) 2 0 0 [vR l0, vR l1, vI l2] 312 m (some (vI out)) 312 m := by
  unfold X5_sun at h
  obtain ⟨hK, h⟩ := ite_some h
  have hlv : 1 < 2 := by decide
  refine ⟨hK, CT.of (by decide +kernel) rfl (Nat.le_of_ble_eq_true rfl) (ls := [some (vR l0), some (vR l1), some (vI l2), none, none]) rfl fun g w C _ => ?_⟩
  refine j_iconst C dX5_sun_0 rfl ?_
  refine j_istore_n (ls' := [some (vR _), some (vR _), some (vI _), some (vI _), none]) C dX5_sun_1 (by decide) rfl ?_
  refine j_aload_n C dX5_sun_2 rfl ?_
  refine j_iload_n C dX5_sun_3 rfl ?_
  obtain ⟨p1, ep1, h⟩ := bind_some h
  have qp1 := X5_acrossOf_ct ep1
  refine j_cVI C dX5_sun_4 vl_X5_93 CF5 rfl qp1.1 qp1.2 (by omega) rfl rfl (Nat.le_of_ble_eq_true rfl) ?_
  refine j_iconst C dX5_sun_7 rfl ?_
  refine j_iadd C dX5_sun_8 ?_
  refine j_istore (ls' := [some (vR _), some (vR _), some (vI _), some (vI _), some (vI _)]) C dX5_sun_9 (by decide) rfl ?_
  exact X5_sun_L11_ok C hlv N h
theorem dX10_cell_0 : decode cX10_cell 0 = .ok (.aload_n 0, 1) := by decide +kernel
theorem dX10_cell_1 : decode cX10_cell 1 = .ok (.getfield 27, 3) := by decide +kernel
theorem dX10_cell_4 : decode cX10_cell 4 = .ok (.iload_n 1, 1) := by decide +kernel
theorem dX10_cell_5 : decode cX10_cell 5 = .ok (.invokevirtual 192, 3) := by decide +kernel
theorem dX10_cell_8 : decode cX10_cell 8 = .ok (.ifCond .ne 5, 3) := by decide +kernel
theorem dX10_cell_11 : decode cX10_cell 11 = .ok (.iconst (-1), 1) := by decide +kernel
theorem dX10_cell_12 : decode cX10_cell 12 = .ok (.ireturn, 1) := by decide +kernel
theorem dX10_cell_13 : decode cX10_cell 13 = .ok (.iload_n 2, 1) := by decide +kernel
theorem dX10_cell_14 : decode cX10_cell 14 = .ok (.tableswitch 92 0 4 #[34, 44, 57, 70, 79], 34) := by decide +kernel
theorem dX10_cell_48 : decode cX10_cell 48 = .ok (.aload_n 0, 1) := by decide +kernel
theorem dX10_cell_49 : decode cX10_cell 49 = .ok (.getfield 27, 3) := by decide +kernel
theorem dX10_cell_52 : decode cX10_cell 52 = .ok (.getfield 195, 3) := by decide +kernel
theorem dX10_cell_55 : decode cX10_cell 55 = .ok (.iload_n 1, 1) := by decide +kernel
theorem dX10_cell_56 : decode cX10_cell 56 = .ok (.iaload, 1) := by decide +kernel
theorem dX10_cell_57 : decode cX10_cell 57 = .ok (.ireturn, 1) := by decide +kernel
theorem dX10_cell_58 : decode cX10_cell 58 = .ok (.aload_n 0, 1) := by decide +kernel
theorem dX10_cell_59 : decode cX10_cell 59 = .ok (.getfield 27, 3) := by decide +kernel
theorem dX10_cell_62 : decode cX10_cell 62 = .ok (.aload_n 0, 1) := by decide +kernel
theorem dX10_cell_63 : decode cX10_cell 63 = .ok (.getfield 37, 3) := by decide +kernel
theorem dX10_cell_66 : decode cX10_cell 66 = .ok (.iload_n 1, 1) := by decide +kernel
theorem dX10_cell_67 : decode cX10_cell 67 = .ok (.invokevirtual 198, 3) := by decide +kernel
theorem dX10_cell_70 : decode cX10_cell 70 = .ok (.ireturn, 1) := by decide +kernel
theorem dX10_cell_71 : decode cX10_cell 71 = .ok (.aload_n 0, 1) := by decide +kernel
theorem dX10_cell_72 : decode cX10_cell 72 = .ok (.getfield 27, 3) := by decide +kernel
theorem dX10_cell_75 : decode cX10_cell 75 = .ok (.aload_n 0, 1) := by decide +kernel
theorem dX10_cell_76 : decode cX10_cell 76 = .ok (.getfield 37, 3) := by decide +kernel
theorem dX10_cell_79 : decode cX10_cell 79 = .ok (.iload_n 1, 1) := by decide +kernel
theorem dX10_cell_80 : decode cX10_cell 80 = .ok (.invokevirtual 202, 3) := by decide +kernel
theorem dX10_cell_83 : decode cX10_cell 83 = .ok (.ireturn, 1) := by decide +kernel
theorem dX10_cell_84 : decode cX10_cell 84 = .ok (.aload_n 0, 1) := by decide +kernel
theorem dX10_cell_85 : decode cX10_cell 85 = .ok (.getfield 27, 3) := by decide +kernel
theorem dX10_cell_88 : decode cX10_cell 88 = .ok (.iload_n 1, 1) := by decide +kernel
theorem dX10_cell_89 : decode cX10_cell 89 = .ok (.invokevirtual 205, 3) := by decide +kernel
theorem dX10_cell_92 : decode cX10_cell 92 = .ok (.ireturn, 1) := by decide +kernel
theorem dX10_cell_93 : decode cX10_cell 93 = .ok (.aload_n 0, 1) := by decide +kernel
theorem dX10_cell_94 : decode cX10_cell 94 = .ok (.getfield 27, 3) := by decide +kernel
theorem dX10_cell_97 : decode cX10_cell 97 = .ok (.aload_n 0, 1) := by decide +kernel
theorem dX10_cell_98 : decode cX10_cell 98 = .ok (.getfield 37, 3) := by decide +kernel
theorem dX10_cell_101 : decode cX10_cell 101 = .ok (.iload_n 1, 1) := by decide +kernel
theorem dX10_cell_102 : decode cX10_cell 102 = .ok (.invokevirtual 208, 3) := by decide +kernel
theorem dX10_cell_105 : decode cX10_cell 105 = .ok (.ireturn, 1) := by decide +kernel
theorem dX10_cell_106 : decode cX10_cell 106 = .ok (.iconst (-1), 1) := by decide +kernel
theorem dX10_cell_107 : decode cX10_cell 107 = .ok (.ireturn, 1) := by decide +kernel
set_option maxRecDepth 100000 in
set_option maxHeartbeats 4000000 in
theorem X10_cell_ct {N : Nat} {l0 : Nat} {l1 : Int} {l2 : Int} {m : Mem} {out : Int} (h : X10_cell N l0 l1 l2 m = some out) : shK l0 = 10 + 10 ∧ CT yX10_cell cX10_cell 3 (some .int) 3 0 0 [vR l0, vI l1, vI l2] 312 m (some (vI out)) 312 m := by
  unfold X10_cell at h
  obtain ⟨hK, h⟩ := ite_some h
  have hlv : 2 < 3 := by decide
  refine ⟨hK, CT.of (by decide +kernel) rfl (Nat.le_of_ble_eq_true rfl) (ls := [some (vR l0), some (vI l1), some (vI l2)]) rfl fun g w C _ => ?_⟩
  refine j_aload_n C dX10_cell_0 rfl ?_
  refine j_getR C dX10_cell_1 CF10 (by decide) fl_X10_27 rfl rfl h (fun t1 h => ?_)
  refine j_iload_n C dX10_cell_4 rfl ?_
  obtain ⟨p2, ep2, h⟩ := bind_some h
  have qp2 := X5_isCell_ct ep2
  refine j_cVI C dX10_cell_5 vl_X10_192 CF5 rfl qp2.1 qp2.2 (by omega) rfl rfl (Nat.le_of_ble_eq_true rfl) ?_
  refine j_if_ne C 13 dX10_cell_8 rfl h (fun c22 h => ?_) (fun c22 h => ?_)
  · refine j_iload_n C dX10_cell_13 rfl ?_
    rcases ite_cases h with ⟨c6, h⟩ | ⟨c6, h⟩
    · refine j_tsIn C 48 (0) dX10_cell_14 c6 rfl rfl rfl ?_
      refine j_aload_n C dX10_cell_48 rfl ?_
      refine j_getR C dX10_cell_49 CF10 (by decide) fl_X10_27 rfl rfl h (fun t3 h => ?_)
      refine j_getR C dX10_cell_52 CF5 (by decide) fl_X10_195 rfl rfl h (fun t4 h => ?_)
      refine j_iload_n C dX10_cell_55 rfl ?_
      refine j_iald C dX10_cell_56 rfl h (fun t5 h => ?_)
      exact j_ri C dX10_cell_57 rfl (Option.some.inj h).symm rfl
    rcases ite_cases h with ⟨c10, h⟩ | ⟨c10, h⟩
    · refine j_tsIn C 58 (1) dX10_cell_14 c10 rfl rfl rfl ?_
      refine j_aload_n C dX10_cell_58 rfl ?_
      refine j_getR C dX10_cell_59 CF10 (by decide) fl_X10_27 rfl rfl h (fun t7 h => ?_)
      refine j_aload_n C dX10_cell_62 rfl ?_
      refine j_getR C dX10_cell_63 CF10 (by decide) fl_X10_37 rfl rfl h (fun t8 h => ?_)
      refine j_iload_n C dX10_cell_66 rfl ?_
      obtain ⟨p9, ep9, h⟩ := bind_some h
      have qp9 := X5_contents_ct ep9
      refine j_cVI C dX10_cell_67 vl_X10_198 CF5 rfl qp9.1 qp9.2 (by omega) rfl rfl (Nat.le_of_ble_eq_true rfl) ?_
      exact j_ri C dX10_cell_70 rfl (Option.some.inj h).symm rfl
    rcases ite_cases h with ⟨c14, h⟩ | ⟨c14, h⟩
    · refine j_tsIn C 71 (2) dX10_cell_14 c14 rfl rfl rfl ?_
      refine j_aload_n C dX10_cell_71 rfl ?_
      refine j_getR C dX10_cell_72 CF10 (by decide) fl_X10_27 rfl rfl h (fun t11 h => ?_)
      refine j_aload_n C dX10_cell_75 rfl ?_
      refine j_getR C dX10_cell_76 CF10 (by decide) fl_X10_37 rfl rfl h (fun t12 h => ?_)
      refine j_iload_n C dX10_cell_79 rfl ?_
      obtain ⟨p13, ep13, h⟩ := bind_some h
      have qp13 := X5_openness_ct ep13
      refine j_cVI C dX10_cell_80 vl_X10_202 CF5 rfl qp13.1 qp13.2 (by omega) rfl rfl (Nat.le_of_ble_eq_true rfl) ?_
      exact j_ri C dX10_cell_83 rfl (Option.some.inj h).symm rfl
    rcases ite_cases h with ⟨c17, h⟩ | ⟨c17, h⟩
    · refine j_tsIn C 84 (3) dX10_cell_14 c17 rfl rfl rfl ?_
      refine j_aload_n C dX10_cell_84 rfl ?_
      refine j_getR C dX10_cell_85 CF10 (by decide) fl_X10_27 rfl rfl h (fun t15 h => ?_)
      refine j_iload_n C dX10_cell_88 rfl ?_
      obtain ⟨p16, ep16, h⟩ := bind_some h
      have qp16 := X5_housesBy_ct ep16
      refine j_cVI C dX10_cell_89 vl_X10_205 CF5 rfl qp16.1 qp16.2 (by omega) rfl rfl (Nat.le_of_ble_eq_true rfl) ?_
      exact j_ri C dX10_cell_92 rfl (Option.some.inj h).symm rfl
    rcases ite_cases h with ⟨c21, h⟩ | ⟨c21, h⟩
    · refine j_tsIn C 93 (4) dX10_cell_14 c21 rfl rfl rfl ?_
      refine j_aload_n C dX10_cell_93 rfl ?_
      refine j_getR C dX10_cell_94 CF10 (by decide) fl_X10_27 rfl rfl h (fun t18 h => ?_)
      refine j_aload_n C dX10_cell_97 rfl ?_
      refine j_getR C dX10_cell_98 CF10 (by decide) fl_X10_37 rfl rfl h (fun t19 h => ?_)
      refine j_iload_n C dX10_cell_101 rfl ?_
      obtain ⟨p20, ep20, h⟩ := bind_some h
      have qp20 := X5_sun_ct ep20
      refine j_cVI C dX10_cell_102 vl_X10_208 CF5 rfl qp20.1 qp20.2 (by omega) rfl rfl (Nat.le_of_ble_eq_true rfl) ?_
      exact j_ri C dX10_cell_105 rfl (Option.some.inj h).symm rfl
    refine j_tsOut C 106 dX10_cell_14 (by omega) rfl ?_
    refine j_iconst C dX10_cell_106 rfl ?_
    exact j_ri C dX10_cell_107 rfl (Option.some.inj h).symm rfl
  · refine j_iconst C dX10_cell_11 rfl ?_
    exact j_ri C dX10_cell_12 rfl (Option.some.inj h).symm rfl
theorem dX0_forget_0 : decode cX0_forget 0 = .ok (.aload_n 0, 1) := by decide +kernel
theorem dX0_forget_1 : decode cX0_forget 1 = .ok (.iconst 0, 1) := by decide +kernel
theorem dX0_forget_2 : decode cX0_forget 2 = .ok (.putfield 9, 3) := by decide +kernel
theorem dX0_forget_5 : decode cX0_forget 5 = .ok (.return_, 1) := by decide +kernel
set_option maxRecDepth 100000 in
set_option maxHeartbeats 4000000 in
theorem X0_forget_ct {l0 : Nat} {m : Mem} {out : Mem} (h : X0_forget l0 m = some out) : shK l0 = 0 + 10 ∧ CT yX0_forget cX0_forget 1 none 1 0 0 [vR l0] 312 m none 312 out := by
  unfold X0_forget at h
  obtain ⟨hK, h⟩ := ite_some h
  have hlv : 0 < 1 := by decide
  refine ⟨hK, CT.of (by decide +kernel) rfl (Nat.le_of_ble_eq_true rfl) (ls := [some (vR l0)]) rfl fun g w C _ => ?_⟩
  refine j_aload_n C dX0_forget_0 rfl ?_
  refine j_iconst C dX0_forget_1 rfl ?_
  refine j_putI C dX0_forget_2 CF0 (by decide) fl_X0_9 rfl rfl rfl rfl h (fun m1 h => ?_)
  have e := Option.some.inj h
  subst e
  exact j_rv C dX0_forget_5 rfl rfl
theorem dX10_changed_0 : decode cX10_changed 0 = .ok (.aload_n 0, 1) := by decide +kernel
theorem dX10_changed_1 : decode cX10_changed 1 = .ok (.iconst 1, 1) := by decide +kernel
theorem dX10_changed_2 : decode cX10_changed 2 = .ok (.putfield 67, 3) := by decide +kernel
theorem dX10_changed_5 : decode cX10_changed 5 = .ok (.aload_n 0, 1) := by decide +kernel
theorem dX10_changed_6 : decode cX10_changed 6 = .ok (.getfield 81, 3) := by decide +kernel
theorem dX10_changed_9 : decode cX10_changed 9 = .ok (.invokevirtual 434, 3) := by decide +kernel
theorem dX10_changed_12 : decode cX10_changed 12 = .ok (.return_, 1) := by decide +kernel
set_option maxRecDepth 100000 in
set_option maxHeartbeats 4000000 in
theorem X10_changed_ct {l0 : Nat} {m : Mem} {out : Mem} (h : X10_changed l0 m = some out) : shK l0 = 10 + 10 ∧ CT yX10_changed cX10_changed 1 none 2 0 0 [vR l0] 312 m none 312 out := by
  unfold X10_changed at h
  obtain ⟨hK, h⟩ := ite_some h
  have hlv : 1 < 2 := by decide
  refine ⟨hK, CT.of (by decide +kernel) rfl (Nat.le_of_ble_eq_true rfl) (ls := [some (vR l0)]) rfl fun g w C _ => ?_⟩
  refine j_aload_n C dX10_changed_0 rfl ?_
  refine j_iconst C dX10_changed_1 rfl ?_
  refine j_putZ C dX10_changed_2 CF10 (by decide) fl_X10_67 rfl rfl rfl rfl h (fun m1 h => ?_)
  refine j_aload_n C dX10_changed_5 rfl ?_
  refine j_getR C dX10_changed_6 CF10 (by decide) fl_X10_81 rfl rfl h (fun t2 h => ?_)
  obtain ⟨p3, ep3, h⟩ := bind_some h
  have qp3 := X0_forget_ct ep3
  refine j_cVV C dX10_changed_9 vl_X10_434 CF0 rfl qp3.1 qp3.2 (by omega) rfl rfl (Nat.le_of_ble_eq_true rfl) ?_
  have e := Option.some.inj h
  subst e
  exact j_rv C dX10_changed_12 rfl rfl
theorem dX10_checkOf_0 : decode cX10_checkOf 0 = .ok (.bipush 79, 2) := by decide +kernel
theorem dX10_checkOf_2 : decode cX10_checkOf 2 = .ok (.istore_n 2, 1) := by decide +kernel
theorem dX10_checkOf_3 : decode cX10_checkOf 3 = .ok (.iconst 0, 1) := by decide +kernel
theorem dX10_checkOf_4 : decode cX10_checkOf 4 = .ok (.istore_n 3, 1) := by decide +kernel
theorem dX10_checkOf_5 : decode cX10_checkOf 5 = .ok (.iload_n 3, 1) := by decide +kernel
theorem dX10_checkOf_6 : decode cX10_checkOf 6 = .ok (.iload_n 1, 1) := by decide +kernel
theorem dX10_checkOf_7 : decode cX10_checkOf 7 = .ok (.if_icmp .ge 27, 3) := by decide +kernel
theorem dX10_checkOf_10 : decode cX10_checkOf 10 = .ok (.iload_n 3, 1) := by decide +kernel
theorem dX10_checkOf_11 : decode cX10_checkOf 11 = .ok (.aload_n 0, 1) := by decide +kernel
theorem dX10_checkOf_12 : decode cX10_checkOf 12 = .ok (.arraylength, 1) := by decide +kernel
theorem dX10_checkOf_13 : decode cX10_checkOf 13 = .ok (.if_icmp .ge 21, 3) := by decide +kernel
theorem dX10_checkOf_16 : decode cX10_checkOf 16 = .ok (.iconst 5, 1) := by decide +kernel
theorem dX10_checkOf_17 : decode cX10_checkOf 17 = .ok (.iload_n 2, 1) := by decide +kernel
theorem dX10_checkOf_18 : decode cX10_checkOf 18 = .ok (.imul, 1) := by decide +kernel
theorem dX10_checkOf_19 : decode cX10_checkOf 19 = .ok (.aload_n 0, 1) := by decide +kernel
theorem dX10_checkOf_20 : decode cX10_checkOf 20 = .ok (.iload_n 3, 1) := by decide +kernel
theorem dX10_checkOf_21 : decode cX10_checkOf 21 = .ok (.iaload, 1) := by decide +kernel
theorem dX10_checkOf_22 : decode cX10_checkOf 22 = .ok (.iadd, 1) := by decide +kernel
theorem dX10_checkOf_23 : decode cX10_checkOf 23 = .ok (.sipush 251, 3) := by decide +kernel
theorem dX10_checkOf_26 : decode cX10_checkOf 26 = .ok (.irem, 1) := by decide +kernel
theorem dX10_checkOf_27 : decode cX10_checkOf 27 = .ok (.istore_n 2, 1) := by decide +kernel
theorem dX10_checkOf_28 : decode cX10_checkOf 28 = .ok (.iinc 3 1, 3) := by decide +kernel
theorem dX10_checkOf_31 : decode cX10_checkOf 31 = .ok (.goto (-26), 3) := by decide +kernel
theorem dX10_checkOf_34 : decode cX10_checkOf 34 = .ok (.iload_n 2, 1) := by decide +kernel
theorem dX10_checkOf_35 : decode cX10_checkOf 35 = .ok (.ireturn, 1) := by decide +kernel
set_option maxRecDepth 100000 in
set_option maxHeartbeats 4000000 in
theorem X10_checkOf_L5_bok {g : Gm} {w : Wd} (C : Cx g w RX10 cX10_checkOf 4 (some .int)) {lv : Nat} (hlv : 0 < lv) {N : Nat} {r5 : Nat → Int → Int → Int → Option Int} {l0 : Nat} {l1 : Int} {l2 : Int} {l3 : Int} {m : Mem} {out : Int} (hr5 : ∀ l0 l1 l2 l3, r5 l0 l1 l2 l3 = some out → Jd g w 4 (rmL lv 0 0) (Qm g w (some (vI out)) m) 5 [some (vR l0), some (vI l1), some (vI l2), some (vI l3)] [] 312 m 0 0) (h : X10_checkOf_L5_b N m r5 l0 l1 l2 l3 = some out) : Jd g w 4 (rmL lv 0 0) (Qm g w (some (vI out)) m) 5 [some (vR l0), some (vI l1), some (vI l2), some (vI l3)] [] 312 m 0 0 := by
  unfold X10_checkOf_L5_b at h
  refine j_iload_n C dX10_checkOf_5 rfl ?_
  refine j_iload_n C dX10_checkOf_6 rfl ?_
  refine j_icmp_ge C 34 dX10_checkOf_7 rfl h (fun c4 h => ?_) (fun c4 h => ?_)
  · refine j_iload_n C dX10_checkOf_34 rfl ?_
    exact j_ri C dX10_checkOf_35 rfl (Option.some.inj h).symm rfl
  · refine j_iload_n C dX10_checkOf_10 rfl ?_
    refine j_aload_n C dX10_checkOf_11 rfl ?_
    refine j_alen C dX10_checkOf_12 rfl h (fun t1 h => ?_)
    refine j_icmp_ge C 34 dX10_checkOf_13 rfl h (fun c3 h => ?_) (fun c3 h => ?_)
    · refine j_iload_n C dX10_checkOf_34 rfl ?_
      exact j_ri C dX10_checkOf_35 rfl (Option.some.inj h).symm rfl
    · refine j_iconst C dX10_checkOf_16 rfl ?_
      refine j_iload_n C dX10_checkOf_17 rfl ?_
      refine j_imul C dX10_checkOf_18 ?_
      refine j_aload_n C dX10_checkOf_19 rfl ?_
      refine j_iload_n C dX10_checkOf_20 rfl ?_
      refine j_iald C dX10_checkOf_21 rfl h (fun t2 h => ?_)
      refine j_iadd C dX10_checkOf_22 ?_
      refine j_sipush C dX10_checkOf_23 rfl ?_
      refine j_irem C dX10_checkOf_26 (by decide) ?_
      refine j_istore_n (ls' := [some (vR _), some (vI _), some (vI _), some (vI _)]) C dX10_checkOf_27 (by decide) rfl ?_
      refine j_iinc (ls' := [some (vR _), some (vI _), some (vI _), some (vI _)]) C dX10_checkOf_28 rfl (by decide) rfl ?_
      refine j_goto C 5 dX10_checkOf_31 rfl ?_
      exact hr5 _ _ _ _ h
set_option maxRecDepth 100000 in
set_option maxHeartbeats 4000000 in
theorem X10_checkOf_L5_ok {g : Gm} {w : Wd} (C : Cx g w RX10 cX10_checkOf 4 (some .int)) {lv : Nat} (hlv : 0 < lv) {N : Nat} {m : Mem} {out : Int} (f : Nat) : ∀ {l0 : Nat} {l1 : Int} {l2 : Int} {l3 : Int}, X10_checkOf_L5 N m f l0 l1 l2 l3 = some out → Jd g w 4 (rmL lv 0 0) (Qm g w (some (vI out)) m) 5 [some (vR l0), some (vI l1), some (vI l2), some (vI l3)] [] 312 m 0 0 := by
  induction f with
  | zero => intro l0 l1 l2 l3 h; exact none_ne (α := Int) h
  | succ f ih => intro l0 l1 l2 l3 h; exact X10_checkOf_L5_bok C hlv (fun l0 l1 l2 l3 h => ih h) h
set_option maxRecDepth 100000 in
set_option maxHeartbeats 4000000 in
theorem X10_checkOf_ct {N : Nat} {l0 : Nat} {l1 : Int} {m : Mem} {out : Int} (h : X10_checkOf N l0 l1 m = some out) : CT yX10_checkOf cX10_checkOf 4 (some .int) 1 0 0 [vR l0, vI l1] 312 m (some (vI out)) 312 m := by
  unfold X10_checkOf at h
  have hlv : 0 < 1 := by decide
  refine CT.of (by decide +kernel) rfl (Nat.le_of_ble_eq_true rfl) (ls := [some (vR l0), some (vI l1), none, none]) rfl fun g w C _ => ?_
  refine j_bipush C dX10_checkOf_0 rfl ?_
  refine j_istore_n (ls' := [some (vR _), some (vI _), some (vI _), none]) C dX10_checkOf_2 (by decide) rfl ?_
  refine j_iconst C dX10_checkOf_3 rfl ?_
  refine j_istore_n (ls' := [some (vR _), some (vI _), some (vI _), some (vI _)]) C dX10_checkOf_4 (by decide) rfl ?_
  exact X10_checkOf_L5_ok C hlv N h
theorem dX5_feeders_0 : decode cX5_feeders 0 = .ok (.iconst 0, 1) := by decide +kernel
theorem dX5_feeders_1 : decode cX5_feeders 1 = .ok (.istore_n 3, 1) := by decide +kernel
theorem dX5_feeders_2 : decode cX5_feeders 2 = .ok (.iconst 0, 1) := by decide +kernel
theorem dX5_feeders_3 : decode cX5_feeders 3 = .ok (.istore 4, 2) := by decide +kernel
theorem dX5_feeders_5 : decode cX5_feeders 5 = .ok (.iload 4, 2) := by decide +kernel
theorem dX5_feeders_7 : decode cX5_feeders 7 = .ok (.aload_n 0, 1) := by decide +kernel
theorem dX5_feeders_8 : decode cX5_feeders 8 = .ok (.getfield 46, 3) := by decide +kernel
theorem dX5_feeders_11 : decode cX5_feeders 11 = .ok (.if_icmp .ge 27, 3) := by decide +kernel
theorem dX5_feeders_14 : decode cX5_feeders 14 = .ok (.aload_n 0, 1) := by decide +kernel
theorem dX5_feeders_15 : decode cX5_feeders 15 = .ok (.aload_n 1, 1) := by decide +kernel
theorem dX5_feeders_16 : decode cX5_feeders 16 = .ok (.getfield 110, 3) := by decide +kernel
theorem dX5_feeders_19 : decode cX5_feeders 19 = .ok (.iload 4, 2) := by decide +kernel
theorem dX5_feeders_21 : decode cX5_feeders 21 = .ok (.iaload, 1) := by decide +kernel
theorem dX5_feeders_22 : decode cX5_feeders 22 = .ok (.invokevirtual 135, 3) := by decide +kernel
theorem dX5_feeders_25 : decode cX5_feeders 25 = .ok (.iload_n 2, 1) := by decide +kernel
theorem dX5_feeders_26 : decode cX5_feeders 26 = .ok (.if_icmp .ne 6, 3) := by decide +kernel
theorem dX5_feeders_29 : decode cX5_feeders 29 = .ok (.iinc 3 1, 3) := by decide +kernel
theorem dX5_feeders_32 : decode cX5_feeders 32 = .ok (.iinc 4 1, 3) := by decide +kernel
theorem dX5_feeders_35 : decode cX5_feeders 35 = .ok (.goto (-30), 3) := by decide +kernel
theorem dX5_feeders_38 : decode cX5_feeders 38 = .ok (.iload_n 3, 1) := by decide +kernel
theorem dX5_feeders_39 : decode cX5_feeders 39 = .ok (.ireturn, 1) := by decide +kernel
set_option maxRecDepth 100000 in
set_option maxHeartbeats 4000000 in
theorem X5_feeders_J32_ok {g : Gm} {w : Wd} (C : Cx g w RX5 cX5_feeders 5 (some .int)) {lv : Nat} (hlv : 3 < lv) {N : Nat} {r5 : Nat → Nat → Int → Int → Int → Option Int } {l0 : Nat} {l1 : Nat} {l2 : Int} {l3 : Int} {l4 : Int} {m : Mem} {out : Int} (hr5 : ∀ l0 l1 l2 l3 l4, r5 l0 l1 l2 l3 l4 = some out → Jd g w 5 (rmL lv 0 0) (Qm g w (some (vI out)) m) 5 [some (vR l0), some (vR l1), some (vI l2), some (vI l3), some (vI l4)] [] 312 m 0 0) (h : X5_feeders_J32 N r5 l0 l1 l2 l3 l4 m = some out) : Jd g w 5 (rmL lv 0 0) (Qm g w (some (vI out)) m) 32 [some (vR l0), some (vR l1), some (vI l2), some (vI l3), some (vI l4)] [] 312 m 0 0 := by
  unfold X5_feeders_J32 at h
  refine j_iinc (ls' := [some (vR _), some (vR _), some (vI _), some (vI _), some (vI _)]) C dX5_feeders_32 rfl (by decide) rfl ?_
  refine j_goto C 5 dX5_feeders_35 rfl ?_
  exact hr5 _ _ _ _ _ h
set_option maxRecDepth 100000 in
set_option maxHeartbeats 4000000 in
theorem X5_feeders_L5_bok {g : Gm} {w : Wd} (C : Cx g w RX5 cX5_feeders 5 (some .int)) {lv : Nat} (hlv : 3 < lv) {N : Nat} {r5 : Nat → Nat → Int → Int → Int → Option Int} {l0 : Nat} {l1 : Nat} {l2 : Int} {l3 : Int} {l4 : Int} {m : Mem} {out : Int} (hr5 : ∀ l0 l1 l2 l3 l4, r5 l0 l1 l2 l3 l4 = some out → Jd g w 5 (rmL lv 0 0) (Qm g w (some (vI out)) m) 5 [some (vR l0), some (vR l1), some (vI l2), some (vI l3), some (vI l4)] [] 312 m 0 0) (h : X5_feeders_L5_b N m r5 l0 l1 l2 l3 l4 = some out) : Jd g w 5 (rmL lv 0 0) (Qm g w (some (vI out)) m) 5 [some (vR l0), some (vR l1), some (vI l2), some (vI l3), some (vI l4)] [] 312 m 0 0 := by
  unfold X5_feeders_L5_b at h
  refine j_iload C dX5_feeders_5 rfl ?_
  refine j_aload_n C dX5_feeders_7 rfl ?_
  refine j_getI C dX5_feeders_8 CF5 (by decide) fl_X5_46 rfl rfl h (fun t1 h => ?_)
  refine j_icmp_ge C 38 dX5_feeders_11 rfl h (fun c6 h => ?_) (fun c6 h => ?_)
  · refine j_iload_n C dX5_feeders_38 rfl ?_
    exact j_ri C dX5_feeders_39 rfl (Option.some.inj h).symm rfl
  · refine j_aload_n C dX5_feeders_14 rfl ?_
    refine j_aload_n C dX5_feeders_15 rfl ?_
    refine j_getR C dX5_feeders_16 CF1 (by decide) fl_X5_110 rfl rfl h (fun t2 h => ?_)
    refine j_iload C dX5_feeders_19 rfl ?_
    refine j_iald C dX5_feeders_21 rfl h (fun t3 h => ?_)
    obtain ⟨p4, ep4, h⟩ := bind_some h
    have qp4 := X5_nearest_ct ep4
    refine j_cVI C dX5_feeders_22 vl_X5_135 CF5 rfl qp4.1 qp4.2 (by omega) rfl rfl (Nat.le_of_ble_eq_true rfl) ?_
    refine j_iload_n C dX5_feeders_25 rfl ?_
    refine j_icmp_ne C 32 dX5_feeders_26 rfl h (fun c5 h => ?_) (fun c5 h => ?_)
    · exact X5_feeders_J32_ok C hlv hr5 h
    · refine j_iinc (ls' := [some (vR _), some (vR _), some (vI _), some (vI _), some (vI _)]) C dX5_feeders_29 rfl (by decide) rfl ?_
      exact X5_feeders_J32_ok C hlv hr5 h
set_option maxRecDepth 100000 in
set_option maxHeartbeats 4000000 in
theorem X5_feeders_L5_ok {g : Gm} {w : Wd} (C : Cx g w RX5 cX5_feeders 5 (some .int)) {lv : Nat} (hlv : 3 < lv) {N : Nat} {m : Mem} {out : Int} (f : Nat) : ∀ {l0 : Nat} {l1 : Nat} {l2 : Int} {l3 : Int} {l4 : Int}, X5_feeders_L5 N m f l0 l1 l2 l3 l4 = some out → Jd g w 5 (rmL lv 0 0) (Qm g w (some (vI out)) m) 5 [some (vR l0), some (vR l1), some (vI l2), some (vI l3), some (vI l4)] [] 312 m 0 0 := by
  induction f with
  | zero => intro l0 l1 l2 l3 l4 h; exact none_ne (α := Int) h
  | succ f ih => intro l0 l1 l2 l3 l4 h; exact X5_feeders_L5_bok C hlv (fun l0 l1 l2 l3 l4 h => ih h) h
set_option maxRecDepth 100000 in
set_option maxHeartbeats 4000000 in
theorem X5_feeders_ct {N : Nat} {l0 : Nat} {l1 : Nat} {l2 : Int} {m : Mem} {out : Int} (h : X5_feeders N l0 l1 l2 m = some out) : shK l0 = 5 + 10 ∧ CT yX5_feeders cX5_feeders 5 (some .int) 4 0 0 [vR l0, vR l1, vI l2] 312 m (some (vI out)) 312 m := by
  unfold X5_feeders at h
  obtain ⟨hK, h⟩ := ite_some h
  have hlv : 3 < 4 := by decide
  refine ⟨hK, CT.of (by decide +kernel) rfl (Nat.le_of_ble_eq_true rfl) (ls := [some (vR l0), some (vR l1), some (vI l2), none, none]) rfl fun g w C _ => ?_⟩
  refine j_iconst C dX5_feeders_0 rfl ?_
  refine j_istore_n (ls' := [some (vR _), some (vR _), some (vI _), some (vI _), none]) C dX5_feeders_1 (by decide) rfl ?_
  refine j_iconst C dX5_feeders_2 rfl ?_
  refine j_istore (ls' := [some (vR _), some (vR _), some (vI _), some (vI _), some (vI _)]) C dX5_feeders_3 (by decide) rfl ?_
  exact X5_feeders_L5_ok C hlv N h
theorem dX10_cistern_0 : decode cX10_cistern 0 = .ok (.aload_n 0, 1) := by decide +kernel
theorem dX10_cistern_1 : decode cX10_cistern 1 = .ok (.getfield 27, 3) := by decide +kernel
theorem dX10_cistern_4 : decode cX10_cistern 4 = .ok (.iload_n 1, 1) := by decide +kernel
theorem dX10_cistern_5 : decode cX10_cistern 5 = .ok (.invokevirtual 173, 3) := by decide +kernel
theorem dX10_cistern_8 : decode cX10_cistern 8 = .ok (.ifCond .ne 5, 3) := by decide +kernel
theorem dX10_cistern_11 : decode cX10_cistern 11 = .ok (.iconst (-1), 1) := by decide +kernel
theorem dX10_cistern_12 : decode cX10_cistern 12 = .ok (.ireturn, 1) := by decide +kernel
theorem dX10_cistern_13 : decode cX10_cistern 13 = .ok (.iload_n 2, 1) := by decide +kernel
theorem dX10_cistern_14 : decode cX10_cistern 14 = .ok (.tableswitch 73 0 3 #[30, 40, 50, 60], 30) := by decide +kernel
theorem dX10_cistern_44 : decode cX10_cistern 44 = .ok (.aload_n 0, 1) := by decide +kernel
theorem dX10_cistern_45 : decode cX10_cistern 45 = .ok (.getfield 27, 3) := by decide +kernel
theorem dX10_cistern_48 : decode cX10_cistern 48 = .ok (.getfield 233, 3) := by decide +kernel
theorem dX10_cistern_51 : decode cX10_cistern 51 = .ok (.iload_n 1, 1) := by decide +kernel
theorem dX10_cistern_52 : decode cX10_cistern 52 = .ok (.iaload, 1) := by decide +kernel
theorem dX10_cistern_53 : decode cX10_cistern 53 = .ok (.ireturn, 1) := by decide +kernel
theorem dX10_cistern_54 : decode cX10_cistern 54 = .ok (.aload_n 0, 1) := by decide +kernel
theorem dX10_cistern_55 : decode cX10_cistern 55 = .ok (.getfield 37, 3) := by decide +kernel
theorem dX10_cistern_58 : decode cX10_cistern 58 = .ok (.getfield 236, 3) := by decide +kernel
theorem dX10_cistern_61 : decode cX10_cistern 61 = .ok (.iload_n 1, 1) := by decide +kernel
theorem dX10_cistern_62 : decode cX10_cistern 62 = .ok (.iaload, 1) := by decide +kernel
theorem dX10_cistern_63 : decode cX10_cistern 63 = .ok (.ireturn, 1) := by decide +kernel
theorem dX10_cistern_64 : decode cX10_cistern 64 = .ok (.aload_n 0, 1) := by decide +kernel
theorem dX10_cistern_65 : decode cX10_cistern 65 = .ok (.invokevirtual 226, 3) := by decide +kernel
theorem dX10_cistern_68 : decode cX10_cistern 68 = .ok (.getfield 239, 3) := by decide +kernel
theorem dX10_cistern_71 : decode cX10_cistern 71 = .ok (.iload_n 1, 1) := by decide +kernel
theorem dX10_cistern_72 : decode cX10_cistern 72 = .ok (.iaload, 1) := by decide +kernel
theorem dX10_cistern_73 : decode cX10_cistern 73 = .ok (.ireturn, 1) := by decide +kernel
theorem dX10_cistern_74 : decode cX10_cistern 74 = .ok (.aload_n 0, 1) := by decide +kernel
theorem dX10_cistern_75 : decode cX10_cistern 75 = .ok (.getfield 27, 3) := by decide +kernel
theorem dX10_cistern_78 : decode cX10_cistern 78 = .ok (.aload_n 0, 1) := by decide +kernel
theorem dX10_cistern_79 : decode cX10_cistern 79 = .ok (.getfield 37, 3) := by decide +kernel
theorem dX10_cistern_82 : decode cX10_cistern 82 = .ok (.iload_n 1, 1) := by decide +kernel
theorem dX10_cistern_83 : decode cX10_cistern 83 = .ok (.invokevirtual 242, 3) := by decide +kernel
theorem dX10_cistern_86 : decode cX10_cistern 86 = .ok (.ireturn, 1) := by decide +kernel
theorem dX10_cistern_87 : decode cX10_cistern 87 = .ok (.iconst (-1), 1) := by decide +kernel
theorem dX10_cistern_88 : decode cX10_cistern 88 = .ok (.ireturn, 1) := by decide +kernel
set_option maxRecDepth 100000 in
set_option maxHeartbeats 4000000 in
theorem X10_cistern_ct {N : Nat} {l0 : Nat} {l1 : Int} {l2 : Int} {m : Mem} {out : (Int × Mem)} (h : X10_cistern N l0 l1 l2 m = some out) : shK l0 = 10 + 10 ∧ CT yX10_cistern cX10_cistern 3 (some .int) 7 0 0 [vR l0, vI l1, vI l2] 312 m (some (vI out.1)) 312 out.2 := by
  unfold X10_cistern at h
  obtain ⟨hK, h⟩ := ite_some h
  have hlv : 6 < 7 := by decide
  refine ⟨hK, CT.of (by decide +kernel) rfl (Nat.le_of_ble_eq_true rfl) (ls := [some (vR l0), some (vI l1), some (vI l2)]) rfl fun g w C _ => ?_⟩
  refine j_aload_n C dX10_cistern_0 rfl ?_
  refine j_getR C dX10_cistern_1 CF10 (by decide) fl_X10_27 rfl rfl h (fun t1 h => ?_)
  refine j_iload_n C dX10_cistern_4 rfl ?_
  obtain ⟨p2, ep2, h⟩ := bind_some h
  have qp2 := X5_isCistern_ct ep2
  refine j_cVI C dX10_cistern_5 vl_X10_173 CF5 rfl qp2.1 qp2.2 (by omega) rfl rfl (Nat.le_of_ble_eq_true rfl) ?_
  refine j_if_ne C 13 dX10_cistern_8 rfl h (fun c19 h => ?_) (fun c19 h => ?_)
  · refine j_iload_n C dX10_cistern_13 rfl ?_
    rcases ite_cases h with ⟨c6, h⟩ | ⟨c6, h⟩
    · refine j_tsIn C 44 (0) dX10_cistern_14 c6 rfl rfl rfl ?_
      refine j_aload_n C dX10_cistern_44 rfl ?_
      refine j_getR C dX10_cistern_45 CF10 (by decide) fl_X10_27 rfl rfl h (fun t3 h => ?_)
      refine j_getR C dX10_cistern_48 CF5 (by decide) fl_X10_233 rfl rfl h (fun t4 h => ?_)
      refine j_iload_n C dX10_cistern_51 rfl ?_
      refine j_iald C dX10_cistern_52 rfl h (fun t5 h => ?_)
      have e := Option.some.inj h
      subst e
      exact j_ri C dX10_cistern_53 rfl rfl rfl
    rcases ite_cases h with ⟨c10, h⟩ | ⟨c10, h⟩
    · refine j_tsIn C 54 (1) dX10_cistern_14 c10 rfl rfl rfl ?_
      refine j_aload_n C dX10_cistern_54 rfl ?_
      refine j_getR C dX10_cistern_55 CF10 (by decide) fl_X10_37 rfl rfl h (fun t7 h => ?_)
      refine j_getR C dX10_cistern_58 CF1 (by decide) fl_X10_236 rfl rfl h (fun t8 h => ?_)
      refine j_iload_n C dX10_cistern_61 rfl ?_
      refine j_iald C dX10_cistern_62 rfl h (fun t9 h => ?_)
      have e := Option.some.inj h
      subst e
      exact j_ri C dX10_cistern_63 rfl rfl rfl
    rcases ite_cases h with ⟨c14, h⟩ | ⟨c14, h⟩
    · refine j_tsIn C 64 (2) dX10_cistern_14 c14 rfl rfl rfl ?_
      refine j_aload_n C dX10_cistern_64 rfl ?_
      obtain ⟨p11, ep11, h⟩ := bind_some h
      have qp11 := X10_asTold_ct ep11
      refine j_cVR C dX10_cistern_65 vl_X10_226 CF10 rfl qp11.1 qp11.2 (by omega) rfl rfl (Nat.le_of_ble_eq_true rfl) ?_
      refine j_getR C dX10_cistern_68 CF3 (by decide) fl_X10_239 rfl rfl h (fun t12 h => ?_)
      refine j_iload_n C dX10_cistern_71 rfl ?_
      refine j_iald C dX10_cistern_72 rfl h (fun t13 h => ?_)
      have e := Option.some.inj h
      subst e
      exact j_ri C dX10_cistern_73 rfl rfl rfl
    rcases ite_cases h with ⟨c18, h⟩ | ⟨c18, h⟩
    · refine j_tsIn C 74 (3) dX10_cistern_14 c18 rfl rfl rfl ?_
      refine j_aload_n C dX10_cistern_74 rfl ?_
      refine j_getR C dX10_cistern_75 CF10 (by decide) fl_X10_27 rfl rfl h (fun t15 h => ?_)
      refine j_aload_n C dX10_cistern_78 rfl ?_
      refine j_getR C dX10_cistern_79 CF10 (by decide) fl_X10_37 rfl rfl h (fun t16 h => ?_)
      refine j_iload_n C dX10_cistern_82 rfl ?_
      obtain ⟨p17, ep17, h⟩ := bind_some h
      have qp17 := X5_feeders_ct ep17
      refine j_cVI C dX10_cistern_83 vl_X10_242 CF5 rfl qp17.1 qp17.2 (by omega) rfl rfl (Nat.le_of_ble_eq_true rfl) ?_
      have e := Option.some.inj h
      subst e
      exact j_ri C dX10_cistern_86 rfl rfl rfl
    refine j_tsOut C 87 dX10_cistern_14 (by omega) rfl ?_
    refine j_iconst C dX10_cistern_87 rfl ?_
    have e := Option.some.inj h
    subst e
    exact j_ri C dX10_cistern_88 rfl rfl rfl
  · refine j_iconst C dX10_cistern_11 rfl ?_
    have e := Option.some.inj h
    subst e
    exact j_ri C dX10_cistern_12 rfl rfl rfl
theorem dX10_wallAt_0 : decode cX10_wallAt 0 = .ok (.iconst 2, 1) := by decide +kernel
theorem dX10_wallAt_1 : decode cX10_wallAt 1 = .ok (.iload_n 0, 1) := by decide +kernel
theorem dX10_wallAt_2 : decode cX10_wallAt 2 = .ok (.iadd, 1) := by decide +kernel
theorem dX10_wallAt_3 : decode cX10_wallAt 3 = .ok (.ireturn, 1) := by decide +kernel
set_option maxRecDepth 100000 in
set_option maxHeartbeats 4000000 in
theorem X10_wallAt_ct {l0 : Int} {m : Mem} {out : Int} (h : X10_wallAt l0 m = some out) : CT yX10_wallAt cX10_wallAt 1 (some .int) 1 0 0 [vI l0] 312 m (some (vI out)) 312 m := by
  unfold X10_wallAt at h
  have hlv : 0 < 1 := by decide
  refine CT.of (by decide +kernel) rfl (Nat.le_of_ble_eq_true rfl) (ls := [some (vI l0)]) rfl fun g w C _ => ?_
  refine j_iconst C dX10_wallAt_0 rfl ?_
  refine j_iload_n C dX10_wallAt_1 rfl ?_
  refine j_iadd C dX10_wallAt_2 ?_
  exact j_ri C dX10_wallAt_3 rfl (Option.some.inj h).symm rfl
theorem dX10_clothAt_0 : decode cX10_clothAt 0 = .ok (.aload_n 0, 1) := by decide +kernel
theorem dX10_clothAt_1 : decode cX10_clothAt 1 = .ok (.getfield 27, 3) := by decide +kernel
theorem dX10_clothAt_4 : decode cX10_clothAt 4 = .ok (.invokevirtual 375, 3) := by decide +kernel
theorem dX10_clothAt_7 : decode cX10_clothAt 7 = .ok (.invokestatic 416, 3) := by decide +kernel
theorem dX10_clothAt_10 : decode cX10_clothAt 10 = .ok (.iload_n 1, 1) := by decide +kernel
theorem dX10_clothAt_11 : decode cX10_clothAt 11 = .ok (.iadd, 1) := by decide +kernel
theorem dX10_clothAt_12 : decode cX10_clothAt 12 = .ok (.ireturn, 1) := by decide +kernel
set_option maxRecDepth 100000 in
set_option maxHeartbeats 4000000 in
theorem X10_clothAt_ct {l0 : Nat} {l1 : Int} {m : Mem} {out : Int} (h : X10_clothAt l0 l1 m = some out) : shK l0 = 10 + 10 ∧ CT yX10_clothAt cX10_clothAt 2 (some .int) 2 0 0 [vR l0, vI l1] 312 m (some (vI out)) 312 m := by
  unfold X10_clothAt at h
  obtain ⟨hK, h⟩ := ite_some h
  have hlv : 1 < 2 := by decide
  refine ⟨hK, CT.of (by decide +kernel) rfl (Nat.le_of_ble_eq_true rfl) (ls := [some (vR l0), some (vI l1)]) rfl fun g w C _ => ?_⟩
  refine j_aload_n C dX10_clothAt_0 rfl ?_
  refine j_getR C dX10_clothAt_1 CF10 (by decide) fl_X10_27 rfl rfl h (fun t1 h => ?_)
  obtain ⟨p2, ep2, h⟩ := bind_some h
  have qp2 := X5_cells_ct ep2
  refine j_cVI C dX10_clothAt_4 vl_X10_375 CF5 rfl qp2.1 qp2.2 (by omega) rfl rfl (Nat.le_of_ble_eq_true rfl) ?_
  obtain ⟨p3, ep3, h⟩ := bind_some h
  have qp3 := X10_wallAt_ct ep3
  refine j_cSI C dX10_clothAt_7 sl_X10_416 qp3 (by omega) rfl rfl (Nat.le_of_ble_eq_true rfl) ?_
  refine j_iload_n C dX10_clothAt_10 rfl ?_
  refine j_iadd C dX10_clothAt_11 ?_
  exact j_ri C dX10_clothAt_12 rfl (Option.some.inj h).symm rfl
theorem dX5_isTaken_0 : decode cX5_isTaken 0 = .ok (.aload_n 0, 1) := by decide +kernel
theorem dX5_isTaken_1 : decode cX5_isTaken 1 = .ok (.iload_n 1, 1) := by decide +kernel
theorem dX5_isTaken_2 : decode cX5_isTaken 2 = .ok (.invokevirtual 118, 3) := by decide +kernel
theorem dX5_isTaken_5 : decode cX5_isTaken 5 = .ok (.ifCond .eq 21, 3) := by decide +kernel
theorem dX5_isTaken_8 : decode cX5_isTaken 8 = .ok (.aload_n 0, 1) := by decide +kernel
theorem dX5_isTaken_9 : decode cX5_isTaken 9 = .ok (.getfield 27, 3) := by decide +kernel
theorem dX5_isTaken_12 : decode cX5_isTaken 12 = .ok (.iload_n 1, 1) := by decide +kernel
theorem dX5_isTaken_13 : decode cX5_isTaken 13 = .ok (.iaload, 1) := by decide +kernel
theorem dX5_isTaken_14 : decode cX5_isTaken 14 = .ok (.iconst 1, 1) := by decide +kernel
theorem dX5_isTaken_15 : decode cX5_isTaken 15 = .ok (.if_icmp .eq 11, 3) := by decide +kernel
theorem dX5_isTaken_18 : decode cX5_isTaken 18 = .ok (.aload_n 0, 1) := by decide +kernel
theorem dX5_isTaken_19 : decode cX5_isTaken 19 = .ok (.iload_n 1, 1) := by decide +kernel
theorem dX5_isTaken_20 : decode cX5_isTaken 20 = .ok (.invokevirtual 128, 3) := by decide +kernel
theorem dX5_isTaken_23 : decode cX5_isTaken 23 = .ok (.ifCond .eq 5, 3) := by decide +kernel
theorem dX5_isTaken_26 : decode cX5_isTaken 26 = .ok (.iconst 1, 1) := by decide +kernel
theorem dX5_isTaken_27 : decode cX5_isTaken 27 = .ok (.ireturn, 1) := by decide +kernel
theorem dX5_isTaken_28 : decode cX5_isTaken 28 = .ok (.iconst 0, 1) := by decide +kernel
theorem dX5_isTaken_29 : decode cX5_isTaken 29 = .ok (.istore_n 2, 1) := by decide +kernel
theorem dX5_isTaken_30 : decode cX5_isTaken 30 = .ok (.iload_n 2, 1) := by decide +kernel
theorem dX5_isTaken_31 : decode cX5_isTaken 31 = .ok (.aload_n 0, 1) := by decide +kernel
theorem dX5_isTaken_32 : decode cX5_isTaken 32 = .ok (.getfield 46, 3) := by decide +kernel
theorem dX5_isTaken_35 : decode cX5_isTaken 35 = .ok (.if_icmp .ge 33, 3) := by decide +kernel
theorem dX5_isTaken_38 : decode cX5_isTaken 38 = .ok (.aload_n 0, 1) := by decide +kernel
theorem dX5_isTaken_39 : decode cX5_isTaken 39 = .ok (.getfield 52, 3) := by decide +kernel
theorem dX5_isTaken_42 : decode cX5_isTaken 42 = .ok (.iload_n 2, 1) := by decide +kernel
theorem dX5_isTaken_43 : decode cX5_isTaken 43 = .ok (.iaload, 1) := by decide +kernel
theorem dX5_isTaken_44 : decode cX5_isTaken 44 = .ok (.ifCond .eq 18, 3) := by decide +kernel
theorem dX5_isTaken_47 : decode cX5_isTaken 47 = .ok (.aload_n 0, 1) := by decide +kernel
theorem dX5_isTaken_48 : decode cX5_isTaken 48 = .ok (.getfield 33, 3) := by decide +kernel
theorem dX5_isTaken_51 : decode cX5_isTaken 51 = .ok (.getfield 110, 3) := by decide +kernel
theorem dX5_isTaken_54 : decode cX5_isTaken 54 = .ok (.iload_n 2, 1) := by decide +kernel
theorem dX5_isTaken_55 : decode cX5_isTaken 55 = .ok (.iaload, 1) := by decide +kernel
theorem dX5_isTaken_56 : decode cX5_isTaken 56 = .ok (.iload_n 1, 1) := by decide +kernel
theorem dX5_isTaken_57 : decode cX5_isTaken 57 = .ok (.if_icmp .ne 5, 3) := by decide +kernel
theorem dX5_isTaken_60 : decode cX5_isTaken 60 = .ok (.iconst 1, 1) := by decide +kernel
theorem dX5_isTaken_61 : decode cX5_isTaken 61 = .ok (.ireturn, 1) := by decide +kernel
theorem dX5_isTaken_62 : decode cX5_isTaken 62 = .ok (.iinc 2 1, 3) := by decide +kernel
theorem dX5_isTaken_65 : decode cX5_isTaken 65 = .ok (.goto (-35), 3) := by decide +kernel
theorem dX5_isTaken_68 : decode cX5_isTaken 68 = .ok (.iconst 0, 1) := by decide +kernel
theorem dX5_isTaken_69 : decode cX5_isTaken 69 = .ok (.ireturn, 1) := by decide +kernel
set_option maxRecDepth 100000 in
set_option maxHeartbeats 4000000 in
theorem X5_isTaken_J62_ok {g : Gm} {w : Wd} (C : Cx g w RX5 cX5_isTaken 3 (some .boolean)) {lv : Nat} (hlv : 1 < lv) {N : Nat} {r30 : Nat → Int → Int → Option Int } {l0 : Nat} {l1 : Int} {l2 : Int} {m : Mem} {out : Int} (hr30 : ∀ l0 l1 l2, r30 l0 l1 l2 = some out → Jd g w 3 (rmL lv 0 0) (Qm g w (some (vI out)) m) 30 [some (vR l0), some (vI l1), some (vI l2)] [] 312 m 0 0) (h : X5_isTaken_J62 N r30 l0 l1 l2 m = some out) : Jd g w 3 (rmL lv 0 0) (Qm g w (some (vI out)) m) 62 [some (vR l0), some (vI l1), some (vI l2)] [] 312 m 0 0 := by
  unfold X5_isTaken_J62 at h
  refine j_iinc (ls' := [some (vR _), some (vI _), some (vI _)]) C dX5_isTaken_62 rfl (by decide) rfl ?_
  refine j_goto C 30 dX5_isTaken_65 rfl ?_
  exact hr30 _ _ _ h
set_option maxRecDepth 100000 in
set_option maxHeartbeats 4000000 in
theorem X5_isTaken_L30_bok {g : Gm} {w : Wd} (C : Cx g w RX5 cX5_isTaken 3 (some .boolean)) {lv : Nat} (hlv : 1 < lv) {N : Nat} {r30 : Nat → Int → Int → Option Int} {l0 : Nat} {l1 : Int} {l2 : Int} {m : Mem} {out : Int} (hr30 : ∀ l0 l1 l2, r30 l0 l1 l2 = some out → Jd g w 3 (rmL lv 0 0) (Qm g w (some (vI out)) m) 30 [some (vR l0), some (vI l1), some (vI l2)] [] 312 m 0 0) (h : X5_isTaken_L30_b N m r30 l0 l1 l2 = some out) : Jd g w 3 (rmL lv 0 0) (Qm g w (some (vI out)) m) 30 [some (vR l0), some (vI l1), some (vI l2)] [] 312 m 0 0 := by
  unfold X5_isTaken_L30_b at h
  refine j_iload_n C dX5_isTaken_30 rfl ?_
  refine j_aload_n C dX5_isTaken_31 rfl ?_
  refine j_getI C dX5_isTaken_32 CF5 (by decide) fl_X5_46 rfl rfl h (fun t5 h => ?_)
  refine j_icmp_ge C 68 dX5_isTaken_35 rfl h (fun c13 h => ?_) (fun c13 h => ?_)
  · refine j_iconst C dX5_isTaken_68 rfl ?_
    exact j_rz C dX5_isTaken_69 rfl (retZ_some h) rfl
  · refine j_aload_n C dX5_isTaken_38 rfl ?_
    refine j_getR C dX5_isTaken_39 CF5 (by decide) fl_X5_52 rfl rfl h (fun t6 h => ?_)
    refine j_iload_n C dX5_isTaken_42 rfl ?_
    refine j_iald C dX5_isTaken_43 rfl h (fun t7 h => ?_)
    refine j_if_eq C 62 dX5_isTaken_44 rfl h (fun c12 h => ?_) (fun c12 h => ?_)
    · exact X5_isTaken_J62_ok C hlv hr30 h
    · refine j_aload_n C dX5_isTaken_47 rfl ?_
      refine j_getR C dX5_isTaken_48 CF5 (by decide) fl_X5_33 rfl rfl h (fun t8 h => ?_)
      refine j_getR C dX5_isTaken_51 CF1 (by decide) fl_X5_110 rfl rfl h (fun t9 h => ?_)
      refine j_iload_n C dX5_isTaken_54 rfl ?_
      refine j_iald C dX5_isTaken_55 rfl h (fun t10 h => ?_)
      refine j_iload_n C dX5_isTaken_56 rfl ?_
      refine j_icmp_ne C 62 dX5_isTaken_57 rfl h (fun c11 h => ?_) (fun c11 h => ?_)
      · exact X5_isTaken_J62_ok C hlv hr30 h
      · refine j_iconst C dX5_isTaken_60 rfl ?_
        exact j_rz C dX5_isTaken_61 rfl (retZ_some h) rfl
set_option maxRecDepth 100000 in
set_option maxHeartbeats 4000000 in
theorem X5_isTaken_L30_ok {g : Gm} {w : Wd} (C : Cx g w RX5 cX5_isTaken 3 (some .boolean)) {lv : Nat} (hlv : 1 < lv) {N : Nat} {m : Mem} {out : Int} (f : Nat) : ∀ {l0 : Nat} {l1 : Int} {l2 : Int}, X5_isTaken_L30 N m f l0 l1 l2 = some out → Jd g w 3 (rmL lv 0 0) (Qm g w (some (vI out)) m) 30 [some (vR l0), some (vI l1), some (vI l2)] [] 312 m 0 0 := by
  induction f with
  | zero => intro l0 l1 l2 h; exact none_ne (α := Int) h
  | succ f ih => intro l0 l1 l2 h; exact X5_isTaken_L30_bok C hlv (fun l0 l1 l2 h => ih h) h
set_option maxRecDepth 100000 in
set_option maxHeartbeats 4000000 in
theorem X5_isTaken_ct {N : Nat} {l0 : Nat} {l1 : Int} {m : Mem} {out : Int} (h : X5_isTaken N l0 l1 m = some out) : shK l0 = 5 + 10 ∧ CT yX5_isTaken cX5_isTaken 3 (some .boolean) 2 0 0 [vR l0, vI l1] 312 m (some (vI out)) 312 m := by
  unfold X5_isTaken at h
  obtain ⟨hK, h⟩ := ite_some h
  have hlv : 1 < 2 := by decide
  refine ⟨hK, CT.of (by decide +kernel) rfl (Nat.le_of_ble_eq_true rfl) (ls := [some (vR l0), some (vI l1), none]) rfl fun g w C _ => ?_⟩
  refine j_aload_n C dX5_isTaken_0 rfl ?_
  refine j_iload_n C dX5_isTaken_1 rfl ?_
  obtain ⟨p1, ep1, h⟩ := bind_some h
  have qp1 := X5_isCell_ct ep1
  refine j_cVI C dX5_isTaken_2 vl_X5_118 CF5 rfl qp1.1 qp1.2 (by omega) rfl rfl (Nat.le_of_ble_eq_true rfl) ?_
  refine j_if_eq C 26 dX5_isTaken_5 rfl h (fun c16 h => ?_) (fun c16 h => ?_)
  · refine j_iconst C dX5_isTaken_26 rfl ?_
    exact j_rz C dX5_isTaken_27 rfl (retZ_some h) rfl
  · refine j_aload_n C dX5_isTaken_8 rfl ?_
    refine j_getR C dX5_isTaken_9 CF5 (by decide) fl_X5_27 rfl rfl h (fun t2 h => ?_)
    refine j_iload_n C dX5_isTaken_12 rfl ?_
    refine j_iald C dX5_isTaken_13 rfl h (fun t3 h => ?_)
    refine j_iconst C dX5_isTaken_14 rfl ?_
    refine j_icmp_eq C 26 dX5_isTaken_15 rfl h (fun c15 h => ?_) (fun c15 h => ?_)
    · refine j_iconst C dX5_isTaken_26 rfl ?_
      exact j_rz C dX5_isTaken_27 rfl (retZ_some h) rfl
    · refine j_aload_n C dX5_isTaken_18 rfl ?_
      refine j_iload_n C dX5_isTaken_19 rfl ?_
      obtain ⟨p4, ep4, h⟩ := bind_some h
      have qp4 := X5_hasCistern_ct ep4
      refine j_cVI C dX5_isTaken_20 vl_X5_128 CF5 rfl qp4.1 qp4.2 (by omega) rfl rfl (Nat.le_of_ble_eq_true rfl) ?_
      refine j_if_eq C 28 dX5_isTaken_23 rfl h (fun c14 h => ?_) (fun c14 h => ?_)
      · refine j_iconst C dX5_isTaken_28 rfl ?_
        refine j_istore_n (ls' := [some (vR _), some (vI _), some (vI _)]) C dX5_isTaken_29 (by decide) rfl ?_
        exact X5_isTaken_L30_ok C hlv N h
      · refine j_iconst C dX5_isTaken_26 rfl ?_
        exact j_rz C dX5_isTaken_27 rfl (retZ_some h) rfl
theorem dX10_clothsCanBe_0 : decode cX10_clothsCanBe 0 = .ok (.iconst 0, 1) := by decide +kernel
theorem dX10_clothsCanBe_1 : decode cX10_clothsCanBe 1 = .ok (.istore_n 1, 1) := by decide +kernel
theorem dX10_clothsCanBe_2 : decode cX10_clothsCanBe 2 = .ok (.iload_n 1, 1) := by decide +kernel
theorem dX10_clothsCanBe_3 : decode cX10_clothsCanBe 3 = .ok (.aload_n 0, 1) := by decide +kernel
theorem dX10_clothsCanBe_4 : decode cX10_clothsCanBe 4 = .ok (.getfield 27, 3) := by decide +kernel
theorem dX10_clothsCanBe_7 : decode cX10_clothsCanBe 7 = .ok (.getfield 155, 3) := by decide +kernel
theorem dX10_clothsCanBe_10 : decode cX10_clothsCanBe 10 = .ok (.if_icmp .ge 86, 3) := by decide +kernel
theorem dX10_clothsCanBe_13 : decode cX10_clothsCanBe 13 = .ok (.aload_n 0, 1) := by decide +kernel
theorem dX10_clothsCanBe_14 : decode cX10_clothsCanBe 14 = .ok (.getfield 9, 3) := by decide +kernel
theorem dX10_clothsCanBe_17 : decode cX10_clothsCanBe 17 = .ok (.aload_n 0, 1) := by decide +kernel
theorem dX10_clothsCanBe_18 : decode cX10_clothsCanBe 18 = .ok (.iload_n 1, 1) := by decide +kernel
theorem dX10_clothsCanBe_19 : decode cX10_clothsCanBe 19 = .ok (.invokevirtual 419, 3) := by decide +kernel
theorem dX10_clothsCanBe_22 : decode cX10_clothsCanBe 22 = .ok (.iaload, 1) := by decide +kernel
theorem dX10_clothsCanBe_23 : decode cX10_clothsCanBe 23 = .ok (.istore_n 2, 1) := by decide +kernel
theorem dX10_clothsCanBe_24 : decode cX10_clothsCanBe 24 = .ok (.aload_n 0, 1) := by decide +kernel
theorem dX10_clothsCanBe_25 : decode cX10_clothsCanBe 25 = .ok (.getfield 27, 3) := by decide +kernel
theorem dX10_clothsCanBe_28 : decode cX10_clothsCanBe 28 = .ok (.iload_n 2, 1) := by decide +kernel
theorem dX10_clothsCanBe_29 : decode cX10_clothsCanBe 29 = .ok (.invokevirtual 192, 3) := by decide +kernel
theorem dX10_clothsCanBe_32 : decode cX10_clothsCanBe 32 = .ok (.ifCond .eq 27, 3) := by decide +kernel
theorem dX10_clothsCanBe_35 : decode cX10_clothsCanBe 35 = .ok (.aload_n 0, 1) := by decide +kernel
theorem dX10_clothsCanBe_36 : decode cX10_clothsCanBe 36 = .ok (.getfield 27, 3) := by decide +kernel
theorem dX10_clothsCanBe_39 : decode cX10_clothsCanBe 39 = .ok (.iload_n 2, 1) := by decide +kernel
theorem dX10_clothsCanBe_40 : decode cX10_clothsCanBe 40 = .ok (.invokevirtual 431, 3) := by decide +kernel
theorem dX10_clothsCanBe_43 : decode cX10_clothsCanBe 43 = .ok (.ifCond .ne 16, 3) := by decide +kernel
theorem dX10_clothsCanBe_46 : decode cX10_clothsCanBe 46 = .ok (.aload_n 0, 1) := by decide +kernel
theorem dX10_clothsCanBe_47 : decode cX10_clothsCanBe 47 = .ok (.getfield 9, 3) := by decide +kernel
theorem dX10_clothsCanBe_50 : decode cX10_clothsCanBe 50 = .ok (.iload_n 2, 1) := by decide +kernel
theorem dX10_clothsCanBe_51 : decode cX10_clothsCanBe 51 = .ok (.invokestatic 416, 3) := by decide +kernel
theorem dX10_clothsCanBe_54 : decode cX10_clothsCanBe 54 = .ok (.iaload, 1) := by decide +kernel
theorem dX10_clothsCanBe_55 : decode cX10_clothsCanBe 55 = .ok (.iconst 1, 1) := by decide +kernel
theorem dX10_clothsCanBe_56 : decode cX10_clothsCanBe 56 = .ok (.if_icmp .ne 5, 3) := by decide +kernel
theorem dX10_clothsCanBe_59 : decode cX10_clothsCanBe 59 = .ok (.iconst 0, 1) := by decide +kernel
theorem dX10_clothsCanBe_60 : decode cX10_clothsCanBe 60 = .ok (.ireturn, 1) := by decide +kernel
theorem dX10_clothsCanBe_61 : decode cX10_clothsCanBe 61 = .ok (.iconst 0, 1) := by decide +kernel
theorem dX10_clothsCanBe_62 : decode cX10_clothsCanBe 62 = .ok (.istore_n 3, 1) := by decide +kernel
theorem dX10_clothsCanBe_63 : decode cX10_clothsCanBe 63 = .ok (.iload_n 3, 1) := by decide +kernel
theorem dX10_clothsCanBe_64 : decode cX10_clothsCanBe 64 = .ok (.iload_n 1, 1) := by decide +kernel
theorem dX10_clothsCanBe_65 : decode cX10_clothsCanBe 65 = .ok (.if_icmp .ge 25, 3) := by decide +kernel
theorem dX10_clothsCanBe_68 : decode cX10_clothsCanBe 68 = .ok (.aload_n 0, 1) := by decide +kernel
theorem dX10_clothsCanBe_69 : decode cX10_clothsCanBe 69 = .ok (.getfield 9, 3) := by decide +kernel
theorem dX10_clothsCanBe_72 : decode cX10_clothsCanBe 72 = .ok (.aload_n 0, 1) := by decide +kernel
theorem dX10_clothsCanBe_73 : decode cX10_clothsCanBe 73 = .ok (.iload_n 3, 1) := by decide +kernel
theorem dX10_clothsCanBe_74 : decode cX10_clothsCanBe 74 = .ok (.invokevirtual 419, 3) := by decide +kernel
theorem dX10_clothsCanBe_77 : decode cX10_clothsCanBe 77 = .ok (.iaload, 1) := by decide +kernel
theorem dX10_clothsCanBe_78 : decode cX10_clothsCanBe 78 = .ok (.iload_n 2, 1) := by decide +kernel
theorem dX10_clothsCanBe_79 : decode cX10_clothsCanBe 79 = .ok (.if_icmp .ne 5, 3) := by decide +kernel
theorem dX10_clothsCanBe_82 : decode cX10_clothsCanBe 82 = .ok (.iconst 0, 1) := by decide +kernel
theorem dX10_clothsCanBe_83 : decode cX10_clothsCanBe 83 = .ok (.ireturn, 1) := by decide +kernel
theorem dX10_clothsCanBe_84 : decode cX10_clothsCanBe 84 = .ok (.iinc 3 1, 3) := by decide +kernel
theorem dX10_clothsCanBe_87 : decode cX10_clothsCanBe 87 = .ok (.goto (-24), 3) := by decide +kernel
theorem dX10_clothsCanBe_90 : decode cX10_clothsCanBe 90 = .ok (.iinc 1 1, 3) := by decide +kernel
theorem dX10_clothsCanBe_93 : decode cX10_clothsCanBe 93 = .ok (.goto (-91), 3) := by decide +kernel
theorem dX10_clothsCanBe_96 : decode cX10_clothsCanBe 96 = .ok (.iconst 1, 1) := by decide +kernel
theorem dX10_clothsCanBe_97 : decode cX10_clothsCanBe 97 = .ok (.ireturn, 1) := by decide +kernel
set_option maxRecDepth 100000 in
set_option maxHeartbeats 4000000 in
theorem X10_clothsCanBe_L63_bok {g : Gm} {w : Wd} (C : Cx g w RX10 cX10_clothsCanBe 4 (some .boolean)) {lv : Nat} (hlv : 2 < lv) {N : Nat} {k90 : Nat → Int → Option Int} {r63 : Nat → Int → Int → Int → Option Int} {l0 : Nat} {l1 : Int} {l2 : Int} {l3 : Int} {m : Mem} {out : Int} (hk90 : ∀ l0 l1, k90 l0 l1 = some out → Jd g w 4 (rmL lv 0 0) (Qm g w (some (vI out)) m) 90 [some (vR l0), some (vI l1), none, none] [] 312 m 0 0) (hr63 : ∀ l0 l1 l2 l3, r63 l0 l1 l2 l3 = some out → Jd g w 4 (rmL lv 0 0) (Qm g w (some (vI out)) m) 63 [some (vR l0), some (vI l1), some (vI l2), some (vI l3)] [] 312 m 0 0) (h : X10_clothsCanBe_L63_b N k90 m r63 l0 l1 l2 l3 = some out) : Jd g w 4 (rmL lv 0 0) (Qm g w (some (vI out)) m) 63 [some (vR l0), some (vI l1), some (vI l2), some (vI l3)] [] 312 m 0 0 := by
  unfold X10_clothsCanBe_L63_b at h
  refine j_iload_n C dX10_clothsCanBe_63 rfl ?_
  refine j_iload_n C dX10_clothsCanBe_64 rfl ?_
  refine j_icmp_ge C 90 dX10_clothsCanBe_65 rfl h (fun c17 h => ?_) (fun c17 h => ?_)
  · refine j_mask [true, true, false, false] (ls' := [some (vR _), some (vI _), none, none]) rfl ?_
    exact hk90 _ _ h
  · refine j_aload_n C dX10_clothsCanBe_68 rfl ?_
    refine j_getR C dX10_clothsCanBe_69 CF10 (by decide) fl_X10_9 rfl rfl h (fun t13 h => ?_)
    refine j_aload_n C dX10_clothsCanBe_72 rfl ?_
    refine j_iload_n C dX10_clothsCanBe_73 rfl ?_
    obtain ⟨p14, ep14, h⟩ := bind_some h
    have qp14 := X10_clothAt_ct ep14
    refine j_cVI C dX10_clothsCanBe_74 vl_X10_419 CF10 rfl qp14.1 qp14.2 (by omega) rfl rfl (Nat.le_of_ble_eq_true rfl) ?_
    refine j_iald C dX10_clothsCanBe_77 rfl h (fun t15 h => ?_)
    refine j_iload_n C dX10_clothsCanBe_78 rfl ?_
    refine j_icmp_ne C 84 dX10_clothsCanBe_79 rfl h (fun c16 h => ?_) (fun c16 h => ?_)
    · refine j_iinc (ls' := [some (vR _), some (vI _), some (vI _), some (vI _)]) C dX10_clothsCanBe_84 rfl (by decide) rfl ?_
      refine j_goto C 63 dX10_clothsCanBe_87 rfl ?_
      exact hr63 _ _ _ _ h
    · refine j_iconst C dX10_clothsCanBe_82 rfl ?_
      exact j_rz C dX10_clothsCanBe_83 rfl (retZ_some h) rfl
set_option maxRecDepth 100000 in
set_option maxHeartbeats 4000000 in
theorem X10_clothsCanBe_L63_ok {g : Gm} {w : Wd} (C : Cx g w RX10 cX10_clothsCanBe 4 (some .boolean)) {lv : Nat} (hlv : 2 < lv) {N : Nat} {k90 : Nat → Int → Option Int} {m : Mem} {out : Int} (hk90 : ∀ l0 l1, k90 l0 l1 = some out → Jd g w 4 (rmL lv 0 0) (Qm g w (some (vI out)) m) 90 [some (vR l0), some (vI l1), none, none] [] 312 m 0 0) (f : Nat) : ∀ {l0 : Nat} {l1 : Int} {l2 : Int} {l3 : Int}, X10_clothsCanBe_L63 N k90 m f l0 l1 l2 l3 = some out → Jd g w 4 (rmL lv 0 0) (Qm g w (some (vI out)) m) 63 [some (vR l0), some (vI l1), some (vI l2), some (vI l3)] [] 312 m 0 0 := by
  induction f with
  | zero => intro l0 l1 l2 l3 h; exact none_ne (α := Int) h
  | succ f ih => intro l0 l1 l2 l3 h; exact X10_clothsCanBe_L63_bok C hlv hk90 (fun l0 l1 l2 l3 h => ih h) h
set_option maxRecDepth 100000 in
set_option maxHeartbeats 4000000 in
theorem X10_clothsCanBe_L2_bok {g : Gm} {w : Wd} (C : Cx g w RX10 cX10_clothsCanBe 4 (some .boolean)) {lv : Nat} (hlv : 2 < lv) {N : Nat} {r2 : Nat → Int → Option Int} {l0 : Nat} {l1 : Int} {m : Mem} {out : Int} (hr2 : ∀ l0 l1, r2 l0 l1 = some out → Jd g w 4 (rmL lv 0 0) (Qm g w (some (vI out)) m) 2 [some (vR l0), some (vI l1), none, none] [] 312 m 0 0) (h : X10_clothsCanBe_L2_b N m r2 l0 l1 = some out) : Jd g w 4 (rmL lv 0 0) (Qm g w (some (vI out)) m) 2 [some (vR l0), some (vI l1), none, none] [] 312 m 0 0 := by
  unfold X10_clothsCanBe_L2_b at h
  refine j_iload_n C dX10_clothsCanBe_2 rfl ?_
  refine j_aload_n C dX10_clothsCanBe_3 rfl ?_
  refine j_getR C dX10_clothsCanBe_4 CF10 (by decide) fl_X10_27 rfl rfl h (fun t1 h => ?_)
  refine j_getI C dX10_clothsCanBe_7 CF5 (by decide) fl_X10_155 rfl rfl h (fun t2 h => ?_)
  refine j_icmp_ge C 96 dX10_clothsCanBe_10 rfl h (fun c23 h => ?_) (fun c23 h => ?_)
  · refine j_iconst C dX10_clothsCanBe_96 rfl ?_
    exact j_rz C dX10_clothsCanBe_97 rfl (retZ_some h) rfl
  · refine j_aload_n C dX10_clothsCanBe_13 rfl ?_
    refine j_getR C dX10_clothsCanBe_14 CF10 (by decide) fl_X10_9 rfl rfl h (fun t3 h => ?_)
    refine j_aload_n C dX10_clothsCanBe_17 rfl ?_
    refine j_iload_n C dX10_clothsCanBe_18 rfl ?_
    obtain ⟨p4, ep4, h⟩ := bind_some h
    have qp4 := X10_clothAt_ct ep4
    refine j_cVI C dX10_clothsCanBe_19 vl_X10_419 CF10 rfl qp4.1 qp4.2 (by omega) rfl rfl (Nat.le_of_ble_eq_true rfl) ?_
    refine j_iald C dX10_clothsCanBe_22 rfl h (fun t5 h => ?_)
    refine j_istore_n (ls' := [some (vR _), some (vI _), some (vI _), none]) C dX10_clothsCanBe_23 (by decide) rfl ?_
    refine j_aload_n C dX10_clothsCanBe_24 rfl ?_
    refine j_getR C dX10_clothsCanBe_25 CF10 (by decide) fl_X10_27 rfl rfl h (fun t6 h => ?_)
    refine j_iload_n C dX10_clothsCanBe_28 rfl ?_
    obtain ⟨p7, ep7, h⟩ := bind_some h
    have qp7 := X5_isCell_ct ep7
    refine j_cVI C dX10_clothsCanBe_29 vl_X10_192 CF5 rfl qp7.1 qp7.2 (by omega) rfl rfl (Nat.le_of_ble_eq_true rfl) ?_
    refine j_if_eq C 59 dX10_clothsCanBe_32 rfl h (fun c22 h => ?_) (fun c22 h => ?_)
    · refine j_iconst C dX10_clothsCanBe_59 rfl ?_
      exact j_rz C dX10_clothsCanBe_60 rfl (retZ_some h) rfl
    · refine j_aload_n C dX10_clothsCanBe_35 rfl ?_
      refine j_getR C dX10_clothsCanBe_36 CF10 (by decide) fl_X10_27 rfl rfl h (fun t8 h => ?_)
      refine j_iload_n C dX10_clothsCanBe_39 rfl ?_
      obtain ⟨p9, ep9, h⟩ := bind_some h
      have qp9 := X5_isTaken_ct ep9
      refine j_cVI C dX10_clothsCanBe_40 vl_X10_431 CF5 rfl qp9.1 qp9.2 (by omega) rfl rfl (Nat.le_of_ble_eq_true rfl) ?_
      refine j_if_ne C 59 dX10_clothsCanBe_43 rfl h (fun c21 h => ?_) (fun c21 h => ?_)
      · refine j_iconst C dX10_clothsCanBe_59 rfl ?_
        exact j_rz C dX10_clothsCanBe_60 rfl (retZ_some h) rfl
      · refine j_aload_n C dX10_clothsCanBe_46 rfl ?_
        refine j_getR C dX10_clothsCanBe_47 CF10 (by decide) fl_X10_9 rfl rfl h (fun t10 h => ?_)
        refine j_iload_n C dX10_clothsCanBe_50 rfl ?_
        obtain ⟨p11, ep11, h⟩ := bind_some h
        have qp11 := X10_wallAt_ct ep11
        refine j_cSI C dX10_clothsCanBe_51 sl_X10_416 qp11 (by omega) rfl rfl (Nat.le_of_ble_eq_true rfl) ?_
        refine j_iald C dX10_clothsCanBe_54 rfl h (fun t12 h => ?_)
        refine j_iconst C dX10_clothsCanBe_55 rfl ?_
        refine j_icmp_ne C 61 dX10_clothsCanBe_56 rfl h (fun c20 h => ?_) (fun c20 h => ?_)
        · refine j_iconst C dX10_clothsCanBe_61 rfl ?_
          refine j_istore_n (ls' := [some (vR _), some (vI _), some (vI _), some (vI _)]) C dX10_clothsCanBe_62 (by decide) rfl ?_
          refine X10_clothsCanBe_L63_ok C hlv (fun z18 z19 h => ?_) N h
          refine j_iinc (ls' := [some (vR _), some (vI _), none, none]) C dX10_clothsCanBe_90 rfl (by decide) rfl ?_
          refine j_goto C 2 dX10_clothsCanBe_93 rfl ?_
          exact hr2 _ _ h
        · refine j_iconst C dX10_clothsCanBe_59 rfl ?_
          exact j_rz C dX10_clothsCanBe_60 rfl (retZ_some h) rfl
set_option maxRecDepth 100000 in
set_option maxHeartbeats 4000000 in
theorem X10_clothsCanBe_L2_ok {g : Gm} {w : Wd} (C : Cx g w RX10 cX10_clothsCanBe 4 (some .boolean)) {lv : Nat} (hlv : 2 < lv) {N : Nat} {m : Mem} {out : Int} (f : Nat) : ∀ {l0 : Nat} {l1 : Int}, X10_clothsCanBe_L2 N m f l0 l1 = some out → Jd g w 4 (rmL lv 0 0) (Qm g w (some (vI out)) m) 2 [some (vR l0), some (vI l1), none, none] [] 312 m 0 0 := by
  induction f with
  | zero => intro l0 l1 h; exact none_ne (α := Int) h
  | succ f ih => intro l0 l1 h; exact X10_clothsCanBe_L2_bok C hlv (fun l0 l1 h => ih h) h
set_option maxRecDepth 100000 in
set_option maxHeartbeats 4000000 in
theorem X10_clothsCanBe_ct {N : Nat} {l0 : Nat} {m : Mem} {out : Int} (h : X10_clothsCanBe N l0 m = some out) : shK l0 = 10 + 10 ∧ CT yX10_clothsCanBe cX10_clothsCanBe 4 (some .boolean) 3 0 0 [vR l0] 312 m (some (vI out)) 312 m := by
  unfold X10_clothsCanBe at h
  obtain ⟨hK, h⟩ := ite_some h
  have hlv : 2 < 3 := by decide
  refine ⟨hK, CT.of (by decide +kernel) rfl (Nat.le_of_ble_eq_true rfl) (ls := [some (vR l0), none, none, none]) rfl fun g w C _ => ?_⟩
  refine j_iconst C dX10_clothsCanBe_0 rfl ?_
  refine j_istore_n (ls' := [some (vR _), some (vI _), none, none]) C dX10_clothsCanBe_1 (by decide) rfl ?_
  exact X10_clothsCanBe_L2_ok C hlv N h
theorem dX10_isHour_0 : decode cX10_isHour 0 = .ok (.iload_n 0, 1) := by decide +kernel
theorem dX10_isHour_1 : decode cX10_isHour 1 = .ok (.iconst 1, 1) := by decide +kernel
theorem dX10_isHour_2 : decode cX10_isHour 2 = .ok (.if_icmp .lt 13, 3) := by decide +kernel
theorem dX10_isHour_5 : decode cX10_isHour 5 = .ok (.iload_n 0, 1) := by decide +kernel
theorem dX10_isHour_6 : decode cX10_isHour 6 = .ok (.bipush 12, 2) := by decide +kernel
theorem dX10_isHour_8 : decode cX10_isHour 8 = .ok (.if_icmp .gt 7, 3) := by decide +kernel
theorem dX10_isHour_11 : decode cX10_isHour 11 = .ok (.iconst 1, 1) := by decide +kernel
theorem dX10_isHour_12 : decode cX10_isHour 12 = .ok (.goto 4, 3) := by decide +kernel
theorem dX10_isHour_15 : decode cX10_isHour 15 = .ok (.iconst 0, 1) := by decide +kernel
theorem dX10_isHour_16 : decode cX10_isHour 16 = .ok (.ireturn, 1) := by decide +kernel
set_option maxRecDepth 100000 in
set_option maxHeartbeats 4000000 in
theorem X10_isHour_ct {l0 : Int} {m : Mem} {out : Int} (h : X10_isHour l0 m = some out) : CT yX10_isHour cX10_isHour 1 (some .boolean) 1 0 0 [vI l0] 312 m (some (vI out)) 312 m := by
  unfold X10_isHour at h
  have hlv : 0 < 1 := by decide
  refine CT.of (by decide +kernel) rfl (Nat.le_of_ble_eq_true rfl) (ls := [some (vI l0)]) rfl fun g w C _ => ?_
  refine j_iload_n C dX10_isHour_0 rfl ?_
  refine j_iconst C dX10_isHour_1 rfl ?_
  refine j_icmp_lt C 15 dX10_isHour_2 rfl h (fun c2 h => ?_) (fun c2 h => ?_)
  · refine j_iconst C dX10_isHour_15 rfl ?_
    exact j_rz C dX10_isHour_16 rfl (retZ_some h) rfl
  · refine j_iload_n C dX10_isHour_5 rfl ?_
    refine j_bipush C dX10_isHour_6 rfl ?_
    refine j_icmp_gt C 15 dX10_isHour_8 rfl h (fun c1 h => ?_) (fun c1 h => ?_)
    · refine j_iconst C dX10_isHour_15 rfl ?_
      exact j_rz C dX10_isHour_16 rfl (retZ_some h) rfl
    · refine j_iconst C dX10_isHour_11 rfl ?_
      refine j_goto C 16 dX10_isHour_12 rfl ?_
      exact j_rz C dX10_isHour_16 rfl (retZ_some h) rfl
theorem dX10_cold_0 : decode cX10_cold 0 = .ok (.aload_n 0, 1) := by decide +kernel
theorem dX10_cold_1 : decode cX10_cold 1 = .ok (.getfield 27, 3) := by decide +kernel
theorem dX10_cold_4 : decode cX10_cold 4 = .ok (.iload_n 1, 1) := by decide +kernel
theorem dX10_cold_5 : decode cX10_cold 5 = .ok (.invokevirtual 192, 3) := by decide +kernel
theorem dX10_cold_8 : decode cX10_cold 8 = .ok (.ifCond .eq 18, 3) := by decide +kernel
theorem dX10_cold_11 : decode cX10_cold 11 = .ok (.iload_n 2, 1) := by decide +kernel
theorem dX10_cold_12 : decode cX10_cold 12 = .ok (.ifCond .eq 10, 3) := by decide +kernel
theorem dX10_cold_15 : decode cX10_cold 15 = .ok (.iload_n 2, 1) := by decide +kernel
theorem dX10_cold_16 : decode cX10_cold 16 = .ok (.invokestatic 245, 3) := by decide +kernel
theorem dX10_cold_19 : decode cX10_cold 19 = .ok (.ifCond .eq 7, 3) := by decide +kernel
theorem dX10_cold_22 : decode cX10_cold 22 = .ok (.iconst 1, 1) := by decide +kernel
theorem dX10_cold_23 : decode cX10_cold 23 = .ok (.goto 4, 3) := by decide +kernel
theorem dX10_cold_26 : decode cX10_cold 26 = .ok (.iconst 0, 1) := by decide +kernel
theorem dX10_cold_27 : decode cX10_cold 27 = .ok (.istore_n 3, 1) := by decide +kernel
theorem dX10_cold_28 : decode cX10_cold 28 = .ok (.iload_n 3, 1) := by decide +kernel
theorem dX10_cold_29 : decode cX10_cold 29 = .ok (.ifCond .eq 15, 3) := by decide +kernel
theorem dX10_cold_32 : decode cX10_cold 32 = .ok (.aload_n 0, 1) := by decide +kernel
theorem dX10_cold_33 : decode cX10_cold 33 = .ok (.invokevirtual 226, 3) := by decide +kernel
theorem dX10_cold_36 : decode cX10_cold 36 = .ok (.iload_n 1, 1) := by decide +kernel
theorem dX10_cold_37 : decode cX10_cold 37 = .ok (.iload_n 2, 1) := by decide +kernel
theorem dX10_cold_38 : decode cX10_cold 38 = .ok (.invokevirtual 251, 3) := by decide +kernel
theorem dX10_cold_41 : decode cX10_cold 41 = .ok (.goto 4, 3) := by decide +kernel
theorem dX10_cold_44 : decode cX10_cold 44 = .ok (.iconst (-1), 1) := by decide +kernel
theorem dX10_cold_45 : decode cX10_cold 45 = .ok (.ireturn, 1) := by decide +kernel
set_option maxRecDepth 100000 in
set_option maxHeartbeats 4000000 in
theorem X10_cold_J27_ok {g : Gm} {w : Wd} (C : Cx g w RX10 cX10_cold 4 (some .int)) {lv : Nat} (hlv : 6 < lv) {N : Nat} {l0 : Nat} {l1 : Int} {l2 : Int} {s0 : Int} {m : Mem} {out : (Int × Mem)} (h : X10_cold_J27 N l0 l1 l2 s0 m = some out) : Jd g w 4 (rmL lv 0 0) (Qm g w (some (vI out.1)) out.2) 27 [some (vR l0), some (vI l1), some (vI l2), none] [vI s0] 312 m 0 0 := by
  unfold X10_cold_J27 at h
  refine j_istore_n (ls' := [some (vR _), some (vI _), some (vI _), some (vI _)]) C dX10_cold_27 (by decide) rfl ?_
  refine j_iload_n C dX10_cold_28 rfl ?_
  refine j_if_eq C 44 dX10_cold_29 rfl h (fun c5 h => ?_) (fun c5 h => ?_)
  · refine j_iconst C dX10_cold_44 rfl ?_
    have e := Option.some.inj h
    subst e
    exact j_ri C dX10_cold_45 rfl rfl rfl
  · refine j_aload_n C dX10_cold_32 rfl ?_
    obtain ⟨p3, ep3, h⟩ := bind_some h
    have qp3 := X10_asTold_ct ep3
    refine j_cVR C dX10_cold_33 vl_X10_226 CF10 rfl qp3.1 qp3.2 (by omega) rfl rfl (Nat.le_of_ble_eq_true rfl) ?_
    refine j_iload_n C dX10_cold_36 rfl ?_
    refine j_iload_n C dX10_cold_37 rfl ?_
    obtain ⟨p4, ep4, h⟩ := bind_some h
    have qp4 := X3_coldIn_ct ep4
    refine j_cVI C dX10_cold_38 vl_X10_251 CF3 rfl qp4.1 qp4.2 (by omega) rfl rfl (Nat.le_of_ble_eq_true rfl) ?_
    refine j_goto C 45 dX10_cold_41 rfl ?_
    have e := Option.some.inj h
    subst e
    exact j_ri C dX10_cold_45 rfl rfl rfl
set_option maxRecDepth 100000 in
set_option maxHeartbeats 4000000 in
theorem X10_cold_J26_ok {g : Gm} {w : Wd} (C : Cx g w RX10 cX10_cold 4 (some .int)) {lv : Nat} (hlv : 6 < lv) {N : Nat} {l0 : Nat} {l1 : Int} {l2 : Int} {m : Mem} {out : (Int × Mem)} (h : X10_cold_J26 N l0 l1 l2 m = some out) : Jd g w 4 (rmL lv 0 0) (Qm g w (some (vI out.1)) out.2) 26 [some (vR l0), some (vI l1), some (vI l2), none] [] 312 m 0 0 := by
  unfold X10_cold_J26 at h
  refine j_iconst C dX10_cold_26 rfl ?_
  exact X10_cold_J27_ok C hlv h
set_option maxRecDepth 100000 in
set_option maxHeartbeats 4000000 in
theorem X10_cold_J22_ok {g : Gm} {w : Wd} (C : Cx g w RX10 cX10_cold 4 (some .int)) {lv : Nat} (hlv : 6 < lv) {N : Nat} {l0 : Nat} {l1 : Int} {l2 : Int} {m : Mem} {out : (Int × Mem)} (h : X10_cold_J22 N l0 l1 l2 m = some out) : Jd g w 4 (rmL lv 0 0) (Qm g w (some (vI out.1)) out.2) 22 [some (vR l0), some (vI l1), some (vI l2), none] [] 312 m 0 0 := by
  unfold X10_cold_J22 at h
  refine j_iconst C dX10_cold_22 rfl ?_
  refine j_goto C 27 dX10_cold_23 rfl ?_
  exact X10_cold_J27_ok C hlv h
set_option maxRecDepth 100000 in
set_option maxHeartbeats 4000000 in
theorem X10_cold_ct {N : Nat} {l0 : Nat} {l1 : Int} {l2 : Int} {m : Mem} {out : (Int × Mem)} (h : X10_cold N l0 l1 l2 m = some out) : shK l0 = 10 + 10 ∧ CT yX10_cold cX10_cold 4 (some .int) 7 0 0 [vR l0, vI l1, vI l2] 312 m (some (vI out.1)) 312 out.2 := by
  unfold X10_cold at h
  obtain ⟨hK, h⟩ := ite_some h
  have hlv : 6 < 7 := by decide
  refine ⟨hK, CT.of (by decide +kernel) rfl (Nat.le_of_ble_eq_true rfl) (ls := [some (vR l0), some (vI l1), some (vI l2), none]) rfl fun g w C _ => ?_⟩
  refine j_aload_n C dX10_cold_0 rfl ?_
  refine j_getR C dX10_cold_1 CF10 (by decide) fl_X10_27 rfl rfl h (fun t1 h => ?_)
  refine j_iload_n C dX10_cold_4 rfl ?_
  obtain ⟨p2, ep2, h⟩ := bind_some h
  have qp2 := X5_isCell_ct ep2
  refine j_cVI C dX10_cold_5 vl_X10_192 CF5 rfl qp2.1 qp2.2 (by omega) rfl rfl (Nat.le_of_ble_eq_true rfl) ?_
  refine j_if_eq C 26 dX10_cold_8 rfl h (fun c9 h => ?_) (fun c9 h => ?_)
  · exact X10_cold_J26_ok C hlv h
  · refine j_iload_n C dX10_cold_11 rfl ?_
    refine j_if_eq C 22 dX10_cold_12 rfl h (fun c8 h => ?_) (fun c8 h => ?_)
    · exact X10_cold_J22_ok C hlv h
    · refine j_iload_n C dX10_cold_15 rfl ?_
      obtain ⟨p6, ep6, h⟩ := bind_some h
      have qp6 := X10_isHour_ct ep6
      refine j_cSI C dX10_cold_16 sl_X10_245 qp6 (by omega) rfl rfl (Nat.le_of_ble_eq_true rfl) ?_
      refine j_if_eq C 26 dX10_cold_19 rfl h (fun c7 h => ?_) (fun c7 h => ?_)
      · exact X10_cold_J26_ok C hlv h
      · exact X10_cold_J22_ok C hlv h
theorem dX5_isThing_0 : decode cX5_isThing 0 = .ok (.iload_n 1, 1) := by decide +kernel
theorem dX5_isThing_1 : decode cX5_isThing 1 = .ok (.ifCond .lt 15, 3) := by decide +kernel
theorem dX5_isThing_4 : decode cX5_isThing 4 = .ok (.iload_n 1, 1) := by decide +kernel
theorem dX5_isThing_5 : decode cX5_isThing 5 = .ok (.aload_n 0, 1) := by decide +kernel
theorem dX5_isThing_6 : decode cX5_isThing 6 = .ok (.getfield 46, 3) := by decide +kernel
theorem dX5_isThing_9 : decode cX5_isThing 9 = .ok (.if_icmp .ge 7, 3) := by decide +kernel
theorem dX5_isThing_12 : decode cX5_isThing 12 = .ok (.iconst 1, 1) := by decide +kernel
theorem dX5_isThing_13 : decode cX5_isThing 13 = .ok (.goto 4, 3) := by decide +kernel
theorem dX5_isThing_16 : decode cX5_isThing 16 = .ok (.iconst 0, 1) := by decide +kernel
theorem dX5_isThing_17 : decode cX5_isThing 17 = .ok (.ireturn, 1) := by decide +kernel
set_option maxRecDepth 100000 in
set_option maxHeartbeats 4000000 in
theorem X5_isThing_ct {l0 : Nat} {l1 : Int} {m : Mem} {out : Int} (h : X5_isThing l0 l1 m = some out) : shK l0 = 5 + 10 ∧ CT yX5_isThing cX5_isThing 2 (some .boolean) 1 0 0 [vR l0, vI l1] 312 m (some (vI out)) 312 m := by
  unfold X5_isThing at h
  obtain ⟨hK, h⟩ := ite_some h
  have hlv : 0 < 1 := by decide
  refine ⟨hK, CT.of (by decide +kernel) rfl (Nat.le_of_ble_eq_true rfl) (ls := [some (vR l0), some (vI l1)]) rfl fun g w C _ => ?_⟩
  refine j_iload_n C dX5_isThing_0 rfl ?_
  refine j_if_lt C 16 dX5_isThing_1 rfl h (fun c3 h => ?_) (fun c3 h => ?_)
  · refine j_iconst C dX5_isThing_16 rfl ?_
    exact j_rz C dX5_isThing_17 rfl (retZ_some h) rfl
  · refine j_iload_n C dX5_isThing_4 rfl ?_
    refine j_aload_n C dX5_isThing_5 rfl ?_
    refine j_getI C dX5_isThing_6 CF5 (by decide) fl_X5_46 rfl rfl h (fun t1 h => ?_)
    refine j_icmp_ge C 16 dX5_isThing_9 rfl h (fun c2 h => ?_) (fun c2 h => ?_)
    · refine j_iconst C dX5_isThing_16 rfl ?_
      exact j_rz C dX5_isThing_17 rfl (retZ_some h) rfl
    · refine j_iconst C dX5_isThing_12 rfl ?_
      refine j_goto C 17 dX5_isThing_13 rfl ?_
      exact j_rz C dX5_isThing_17 rfl (retZ_some h) rfl
theorem dX10_dew_0 : decode cX10_dew 0 = .ok (.aload_n 0, 1) := by decide +kernel
theorem dX10_dew_1 : decode cX10_dew 1 = .ok (.getfield 27, 3) := by decide +kernel
theorem dX10_dew_4 : decode cX10_dew 4 = .ok (.iload_n 1, 1) := by decide +kernel
theorem dX10_dew_5 : decode cX10_dew 5 = .ok (.invokevirtual 211, 3) := by decide +kernel
theorem dX10_dew_8 : decode cX10_dew 8 = .ok (.ifCond .eq 10, 3) := by decide +kernel
theorem dX10_dew_11 : decode cX10_dew 11 = .ok (.iload_n 2, 1) := by decide +kernel
theorem dX10_dew_12 : decode cX10_dew 12 = .ok (.invokestatic 245, 3) := by decide +kernel
theorem dX10_dew_15 : decode cX10_dew 15 = .ok (.ifCond .ne 5, 3) := by decide +kernel
theorem dX10_dew_18 : decode cX10_dew 18 = .ok (.iconst (-1), 1) := by decide +kernel
theorem dX10_dew_19 : decode cX10_dew 19 = .ok (.ireturn, 1) := by decide +kernel
theorem dX10_dew_20 : decode cX10_dew 20 = .ok (.iload_n 3, 1) := by decide +kernel
theorem dX10_dew_21 : decode cX10_dew 21 = .ok (.tableswitch 63 0 2 #[27, 39, 51], 27) := by decide +kernel
theorem dX10_dew_48 : decode cX10_dew 48 = .ok (.aload_n 0, 1) := by decide +kernel
theorem dX10_dew_49 : decode cX10_dew 49 = .ok (.invokevirtual 226, 3) := by decide +kernel
theorem dX10_dew_52 : decode cX10_dew 52 = .ok (.getfield 254, 3) := by decide +kernel
theorem dX10_dew_55 : decode cX10_dew 55 = .ok (.iload_n 1, 1) := by decide +kernel
theorem dX10_dew_56 : decode cX10_dew 56 = .ok (.aaload, 1) := by decide +kernel
theorem dX10_dew_57 : decode cX10_dew 57 = .ok (.iload_n 2, 1) := by decide +kernel
theorem dX10_dew_58 : decode cX10_dew 58 = .ok (.iaload, 1) := by decide +kernel
theorem dX10_dew_59 : decode cX10_dew 59 = .ok (.ireturn, 1) := by decide +kernel
theorem dX10_dew_60 : decode cX10_dew 60 = .ok (.aload_n 0, 1) := by decide +kernel
theorem dX10_dew_61 : decode cX10_dew 61 = .ok (.invokevirtual 226, 3) := by decide +kernel
theorem dX10_dew_64 : decode cX10_dew 64 = .ok (.getfield 258, 3) := by decide +kernel
theorem dX10_dew_67 : decode cX10_dew 67 = .ok (.iload_n 1, 1) := by decide +kernel
theorem dX10_dew_68 : decode cX10_dew 68 = .ok (.aaload, 1) := by decide +kernel
theorem dX10_dew_69 : decode cX10_dew 69 = .ok (.iload_n 2, 1) := by decide +kernel
theorem dX10_dew_70 : decode cX10_dew 70 = .ok (.iaload, 1) := by decide +kernel
theorem dX10_dew_71 : decode cX10_dew 71 = .ok (.ireturn, 1) := by decide +kernel
theorem dX10_dew_72 : decode cX10_dew 72 = .ok (.aload_n 0, 1) := by decide +kernel
theorem dX10_dew_73 : decode cX10_dew 73 = .ok (.invokevirtual 226, 3) := by decide +kernel
theorem dX10_dew_76 : decode cX10_dew 76 = .ok (.getfield 261, 3) := by decide +kernel
theorem dX10_dew_79 : decode cX10_dew 79 = .ok (.iload_n 1, 1) := by decide +kernel
theorem dX10_dew_80 : decode cX10_dew 80 = .ok (.aaload, 1) := by decide +kernel
theorem dX10_dew_81 : decode cX10_dew 81 = .ok (.iload_n 2, 1) := by decide +kernel
theorem dX10_dew_82 : decode cX10_dew 82 = .ok (.iaload, 1) := by decide +kernel
theorem dX10_dew_83 : decode cX10_dew 83 = .ok (.ireturn, 1) := by decide +kernel
theorem dX10_dew_84 : decode cX10_dew 84 = .ok (.iconst (-1), 1) := by decide +kernel
theorem dX10_dew_85 : decode cX10_dew 85 = .ok (.ireturn, 1) := by decide +kernel
set_option maxRecDepth 100000 in
set_option maxHeartbeats 4000000 in
theorem X10_dew_ct {N : Nat} {l0 : Nat} {l1 : Int} {l2 : Int} {l3 : Int} {m : Mem} {out : (Int × Mem)} (h : X10_dew N l0 l1 l2 l3 m = some out) : shK l0 = 10 + 10 ∧ CT yX10_dew cX10_dew 4 (some .int) 7 0 0 [vR l0, vI l1, vI l2, vI l3] 312 m (some (vI out.1)) 312 out.2 := by
  unfold X10_dew at h
  obtain ⟨hK, h⟩ := ite_some h
  have hlv : 6 < 7 := by decide
  refine ⟨hK, CT.of (by decide +kernel) rfl (Nat.le_of_ble_eq_true rfl) (ls := [some (vR l0), some (vI l1), some (vI l2), some (vI l3)]) rfl fun g w C _ => ?_⟩
  refine j_aload_n C dX10_dew_0 rfl ?_
  refine j_getR C dX10_dew_1 CF10 (by decide) fl_X10_27 rfl rfl h (fun t1 h => ?_)
  refine j_iload_n C dX10_dew_4 rfl ?_
  obtain ⟨p2, ep2, h⟩ := bind_some h
  have qp2 := X5_isThing_ct ep2
  refine j_cVI C dX10_dew_5 vl_X10_211 CF5 rfl qp2.1 qp2.2 (by omega) rfl rfl (Nat.le_of_ble_eq_true rfl) ?_
  refine j_if_eq C 18 dX10_dew_8 rfl h (fun c20 h => ?_) (fun c20 h => ?_)
  · refine j_iconst C dX10_dew_18 rfl ?_
    have e := Option.some.inj h
    subst e
    exact j_ri C dX10_dew_19 rfl rfl rfl
  · refine j_iload_n C dX10_dew_11 rfl ?_
    obtain ⟨p3, ep3, h⟩ := bind_some h
    have qp3 := X10_isHour_ct ep3
    refine j_cSI C dX10_dew_12 sl_X10_245 qp3 (by omega) rfl rfl (Nat.le_of_ble_eq_true rfl) ?_
    refine j_if_ne C 20 dX10_dew_15 rfl h (fun c19 h => ?_) (fun c19 h => ?_)
    · refine j_iload_n C dX10_dew_20 rfl ?_
      rcases ite_cases h with ⟨c8, h⟩ | ⟨c8, h⟩
      · refine j_tsIn C 48 (0) dX10_dew_21 c8 rfl rfl rfl ?_
        refine j_aload_n C dX10_dew_48 rfl ?_
        obtain ⟨p4, ep4, h⟩ := bind_some h
        have qp4 := X10_asTold_ct ep4
        refine j_cVR C dX10_dew_49 vl_X10_226 CF10 rfl qp4.1 qp4.2 (by omega) rfl rfl (Nat.le_of_ble_eq_true rfl) ?_
        refine j_getR C dX10_dew_52 CF3 (by decide) fl_X10_254 rfl rfl h (fun t5 h => ?_)
        refine j_iload_n C dX10_dew_55 rfl ?_
        refine j_aald C dX10_dew_56 rfl h (fun t6 h => ?_)
        refine j_iload_n C dX10_dew_57 rfl ?_
        refine j_iald C dX10_dew_58 rfl h (fun t7 h => ?_)
        have e := Option.some.inj h
        subst e
        exact j_ri C dX10_dew_59 rfl rfl rfl
      rcases ite_cases h with ⟨c13, h⟩ | ⟨c13, h⟩
      · refine j_tsIn C 60 (1) dX10_dew_21 c13 rfl rfl rfl ?_
        refine j_aload_n C dX10_dew_60 rfl ?_
        obtain ⟨p9, ep9, h⟩ := bind_some h
        have qp9 := X10_asTold_ct ep9
        refine j_cVR C dX10_dew_61 vl_X10_226 CF10 rfl qp9.1 qp9.2 (by omega) rfl rfl (Nat.le_of_ble_eq_true rfl) ?_
        refine j_getR C dX10_dew_64 CF3 (by decide) fl_X10_258 rfl rfl h (fun t10 h => ?_)
        refine j_iload_n C dX10_dew_67 rfl ?_
        refine j_aald C dX10_dew_68 rfl h (fun t11 h => ?_)
        refine j_iload_n C dX10_dew_69 rfl ?_
        refine j_iald C dX10_dew_70 rfl h (fun t12 h => ?_)
        have e := Option.some.inj h
        subst e
        exact j_ri C dX10_dew_71 rfl rfl rfl
      rcases ite_cases h with ⟨c18, h⟩ | ⟨c18, h⟩
      · refine j_tsIn C 72 (2) dX10_dew_21 c18 rfl rfl rfl ?_
        refine j_aload_n C dX10_dew_72 rfl ?_
        obtain ⟨p14, ep14, h⟩ := bind_some h
        have qp14 := X10_asTold_ct ep14
        refine j_cVR C dX10_dew_73 vl_X10_226 CF10 rfl qp14.1 qp14.2 (by omega) rfl rfl (Nat.le_of_ble_eq_true rfl) ?_
        refine j_getR C dX10_dew_76 CF3 (by decide) fl_X10_261 rfl rfl h (fun t15 h => ?_)
        refine j_iload_n C dX10_dew_79 rfl ?_
        refine j_aald C dX10_dew_80 rfl h (fun t16 h => ?_)
        refine j_iload_n C dX10_dew_81 rfl ?_
        refine j_iald C dX10_dew_82 rfl h (fun t17 h => ?_)
        have e := Option.some.inj h
        subst e
        exact j_ri C dX10_dew_83 rfl rfl rfl
      refine j_tsOut C 84 dX10_dew_21 (by omega) rfl ?_
      refine j_iconst C dX10_dew_84 rfl ?_
      have e := Option.some.inj h
      subst e
      exact j_ri C dX10_dew_85 rfl rfl rfl
    · refine j_iconst C dX10_dew_18 rfl ?_
      have e := Option.some.inj h
      subst e
      exact j_ri C dX10_dew_19 rfl rfl rfl
theorem dX10_down_0 : decode cX10_down 0 = .ok (.aload_n 0, 1) := by decide +kernel
theorem dX10_down_1 : decode cX10_down 1 = .ok (.getfield 37, 3) := by decide +kernel
theorem dX10_down_4 : decode cX10_down 4 = .ok (.iload_n 1, 1) := by decide +kernel
theorem dX10_down_5 : decode cX10_down 5 = .ok (.invokevirtual 294, 3) := by decide +kernel
theorem dX10_down_8 : decode cX10_down 8 = .ok (.ifCond .eq 14, 3) := by decide +kernel
theorem dX10_down_11 : decode cX10_down 11 = .ok (.aload_n 0, 1) := by decide +kernel
theorem dX10_down_12 : decode cX10_down 12 = .ok (.getfield 27, 3) := by decide +kernel
theorem dX10_down_15 : decode cX10_down 15 = .ok (.iload_n 2, 1) := by decide +kernel
theorem dX10_down_16 : decode cX10_down 16 = .ok (.invokevirtual 173, 3) := by decide +kernel
theorem dX10_down_19 : decode cX10_down 19 = .ok (.ifCond .ne 7, 3) := by decide +kernel
theorem dX10_down_22 : decode cX10_down 22 = .ok (.ldc_w 367, 3) := by decide +kernel
theorem dX10_down_25 : decode cX10_down 25 = .ok (.ireturn, 1) := by decide +kernel
theorem dX10_down_26 : decode cX10_down 26 = .ok (.aload_n 0, 1) := by decide +kernel
theorem dX10_down_27 : decode cX10_down 27 = .ok (.iload_n 1, 1) := by decide +kernel
theorem dX10_down_28 : decode cX10_down 28 = .ok (.invokevirtual 368, 3) := by decide +kernel
theorem dX10_down_31 : decode cX10_down 31 = .ok (.aload_n 0, 1) := by decide +kernel
theorem dX10_down_32 : decode cX10_down 32 = .ok (.aload_n 0, 1) := by decide +kernel
theorem dX10_down_33 : decode cX10_down 33 = .ok (.invokevirtual 226, 3) := by decide +kernel
theorem dX10_down_36 : decode cX10_down 36 = .ok (.iload_n 2, 1) := by decide +kernel
theorem dX10_down_37 : decode cX10_down 37 = .ok (.invokevirtual 371, 3) := by decide +kernel
theorem dX10_down_40 : decode cX10_down 40 = .ok (.ireturn, 1) := by decide +kernel
set_option maxRecDepth 100000 in
set_option maxHeartbeats 4000000 in
theorem X10_down_J22_ok {g : Gm} {w : Wd} (C : Cx g w RX10 cX10_down 3 (some .int)) {lv : Nat} (hlv : 6 < lv) {N : Nat}  {m : Mem} {out : (Int × Mem)} (h : X10_down_J22 N m = some out) : Jd g w 3 (rmL lv 0 0) (Qm g w (some (vI out.1)) out.2) 22 [none, none, none] [] 312 m 0 0 := by
  unfold X10_down_J22 at h
  refine j_ldcw (v := -1000000000) C dX10_down_22 k_X10_367 rfl rfl ?_
  have e := Option.some.inj h
  subst e
  exact j_ri C dX10_down_25 rfl rfl rfl
set_option maxRecDepth 100000 in
set_option maxHeartbeats 4000000 in
theorem X10_down_ct {N : Nat} {l0 : Nat} {l1 : Int} {l2 : Int} {m : Mem} {out : (Int × Mem)} (h : X10_down N l0 l1 l2 m = some out) : shK l0 = 10 + 10 ∧ CT yX10_down cX10_down 3 (some .int) 7 0 0 [vR l0, vI l1, vI l2] 312 m (some (vI out.1)) 312 out.2 := by
  unfold X10_down at h
  obtain ⟨hK, h⟩ := ite_some h
  have hlv : 6 < 7 := by decide
  refine ⟨hK, CT.of (by decide +kernel) rfl (Nat.le_of_ble_eq_true rfl) (ls := [some (vR l0), some (vI l1), some (vI l2)]) rfl fun g w C _ => ?_⟩
  refine j_aload_n C dX10_down_0 rfl ?_
  refine j_getR C dX10_down_1 CF10 (by decide) fl_X10_37 rfl rfl h (fun t1 h => ?_)
  refine j_iload_n C dX10_down_4 rfl ?_
  obtain ⟨p2, ep2, h⟩ := bind_some h
  have qp2 := X1_hasWall_ct ep2
  refine j_cVI C dX10_down_5 vl_X10_294 CF1 rfl qp2.1 qp2.2 (by omega) rfl rfl (Nat.le_of_ble_eq_true rfl) ?_
  refine j_if_eq C 22 dX10_down_8 rfl h (fun c9 h => ?_) (fun c9 h => ?_)
  · refine j_mask [false, false, false] (ls' := [none, none, none]) rfl ?_
    exact X10_down_J22_ok C hlv h
  · refine j_aload_n C dX10_down_11 rfl ?_
    refine j_getR C dX10_down_12 CF10 (by decide) fl_X10_27 rfl rfl h (fun t3 h => ?_)
    refine j_iload_n C dX10_down_15 rfl ?_
    obtain ⟨p4, ep4, h⟩ := bind_some h
    have qp4 := X5_isCistern_ct ep4
    refine j_cVI C dX10_down_16 vl_X10_173 CF5 rfl qp4.1 qp4.2 (by omega) rfl rfl (Nat.le_of_ble_eq_true rfl) ?_
    refine j_if_ne C 26 dX10_down_19 rfl h (fun c8 h => ?_) (fun c8 h => ?_)
    · refine j_aload_n C dX10_down_26 rfl ?_
      refine j_iload_n C dX10_down_27 rfl ?_
      obtain ⟨p5, ep5, h⟩ := bind_some h
      have qp5 := X10_passWithout_ct ep5
      refine j_cVV C dX10_down_28 vl_X10_368 CF10 rfl qp5.1 qp5.2 (by omega) rfl rfl (Nat.le_of_ble_eq_true rfl) ?_
      refine j_aload_n C dX10_down_31 rfl ?_
      refine j_aload_n C dX10_down_32 rfl ?_
      obtain ⟨p6, ep6, h⟩ := bind_some h
      have qp6 := X10_asTold_ct ep6
      refine j_cVR C dX10_down_33 vl_X10_226 CF10 rfl qp6.1 qp6.2 (by omega) rfl rfl (Nat.le_of_ble_eq_true rfl) ?_
      refine j_iload_n C dX10_down_36 rfl ?_
      obtain ⟨p7, ep7, h⟩ := bind_some h
      have qp7 := X10_gain_ct ep7
      refine j_cVI C dX10_down_37 vl_X10_371 CF10 rfl qp7.1 qp7.2 (by omega) rfl rfl (Nat.le_of_ble_eq_true rfl) ?_
      have e := Option.some.inj h
      subst e
      exact j_ri C dX10_down_40 rfl rfl rfl
    · refine j_mask [false, false, false] (ls' := [none, none, none]) rfl ?_
      exact X10_down_J22_ok C hlv h
theorem dX10_drawOfHundred_0 : decode cX10_drawOfHundred 0 = .ok (.ldc2_w 320, 3) := by decide +kernel
theorem dX10_drawOfHundred_3 : decode cX10_drawOfHundred 3 = .ok (.aload_n 0, 1) := by decide +kernel
theorem dX10_drawOfHundred_4 : decode cX10_drawOfHundred 4 = .ok (.getfield 51, 3) := by decide +kernel
theorem dX10_drawOfHundred_7 : decode cX10_drawOfHundred 7 = .ok (.i2l, 1) := by decide +kernel
theorem dX10_drawOfHundred_8 : decode cX10_drawOfHundred 8 = .ok (.lmul, 1) := by decide +kernel
theorem dX10_drawOfHundred_9 : decode cX10_drawOfHundred 9 = .ok (.ldc2_w 322, 3) := by decide +kernel
theorem dX10_drawOfHundred_12 : decode cX10_drawOfHundred 12 = .ok (.ladd, 1) := by decide +kernel
theorem dX10_drawOfHundred_13 : decode cX10_drawOfHundred 13 = .ok (.lstore_n 1, 1) := by decide +kernel
theorem dX10_drawOfHundred_14 : decode cX10_drawOfHundred 14 = .ok (.aload_n 0, 1) := by decide +kernel
theorem dX10_drawOfHundred_15 : decode cX10_drawOfHundred 15 = .ok (.lload_n 1, 1) := by decide +kernel
theorem dX10_drawOfHundred_16 : decode cX10_drawOfHundred 16 = .ok (.ldc2_w 324, 3) := by decide +kernel
theorem dX10_drawOfHundred_19 : decode cX10_drawOfHundred 19 = .ok (.land, 1) := by decide +kernel
theorem dX10_drawOfHundred_20 : decode cX10_drawOfHundred 20 = .ok (.l2i, 1) := by decide +kernel
theorem dX10_drawOfHundred_21 : decode cX10_drawOfHundred 21 = .ok (.putfield 51, 3) := by decide +kernel
theorem dX10_drawOfHundred_24 : decode cX10_drawOfHundred 24 = .ok (.aload_n 0, 1) := by decide +kernel
theorem dX10_drawOfHundred_25 : decode cX10_drawOfHundred 25 = .ok (.getfield 51, 3) := by decide +kernel
theorem dX10_drawOfHundred_28 : decode cX10_drawOfHundred 28 = .ok (.bipush 64, 2) := by decide +kernel
theorem dX10_drawOfHundred_30 : decode cX10_drawOfHundred 30 = .ok (.idiv, 1) := by decide +kernel
theorem dX10_drawOfHundred_31 : decode cX10_drawOfHundred 31 = .ok (.bipush 100, 2) := by decide +kernel
theorem dX10_drawOfHundred_33 : decode cX10_drawOfHundred 33 = .ok (.irem, 1) := by decide +kernel
theorem dX10_drawOfHundred_34 : decode cX10_drawOfHundred 34 = .ok (.ireturn, 1) := by decide +kernel
set_option maxRecDepth 100000 in
set_option maxHeartbeats 4000000 in
theorem X10_drawOfHundred_ct {l0 : Nat} {m : Mem} {out : (Int × Mem)} (h : X10_drawOfHundred l0 m = some out) : shK l0 = 10 + 10 ∧ CT yX10_drawOfHundred cX10_drawOfHundred 3 (some .int) 1 0 0 [vR l0] 312 m (some (vI out.1)) 312 out.2 := by
  unfold X10_drawOfHundred at h
  obtain ⟨hK, h⟩ := ite_some h
  have hlv : 0 < 1 := by decide
  refine ⟨hK, CT.of (by decide +kernel) rfl (Nat.le_of_ble_eq_true rfl) (ls := [some (vR l0), none, none]) rfl fun g w C _ => ?_⟩
  refine j_ldc2 (v := 1103515245) C dX10_drawOfHundred_0 k_X10_320 rfl rfl ?_
  refine j_aload_n C dX10_drawOfHundred_3 rfl ?_
  refine j_getI C dX10_drawOfHundred_4 CF10 (by decide) fl_X10_51 rfl rfl h (fun t1 h => ?_)
  refine j_i2l C dX10_drawOfHundred_7 ?_
  refine j_lmul C dX10_drawOfHundred_8 ?_
  refine j_ldc2 (v := 12345) C dX10_drawOfHundred_9 k_X10_322 rfl rfl ?_
  refine j_ladd C dX10_drawOfHundred_12 ?_
  refine j_lstore_n (ls' := [some (vR _), some (vL _), none]) C dX10_drawOfHundred_13 (by decide) rfl ?_
  refine j_aload_n C dX10_drawOfHundred_14 rfl ?_
  refine j_lload_n C dX10_drawOfHundred_15 rfl ?_
  refine j_ldc2 (v := 2147483647) C dX10_drawOfHundred_16 k_X10_324 rfl rfl ?_
  refine j_land C dX10_drawOfHundred_19 ?_
  refine j_l2i C dX10_drawOfHundred_20 ?_
  refine j_putI C dX10_drawOfHundred_21 CF10 (by decide) fl_X10_51 rfl rfl rfl rfl h (fun m2 h => ?_)
  refine j_aload_n C dX10_drawOfHundred_24 rfl ?_
  refine j_getI C dX10_drawOfHundred_25 CF10 (by decide) fl_X10_51 rfl rfl h (fun t3 h => ?_)
  refine j_bipush C dX10_drawOfHundred_28 rfl ?_
  refine j_idiv C dX10_drawOfHundred_30 (by decide) ?_
  refine j_bipush C dX10_drawOfHundred_31 rfl ?_
  refine j_irem C dX10_drawOfHundred_33 (by decide) ?_
  have e := Option.some.inj h
  subst e
  exact j_ri C dX10_drawOfHundred_34 rfl rfl rfl
theorem dX10_drawSky_0 : decode cX10_drawSky 0 = .ok (.iconst 1, 1) := by decide +kernel
theorem dX10_drawSky_1 : decode cX10_drawSky 1 = .ok (.istore_n 1, 1) := by decide +kernel
theorem dX10_drawSky_2 : decode cX10_drawSky 2 = .ok (.iload_n 1, 1) := by decide +kernel
theorem dX10_drawSky_3 : decode cX10_drawSky 3 = .ok (.bipush 12, 2) := by decide +kernel
theorem dX10_drawSky_5 : decode cX10_drawSky 5 = .ok (.if_icmp .gt 34, 3) := by decide +kernel
theorem dX10_drawSky_8 : decode cX10_drawSky 8 = .ok (.aload_n 0, 1) := by decide +kernel
theorem dX10_drawSky_9 : decode cX10_drawSky 9 = .ok (.getfield 64, 3) := by decide +kernel
theorem dX10_drawSky_12 : decode cX10_drawSky 12 = .ok (.iload_n 1, 1) := by decide +kernel
theorem dX10_drawSky_13 : decode cX10_drawSky 13 = .ok (.aload_n 0, 1) := by decide +kernel
theorem dX10_drawSky_14 : decode cX10_drawSky 14 = .ok (.invokevirtual 317, 3) := by decide +kernel
theorem dX10_drawSky_17 : decode cX10_drawSky 17 = .ok (.aload_n 0, 1) := by decide +kernel
theorem dX10_drawSky_18 : decode cX10_drawSky 18 = .ok (.getfield 27, 3) := by decide +kernel
theorem dX10_drawSky_21 : decode cX10_drawSky 21 = .ok (.getfield 161, 3) := by decide +kernel
theorem dX10_drawSky_24 : decode cX10_drawSky 24 = .ok (.if_icmp .ge 7, 3) := by decide +kernel
theorem dX10_drawSky_27 : decode cX10_drawSky 27 = .ok (.iconst 1, 1) := by decide +kernel
theorem dX10_drawSky_28 : decode cX10_drawSky 28 = .ok (.goto 4, 3) := by decide +kernel
theorem dX10_drawSky_31 : decode cX10_drawSky 31 = .ok (.iconst 0, 1) := by decide +kernel
theorem dX10_drawSky_32 : decode cX10_drawSky 32 = .ok (.iastore, 1) := by decide +kernel
theorem dX10_drawSky_33 : decode cX10_drawSky 33 = .ok (.iinc 1 1, 3) := by decide +kernel
theorem dX10_drawSky_36 : decode cX10_drawSky 36 = .ok (.goto (-34), 3) := by decide +kernel
theorem dX10_drawSky_39 : decode cX10_drawSky 39 = .ok (.return_, 1) := by decide +kernel
set_option maxRecDepth 100000 in
set_option maxHeartbeats 4000000 in
theorem X10_drawSky_J32_ok {g : Gm} {w : Wd} (C : Cx g w RX10 cX10_drawSky 2 none) {lv : Nat} (hlv : 1 < lv) {N : Nat} {r2 : Nat → Int → Mem → Option Mem } {l0 : Nat} {l1 : Int} {s0 : Nat} {s1 : Int} {s2 : Int} {m : Mem} {out : Mem} (hr2 : ∀ l0 l1 m, r2 l0 l1 m = some out → Jd g w 2 (rmL lv 0 0) (Qm g w none out) 2 [some (vR l0), some (vI l1)] [] 312 m 0 0) (h : X10_drawSky_J32 N r2 l0 l1 s0 s1 s2 m = some out) : Jd g w 2 (rmL lv 0 0) (Qm g w none out) 32 [some (vR l0), some (vI l1)] [vI s2, vI s1, vR s0] 312 m 0 0 := by
  unfold X10_drawSky_J32 at h
  refine j_iast C dX10_drawSky_32 rfl h (fun m5 h => ?_)
  refine j_iinc (ls' := [some (vR _), some (vI _)]) C dX10_drawSky_33 rfl (by decide) rfl ?_
  refine j_goto C 2 dX10_drawSky_36 rfl ?_
  exact hr2 _ _ _ h
set_option maxRecDepth 100000 in
set_option maxHeartbeats 4000000 in
theorem X10_drawSky_L2_bok {g : Gm} {w : Wd} (C : Cx g w RX10 cX10_drawSky 2 none) {lv : Nat} (hlv : 1 < lv) {N : Nat} {r2 : Nat → Int → Mem → Option Mem} {l0 : Nat} {l1 : Int} {m : Mem} {out : Mem} (hr2 : ∀ l0 l1 m, r2 l0 l1 m = some out → Jd g w 2 (rmL lv 0 0) (Qm g w none out) 2 [some (vR l0), some (vI l1)] [] 312 m 0 0) (h : X10_drawSky_L2_b N r2 l0 l1 m = some out) : Jd g w 2 (rmL lv 0 0) (Qm g w none out) 2 [some (vR l0), some (vI l1)] [] 312 m 0 0 := by
  unfold X10_drawSky_L2_b at h
  refine j_iload_n C dX10_drawSky_2 rfl ?_
  refine j_bipush C dX10_drawSky_3 rfl ?_
  refine j_icmp_gt C 39 dX10_drawSky_5 rfl h (fun c7 h => ?_) (fun c7 h => ?_)
  · have e := Option.some.inj h
    subst e
    exact j_rv C dX10_drawSky_39 rfl rfl
  · refine j_aload_n C dX10_drawSky_8 rfl ?_
    refine j_getR C dX10_drawSky_9 CF10 (by decide) fl_X10_64 rfl rfl h (fun t1 h => ?_)
    refine j_iload_n C dX10_drawSky_12 rfl ?_
    refine j_aload_n C dX10_drawSky_13 rfl ?_
    obtain ⟨p2, ep2, h⟩ := bind_some h
    have qp2 := X10_drawOfHundred_ct ep2
    refine j_cVI C dX10_drawSky_14 vl_X10_317 CF10 rfl qp2.1 qp2.2 (by omega) rfl rfl (Nat.le_of_ble_eq_true rfl) ?_
    refine j_aload_n C dX10_drawSky_17 rfl ?_
    refine j_getR C dX10_drawSky_18 CF10 (by decide) fl_X10_27 rfl rfl h (fun t3 h => ?_)
    refine j_getI C dX10_drawSky_21 CF5 (by decide) fl_X10_161 rfl rfl h (fun t4 h => ?_)
    refine j_icmp_ge C 31 dX10_drawSky_24 rfl h (fun c6 h => ?_) (fun c6 h => ?_)
    · refine j_iconst C dX10_drawSky_31 rfl ?_
      exact X10_drawSky_J32_ok C hlv hr2 h
    · refine j_iconst C dX10_drawSky_27 rfl ?_
      refine j_goto C 32 dX10_drawSky_28 rfl ?_
      exact X10_drawSky_J32_ok C hlv hr2 h
set_option maxRecDepth 100000 in
set_option maxHeartbeats 4000000 in
theorem X10_drawSky_L2_ok {g : Gm} {w : Wd} (C : Cx g w RX10 cX10_drawSky 2 none) {lv : Nat} (hlv : 1 < lv) {N : Nat} {out : Mem} (f : Nat) : ∀ {l0 : Nat} {l1 : Int} {m : Mem}, X10_drawSky_L2 N f l0 l1 m = some out → Jd g w 2 (rmL lv 0 0) (Qm g w none out) 2 [some (vR l0), some (vI l1)] [] 312 m 0 0 := by
  induction f with
  | zero => intro l0 l1 m h; exact none_ne (α := Mem) h
  | succ f ih => intro l0 l1 m h; exact X10_drawSky_L2_bok C hlv (fun l0 l1 m h => ih h) h
set_option maxRecDepth 100000 in
set_option maxHeartbeats 4000000 in
theorem X10_drawSky_ct {N : Nat} {l0 : Nat} {m : Mem} {out : Mem} (h : X10_drawSky N l0 m = some out) : shK l0 = 10 + 10 ∧ CT yX10_drawSky cX10_drawSky 2 none 2 0 0 [vR l0] 312 m none 312 out := by
  unfold X10_drawSky at h
  obtain ⟨hK, h⟩ := ite_some h
  have hlv : 1 < 2 := by decide
  refine ⟨hK, CT.of (by decide +kernel) rfl (Nat.le_of_ble_eq_true rfl) (ls := [some (vR l0), none]) rfl fun g w C _ => ?_⟩
  refine j_iconst C dX10_drawSky_0 rfl ?_
  refine j_istore_n (ls' := [some (vR _), some (vI _)]) C dX10_drawSky_1 (by decide) rfl ?_
  exact X10_drawSky_L2_ok C hlv N h
theorem dX10_dropsAt_0 : decode cX10_dropsAt 0 = .ok (.aload_n 0, 1) := by decide +kernel
theorem dX10_dropsAt_1 : decode cX10_dropsAt 1 = .ok (.aload_n 0, 1) := by decide +kernel
theorem dX10_dropsAt_2 : decode cX10_dropsAt 2 = .ok (.getfield 27, 3) := by decide +kernel
theorem dX10_dropsAt_5 : decode cX10_dropsAt 5 = .ok (.getfield 155, 3) := by decide +kernel
theorem dX10_dropsAt_8 : decode cX10_dropsAt 8 = .ok (.invokevirtual 419, 3) := by decide +kernel
theorem dX10_dropsAt_11 : decode cX10_dropsAt 11 = .ok (.iconst 2, 1) := by decide +kernel
theorem dX10_dropsAt_12 : decode cX10_dropsAt 12 = .ok (.iload_n 1, 1) := by decide +kernel
theorem dX10_dropsAt_13 : decode cX10_dropsAt 13 = .ok (.imul, 1) := by decide +kernel
theorem dX10_dropsAt_14 : decode cX10_dropsAt 14 = .ok (.iadd, 1) := by decide +kernel
theorem dX10_dropsAt_15 : decode cX10_dropsAt 15 = .ok (.ireturn, 1) := by decide +kernel
set_option maxRecDepth 100000 in
set_option maxHeartbeats 4000000 in
theorem X10_dropsAt_ct {l0 : Nat} {l1 : Int} {m : Mem} {out : Int} (h : X10_dropsAt l0 l1 m = some out) : shK l0 = 10 + 10 ∧ CT yX10_dropsAt cX10_dropsAt 2 (some .int) 3 0 0 [vR l0, vI l1] 312 m (some (vI out)) 312 m := by
  unfold X10_dropsAt at h
  obtain ⟨hK, h⟩ := ite_some h
  have hlv : 2 < 3 := by decide
  refine ⟨hK, CT.of (by decide +kernel) rfl (Nat.le_of_ble_eq_true rfl) (ls := [some (vR l0), some (vI l1)]) rfl fun g w C _ => ?_⟩
  refine j_aload_n C dX10_dropsAt_0 rfl ?_
  refine j_aload_n C dX10_dropsAt_1 rfl ?_
  refine j_getR C dX10_dropsAt_2 CF10 (by decide) fl_X10_27 rfl rfl h (fun t1 h => ?_)
  refine j_getI C dX10_dropsAt_5 CF5 (by decide) fl_X10_155 rfl rfl h (fun t2 h => ?_)
  obtain ⟨p3, ep3, h⟩ := bind_some h
  have qp3 := X10_clothAt_ct ep3
  refine j_cVI C dX10_dropsAt_8 vl_X10_419 CF10 rfl qp3.1 qp3.2 (by omega) rfl rfl (Nat.le_of_ble_eq_true rfl) ?_
  refine j_iconst C dX10_dropsAt_11 rfl ?_
  refine j_iload_n C dX10_dropsAt_12 rfl ?_
  refine j_imul C dX10_dropsAt_13 ?_
  refine j_iadd C dX10_dropsAt_14 ?_
  exact j_ri C dX10_dropsAt_15 rfl (Option.some.inj h).symm rfl
theorem dX10_refuse_0 : decode cX10_refuse 0 = .ok (.iload_n 1, 1) := by decide +kernel
theorem dX10_refuse_1 : decode cX10_refuse 1 = .ok (.ifCond .lt 22, 3) := by decide +kernel
theorem dX10_refuse_4 : decode cX10_refuse 4 = .ok (.iload_n 1, 1) := by decide +kernel
theorem dX10_refuse_5 : decode cX10_refuse 5 = .ok (.aload_n 0, 1) := by decide +kernel
theorem dX10_refuse_6 : decode cX10_refuse 6 = .ok (.getfield 98, 3) := by decide +kernel
theorem dX10_refuse_9 : decode cX10_refuse 9 = .ok (.arraylength, 1) := by decide +kernel
theorem dX10_refuse_10 : decode cX10_refuse 10 = .ok (.if_icmp .ge 13, 3) := by decide +kernel
theorem dX10_refuse_13 : decode cX10_refuse 13 = .ok (.aload_n 0, 1) := by decide +kernel
theorem dX10_refuse_14 : decode cX10_refuse 14 = .ok (.getfield 98, 3) := by decide +kernel
theorem dX10_refuse_17 : decode cX10_refuse 17 = .ok (.iload_n 1, 1) := by decide +kernel
theorem dX10_refuse_18 : decode cX10_refuse 18 = .ok (.dup2, 1) := by decide +kernel
theorem dX10_refuse_19 : decode cX10_refuse 19 = .ok (.iaload, 1) := by decide +kernel
theorem dX10_refuse_20 : decode cX10_refuse 20 = .ok (.iconst 1, 1) := by decide +kernel
theorem dX10_refuse_21 : decode cX10_refuse 21 = .ok (.iadd, 1) := by decide +kernel
theorem dX10_refuse_22 : decode cX10_refuse 22 = .ok (.iastore, 1) := by decide +kernel
theorem dX10_refuse_23 : decode cX10_refuse 23 = .ok (.iconst (-1), 1) := by decide +kernel
theorem dX10_refuse_24 : decode cX10_refuse 24 = .ok (.ireturn, 1) := by decide +kernel
set_option maxRecDepth 100000 in
set_option maxHeartbeats 4000000 in
theorem X10_refuse_ct {l0 : Nat} {l1 : Int} {m : Mem} {out : (Int × Mem)} (h : X10_refuse l0 l1 m = some out) : shK l0 = 10 + 10 ∧ CT yX10_refuse cX10_refuse 2 (some .int) 1 0 0 [vR l0, vI l1] 312 m (some (vI out.1)) 312 out.2 := by
  unfold X10_refuse at h
  obtain ⟨hK, h⟩ := ite_some h
  have hlv : 0 < 1 := by decide
  refine ⟨hK, CT.of (by decide +kernel) rfl (Nat.le_of_ble_eq_true rfl) (ls := [some (vR l0), some (vI l1)]) rfl fun g w C _ => ?_⟩
  refine j_iload_n C dX10_refuse_0 rfl ?_
  refine j_if_lt C 23 dX10_refuse_1 rfl h (fun c7 h => ?_) (fun c7 h => ?_)
  · refine j_iconst C dX10_refuse_23 rfl ?_
    have e := Option.some.inj h
    subst e
    exact j_ri C dX10_refuse_24 rfl rfl rfl
  · refine j_iload_n C dX10_refuse_4 rfl ?_
    refine j_aload_n C dX10_refuse_5 rfl ?_
    refine j_getR C dX10_refuse_6 CF10 (by decide) fl_X10_98 rfl rfl h (fun t1 h => ?_)
    refine j_alen C dX10_refuse_9 rfl h (fun t2 h => ?_)
    refine j_icmp_ge C 23 dX10_refuse_10 rfl h (fun c6 h => ?_) (fun c6 h => ?_)
    · refine j_iconst C dX10_refuse_23 rfl ?_
      have e := Option.some.inj h
      subst e
      exact j_ri C dX10_refuse_24 rfl rfl rfl
    · refine j_aload_n C dX10_refuse_13 rfl ?_
      refine j_getR C dX10_refuse_14 CF10 (by decide) fl_X10_98 rfl rfl h (fun t3 h => ?_)
      refine j_iload_n C dX10_refuse_17 rfl ?_
      refine j_dup2 C dX10_refuse_18 rfl rfl ?_
      refine j_iald C dX10_refuse_19 rfl h (fun t4 h => ?_)
      refine j_iconst C dX10_refuse_20 rfl ?_
      refine j_iadd C dX10_refuse_21 ?_
      refine j_iast C dX10_refuse_22 rfl h (fun m5 h => ?_)
      refine j_iconst C dX10_refuse_23 rfl ?_
      have e := Option.some.inj h
      subst e
      exact j_ri C dX10_refuse_24 rfl rfl rfl
theorem dX10_end_0 : decode cX10_end 0 = .ok (.iload_n 1, 1) := by decide +kernel
theorem dX10_end_1 : decode cX10_end 1 = .ok (.ifCond .lt 11, 3) := by decide +kernel
theorem dX10_end_4 : decode cX10_end 4 = .ok (.iload_n 1, 1) := by decide +kernel
theorem dX10_end_5 : decode cX10_end 5 = .ok (.aload_n 0, 1) := by decide +kernel
theorem dX10_end_6 : decode cX10_end 6 = .ok (.getfield 13, 3) := by decide +kernel
theorem dX10_end_9 : decode cX10_end 9 = .ok (.if_icmp .le 11, 3) := by decide +kernel
theorem dX10_end_12 : decode cX10_end 12 = .ok (.aload_n 0, 1) := by decide +kernel
theorem dX10_end_13 : decode cX10_end 13 = .ok (.iconst 0, 1) := by decide +kernel
theorem dX10_end_14 : decode cX10_end 14 = .ok (.invokevirtual 101, 3) := by decide +kernel
theorem dX10_end_17 : decode cX10_end 17 = .ok (.pop, 1) := by decide +kernel
theorem dX10_end_18 : decode cX10_end 18 = .ok (.iconst 0, 1) := by decide +kernel
theorem dX10_end_19 : decode cX10_end 19 = .ok (.ireturn, 1) := by decide +kernel
theorem dX10_end_20 : decode cX10_end 20 = .ok (.aload_n 0, 1) := by decide +kernel
theorem dX10_end_21 : decode cX10_end 21 = .ok (.iload_n 1, 1) := by decide +kernel
theorem dX10_end_22 : decode cX10_end 22 = .ok (.putfield 13, 3) := by decide +kernel
theorem dX10_end_25 : decode cX10_end 25 = .ok (.iconst 1, 1) := by decide +kernel
theorem dX10_end_26 : decode cX10_end 26 = .ok (.ireturn, 1) := by decide +kernel
set_option maxRecDepth 100000 in
set_option maxHeartbeats 4000000 in
theorem X10_end_J12_ok {g : Gm} {w : Wd} (C : Cx g w RX10 cX10_end 2 (some .boolean)) {lv : Nat} (hlv : 1 < lv) {l0 : Nat} {m : Mem} {out : (Int × Mem)} (h : X10_end_J12 l0 m = some out) : Jd g w 2 (rmL lv 0 0) (Qm g w (some (vI out.1)) out.2) 12 [some (vR l0), none] [] 312 m 0 0 := by
  unfold X10_end_J12 at h
  refine j_aload_n C dX10_end_12 rfl ?_
  refine j_iconst C dX10_end_13 rfl ?_
  obtain ⟨p1, ep1, h⟩ := bind_some h
  have qp1 := X10_refuse_ct ep1
  refine j_cVI C dX10_end_14 vl_X10_101 CF10 rfl qp1.1 qp1.2 (by omega) rfl rfl (Nat.le_of_ble_eq_true rfl) ?_
  refine j_pop C dX10_end_17 rfl ?_
  refine j_iconst C dX10_end_18 rfl ?_
  obtain ⟨r2, er2, h⟩ := bind_some h
  have e := Option.some.inj h
  subst e
  exact j_rz C dX10_end_19 rfl (retZ_some er2) rfl
set_option maxRecDepth 100000 in
set_option maxHeartbeats 4000000 in
theorem X10_end_ct {l0 : Nat} {l1 : Int} {m : Mem} {out : (Int × Mem)} (h : X10_end l0 l1 m = some out) : shK l0 = 10 + 10 ∧ CT yX10_end cX10_end 2 (some .boolean) 2 0 0 [vR l0, vI l1] 312 m (some (vI out.1)) 312 out.2 := by
  unfold X10_end at h
  obtain ⟨hK, h⟩ := ite_some h
  have hlv : 1 < 2 := by decide
  refine ⟨hK, CT.of (by decide +kernel) rfl (Nat.le_of_ble_eq_true rfl) (ls := [some (vR l0), some (vI l1)]) rfl fun g w C _ => ?_⟩
  refine j_iload_n C dX10_end_0 rfl ?_
  refine j_if_lt C 12 dX10_end_1 rfl h (fun c7 h => ?_) (fun c7 h => ?_)
  · refine j_mask [true, false] (ls' := [some (vR _), none]) rfl ?_
    exact X10_end_J12_ok C hlv h
  · refine j_iload_n C dX10_end_4 rfl ?_
    refine j_aload_n C dX10_end_5 rfl ?_
    refine j_getI C dX10_end_6 CF10 (by decide) fl_X10_13 rfl rfl h (fun t3 h => ?_)
    refine j_icmp_le C 20 dX10_end_9 rfl h (fun c6 h => ?_) (fun c6 h => ?_)
    · refine j_aload_n C dX10_end_20 rfl ?_
      refine j_iload_n C dX10_end_21 rfl ?_
      refine j_putI C dX10_end_22 CF10 (by decide) fl_X10_13 rfl rfl rfl rfl h (fun m4 h => ?_)
      refine j_iconst C dX10_end_25 rfl ?_
      obtain ⟨r5, er5, h⟩ := bind_some h
      have e := Option.some.inj h
      subst e
      exact j_rz C dX10_end_26 rfl (retZ_some er5) rfl
    · refine j_mask [true, false] (ls' := [some (vR _), none]) rfl ?_
      exact X10_end_J12_ok C hlv h
theorem dX10_fault_0 : decode cX10_fault 0 = .ok (.iload_n 1, 1) := by decide +kernel
theorem dX10_fault_1 : decode cX10_fault 1 = .ok (.lookupswitch 43 #[(0, 27), (1, 35)], 27) := by decide +kernel
theorem dX10_fault_28 : decode cX10_fault 28 = .ok (.aload_n 0, 1) := by decide +kernel
theorem dX10_fault_29 : decode cX10_fault 29 = .ok (.getfield 20, 3) := by decide +kernel
theorem dX10_fault_32 : decode cX10_fault 32 = .ok (.getfield 130, 3) := by decide +kernel
theorem dX10_fault_35 : decode cX10_fault 35 = .ok (.ireturn, 1) := by decide +kernel
theorem dX10_fault_36 : decode cX10_fault 36 = .ok (.aload_n 0, 1) := by decide +kernel
theorem dX10_fault_37 : decode cX10_fault 37 = .ok (.getfield 20, 3) := by decide +kernel
theorem dX10_fault_40 : decode cX10_fault 40 = .ok (.getfield 133, 3) := by decide +kernel
theorem dX10_fault_43 : decode cX10_fault 43 = .ok (.ireturn, 1) := by decide +kernel
theorem dX10_fault_44 : decode cX10_fault 44 = .ok (.iconst (-1), 1) := by decide +kernel
theorem dX10_fault_45 : decode cX10_fault 45 = .ok (.ireturn, 1) := by decide +kernel
set_option maxRecDepth 100000 in
set_option maxHeartbeats 4000000 in
theorem X10_fault_ct {l0 : Nat} {l1 : Int} {m : Mem} {out : Int} (h : X10_fault l0 l1 m = some out) : shK l0 = 10 + 10 ∧ CT yX10_fault cX10_fault 2 (some .int) 1 0 0 [vR l0, vI l1] 312 m (some (vI out)) 312 m := by
  unfold X10_fault at h
  obtain ⟨hK, h⟩ := ite_some h
  have hlv : 0 < 1 := by decide
  refine ⟨hK, CT.of (by decide +kernel) rfl (Nat.le_of_ble_eq_true rfl) (ls := [some (vR l0), some (vI l1)]) rfl fun g w C _ => ?_⟩
  refine j_iload_n C dX10_fault_0 rfl ?_
  rcases ite_cases h with ⟨c3, h⟩ | ⟨c3, h⟩
  · refine j_lks C 28 dX10_fault_1 (by decide) (by rw [c3] <;> rfl) rfl ?_
    refine j_aload_n C dX10_fault_28 rfl ?_
    refine j_getR C dX10_fault_29 CF10 (by decide) fl_X10_20 rfl rfl h (fun t1 h => ?_)
    refine j_getI C dX10_fault_32 CF6 (by decide) fl_X10_130 rfl rfl h (fun t2 h => ?_)
    exact j_ri C dX10_fault_35 rfl (Option.some.inj h).symm rfl
  rcases ite_cases h with ⟨c6, h⟩ | ⟨c6, h⟩
  · refine j_lks C 36 dX10_fault_1 (by decide) (by rw [c6] <;> rfl) rfl ?_
    refine j_aload_n C dX10_fault_36 rfl ?_
    refine j_getR C dX10_fault_37 CF10 (by decide) fl_X10_20 rfl rfl h (fun t4 h => ?_)
    refine j_getI C dX10_fault_40 CF6 (by decide) fl_X10_133 rfl rfl h (fun t5 h => ?_)
    exact j_ri C dX10_fault_43 rfl (Option.some.inj h).symm rfl
  refine j_lks (off := 43) C 44 dX10_fault_1 (by decide) (by simp only [Op.lookupswitch.offset]; repeat rw [if_neg (by omega)]) rfl ?_
  refine j_iconst C dX10_fault_44 rfl ?_
  exact j_ri C dX10_fault_45 rfl (Option.some.inj h).symm rfl
theorem dX10_putNumber_0 : decode cX10_putNumber 0 = .ok (.bipush 24, 2) := by decide +kernel
theorem dX10_putNumber_2 : decode cX10_putNumber 2 = .ok (.istore_n 2, 1) := by decide +kernel
theorem dX10_putNumber_3 : decode cX10_putNumber 3 = .ok (.iload_n 2, 1) := by decide +kernel
theorem dX10_putNumber_4 : decode cX10_putNumber 4 = .ok (.ifCond .lt 45, 3) := by decide +kernel
theorem dX10_putNumber_7 : decode cX10_putNumber 7 = .ok (.aload_n 0, 1) := by decide +kernel
theorem dX10_putNumber_8 : decode cX10_putNumber 8 = .ok (.getfield 13, 3) := by decide +kernel
theorem dX10_putNumber_11 : decode cX10_putNumber 11 = .ok (.sipush 1600, 3) := by decide +kernel
theorem dX10_putNumber_14 : decode cX10_putNumber 14 = .ok (.if_icmp .ge 35, 3) := by decide +kernel
theorem dX10_putNumber_17 : decode cX10_putNumber 17 = .ok (.aload_n 0, 1) := by decide +kernel
theorem dX10_putNumber_18 : decode cX10_putNumber 18 = .ok (.getfield 9, 3) := by decide +kernel
theorem dX10_putNumber_21 : decode cX10_putNumber 21 = .ok (.aload_n 0, 1) := by decide +kernel
theorem dX10_putNumber_22 : decode cX10_putNumber 22 = .ok (.getfield 13, 3) := by decide +kernel
theorem dX10_putNumber_25 : decode cX10_putNumber 25 = .ok (.iload_n 1, 1) := by decide +kernel
theorem dX10_putNumber_26 : decode cX10_putNumber 26 = .ok (.iload_n 2, 1) := by decide +kernel
theorem dX10_putNumber_27 : decode cX10_putNumber 27 = .ok (.ishr, 1) := by decide +kernel
theorem dX10_putNumber_28 : decode cX10_putNumber 28 = .ok (.sipush 255, 3) := by decide +kernel
theorem dX10_putNumber_31 : decode cX10_putNumber 31 = .ok (.iand, 1) := by decide +kernel
theorem dX10_putNumber_32 : decode cX10_putNumber 32 = .ok (.iastore, 1) := by decide +kernel
theorem dX10_putNumber_33 : decode cX10_putNumber 33 = .ok (.aload_n 0, 1) := by decide +kernel
theorem dX10_putNumber_34 : decode cX10_putNumber 34 = .ok (.dup, 1) := by decide +kernel
theorem dX10_putNumber_35 : decode cX10_putNumber 35 = .ok (.getfield 13, 3) := by decide +kernel
theorem dX10_putNumber_38 : decode cX10_putNumber 38 = .ok (.iconst 1, 1) := by decide +kernel
theorem dX10_putNumber_39 : decode cX10_putNumber 39 = .ok (.iadd, 1) := by decide +kernel
theorem dX10_putNumber_40 : decode cX10_putNumber 40 = .ok (.putfield 13, 3) := by decide +kernel
theorem dX10_putNumber_43 : decode cX10_putNumber 43 = .ok (.iinc 2 (-8), 3) := by decide +kernel
theorem dX10_putNumber_46 : decode cX10_putNumber 46 = .ok (.goto (-43), 3) := by decide +kernel
theorem dX10_putNumber_49 : decode cX10_putNumber 49 = .ok (.return_, 1) := by decide +kernel
set_option maxRecDepth 100000 in
set_option maxHeartbeats 4000000 in
theorem X10_putNumber_L3_bok {g : Gm} {w : Wd} (C : Cx g w RX10 cX10_putNumber 3 none) {lv : Nat} (hlv : 0 < lv) {N : Nat} {r3 : Nat → Int → Int → Mem → Option Mem} {l0 : Nat} {l1 : Int} {l2 : Int} {m : Mem} {out : Mem} (hr3 : ∀ l0 l1 l2 m, r3 l0 l1 l2 m = some out → Jd g w 3 (rmL lv 0 0) (Qm g w none out) 3 [some (vR l0), some (vI l1), some (vI l2)] [] 312 m 0 0) (h : X10_putNumber_L3_b N r3 l0 l1 l2 m = some out) : Jd g w 3 (rmL lv 0 0) (Qm g w none out) 3 [some (vR l0), some (vI l1), some (vI l2)] [] 312 m 0 0 := by
  unfold X10_putNumber_L3_b at h
  refine j_iload_n C dX10_putNumber_3 rfl ?_
  refine j_if_lt C 49 dX10_putNumber_4 rfl h (fun c8 h => ?_) (fun c8 h => ?_)
  · have e := Option.some.inj h
    subst e
    exact j_rv C dX10_putNumber_49 rfl rfl
  · refine j_aload_n C dX10_putNumber_7 rfl ?_
    refine j_getI C dX10_putNumber_8 CF10 (by decide) fl_X10_13 rfl rfl h (fun t1 h => ?_)
    refine j_sipush C dX10_putNumber_11 rfl ?_
    refine j_icmp_ge C 49 dX10_putNumber_14 rfl h (fun c7 h => ?_) (fun c7 h => ?_)
    · have e := Option.some.inj h
      subst e
      exact j_rv C dX10_putNumber_49 rfl rfl
    · refine j_aload_n C dX10_putNumber_17 rfl ?_
      refine j_getR C dX10_putNumber_18 CF10 (by decide) fl_X10_9 rfl rfl h (fun t2 h => ?_)
      refine j_aload_n C dX10_putNumber_21 rfl ?_
      refine j_getI C dX10_putNumber_22 CF10 (by decide) fl_X10_13 rfl rfl h (fun t3 h => ?_)
      refine j_iload_n C dX10_putNumber_25 rfl ?_
      refine j_iload_n C dX10_putNumber_26 rfl ?_
      refine j_ishr C dX10_putNumber_27 ?_
      refine j_sipush C dX10_putNumber_28 rfl ?_
      refine j_iand C dX10_putNumber_31 ?_
      refine j_iast C dX10_putNumber_32 rfl h (fun m4 h => ?_)
      refine j_aload_n C dX10_putNumber_33 rfl ?_
      refine j_dup C dX10_putNumber_34 rfl ?_
      refine j_getI C dX10_putNumber_35 CF10 (by decide) fl_X10_13 rfl rfl h (fun t5 h => ?_)
      refine j_iconst C dX10_putNumber_38 rfl ?_
      refine j_iadd C dX10_putNumber_39 ?_
      refine j_putI C dX10_putNumber_40 CF10 (by decide) fl_X10_13 rfl rfl rfl rfl h (fun m6 h => ?_)
      refine j_iinc (ls' := [some (vR _), some (vI _), some (vI _)]) C dX10_putNumber_43 rfl (by decide) rfl ?_
      refine j_goto C 3 dX10_putNumber_46 rfl ?_
      exact hr3 _ _ _ _ h
set_option maxRecDepth 100000 in
set_option maxHeartbeats 4000000 in
theorem X10_putNumber_L3_ok {g : Gm} {w : Wd} (C : Cx g w RX10 cX10_putNumber 3 none) {lv : Nat} (hlv : 0 < lv) {N : Nat} {out : Mem} (f : Nat) : ∀ {l0 : Nat} {l1 : Int} {l2 : Int} {m : Mem}, X10_putNumber_L3 N f l0 l1 l2 m = some out → Jd g w 3 (rmL lv 0 0) (Qm g w none out) 3 [some (vR l0), some (vI l1), some (vI l2)] [] 312 m 0 0 := by
  induction f with
  | zero => intro l0 l1 l2 m h; exact none_ne (α := Mem) h
  | succ f ih => intro l0 l1 l2 m h; exact X10_putNumber_L3_bok C hlv (fun l0 l1 l2 m h => ih h) h
set_option maxRecDepth 100000 in
set_option maxHeartbeats 4000000 in
theorem X10_putNumber_ct {N : Nat} {l0 : Nat} {l1 : Int} {m : Mem} {out : Mem} (h : X10_putNumber N l0 l1 m = some out) : shK l0 = 10 + 10 ∧ CT yX10_putNumber cX10_putNumber 3 none 1 0 0 [vR l0, vI l1] 312 m none 312 out := by
  unfold X10_putNumber at h
  obtain ⟨hK, h⟩ := ite_some h
  have hlv : 0 < 1 := by decide
  refine ⟨hK, CT.of (by decide +kernel) rfl (Nat.le_of_ble_eq_true rfl) (ls := [some (vR l0), some (vI l1), none]) rfl fun g w C _ => ?_⟩
  refine j_bipush C dX10_putNumber_0 rfl ?_
  refine j_istore_n (ls' := [some (vR _), some (vI _), some (vI _)]) C dX10_putNumber_2 (by decide) rfl ?_
  exact X10_putNumber_L3_ok C hlv N h
theorem dX10_feed_0 : decode cX10_feed 0 = .ok (.aload_n 0, 1) := by decide +kernel
theorem dX10_feed_1 : decode cX10_feed 1 = .ok (.getfield 13, 3) := by decide +kernel
theorem dX10_feed_4 : decode cX10_feed 4 = .ok (.bipush 20, 2) := by decide +kernel
theorem dX10_feed_6 : decode cX10_feed 6 = .ok (.iadd, 1) := by decide +kernel
theorem dX10_feed_7 : decode cX10_feed 7 = .ok (.sipush 1600, 3) := by decide +kernel
theorem dX10_feed_10 : decode cX10_feed 10 = .ok (.if_icmp .le 9, 3) := by decide +kernel
theorem dX10_feed_13 : decode cX10_feed 13 = .ok (.aload_n 0, 1) := by decide +kernel
theorem dX10_feed_14 : decode cX10_feed 14 = .ok (.iconst 0, 1) := by decide +kernel
theorem dX10_feed_15 : decode cX10_feed 15 = .ok (.invokevirtual 101, 3) := by decide +kernel
theorem dX10_feed_18 : decode cX10_feed 18 = .ok (.ireturn, 1) := by decide +kernel
theorem dX10_feed_19 : decode cX10_feed 19 = .ok (.aload_n 0, 1) := by decide +kernel
theorem dX10_feed_20 : decode cX10_feed 20 = .ok (.iload_n 1, 1) := by decide +kernel
theorem dX10_feed_21 : decode cX10_feed 21 = .ok (.invokevirtual 105, 3) := by decide +kernel
theorem dX10_feed_24 : decode cX10_feed 24 = .ok (.aload_n 0, 1) := by decide +kernel
theorem dX10_feed_25 : decode cX10_feed 25 = .ok (.iload_n 2, 1) := by decide +kernel
theorem dX10_feed_26 : decode cX10_feed 26 = .ok (.invokevirtual 105, 3) := by decide +kernel
theorem dX10_feed_29 : decode cX10_feed 29 = .ok (.aload_n 0, 1) := by decide +kernel
theorem dX10_feed_30 : decode cX10_feed 30 = .ok (.iload_n 3, 1) := by decide +kernel
theorem dX10_feed_31 : decode cX10_feed 31 = .ok (.invokevirtual 105, 3) := by decide +kernel
theorem dX10_feed_34 : decode cX10_feed 34 = .ok (.aload_n 0, 1) := by decide +kernel
theorem dX10_feed_35 : decode cX10_feed 35 = .ok (.iload 4, 2) := by decide +kernel
theorem dX10_feed_37 : decode cX10_feed 37 = .ok (.invokevirtual 105, 3) := by decide +kernel
theorem dX10_feed_40 : decode cX10_feed 40 = .ok (.aload_n 0, 1) := by decide +kernel
theorem dX10_feed_41 : decode cX10_feed 41 = .ok (.iload 5, 2) := by decide +kernel
theorem dX10_feed_43 : decode cX10_feed 43 = .ok (.invokevirtual 105, 3) := by decide +kernel
theorem dX10_feed_46 : decode cX10_feed 46 = .ok (.aload_n 0, 1) := by decide +kernel
theorem dX10_feed_47 : decode cX10_feed 47 = .ok (.getfield 13, 3) := by decide +kernel
theorem dX10_feed_50 : decode cX10_feed 50 = .ok (.ireturn, 1) := by decide +kernel
set_option maxRecDepth 100000 in
set_option maxHeartbeats 4000000 in
theorem X10_feed_ct {N : Nat} {l0 : Nat} {l1 : Int} {l2 : Int} {l3 : Int} {l4 : Int} {l5 : Int} {m : Mem} {out : (Int × Mem)} (h : X10_feed N l0 l1 l2 l3 l4 l5 m = some out) : shK l0 = 10 + 10 ∧ CT yX10_feed cX10_feed 6 (some .int) 2 0 0 [vR l0, vI l1, vI l2, vI l3, vI l4, vI l5] 312 m (some (vI out.1)) 312 out.2 := by
  unfold X10_feed at h
  obtain ⟨hK, h⟩ := ite_some h
  have hlv : 1 < 2 := by decide
  refine ⟨hK, CT.of (by decide +kernel) rfl (Nat.le_of_ble_eq_true rfl) (ls := [some (vR l0), some (vI l1), some (vI l2), some (vI l3), some (vI l4), some (vI l5)]) rfl fun g w C _ => ?_⟩
  refine j_aload_n C dX10_feed_0 rfl ?_
  refine j_getI C dX10_feed_1 CF10 (by decide) fl_X10_13 rfl rfl h (fun t1 h => ?_)
  refine j_bipush C dX10_feed_4 rfl ?_
  refine j_iadd C dX10_feed_6 ?_
  refine j_sipush C dX10_feed_7 rfl ?_
  refine j_icmp_le C 19 dX10_feed_10 rfl h (fun c9 h => ?_) (fun c9 h => ?_)
  · refine j_aload_n C dX10_feed_19 rfl ?_
    refine j_iload_n C dX10_feed_20 rfl ?_
    obtain ⟨p2, ep2, h⟩ := bind_some h
    have qp2 := X10_putNumber_ct ep2
    refine j_cVV C dX10_feed_21 vl_X10_105 CF10 rfl qp2.1 qp2.2 (by omega) rfl rfl (Nat.le_of_ble_eq_true rfl) ?_
    refine j_aload_n C dX10_feed_24 rfl ?_
    refine j_iload_n C dX10_feed_25 rfl ?_
    obtain ⟨p3, ep3, h⟩ := bind_some h
    have qp3 := X10_putNumber_ct ep3
    refine j_cVV C dX10_feed_26 vl_X10_105 CF10 rfl qp3.1 qp3.2 (by omega) rfl rfl (Nat.le_of_ble_eq_true rfl) ?_
    refine j_aload_n C dX10_feed_29 rfl ?_
    refine j_iload_n C dX10_feed_30 rfl ?_
    obtain ⟨p4, ep4, h⟩ := bind_some h
    have qp4 := X10_putNumber_ct ep4
    refine j_cVV C dX10_feed_31 vl_X10_105 CF10 rfl qp4.1 qp4.2 (by omega) rfl rfl (Nat.le_of_ble_eq_true rfl) ?_
    refine j_aload_n C dX10_feed_34 rfl ?_
    refine j_iload C dX10_feed_35 rfl ?_
    obtain ⟨p5, ep5, h⟩ := bind_some h
    have qp5 := X10_putNumber_ct ep5
    refine j_cVV C dX10_feed_37 vl_X10_105 CF10 rfl qp5.1 qp5.2 (by omega) rfl rfl (Nat.le_of_ble_eq_true rfl) ?_
    refine j_aload_n C dX10_feed_40 rfl ?_
    refine j_iload C dX10_feed_41 rfl ?_
    obtain ⟨p6, ep6, h⟩ := bind_some h
    have qp6 := X10_putNumber_ct ep6
    refine j_cVV C dX10_feed_43 vl_X10_105 CF10 rfl qp6.1 qp6.2 (by omega) rfl rfl (Nat.le_of_ble_eq_true rfl) ?_
    refine j_aload_n C dX10_feed_46 rfl ?_
    refine j_getI C dX10_feed_47 CF10 (by decide) fl_X10_13 rfl rfl h (fun t7 h => ?_)
    have e := Option.some.inj h
    subst e
    exact j_ri C dX10_feed_50 rfl rfl rfl
  · refine j_aload_n C dX10_feed_13 rfl ?_
    refine j_iconst C dX10_feed_14 rfl ?_
    obtain ⟨p8, ep8, h⟩ := bind_some h
    have qp8 := X10_refuse_ct ep8
    refine j_cVI C dX10_feed_15 vl_X10_101 CF10 rfl qp8.1 qp8.2 (by omega) rfl rfl (Nat.le_of_ble_eq_true rfl) ?_
    have e := Option.some.inj h
    subst e
    exact j_ri C dX10_feed_18 rfl rfl rfl
theorem dX5_isCloth_0 : decode cX5_isCloth 0 = .ok (.iload_n 1, 1) := by decide +kernel
theorem dX5_isCloth_1 : decode cX5_isCloth 1 = .ok (.ifCond .lt 15, 3) := by decide +kernel
theorem dX5_isCloth_4 : decode cX5_isCloth 4 = .ok (.iload_n 1, 1) := by decide +kernel
theorem dX5_isCloth_5 : decode cX5_isCloth 5 = .ok (.aload_n 0, 1) := by decide +kernel
theorem dX5_isCloth_6 : decode cX5_isCloth 6 = .ok (.getfield 55, 3) := by decide +kernel
theorem dX5_isCloth_9 : decode cX5_isCloth 9 = .ok (.if_icmp .ge 7, 3) := by decide +kernel
theorem dX5_isCloth_12 : decode cX5_isCloth 12 = .ok (.iconst 1, 1) := by decide +kernel
theorem dX5_isCloth_13 : decode cX5_isCloth 13 = .ok (.goto 4, 3) := by decide +kernel
theorem dX5_isCloth_16 : decode cX5_isCloth 16 = .ok (.iconst 0, 1) := by decide +kernel
theorem dX5_isCloth_17 : decode cX5_isCloth 17 = .ok (.ireturn, 1) := by decide +kernel
set_option maxRecDepth 100000 in
set_option maxHeartbeats 4000000 in
theorem X5_isCloth_ct {l0 : Nat} {l1 : Int} {m : Mem} {out : Int} (h : X5_isCloth l0 l1 m = some out) : shK l0 = 5 + 10 ∧ CT yX5_isCloth cX5_isCloth 2 (some .boolean) 1 0 0 [vR l0, vI l1] 312 m (some (vI out)) 312 m := by
  unfold X5_isCloth at h
  obtain ⟨hK, h⟩ := ite_some h
  have hlv : 0 < 1 := by decide
  refine ⟨hK, CT.of (by decide +kernel) rfl (Nat.le_of_ble_eq_true rfl) (ls := [some (vR l0), some (vI l1)]) rfl fun g w C _ => ?_⟩
  refine j_iload_n C dX5_isCloth_0 rfl ?_
  refine j_if_lt C 16 dX5_isCloth_1 rfl h (fun c3 h => ?_) (fun c3 h => ?_)
  · refine j_iconst C dX5_isCloth_16 rfl ?_
    exact j_rz C dX5_isCloth_17 rfl (retZ_some h) rfl
  · refine j_iload_n C dX5_isCloth_4 rfl ?_
    refine j_aload_n C dX5_isCloth_5 rfl ?_
    refine j_getI C dX5_isCloth_6 CF5 (by decide) fl_X5_55 rfl rfl h (fun t1 h => ?_)
    refine j_icmp_ge C 16 dX5_isCloth_9 rfl h (fun c2 h => ?_) (fun c2 h => ?_)
    · refine j_iconst C dX5_isCloth_16 rfl ?_
      exact j_rz C dX5_isCloth_17 rfl (retZ_some h) rfl
    · refine j_iconst C dX5_isCloth_12 rfl ?_
      refine j_goto C 17 dX5_isCloth_13 rfl ?_
      exact j_rz C dX5_isCloth_17 rfl (retZ_some h) rfl
theorem dX4_remember_0 : decode cX4_remember 0 = .ok (.aload_n 0, 1) := by decide +kernel
theorem dX4_remember_1 : decode cX4_remember 1 = .ok (.getfield 11, 3) := by decide +kernel
theorem dX4_remember_4 : decode cX4_remember 4 = .ok (.aload_n 0, 1) := by decide +kernel
theorem dX4_remember_5 : decode cX4_remember 5 = .ok (.getfield 17, 3) := by decide +kernel
theorem dX4_remember_8 : decode cX4_remember 8 = .ok (.aaload, 1) := by decide +kernel
theorem dX4_remember_9 : decode cX4_remember 9 = .ok (.aload_n 1, 1) := by decide +kernel
theorem dX4_remember_10 : decode cX4_remember 10 = .ok (.invokevirtual 25, 3) := by decide +kernel
theorem dX4_remember_13 : decode cX4_remember 13 = .ok (.aload_n 0, 1) := by decide +kernel
theorem dX4_remember_14 : decode cX4_remember 14 = .ok (.aload_n 0, 1) := by decide +kernel
theorem dX4_remember_15 : decode cX4_remember 15 = .ok (.getfield 17, 3) := by decide +kernel
theorem dX4_remember_18 : decode cX4_remember 18 = .ok (.iconst 1, 1) := by decide +kernel
theorem dX4_remember_19 : decode cX4_remember 19 = .ok (.iadd, 1) := by decide +kernel
theorem dX4_remember_20 : decode cX4_remember 20 = .ok (.bipush 20, 2) := by decide +kernel
theorem dX4_remember_22 : decode cX4_remember 22 = .ok (.irem, 1) := by decide +kernel
theorem dX4_remember_23 : decode cX4_remember 23 = .ok (.putfield 17, 3) := by decide +kernel
theorem dX4_remember_26 : decode cX4_remember 26 = .ok (.aload_n 0, 1) := by decide +kernel
theorem dX4_remember_27 : decode cX4_remember 27 = .ok (.aload_n 0, 1) := by decide +kernel
theorem dX4_remember_28 : decode cX4_remember 28 = .ok (.getfield 21, 3) := by decide +kernel
theorem dX4_remember_31 : decode cX4_remember 31 = .ok (.iconst 1, 1) := by decide +kernel
theorem dX4_remember_32 : decode cX4_remember 32 = .ok (.iadd, 1) := by decide +kernel
theorem dX4_remember_33 : decode cX4_remember 33 = .ok (.bipush 20, 2) := by decide +kernel
theorem dX4_remember_35 : decode cX4_remember 35 = .ok (.invokestatic 29, 3) := by decide +kernel
theorem dX4_remember_38 : decode cX4_remember 38 = .ok (.putfield 21, 3) := by decide +kernel
theorem dX4_remember_41 : decode cX4_remember 41 = .ok (.return_, 1) := by decide +kernel
set_option maxRecDepth 100000 in
set_option maxHeartbeats 4000000 in
theorem X4_remember_ct {l0 : Nat} {l1 : Nat} {m : Mem} {out : Mem} (h : X4_remember l0 l1 m = some out) : shK l0 = 4 + 10 ∧ CT yX4_remember cX4_remember 2 none 2 0 0 [vR l0, vR l1] 312 m none 312 out := by
  unfold X4_remember at h
  obtain ⟨hK, h⟩ := ite_some h
  have hlv : 1 < 2 := by decide
  refine ⟨hK, CT.of (by decide +kernel) rfl (Nat.le_of_ble_eq_true rfl) (ls := [some (vR l0), some (vR l1)]) rfl fun g w C _ => ?_⟩
  refine j_aload_n C dX4_remember_0 rfl ?_
  refine j_getR C dX4_remember_1 CF4 (by decide) fl_X4_11 rfl rfl h (fun t1 h => ?_)
  refine j_aload_n C dX4_remember_4 rfl ?_
  refine j_getI C dX4_remember_5 CF4 (by decide) fl_X4_17 rfl rfl h (fun t2 h => ?_)
  refine j_aald C dX4_remember_8 rfl h (fun t3 h => ?_)
  refine j_aload_n C dX4_remember_9 rfl ?_
  obtain ⟨p4, ep4, h⟩ := bind_some h
  have qp4 := X1_copyFrom_ct ep4
  refine j_cVV C dX4_remember_10 vl_X4_25 CF1 rfl qp4.1 qp4.2 (by omega) rfl rfl (Nat.le_of_ble_eq_true rfl) ?_
  refine j_aload_n C dX4_remember_13 rfl ?_
  refine j_aload_n C dX4_remember_14 rfl ?_
  refine j_getI C dX4_remember_15 CF4 (by decide) fl_X4_17 rfl rfl h (fun t5 h => ?_)
  refine j_iconst C dX4_remember_18 rfl ?_
  refine j_iadd C dX4_remember_19 ?_
  refine j_bipush C dX4_remember_20 rfl ?_
  refine j_irem C dX4_remember_22 (by decide) ?_
  refine j_putI C dX4_remember_23 CF4 (by decide) fl_X4_17 rfl rfl rfl rfl h (fun m6 h => ?_)
  refine j_aload_n C dX4_remember_26 rfl ?_
  refine j_aload_n C dX4_remember_27 rfl ?_
  refine j_getI C dX4_remember_28 CF4 (by decide) fl_X4_21 rfl rfl h (fun t7 h => ?_)
  refine j_iconst C dX4_remember_31 rfl ?_
  refine j_iadd C dX4_remember_32 ?_
  refine j_bipush C dX4_remember_33 rfl ?_
  refine j_mmin C dX4_remember_35 ml_X4_29 rfl (by omega) (Nat.le_refl 0) (Nat.le_refl 0) (Nat.le_of_ble_eq_true rfl) ?_
  refine j_putI C dX4_remember_38 CF4 (by decide) fl_X4_21 rfl rfl rfl rfl h (fun m8 h => ?_)
  have e := Option.some.inj h
  subst e
  exact j_rv C dX4_remember_41 rfl rfl
theorem dX10_hang_0 : decode cX10_hang 0 = .ok (.aload_n 0, 1) := by decide +kernel
theorem dX10_hang_1 : decode cX10_hang 1 = .ok (.getfield 27, 3) := by decide +kernel
theorem dX10_hang_4 : decode cX10_hang 4 = .ok (.iload_n 1, 1) := by decide +kernel
theorem dX10_hang_5 : decode cX10_hang 5 = .ok (.invokevirtual 186, 3) := by decide +kernel
theorem dX10_hang_8 : decode cX10_hang 8 = .ok (.ifCond .eq 18, 3) := by decide +kernel
theorem dX10_hang_11 : decode cX10_hang 11 = .ok (.aload_n 0, 1) := by decide +kernel
theorem dX10_hang_12 : decode cX10_hang 12 = .ok (.getfield 27, 3) := by decide +kernel
theorem dX10_hang_15 : decode cX10_hang 15 = .ok (.aload_n 0, 1) := by decide +kernel
theorem dX10_hang_16 : decode cX10_hang 16 = .ok (.getfield 37, 3) := by decide +kernel
theorem dX10_hang_19 : decode cX10_hang 19 = .ok (.iload_n 2, 1) := by decide +kernel
theorem dX10_hang_20 : decode cX10_hang 20 = .ok (.invokevirtual 284, 3) := by decide +kernel
theorem dX10_hang_23 : decode cX10_hang 23 = .ok (.ifCond .ne 11, 3) := by decide +kernel
theorem dX10_hang_26 : decode cX10_hang 26 = .ok (.aload_n 0, 1) := by decide +kernel
theorem dX10_hang_27 : decode cX10_hang 27 = .ok (.iconst 2, 1) := by decide +kernel
theorem dX10_hang_28 : decode cX10_hang 28 = .ok (.invokevirtual 101, 3) := by decide +kernel
theorem dX10_hang_31 : decode cX10_hang 31 = .ok (.pop, 1) := by decide +kernel
theorem dX10_hang_32 : decode cX10_hang 32 = .ok (.iconst 0, 1) := by decide +kernel
theorem dX10_hang_33 : decode cX10_hang 33 = .ok (.ireturn, 1) := by decide +kernel
theorem dX10_hang_34 : decode cX10_hang 34 = .ok (.aload_n 0, 1) := by decide +kernel
theorem dX10_hang_35 : decode cX10_hang 35 = .ok (.getfield 47, 3) := by decide +kernel
theorem dX10_hang_38 : decode cX10_hang 38 = .ok (.aload_n 0, 1) := by decide +kernel
theorem dX10_hang_39 : decode cX10_hang 39 = .ok (.getfield 37, 3) := by decide +kernel
theorem dX10_hang_42 : decode cX10_hang 42 = .ok (.invokevirtual 288, 3) := by decide +kernel
theorem dX10_hang_45 : decode cX10_hang 45 = .ok (.aload_n 0, 1) := by decide +kernel
theorem dX10_hang_46 : decode cX10_hang 46 = .ok (.getfield 37, 3) := by decide +kernel
theorem dX10_hang_49 : decode cX10_hang 49 = .ok (.getfield 214, 3) := by decide +kernel
theorem dX10_hang_52 : decode cX10_hang 52 = .ok (.aload_n 0, 1) := by decide +kernel
theorem dX10_hang_53 : decode cX10_hang 53 = .ok (.getfield 27, 3) := by decide +kernel
theorem dX10_hang_56 : decode cX10_hang 56 = .ok (.getfield 291, 3) := by decide +kernel
theorem dX10_hang_59 : decode cX10_hang 59 = .ok (.iload_n 1, 1) := by decide +kernel
theorem dX10_hang_60 : decode cX10_hang 60 = .ok (.iaload, 1) := by decide +kernel
theorem dX10_hang_61 : decode cX10_hang 61 = .ok (.iload_n 2, 1) := by decide +kernel
theorem dX10_hang_62 : decode cX10_hang 62 = .ok (.iastore, 1) := by decide +kernel
theorem dX10_hang_63 : decode cX10_hang 63 = .ok (.aload_n 0, 1) := by decide +kernel
theorem dX10_hang_64 : decode cX10_hang 64 = .ok (.invokevirtual 124, 3) := by decide +kernel
theorem dX10_hang_67 : decode cX10_hang 67 = .ok (.iconst 1, 1) := by decide +kernel
theorem dX10_hang_68 : decode cX10_hang 68 = .ok (.ireturn, 1) := by decide +kernel
set_option maxRecDepth 100000 in
set_option maxHeartbeats 4000000 in
theorem X10_hang_J26_ok {g : Gm} {w : Wd} (C : Cx g w RX10 cX10_hang 3 (some .boolean)) {lv : Nat} (hlv : 3 < lv) {N : Nat} {l0 : Nat} {m : Mem} {out : (Int × Mem)} (h : X10_hang_J26 N l0 m = some out) : Jd g w 3 (rmL lv 0 0) (Qm g w (some (vI out.1)) out.2) 26 [some (vR l0), none, none] [] 312 m 0 0 := by
  unfold X10_hang_J26 at h
  refine j_aload_n C dX10_hang_26 rfl ?_
  refine j_iconst C dX10_hang_27 rfl ?_
  obtain ⟨p3, ep3, h⟩ := bind_some h
  have qp3 := X10_refuse_ct ep3
  refine j_cVI C dX10_hang_28 vl_X10_101 CF10 rfl qp3.1 qp3.2 (by omega) rfl rfl (Nat.le_of_ble_eq_true rfl) ?_
  refine j_pop C dX10_hang_31 rfl ?_
  refine j_iconst C dX10_hang_32 rfl ?_
  obtain ⟨r4, er4, h⟩ := bind_some h
  have e := Option.some.inj h
  subst e
  exact j_rz C dX10_hang_33 rfl (retZ_some er4) rfl
set_option maxRecDepth 100000 in
set_option maxHeartbeats 4000000 in
theorem X10_hang_ct {N : Nat} {l0 : Nat} {l1 : Int} {l2 : Int} {m : Mem} {out : (Int × Mem)} (h : X10_hang N l0 l1 l2 m = some out) : shK l0 = 10 + 10 ∧ CT yX10_hang cX10_hang 3 (some .boolean) 4 0 0 [vR l0, vI l1, vI l2] 312 m (some (vI out.1)) 312 out.2 := by
  unfold X10_hang at h
  obtain ⟨hK, h⟩ := ite_some h
  have hlv : 3 < 4 := by decide
  refine ⟨hK, CT.of (by decide +kernel) rfl (Nat.le_of_ble_eq_true rfl) (ls := [some (vR l0), some (vI l1), some (vI l2)]) rfl fun g w C _ => ?_⟩
  refine j_aload_n C dX10_hang_0 rfl ?_
  refine j_getR C dX10_hang_1 CF10 (by decide) fl_X10_27 rfl rfl h (fun t1 h => ?_)
  refine j_iload_n C dX10_hang_4 rfl ?_
  obtain ⟨p2, ep2, h⟩ := bind_some h
  have qp2 := X5_isCloth_ct ep2
  refine j_cVI C dX10_hang_5 vl_X10_186 CF5 rfl qp2.1 qp2.2 (by omega) rfl rfl (Nat.le_of_ble_eq_true rfl) ?_
  refine j_if_eq C 26 dX10_hang_8 rfl h (fun c20 h => ?_) (fun c20 h => ?_)
  · refine j_mask [true, false, false] (ls' := [some (vR _), none, none]) rfl ?_
    exact X10_hang_J26_ok C hlv h
  · refine j_aload_n C dX10_hang_11 rfl ?_
    refine j_getR C dX10_hang_12 CF10 (by decide) fl_X10_27 rfl rfl h (fun t5 h => ?_)
    refine j_aload_n C dX10_hang_15 rfl ?_
    refine j_getR C dX10_hang_16 CF10 (by decide) fl_X10_37 rfl rfl h (fun t6 h => ?_)
    refine j_iload_n C dX10_hang_19 rfl ?_
    obtain ⟨p7, ep7, h⟩ := bind_some h
    have qp7 := X5_isFree_ct ep7
    refine j_cVI C dX10_hang_20 vl_X10_284 CF5 rfl qp7.1 qp7.2 (by omega) rfl rfl (Nat.le_of_ble_eq_true rfl) ?_
    refine j_if_ne C 34 dX10_hang_23 rfl h (fun c19 h => ?_) (fun c19 h => ?_)
    · refine j_aload_n C dX10_hang_34 rfl ?_
      refine j_getR C dX10_hang_35 CF10 (by decide) fl_X10_47 rfl rfl h (fun t8 h => ?_)
      refine j_aload_n C dX10_hang_38 rfl ?_
      refine j_getR C dX10_hang_39 CF10 (by decide) fl_X10_37 rfl rfl h (fun t9 h => ?_)
      obtain ⟨p10, ep10, h⟩ := bind_some h
      have qp10 := X4_remember_ct ep10
      refine j_cVV C dX10_hang_42 vl_X10_288 CF4 rfl qp10.1 qp10.2 (by omega) rfl rfl (Nat.le_of_ble_eq_true rfl) ?_
      refine j_aload_n C dX10_hang_45 rfl ?_
      refine j_getR C dX10_hang_46 CF10 (by decide) fl_X10_37 rfl rfl h (fun t11 h => ?_)
      refine j_getR C dX10_hang_49 CF1 (by decide) fl_X10_214 rfl rfl h (fun t12 h => ?_)
      refine j_aload_n C dX10_hang_52 rfl ?_
      refine j_getR C dX10_hang_53 CF10 (by decide) fl_X10_27 rfl rfl h (fun t13 h => ?_)
      refine j_getR C dX10_hang_56 CF5 (by decide) fl_X10_291 rfl rfl h (fun t14 h => ?_)
      refine j_iload_n C dX10_hang_59 rfl ?_
      refine j_iald C dX10_hang_60 rfl h (fun t15 h => ?_)
      refine j_iload_n C dX10_hang_61 rfl ?_
      refine j_iast C dX10_hang_62 rfl h (fun m16 h => ?_)
      refine j_aload_n C dX10_hang_63 rfl ?_
      obtain ⟨p17, ep17, h⟩ := bind_some h
      have qp17 := X10_changed_ct ep17
      refine j_cVV C dX10_hang_64 vl_X10_124 CF10 rfl qp17.1 qp17.2 (by omega) rfl rfl (Nat.le_of_ble_eq_true rfl) ?_
      refine j_iconst C dX10_hang_67 rfl ?_
      obtain ⟨r18, er18, h⟩ := bind_some h
      have e := Option.some.inj h
      subst e
      exact j_rz C dX10_hang_68 rfl (retZ_some er18) rfl
    · refine j_mask [true, false, false] (ls' := [some (vR _), none, none]) rfl ?_
      exact X10_hang_J26_ok C hlv h
theorem dX1_walls_0 : decode cX1_walls 0 = .ok (.iconst 0, 1) := by decide +kernel
theorem dX1_walls_1 : decode cX1_walls 1 = .ok (.istore_n 1, 1) := by decide +kernel
theorem dX1_walls_2 : decode cX1_walls 2 = .ok (.aload_n 0, 1) := by decide +kernel
theorem dX1_walls_3 : decode cX1_walls 3 = .ok (.getfield 9, 3) := by decide +kernel
theorem dX1_walls_6 : decode cX1_walls 6 = .ok (.astore_n 2, 1) := by decide +kernel
theorem dX1_walls_7 : decode cX1_walls 7 = .ok (.aload_n 2, 1) := by decide +kernel
theorem dX1_walls_8 : decode cX1_walls 8 = .ok (.arraylength, 1) := by decide +kernel
theorem dX1_walls_9 : decode cX1_walls 9 = .ok (.istore_n 3, 1) := by decide +kernel
theorem dX1_walls_10 : decode cX1_walls 10 = .ok (.iconst 0, 1) := by decide +kernel
theorem dX1_walls_11 : decode cX1_walls 11 = .ok (.istore 4, 2) := by decide +kernel
theorem dX1_walls_13 : decode cX1_walls 13 = .ok (.iload 4, 2) := by decide +kernel
theorem dX1_walls_15 : decode cX1_walls 15 = .ok (.iload_n 3, 1) := by decide +kernel
theorem dX1_walls_16 : decode cX1_walls 16 = .ok (.if_icmp .ge 20, 3) := by decide +kernel
theorem dX1_walls_19 : decode cX1_walls 19 = .ok (.aload_n 2, 1) := by decide +kernel
theorem dX1_walls_20 : decode cX1_walls 20 = .ok (.iload 4, 2) := by decide +kernel
theorem dX1_walls_22 : decode cX1_walls 22 = .ok (.iaload, 1) := by decide +kernel
theorem dX1_walls_23 : decode cX1_walls 23 = .ok (.istore 5, 2) := by decide +kernel
theorem dX1_walls_25 : decode cX1_walls 25 = .ok (.iload_n 1, 1) := by decide +kernel
theorem dX1_walls_26 : decode cX1_walls 26 = .ok (.iload 5, 2) := by decide +kernel
theorem dX1_walls_28 : decode cX1_walls 28 = .ok (.iadd, 1) := by decide +kernel
theorem dX1_walls_29 : decode cX1_walls 29 = .ok (.istore_n 1, 1) := by decide +kernel
theorem dX1_walls_30 : decode cX1_walls 30 = .ok (.iinc 4 1, 3) := by decide +kernel
theorem dX1_walls_33 : decode cX1_walls 33 = .ok (.goto (-20), 3) := by decide +kernel
theorem dX1_walls_36 : decode cX1_walls 36 = .ok (.iload_n 1, 1) := by decide +kernel
theorem dX1_walls_37 : decode cX1_walls 37 = .ok (.ireturn, 1) := by decide +kernel
set_option maxRecDepth 100000 in
set_option maxHeartbeats 4000000 in
theorem X1_walls_L13_bok {g : Gm} {w : Wd} (C : Cx g w RX1 cX1_walls 6 (some .int)) {lv : Nat} (hlv : 0 < lv) {N : Nat} {r13 : Int → Nat → Int → Int → Option Int} {l1 : Int} {l2 : Nat} {l3 : Int} {l4 : Int} {m : Mem} {out : Int} (hr13 : ∀ l1 l2 l3 l4, r13 l1 l2 l3 l4 = some out → Jd g w 6 (rmL lv 0 0) (Qm g w (some (vI out)) m) 13 [none, some (vI l1), some (vR l2), some (vI l3), some (vI l4), none] [] 312 m 0 0) (h : X1_walls_L13_b N m r13 l1 l2 l3 l4 = some out) : Jd g w 6 (rmL lv 0 0) (Qm g w (some (vI out)) m) 13 [none, some (vI l1), some (vR l2), some (vI l3), some (vI l4), none] [] 312 m 0 0 := by
  unfold X1_walls_L13_b at h
  refine j_iload C dX1_walls_13 rfl ?_
  refine j_iload_n C dX1_walls_15 rfl ?_
  refine j_icmp_ge C 36 dX1_walls_16 rfl h (fun c4 h => ?_) (fun c4 h => ?_)
  · refine j_iload_n C dX1_walls_36 rfl ?_
    exact j_ri C dX1_walls_37 rfl (Option.some.inj h).symm rfl
  · refine j_aload_n C dX1_walls_19 rfl ?_
    refine j_iload C dX1_walls_20 rfl ?_
    refine j_iald C dX1_walls_22 rfl h (fun t3 h => ?_)
    refine j_istore (ls' := [none, some (vI _), some (vR _), some (vI _), some (vI _), some (vI _)]) C dX1_walls_23 (by decide) rfl ?_
    refine j_iload_n C dX1_walls_25 rfl ?_
    refine j_iload C dX1_walls_26 rfl ?_
    refine j_iadd C dX1_walls_28 ?_
    refine j_istore_n (ls' := [none, some (vI _), some (vR _), some (vI _), some (vI _), some (vI _)]) C dX1_walls_29 (by decide) rfl ?_
    refine j_iinc (ls' := [none, some (vI _), some (vR _), some (vI _), some (vI _), some (vI _)]) C dX1_walls_30 rfl (by decide) rfl ?_
    refine j_goto C 13 dX1_walls_33 rfl ?_
    refine j_mask [false, true, true, true, true, false] (ls' := [none, some (vI _), some (vR _), some (vI _), some (vI _), none]) rfl ?_
    exact hr13 _ _ _ _ h
set_option maxRecDepth 100000 in
set_option maxHeartbeats 4000000 in
theorem X1_walls_L13_ok {g : Gm} {w : Wd} (C : Cx g w RX1 cX1_walls 6 (some .int)) {lv : Nat} (hlv : 0 < lv) {N : Nat} {m : Mem} {out : Int} (f : Nat) : ∀ {l1 : Int} {l2 : Nat} {l3 : Int} {l4 : Int}, X1_walls_L13 N m f l1 l2 l3 l4 = some out → Jd g w 6 (rmL lv 0 0) (Qm g w (some (vI out)) m) 13 [none, some (vI l1), some (vR l2), some (vI l3), some (vI l4), none] [] 312 m 0 0 := by
  induction f with
  | zero => intro l1 l2 l3 l4 h; exact none_ne (α := Int) h
  | succ f ih => intro l1 l2 l3 l4 h; exact X1_walls_L13_bok C hlv (fun l1 l2 l3 l4 h => ih h) h
set_option maxRecDepth 100000 in
set_option maxHeartbeats 4000000 in
theorem X1_walls_ct {N : Nat} {l0 : Nat} {m : Mem} {out : Int} (h : X1_walls N l0 m = some out) : shK l0 = 1 + 10 ∧ CT yX1_walls cX1_walls 6 (some .int) 1 0 0 [vR l0] 312 m (some (vI out)) 312 m := by
  unfold X1_walls at h
  obtain ⟨hK, h⟩ := ite_some h
  have hlv : 0 < 1 := by decide
  refine ⟨hK, CT.of (by decide +kernel) rfl (Nat.le_of_ble_eq_true rfl) (ls := [some (vR l0), none, none, none, none, none]) rfl fun g w C _ => ?_⟩
  refine j_iconst C dX1_walls_0 rfl ?_
  refine j_istore_n (ls' := [some (vR _), some (vI _), none, none, none, none]) C dX1_walls_1 (by decide) rfl ?_
  refine j_aload_n C dX1_walls_2 rfl ?_
  refine j_getR C dX1_walls_3 CF1 (by decide) fl_X1_9 rfl rfl h (fun t1 h => ?_)
  refine j_astore_n (ls' := [some (vR _), some (vI _), some (vR _), none, none, none]) C dX1_walls_6 (by decide) rfl ?_
  refine j_aload_n C dX1_walls_7 rfl ?_
  refine j_alen C dX1_walls_8 rfl h (fun t2 h => ?_)
  refine j_istore_n (ls' := [some (vR _), some (vI _), some (vR _), some (vI _), none, none]) C dX1_walls_9 (by decide) rfl ?_
  refine j_iconst C dX1_walls_10 rfl ?_
  refine j_istore (ls' := [some (vR _), some (vI _), some (vR _), some (vI _), some (vI _), none]) C dX1_walls_11 (by decide) rfl ?_
  refine j_mask [false, true, true, true, true, false] (ls' := [none, some (vI _), some (vR _), some (vI _), some (vI _), none]) rfl ?_
  exact X1_walls_L13_ok C hlv N h
theorem dX5_houses_0 : decode cX5_houses 0 = .ok (.iconst 0, 1) := by decide +kernel
theorem dX5_houses_1 : decode cX5_houses 1 = .ok (.istore_n 1, 1) := by decide +kernel
theorem dX5_houses_2 : decode cX5_houses 2 = .ok (.aload_n 0, 1) := by decide +kernel
theorem dX5_houses_3 : decode cX5_houses 3 = .ok (.getfield 27, 3) := by decide +kernel
theorem dX5_houses_6 : decode cX5_houses 6 = .ok (.astore_n 2, 1) := by decide +kernel
theorem dX5_houses_7 : decode cX5_houses 7 = .ok (.aload_n 2, 1) := by decide +kernel
theorem dX5_houses_8 : decode cX5_houses 8 = .ok (.arraylength, 1) := by decide +kernel
theorem dX5_houses_9 : decode cX5_houses 9 = .ok (.istore_n 3, 1) := by decide +kernel
theorem dX5_houses_10 : decode cX5_houses 10 = .ok (.iconst 0, 1) := by decide +kernel
theorem dX5_houses_11 : decode cX5_houses 11 = .ok (.istore 4, 2) := by decide +kernel
theorem dX5_houses_13 : decode cX5_houses 13 = .ok (.iload 4, 2) := by decide +kernel
theorem dX5_houses_15 : decode cX5_houses 15 = .ok (.iload_n 3, 1) := by decide +kernel
theorem dX5_houses_16 : decode cX5_houses 16 = .ok (.if_icmp .ge 20, 3) := by decide +kernel
theorem dX5_houses_19 : decode cX5_houses 19 = .ok (.aload_n 2, 1) := by decide +kernel
theorem dX5_houses_20 : decode cX5_houses 20 = .ok (.iload 4, 2) := by decide +kernel
theorem dX5_houses_22 : decode cX5_houses 22 = .ok (.iaload, 1) := by decide +kernel
theorem dX5_houses_23 : decode cX5_houses 23 = .ok (.istore 5, 2) := by decide +kernel
theorem dX5_houses_25 : decode cX5_houses 25 = .ok (.iload_n 1, 1) := by decide +kernel
theorem dX5_houses_26 : decode cX5_houses 26 = .ok (.iload 5, 2) := by decide +kernel
theorem dX5_houses_28 : decode cX5_houses 28 = .ok (.iadd, 1) := by decide +kernel
theorem dX5_houses_29 : decode cX5_houses 29 = .ok (.istore_n 1, 1) := by decide +kernel
theorem dX5_houses_30 : decode cX5_houses 30 = .ok (.iinc 4 1, 3) := by decide +kernel
theorem dX5_houses_33 : decode cX5_houses 33 = .ok (.goto (-20), 3) := by decide +kernel
theorem dX5_houses_36 : decode cX5_houses 36 = .ok (.iload_n 1, 1) := by decide +kernel
theorem dX5_houses_37 : decode cX5_houses 37 = .ok (.ireturn, 1) := by decide +kernel
set_option maxRecDepth 100000 in
set_option maxHeartbeats 4000000 in
theorem X5_houses_L13_bok {g : Gm} {w : Wd} (C : Cx g w RX5 cX5_houses 6 (some .int)) {lv : Nat} (hlv : 0 < lv) {N : Nat} {r13 : Int → Nat → Int → Int → Option Int} {l1 : Int} {l2 : Nat} {l3 : Int} {l4 : Int} {m : Mem} {out : Int} (hr13 : ∀ l1 l2 l3 l4, r13 l1 l2 l3 l4 = some out → Jd g w 6 (rmL lv 0 0) (Qm g w (some (vI out)) m) 13 [none, some (vI l1), some (vR l2), some (vI l3), some (vI l4), none] [] 312 m 0 0) (h : X5_houses_L13_b N m r13 l1 l2 l3 l4 = some out) : Jd g w 6 (rmL lv 0 0) (Qm g w (some (vI out)) m) 13 [none, some (vI l1), some (vR l2), some (vI l3), some (vI l4), none] [] 312 m 0 0 := by
  unfold X5_houses_L13_b at h
  refine j_iload C dX5_houses_13 rfl ?_
  refine j_iload_n C dX5_houses_15 rfl ?_
  refine j_icmp_ge C 36 dX5_houses_16 rfl h (fun c4 h => ?_) (fun c4 h => ?_)
  · refine j_iload_n C dX5_houses_36 rfl ?_
    exact j_ri C dX5_houses_37 rfl (Option.some.inj h).symm rfl
  · refine j_aload_n C dX5_houses_19 rfl ?_
    refine j_iload C dX5_houses_20 rfl ?_
    refine j_iald C dX5_houses_22 rfl h (fun t3 h => ?_)
    refine j_istore (ls' := [none, some (vI _), some (vR _), some (vI _), some (vI _), some (vI _)]) C dX5_houses_23 (by decide) rfl ?_
    refine j_iload_n C dX5_houses_25 rfl ?_
    refine j_iload C dX5_houses_26 rfl ?_
    refine j_iadd C dX5_houses_28 ?_
    refine j_istore_n (ls' := [none, some (vI _), some (vR _), some (vI _), some (vI _), some (vI _)]) C dX5_houses_29 (by decide) rfl ?_
    refine j_iinc (ls' := [none, some (vI _), some (vR _), some (vI _), some (vI _), some (vI _)]) C dX5_houses_30 rfl (by decide) rfl ?_
    refine j_goto C 13 dX5_houses_33 rfl ?_
    refine j_mask [false, true, true, true, true, false] (ls' := [none, some (vI _), some (vR _), some (vI _), some (vI _), none]) rfl ?_
    exact hr13 _ _ _ _ h
set_option maxRecDepth 100000 in
set_option maxHeartbeats 4000000 in
theorem X5_houses_L13_ok {g : Gm} {w : Wd} (C : Cx g w RX5 cX5_houses 6 (some .int)) {lv : Nat} (hlv : 0 < lv) {N : Nat} {m : Mem} {out : Int} (f : Nat) : ∀ {l1 : Int} {l2 : Nat} {l3 : Int} {l4 : Int}, X5_houses_L13 N m f l1 l2 l3 l4 = some out → Jd g w 6 (rmL lv 0 0) (Qm g w (some (vI out)) m) 13 [none, some (vI l1), some (vR l2), some (vI l3), some (vI l4), none] [] 312 m 0 0 := by
  induction f with
  | zero => intro l1 l2 l3 l4 h; exact none_ne (α := Int) h
  | succ f ih => intro l1 l2 l3 l4 h; exact X5_houses_L13_bok C hlv (fun l1 l2 l3 l4 h => ih h) h
set_option maxRecDepth 100000 in
set_option maxHeartbeats 4000000 in
theorem X5_houses_ct {N : Nat} {l0 : Nat} {m : Mem} {out : Int} (h : X5_houses N l0 m = some out) : shK l0 = 5 + 10 ∧ CT yX5_houses cX5_houses 6 (some .int) 1 0 0 [vR l0] 312 m (some (vI out)) 312 m := by
  unfold X5_houses at h
  obtain ⟨hK, h⟩ := ite_some h
  have hlv : 0 < 1 := by decide
  refine ⟨hK, CT.of (by decide +kernel) rfl (Nat.le_of_ble_eq_true rfl) (ls := [some (vR l0), none, none, none, none, none]) rfl fun g w C _ => ?_⟩
  refine j_iconst C dX5_houses_0 rfl ?_
  refine j_istore_n (ls' := [some (vR _), some (vI _), none, none, none, none]) C dX5_houses_1 (by decide) rfl ?_
  refine j_aload_n C dX5_houses_2 rfl ?_
  refine j_getR C dX5_houses_3 CF5 (by decide) fl_X5_27 rfl rfl h (fun t1 h => ?_)
  refine j_astore_n (ls' := [some (vR _), some (vI _), some (vR _), none, none, none]) C dX5_houses_6 (by decide) rfl ?_
  refine j_aload_n C dX5_houses_7 rfl ?_
  refine j_alen C dX5_houses_8 rfl h (fun t2 h => ?_)
  refine j_istore_n (ls' := [some (vR _), some (vI _), some (vR _), some (vI _), none, none]) C dX5_houses_9 (by decide) rfl ?_
  refine j_iconst C dX5_houses_10 rfl ?_
  refine j_istore (ls' := [some (vR _), some (vI _), some (vR _), some (vI _), some (vI _), none]) C dX5_houses_11 (by decide) rfl ?_
  refine j_mask [false, true, true, true, true, false] (ls' := [none, some (vI _), some (vR _), some (vI _), some (vI _), none]) rfl ?_
  exact X5_houses_L13_ok C hlv N h
theorem dX10_has_0 : decode cX10_has 0 = .ok (.iload_n 1, 1) := by decide +kernel
theorem dX10_has_1 : decode cX10_has 1 = .ok (.tableswitch 168 0 12 #[67, 75, 83, 91, 99, 107, 115, 123, 131, 139, 147, 155, 163], 67) := by decide +kernel
theorem dX10_has_68 : decode cX10_has 68 = .ok (.aload_n 0, 1) := by decide +kernel
theorem dX10_has_69 : decode cX10_has 69 = .ok (.getfield 27, 3) := by decide +kernel
theorem dX10_has_72 : decode cX10_has 72 = .ok (.getfield 136, 3) := by decide +kernel
theorem dX10_has_75 : decode cX10_has 75 = .ok (.ireturn, 1) := by decide +kernel
theorem dX10_has_76 : decode cX10_has 76 = .ok (.aload_n 0, 1) := by decide +kernel
theorem dX10_has_77 : decode cX10_has 77 = .ok (.getfield 27, 3) := by decide +kernel
theorem dX10_has_80 : decode cX10_has 80 = .ok (.getfield 139, 3) := by decide +kernel
theorem dX10_has_83 : decode cX10_has 83 = .ok (.ireturn, 1) := by decide +kernel
theorem dX10_has_84 : decode cX10_has 84 = .ok (.aload_n 0, 1) := by decide +kernel
theorem dX10_has_85 : decode cX10_has 85 = .ok (.getfield 37, 3) := by decide +kernel
theorem dX10_has_88 : decode cX10_has 88 = .ok (.invokevirtual 142, 3) := by decide +kernel
theorem dX10_has_91 : decode cX10_has 91 = .ok (.ireturn, 1) := by decide +kernel
theorem dX10_has_92 : decode cX10_has 92 = .ok (.aload_n 0, 1) := by decide +kernel
theorem dX10_has_93 : decode cX10_has 93 = .ok (.getfield 27, 3) := by decide +kernel
theorem dX10_has_96 : decode cX10_has 96 = .ok (.invokevirtual 146, 3) := by decide +kernel
theorem dX10_has_99 : decode cX10_has 99 = .ok (.ireturn, 1) := by decide +kernel
theorem dX10_has_100 : decode cX10_has 100 = .ok (.aload_n 0, 1) := by decide +kernel
theorem dX10_has_101 : decode cX10_has 101 = .ok (.getfield 27, 3) := by decide +kernel
theorem dX10_has_104 : decode cX10_has 104 = .ok (.getfield 149, 3) := by decide +kernel
theorem dX10_has_107 : decode cX10_has 107 = .ok (.ireturn, 1) := by decide +kernel
theorem dX10_has_108 : decode cX10_has 108 = .ok (.aload_n 0, 1) := by decide +kernel
theorem dX10_has_109 : decode cX10_has 109 = .ok (.getfield 27, 3) := by decide +kernel
theorem dX10_has_112 : decode cX10_has 112 = .ok (.getfield 152, 3) := by decide +kernel
theorem dX10_has_115 : decode cX10_has 115 = .ok (.ireturn, 1) := by decide +kernel
theorem dX10_has_116 : decode cX10_has 116 = .ok (.aload_n 0, 1) := by decide +kernel
theorem dX10_has_117 : decode cX10_has 117 = .ok (.getfield 27, 3) := by decide +kernel
theorem dX10_has_120 : decode cX10_has 120 = .ok (.getfield 155, 3) := by decide +kernel
theorem dX10_has_123 : decode cX10_has 123 = .ok (.ireturn, 1) := by decide +kernel
theorem dX10_has_124 : decode cX10_has 124 = .ok (.aload_n 0, 1) := by decide +kernel
theorem dX10_has_125 : decode cX10_has 125 = .ok (.getfield 27, 3) := by decide +kernel
theorem dX10_has_128 : decode cX10_has 128 = .ok (.getfield 158, 3) := by decide +kernel
theorem dX10_has_131 : decode cX10_has 131 = .ok (.ireturn, 1) := by decide +kernel
theorem dX10_has_132 : decode cX10_has 132 = .ok (.aload_n 0, 1) := by decide +kernel
theorem dX10_has_133 : decode cX10_has 133 = .ok (.getfield 27, 3) := by decide +kernel
theorem dX10_has_136 : decode cX10_has 136 = .ok (.getfield 161, 3) := by decide +kernel
theorem dX10_has_139 : decode cX10_has 139 = .ok (.ireturn, 1) := by decide +kernel
theorem dX10_has_140 : decode cX10_has 140 = .ok (.aload_n 0, 1) := by decide +kernel
theorem dX10_has_141 : decode cX10_has 141 = .ok (.getfield 27, 3) := by decide +kernel
theorem dX10_has_144 : decode cX10_has 144 = .ok (.getfield 164, 3) := by decide +kernel
theorem dX10_has_147 : decode cX10_has 147 = .ok (.ireturn, 1) := by decide +kernel
theorem dX10_has_148 : decode cX10_has 148 = .ok (.aload_n 0, 1) := by decide +kernel
theorem dX10_has_149 : decode cX10_has 149 = .ok (.getfield 37, 3) := by decide +kernel
theorem dX10_has_152 : decode cX10_has 152 = .ok (.getfield 167, 3) := by decide +kernel
theorem dX10_has_155 : decode cX10_has 155 = .ok (.ireturn, 1) := by decide +kernel
theorem dX10_has_156 : decode cX10_has 156 = .ok (.aload_n 0, 1) := by decide +kernel
theorem dX10_has_157 : decode cX10_has 157 = .ok (.getfield 47, 3) := by decide +kernel
theorem dX10_has_160 : decode cX10_has 160 = .ok (.getfield 170, 3) := by decide +kernel
theorem dX10_has_163 : decode cX10_has 163 = .ok (.ireturn, 1) := by decide +kernel
theorem dX10_has_164 : decode cX10_has 164 = .ok (.aload_n 0, 1) := by decide +kernel
theorem dX10_has_165 : decode cX10_has 165 = .ok (.getfield 51, 3) := by decide +kernel
theorem dX10_has_168 : decode cX10_has 168 = .ok (.ireturn, 1) := by decide +kernel
theorem dX10_has_169 : decode cX10_has 169 = .ok (.iconst (-1), 1) := by decide +kernel
theorem dX10_has_170 : decode cX10_has 170 = .ok (.ireturn, 1) := by decide +kernel
set_option maxRecDepth 100000 in
set_option maxHeartbeats 4000000 in
theorem X10_has_ct {N : Nat} {l0 : Nat} {l1 : Int} {m : Mem} {out : Int} (h : X10_has N l0 l1 m = some out) : shK l0 = 10 + 10 ∧ CT yX10_has cX10_has 2 (some .int) 2 0 0 [vR l0, vI l1] 312 m (some (vI out)) 312 m := by
  unfold X10_has at h
  obtain ⟨hK, h⟩ := ite_some h
  have hlv : 1 < 2 := by decide
  refine ⟨hK, CT.of (by decide +kernel) rfl (Nat.le_of_ble_eq_true rfl) (ls := [some (vR l0), some (vI l1)]) rfl fun g w C _ => ?_⟩
  refine j_iload_n C dX10_has_0 rfl ?_
  rcases ite_cases h with ⟨c3, h⟩ | ⟨c3, h⟩
  · refine j_tsIn C 68 (0) dX10_has_1 c3 rfl rfl rfl ?_
    refine j_aload_n C dX10_has_68 rfl ?_
    refine j_getR C dX10_has_69 CF10 (by decide) fl_X10_27 rfl rfl h (fun t1 h => ?_)
    refine j_getI C dX10_has_72 CF5 (by decide) fl_X10_136 rfl rfl h (fun t2 h => ?_)
    exact j_ri C dX10_has_75 rfl (Option.some.inj h).symm rfl
  rcases ite_cases h with ⟨c6, h⟩ | ⟨c6, h⟩
  · refine j_tsIn C 76 (1) dX10_has_1 c6 rfl rfl rfl ?_
    refine j_aload_n C dX10_has_76 rfl ?_
    refine j_getR C dX10_has_77 CF10 (by decide) fl_X10_27 rfl rfl h (fun t4 h => ?_)
    refine j_getI C dX10_has_80 CF5 (by decide) fl_X10_139 rfl rfl h (fun t5 h => ?_)
    exact j_ri C dX10_has_83 rfl (Option.some.inj h).symm rfl
  rcases ite_cases h with ⟨c9, h⟩ | ⟨c9, h⟩
  · refine j_tsIn C 84 (2) dX10_has_1 c9 rfl rfl rfl ?_
    refine j_aload_n C dX10_has_84 rfl ?_
    refine j_getR C dX10_has_85 CF10 (by decide) fl_X10_37 rfl rfl h (fun t7 h => ?_)
    obtain ⟨p8, ep8, h⟩ := bind_some h
    have qp8 := X1_walls_ct ep8
    refine j_cVI C dX10_has_88 vl_X10_142 CF1 rfl qp8.1 qp8.2 (by omega) rfl rfl (Nat.le_of_ble_eq_true rfl) ?_
    exact j_ri C dX10_has_91 rfl (Option.some.inj h).symm rfl
  rcases ite_cases h with ⟨c12, h⟩ | ⟨c12, h⟩
  · refine j_tsIn C 92 (3) dX10_has_1 c12 rfl rfl rfl ?_
    refine j_aload_n C dX10_has_92 rfl ?_
    refine j_getR C dX10_has_93 CF10 (by decide) fl_X10_27 rfl rfl h (fun t10 h => ?_)
    obtain ⟨p11, ep11, h⟩ := bind_some h
    have qp11 := X5_houses_ct ep11
    refine j_cVI C dX10_has_96 vl_X10_146 CF5 rfl qp11.1 qp11.2 (by omega) rfl rfl (Nat.le_of_ble_eq_true rfl) ?_
    exact j_ri C dX10_has_99 rfl (Option.some.inj h).symm rfl
  rcases ite_cases h with ⟨c15, h⟩ | ⟨c15, h⟩
  · refine j_tsIn C 100 (4) dX10_has_1 c15 rfl rfl rfl ?_
    refine j_aload_n C dX10_has_100 rfl ?_
    refine j_getR C dX10_has_101 CF10 (by decide) fl_X10_27 rfl rfl h (fun t13 h => ?_)
    refine j_getI C dX10_has_104 CF5 (by decide) fl_X10_149 rfl rfl h (fun t14 h => ?_)
    exact j_ri C dX10_has_107 rfl (Option.some.inj h).symm rfl
  rcases ite_cases h with ⟨c18, h⟩ | ⟨c18, h⟩
  · refine j_tsIn C 108 (5) dX10_has_1 c18 rfl rfl rfl ?_
    refine j_aload_n C dX10_has_108 rfl ?_
    refine j_getR C dX10_has_109 CF10 (by decide) fl_X10_27 rfl rfl h (fun t16 h => ?_)
    refine j_getI C dX10_has_112 CF5 (by decide) fl_X10_152 rfl rfl h (fun t17 h => ?_)
    exact j_ri C dX10_has_115 rfl (Option.some.inj h).symm rfl
  rcases ite_cases h with ⟨c21, h⟩ | ⟨c21, h⟩
  · refine j_tsIn C 116 (6) dX10_has_1 c21 rfl rfl rfl ?_
    refine j_aload_n C dX10_has_116 rfl ?_
    refine j_getR C dX10_has_117 CF10 (by decide) fl_X10_27 rfl rfl h (fun t19 h => ?_)
    refine j_getI C dX10_has_120 CF5 (by decide) fl_X10_155 rfl rfl h (fun t20 h => ?_)
    exact j_ri C dX10_has_123 rfl (Option.some.inj h).symm rfl
  rcases ite_cases h with ⟨c24, h⟩ | ⟨c24, h⟩
  · refine j_tsIn C 124 (7) dX10_has_1 c24 rfl rfl rfl ?_
    refine j_aload_n C dX10_has_124 rfl ?_
    refine j_getR C dX10_has_125 CF10 (by decide) fl_X10_27 rfl rfl h (fun t22 h => ?_)
    refine j_getI C dX10_has_128 CF5 (by decide) fl_X10_158 rfl rfl h (fun t23 h => ?_)
    exact j_ri C dX10_has_131 rfl (Option.some.inj h).symm rfl
  rcases ite_cases h with ⟨c27, h⟩ | ⟨c27, h⟩
  · refine j_tsIn C 132 (8) dX10_has_1 c27 rfl rfl rfl ?_
    refine j_aload_n C dX10_has_132 rfl ?_
    refine j_getR C dX10_has_133 CF10 (by decide) fl_X10_27 rfl rfl h (fun t25 h => ?_)
    refine j_getI C dX10_has_136 CF5 (by decide) fl_X10_161 rfl rfl h (fun t26 h => ?_)
    exact j_ri C dX10_has_139 rfl (Option.some.inj h).symm rfl
  rcases ite_cases h with ⟨c30, h⟩ | ⟨c30, h⟩
  · refine j_tsIn C 140 (9) dX10_has_1 c30 rfl rfl rfl ?_
    refine j_aload_n C dX10_has_140 rfl ?_
    refine j_getR C dX10_has_141 CF10 (by decide) fl_X10_27 rfl rfl h (fun t28 h => ?_)
    refine j_getI C dX10_has_144 CF5 (by decide) fl_X10_164 rfl rfl h (fun t29 h => ?_)
    exact j_ri C dX10_has_147 rfl (Option.some.inj h).symm rfl
  rcases ite_cases h with ⟨c33, h⟩ | ⟨c33, h⟩
  · refine j_tsIn C 148 (10) dX10_has_1 c33 rfl rfl rfl ?_
    refine j_aload_n C dX10_has_148 rfl ?_
    refine j_getR C dX10_has_149 CF10 (by decide) fl_X10_37 rfl rfl h (fun t31 h => ?_)
    refine j_getI C dX10_has_152 CF1 (by decide) fl_X10_167 rfl rfl h (fun t32 h => ?_)
    exact j_ri C dX10_has_155 rfl (Option.some.inj h).symm rfl
  rcases ite_cases h with ⟨c36, h⟩ | ⟨c36, h⟩
  · refine j_tsIn C 156 (11) dX10_has_1 c36 rfl rfl rfl ?_
    refine j_aload_n C dX10_has_156 rfl ?_
    refine j_getR C dX10_has_157 CF10 (by decide) fl_X10_47 rfl rfl h (fun t34 h => ?_)
    refine j_getI C dX10_has_160 CF4 (by decide) fl_X10_170 rfl rfl h (fun t35 h => ?_)
    exact j_ri C dX10_has_163 rfl (Option.some.inj h).symm rfl
  rcases ite_cases h with ⟨c38, h⟩ | ⟨c38, h⟩
  · refine j_tsIn C 164 (12) dX10_has_1 c38 rfl rfl rfl ?_
    refine j_aload_n C dX10_has_164 rfl ?_
    refine j_getI C dX10_has_165 CF10 (by decide) fl_X10_51 rfl rfl h (fun t37 h => ?_)
    exact j_ri C dX10_has_168 rfl (Option.some.inj h).symm rfl
  refine j_tsOut C 169 dX10_has_1 (by omega) rfl ?_
  refine j_iconst C dX10_has_169 rfl ?_
  exact j_ri C dX10_has_170 rfl (Option.some.inj h).symm rfl
theorem dX10_write_0 : decode cX10_write 0 = .ok (.aload_n 0, 1) := by decide +kernel
theorem dX10_write_1 : decode cX10_write 1 = .ok (.getfield 95, 3) := by decide +kernel
theorem dX10_write_4 : decode cX10_write 4 = .ok (.aload_n 0, 1) := by decide +kernel
theorem dX10_write_5 : decode cX10_write 5 = .ok (.getfield 92, 3) := by decide +kernel
theorem dX10_write_8 : decode cX10_write 8 = .ok (.arraylength, 1) := by decide +kernel
theorem dX10_write_9 : decode cX10_write 9 = .ok (.if_icmp .ge 23, 3) := by decide +kernel
theorem dX10_write_12 : decode cX10_write 12 = .ok (.aload_n 0, 1) := by decide +kernel
theorem dX10_write_13 : decode cX10_write 13 = .ok (.getfield 92, 3) := by decide +kernel
theorem dX10_write_16 : decode cX10_write 16 = .ok (.aload_n 0, 1) := by decide +kernel
theorem dX10_write_17 : decode cX10_write 17 = .ok (.getfield 95, 3) := by decide +kernel
theorem dX10_write_20 : decode cX10_write 20 = .ok (.iload_n 1, 1) := by decide +kernel
theorem dX10_write_21 : decode cX10_write 21 = .ok (.iastore, 1) := by decide +kernel
theorem dX10_write_22 : decode cX10_write 22 = .ok (.aload_n 0, 1) := by decide +kernel
theorem dX10_write_23 : decode cX10_write 23 = .ok (.dup, 1) := by decide +kernel
theorem dX10_write_24 : decode cX10_write 24 = .ok (.getfield 95, 3) := by decide +kernel
theorem dX10_write_27 : decode cX10_write 27 = .ok (.iconst 1, 1) := by decide +kernel
theorem dX10_write_28 : decode cX10_write 28 = .ok (.iadd, 1) := by decide +kernel
theorem dX10_write_29 : decode cX10_write 29 = .ok (.putfield 95, 3) := by decide +kernel
theorem dX10_write_32 : decode cX10_write 32 = .ok (.return_, 1) := by decide +kernel
set_option maxRecDepth 100000 in
set_option maxHeartbeats 4000000 in
theorem X10_write_ct {l0 : Nat} {l1 : Int} {m : Mem} {out : Mem} (h : X10_write l0 l1 m = some out) : shK l0 = 10 + 10 ∧ CT yX10_write cX10_write 2 none 1 0 0 [vR l0, vI l1] 312 m none 312 out := by
  unfold X10_write at h
  obtain ⟨hK, h⟩ := ite_some h
  have hlv : 0 < 1 := by decide
  refine ⟨hK, CT.of (by decide +kernel) rfl (Nat.le_of_ble_eq_true rfl) (ls := [some (vR l0), some (vI l1)]) rfl fun g w C _ => ?_⟩
  refine j_aload_n C dX10_write_0 rfl ?_
  refine j_getI C dX10_write_1 CF10 (by decide) fl_X10_95 rfl rfl h (fun t1 h => ?_)
  refine j_aload_n C dX10_write_4 rfl ?_
  refine j_getR C dX10_write_5 CF10 (by decide) fl_X10_92 rfl rfl h (fun t2 h => ?_)
  refine j_alen C dX10_write_8 rfl h (fun t3 h => ?_)
  refine j_icmp_ge C 32 dX10_write_9 rfl h (fun c9 h => ?_) (fun c9 h => ?_)
  · have e := Option.some.inj h
    subst e
    exact j_rv C dX10_write_32 rfl rfl
  · refine j_aload_n C dX10_write_12 rfl ?_
    refine j_getR C dX10_write_13 CF10 (by decide) fl_X10_92 rfl rfl h (fun t4 h => ?_)
    refine j_aload_n C dX10_write_16 rfl ?_
    refine j_getI C dX10_write_17 CF10 (by decide) fl_X10_95 rfl rfl h (fun t5 h => ?_)
    refine j_iload_n C dX10_write_20 rfl ?_
    refine j_iast C dX10_write_21 rfl h (fun m6 h => ?_)
    refine j_aload_n C dX10_write_22 rfl ?_
    refine j_dup C dX10_write_23 rfl ?_
    refine j_getI C dX10_write_24 CF10 (by decide) fl_X10_95 rfl rfl h (fun t7 h => ?_)
    refine j_iconst C dX10_write_27 rfl ?_
    refine j_iadd C dX10_write_28 ?_
    refine j_putI C dX10_write_29 CF10 (by decide) fl_X10_95 rfl rfl rfl rfl h (fun m8 h => ?_)
    have e := Option.some.inj h
    subst e
    exact j_rv C dX10_write_32 rfl rfl
theorem dX10_writeTwo_0 : decode cX10_writeTwo 0 = .ok (.aload_n 0, 1) := by decide +kernel
theorem dX10_writeTwo_1 : decode cX10_writeTwo 1 = .ok (.iload_n 1, 1) := by decide +kernel
theorem dX10_writeTwo_2 : decode cX10_writeTwo 2 = .ok (.bipush 8, 2) := by decide +kernel
theorem dX10_writeTwo_4 : decode cX10_writeTwo 4 = .ok (.ishr, 1) := by decide +kernel
theorem dX10_writeTwo_5 : decode cX10_writeTwo 5 = .ok (.sipush 255, 3) := by decide +kernel
theorem dX10_writeTwo_8 : decode cX10_writeTwo 8 = .ok (.iand, 1) := by decide +kernel
theorem dX10_writeTwo_9 : decode cX10_writeTwo 9 = .ok (.invokevirtual 403, 3) := by decide +kernel
theorem dX10_writeTwo_12 : decode cX10_writeTwo 12 = .ok (.aload_n 0, 1) := by decide +kernel
theorem dX10_writeTwo_13 : decode cX10_writeTwo 13 = .ok (.iload_n 1, 1) := by decide +kernel
theorem dX10_writeTwo_14 : decode cX10_writeTwo 14 = .ok (.sipush 255, 3) := by decide +kernel
theorem dX10_writeTwo_17 : decode cX10_writeTwo 17 = .ok (.iand, 1) := by decide +kernel
theorem dX10_writeTwo_18 : decode cX10_writeTwo 18 = .ok (.invokevirtual 403, 3) := by decide +kernel
theorem dX10_writeTwo_21 : decode cX10_writeTwo 21 = .ok (.return_, 1) := by decide +kernel
set_option maxRecDepth 100000 in
set_option maxHeartbeats 4000000 in
theorem X10_writeTwo_ct {l0 : Nat} {l1 : Int} {m : Mem} {out : Mem} (h : X10_writeTwo l0 l1 m = some out) : shK l0 = 10 + 10 ∧ CT yX10_writeTwo cX10_writeTwo 2 none 2 0 0 [vR l0, vI l1] 312 m none 312 out := by
  unfold X10_writeTwo at h
  obtain ⟨hK, h⟩ := ite_some h
  have hlv : 1 < 2 := by decide
  refine ⟨hK, CT.of (by decide +kernel) rfl (Nat.le_of_ble_eq_true rfl) (ls := [some (vR l0), some (vI l1)]) rfl fun g w C _ => ?_⟩
  refine j_aload_n C dX10_writeTwo_0 rfl ?_
  refine j_iload_n C dX10_writeTwo_1 rfl ?_
  refine j_bipush C dX10_writeTwo_2 rfl ?_
  refine j_ishr C dX10_writeTwo_4 ?_
  refine j_sipush C dX10_writeTwo_5 rfl ?_
  refine j_iand C dX10_writeTwo_8 ?_
  obtain ⟨p1, ep1, h⟩ := bind_some h
  have qp1 := X10_write_ct ep1
  refine j_cVV C dX10_writeTwo_9 vl_X10_403 CF10 rfl qp1.1 qp1.2 (by omega) rfl rfl (Nat.le_of_ble_eq_true rfl) ?_
  refine j_aload_n C dX10_writeTwo_12 rfl ?_
  refine j_iload_n C dX10_writeTwo_13 rfl ?_
  refine j_sipush C dX10_writeTwo_14 rfl ?_
  refine j_iand C dX10_writeTwo_17 ?_
  obtain ⟨p2, ep2, h⟩ := bind_some h
  have qp2 := X10_write_ct ep2
  refine j_cVV C dX10_writeTwo_18 vl_X10_403 CF10 rfl qp2.1 qp2.2 (by omega) rfl rfl (Nat.le_of_ble_eq_true rfl) ?_
  have e := Option.some.inj h
  subst e
  exact j_rv C dX10_writeTwo_21 rfl rfl
theorem dX10_image_0 : decode cX10_image 0 = .ok (.aload_n 0, 1) := by decide +kernel
theorem dX10_image_1 : decode cX10_image 1 = .ok (.iconst 0, 1) := by decide +kernel
theorem dX10_image_2 : decode cX10_image 2 = .ok (.putfield 95, 3) := by decide +kernel
theorem dX10_image_5 : decode cX10_image 5 = .ok (.aload_n 0, 1) := by decide +kernel
theorem dX10_image_6 : decode cX10_image 6 = .ok (.aload_n 0, 1) := by decide +kernel
theorem dX10_image_7 : decode cX10_image 7 = .ok (.getfield 37, 3) := by decide +kernel
theorem dX10_image_10 : decode cX10_image 10 = .ok (.getfield 167, 3) := by decide +kernel
theorem dX10_image_13 : decode cX10_image 13 = .ok (.invokevirtual 400, 3) := by decide +kernel
theorem dX10_image_16 : decode cX10_image 16 = .ok (.iconst 0, 1) := by decide +kernel
theorem dX10_image_17 : decode cX10_image 17 = .ok (.istore_n 1, 1) := by decide +kernel
theorem dX10_image_18 : decode cX10_image 18 = .ok (.iload_n 1, 1) := by decide +kernel
theorem dX10_image_19 : decode cX10_image 19 = .ok (.aload_n 0, 1) := by decide +kernel
theorem dX10_image_20 : decode cX10_image 20 = .ok (.getfield 27, 3) := by decide +kernel
theorem dX10_image_23 : decode cX10_image 23 = .ok (.invokevirtual 375, 3) := by decide +kernel
theorem dX10_image_26 : decode cX10_image 26 = .ok (.if_icmp .ge 22, 3) := by decide +kernel
theorem dX10_image_29 : decode cX10_image 29 = .ok (.aload_n 0, 1) := by decide +kernel
theorem dX10_image_30 : decode cX10_image 30 = .ok (.aload_n 0, 1) := by decide +kernel
theorem dX10_image_31 : decode cX10_image 31 = .ok (.getfield 37, 3) := by decide +kernel
theorem dX10_image_34 : decode cX10_image 34 = .ok (.getfield 297, 3) := by decide +kernel
theorem dX10_image_37 : decode cX10_image 37 = .ok (.iload_n 1, 1) := by decide +kernel
theorem dX10_image_38 : decode cX10_image 38 = .ok (.iaload, 1) := by decide +kernel
theorem dX10_image_39 : decode cX10_image 39 = .ok (.invokevirtual 403, 3) := by decide +kernel
theorem dX10_image_42 : decode cX10_image 42 = .ok (.iinc 1 1, 3) := by decide +kernel
theorem dX10_image_45 : decode cX10_image 45 = .ok (.goto (-27), 3) := by decide +kernel
theorem dX10_image_48 : decode cX10_image 48 = .ok (.iconst 0, 1) := by decide +kernel
theorem dX10_image_49 : decode cX10_image 49 = .ok (.istore_n 1, 1) := by decide +kernel
theorem dX10_image_50 : decode cX10_image 50 = .ok (.iload_n 1, 1) := by decide +kernel
theorem dX10_image_51 : decode cX10_image 51 = .ok (.aload_n 0, 1) := by decide +kernel
theorem dX10_image_52 : decode cX10_image 52 = .ok (.getfield 27, 3) := by decide +kernel
theorem dX10_image_55 : decode cX10_image 55 = .ok (.getfield 155, 3) := by decide +kernel
theorem dX10_image_58 : decode cX10_image 58 = .ok (.if_icmp .ge 30, 3) := by decide +kernel
theorem dX10_image_61 : decode cX10_image 61 = .ok (.aload_n 0, 1) := by decide +kernel
theorem dX10_image_62 : decode cX10_image 62 = .ok (.aload_n 0, 1) := by decide +kernel
theorem dX10_image_63 : decode cX10_image 63 = .ok (.getfield 37, 3) := by decide +kernel
theorem dX10_image_66 : decode cX10_image 66 = .ok (.getfield 214, 3) := by decide +kernel
theorem dX10_image_69 : decode cX10_image 69 = .ok (.aload_n 0, 1) := by decide +kernel
theorem dX10_image_70 : decode cX10_image 70 = .ok (.getfield 27, 3) := by decide +kernel
theorem dX10_image_73 : decode cX10_image 73 = .ok (.getfield 291, 3) := by decide +kernel
theorem dX10_image_76 : decode cX10_image 76 = .ok (.iload_n 1, 1) := by decide +kernel
theorem dX10_image_77 : decode cX10_image 77 = .ok (.iaload, 1) := by decide +kernel
theorem dX10_image_78 : decode cX10_image 78 = .ok (.iaload, 1) := by decide +kernel
theorem dX10_image_79 : decode cX10_image 79 = .ok (.invokevirtual 403, 3) := by decide +kernel
theorem dX10_image_82 : decode cX10_image 82 = .ok (.iinc 1 1, 3) := by decide +kernel
theorem dX10_image_85 : decode cX10_image 85 = .ok (.goto (-35), 3) := by decide +kernel
theorem dX10_image_88 : decode cX10_image 88 = .ok (.iconst 0, 1) := by decide +kernel
theorem dX10_image_89 : decode cX10_image 89 = .ok (.istore_n 1, 1) := by decide +kernel
theorem dX10_image_90 : decode cX10_image 90 = .ok (.iload_n 1, 1) := by decide +kernel
theorem dX10_image_91 : decode cX10_image 91 = .ok (.aload_n 0, 1) := by decide +kernel
theorem dX10_image_92 : decode cX10_image 92 = .ok (.getfield 27, 3) := by decide +kernel
theorem dX10_image_95 : decode cX10_image 95 = .ok (.getfield 149, 3) := by decide +kernel
theorem dX10_image_98 : decode cX10_image 98 = .ok (.if_icmp .ge 22, 3) := by decide +kernel
theorem dX10_image_101 : decode cX10_image 101 = .ok (.aload_n 0, 1) := by decide +kernel
theorem dX10_image_102 : decode cX10_image 102 = .ok (.aload_n 0, 1) := by decide +kernel
theorem dX10_image_103 : decode cX10_image 103 = .ok (.getfield 37, 3) := by decide +kernel
theorem dX10_image_106 : decode cX10_image 106 = .ok (.getfield 236, 3) := by decide +kernel
theorem dX10_image_109 : decode cX10_image 109 = .ok (.iload_n 1, 1) := by decide +kernel
theorem dX10_image_110 : decode cX10_image 110 = .ok (.iaload, 1) := by decide +kernel
theorem dX10_image_111 : decode cX10_image 111 = .ok (.invokevirtual 400, 3) := by decide +kernel
theorem dX10_image_114 : decode cX10_image 114 = .ok (.iinc 1 1, 3) := by decide +kernel
theorem dX10_image_117 : decode cX10_image 117 = .ok (.goto (-27), 3) := by decide +kernel
theorem dX10_image_120 : decode cX10_image 120 = .ok (.aload_n 0, 1) := by decide +kernel
theorem dX10_image_121 : decode cX10_image 121 = .ok (.aload_n 0, 1) := by decide +kernel
theorem dX10_image_122 : decode cX10_image 122 = .ok (.getfield 92, 3) := by decide +kernel
theorem dX10_image_125 : decode cX10_image 125 = .ok (.aload_n 0, 1) := by decide +kernel
theorem dX10_image_126 : decode cX10_image 126 = .ok (.getfield 95, 3) := by decide +kernel
theorem dX10_image_129 : decode cX10_image 129 = .ok (.invokestatic 406, 3) := by decide +kernel
theorem dX10_image_132 : decode cX10_image 132 = .ok (.invokevirtual 403, 3) := by decide +kernel
theorem dX10_image_135 : decode cX10_image 135 = .ok (.aload_n 0, 1) := by decide +kernel
theorem dX10_image_136 : decode cX10_image 136 = .ok (.getfield 95, 3) := by decide +kernel
theorem dX10_image_139 : decode cX10_image 139 = .ok (.ireturn, 1) := by decide +kernel
set_option maxRecDepth 100000 in
set_option maxHeartbeats 4000000 in
theorem X10_image_L18_bok {g : Gm} {w : Wd} (C : Cx g w RX10 cX10_image 2 (some .int)) {lv : Nat} (hlv : 2 < lv) {N : Nat} {k48 : Nat → Mem → Option (Int × Mem)} {r18 : Nat → Int → Mem → Option (Int × Mem)} {l0 : Nat} {l1 : Int} {m : Mem} {out : (Int × Mem)} (hk48 : ∀ l0 m, k48 l0 m = some out → Jd g w 2 (rmL lv 0 0) (Qm g w (some (vI out.1)) out.2) 48 [some (vR l0), none] [] 312 m 0 0) (hr18 : ∀ l0 l1 m, r18 l0 l1 m = some out → Jd g w 2 (rmL lv 0 0) (Qm g w (some (vI out.1)) out.2) 18 [some (vR l0), some (vI l1)] [] 312 m 0 0) (h : X10_image_L18_b N k48 r18 l0 l1 m = some out) : Jd g w 2 (rmL lv 0 0) (Qm g w (some (vI out.1)) out.2) 18 [some (vR l0), some (vI l1)] [] 312 m 0 0 := by
  unfold X10_image_L18_b at h
  refine j_iload_n C dX10_image_18 rfl ?_
  refine j_aload_n C dX10_image_19 rfl ?_
  refine j_getR C dX10_image_20 CF10 (by decide) fl_X10_27 rfl rfl h (fun t5 h => ?_)
  obtain ⟨p6, ep6, h⟩ := bind_some h
  have qp6 := X5_cells_ct ep6
  refine j_cVI C dX10_image_23 vl_X10_375 CF5 rfl qp6.1 qp6.2 (by omega) rfl rfl (Nat.le_of_ble_eq_true rfl) ?_
  refine j_icmp_ge C 48 dX10_image_26 rfl h (fun c11 h => ?_) (fun c11 h => ?_)
  · refine j_mask [true, false] (ls' := [some (vR _), none]) rfl ?_
    exact hk48 _ _ h
  · refine j_aload_n C dX10_image_29 rfl ?_
    refine j_aload_n C dX10_image_30 rfl ?_
    refine j_getR C dX10_image_31 CF10 (by decide) fl_X10_37 rfl rfl h (fun t7 h => ?_)
    refine j_getR C dX10_image_34 CF1 (by decide) fl_X10_297 rfl rfl h (fun t8 h => ?_)
    refine j_iload_n C dX10_image_37 rfl ?_
    refine j_iald C dX10_image_38 rfl h (fun t9 h => ?_)
    obtain ⟨p10, ep10, h⟩ := bind_some h
    have qp10 := X10_write_ct ep10
    refine j_cVV C dX10_image_39 vl_X10_403 CF10 rfl qp10.1 qp10.2 (by omega) rfl rfl (Nat.le_of_ble_eq_true rfl) ?_
    refine j_iinc (ls' := [some (vR _), some (vI _)]) C dX10_image_42 rfl (by decide) rfl ?_
    refine j_goto C 18 dX10_image_45 rfl ?_
    exact hr18 _ _ _ h
set_option maxRecDepth 100000 in
set_option maxHeartbeats 4000000 in
theorem X10_image_L18_ok {g : Gm} {w : Wd} (C : Cx g w RX10 cX10_image 2 (some .int)) {lv : Nat} (hlv : 2 < lv) {N : Nat} {k48 : Nat → Mem → Option (Int × Mem)} {out : (Int × Mem)} (hk48 : ∀ l0 m, k48 l0 m = some out → Jd g w 2 (rmL lv 0 0) (Qm g w (some (vI out.1)) out.2) 48 [some (vR l0), none] [] 312 m 0 0) (f : Nat) : ∀ {l0 : Nat} {l1 : Int} {m : Mem}, X10_image_L18 N k48 f l0 l1 m = some out → Jd g w 2 (rmL lv 0 0) (Qm g w (some (vI out.1)) out.2) 18 [some (vR l0), some (vI l1)] [] 312 m 0 0 := by
  induction f with
  | zero => intro l0 l1 m h; exact none_ne (α := (Int × Mem)) h
  | succ f ih => intro l0 l1 m h; exact X10_image_L18_bok C hlv hk48 (fun l0 l1 m h => ih h) h
set_option maxRecDepth 100000 in
set_option maxHeartbeats 4000000 in
theorem X10_image_L50_bok {g : Gm} {w : Wd} (C : Cx g w RX10 cX10_image 2 (some .int)) {lv : Nat} (hlv : 2 < lv) {N : Nat} {k88 : Nat → Mem → Option (Int × Mem)} {r50 : Nat → Int → Mem → Option (Int × Mem)} {l0 : Nat} {l1 : Int} {m : Mem} {out : (Int × Mem)} (hk88 : ∀ l0 m, k88 l0 m = some out → Jd g w 2 (rmL lv 0 0) (Qm g w (some (vI out.1)) out.2) 88 [some (vR l0), none] [] 312 m 0 0) (hr50 : ∀ l0 l1 m, r50 l0 l1 m = some out → Jd g w 2 (rmL lv 0 0) (Qm g w (some (vI out.1)) out.2) 50 [some (vR l0), some (vI l1)] [] 312 m 0 0) (h : X10_image_L50_b N k88 r50 l0 l1 m = some out) : Jd g w 2 (rmL lv 0 0) (Qm g w (some (vI out.1)) out.2) 50 [some (vR l0), some (vI l1)] [] 312 m 0 0 := by
  unfold X10_image_L50_b at h
  refine j_iload_n C dX10_image_50 rfl ?_
  refine j_aload_n C dX10_image_51 rfl ?_
  refine j_getR C dX10_image_52 CF10 (by decide) fl_X10_27 rfl rfl h (fun t14 h => ?_)
  refine j_getI C dX10_image_55 CF5 (by decide) fl_X10_155 rfl rfl h (fun t15 h => ?_)
  refine j_icmp_ge C 88 dX10_image_58 rfl h (fun c23 h => ?_) (fun c23 h => ?_)
  · refine j_mask [true, false] (ls' := [some (vR _), none]) rfl ?_
    exact hk88 _ _ h
  · refine j_aload_n C dX10_image_61 rfl ?_
    refine j_aload_n C dX10_image_62 rfl ?_
    refine j_getR C dX10_image_63 CF10 (by decide) fl_X10_37 rfl rfl h (fun t16 h => ?_)
    refine j_getR C dX10_image_66 CF1 (by decide) fl_X10_214 rfl rfl h (fun t17 h => ?_)
    refine j_aload_n C dX10_image_69 rfl ?_
    refine j_getR C dX10_image_70 CF10 (by decide) fl_X10_27 rfl rfl h (fun t18 h => ?_)
    refine j_getR C dX10_image_73 CF5 (by decide) fl_X10_291 rfl rfl h (fun t19 h => ?_)
    refine j_iload_n C dX10_image_76 rfl ?_
    refine j_iald C dX10_image_77 rfl h (fun t20 h => ?_)
    refine j_iald C dX10_image_78 rfl h (fun t21 h => ?_)
    obtain ⟨p22, ep22, h⟩ := bind_some h
    have qp22 := X10_write_ct ep22
    refine j_cVV C dX10_image_79 vl_X10_403 CF10 rfl qp22.1 qp22.2 (by omega) rfl rfl (Nat.le_of_ble_eq_true rfl) ?_
    refine j_iinc (ls' := [some (vR _), some (vI _)]) C dX10_image_82 rfl (by decide) rfl ?_
    refine j_goto C 50 dX10_image_85 rfl ?_
    exact hr50 _ _ _ h
set_option maxRecDepth 100000 in
set_option maxHeartbeats 4000000 in
theorem X10_image_L50_ok {g : Gm} {w : Wd} (C : Cx g w RX10 cX10_image 2 (some .int)) {lv : Nat} (hlv : 2 < lv) {N : Nat} {k88 : Nat → Mem → Option (Int × Mem)} {out : (Int × Mem)} (hk88 : ∀ l0 m, k88 l0 m = some out → Jd g w 2 (rmL lv 0 0) (Qm g w (some (vI out.1)) out.2) 88 [some (vR l0), none] [] 312 m 0 0) (f : Nat) : ∀ {l0 : Nat} {l1 : Int} {m : Mem}, X10_image_L50 N k88 f l0 l1 m = some out → Jd g w 2 (rmL lv 0 0) (Qm g w (some (vI out.1)) out.2) 50 [some (vR l0), some (vI l1)] [] 312 m 0 0 := by
  induction f with
  | zero => intro l0 l1 m h; exact none_ne (α := (Int × Mem)) h
  | succ f ih => intro l0 l1 m h; exact X10_image_L50_bok C hlv hk88 (fun l0 l1 m h => ih h) h
set_option maxRecDepth 100000 in
set_option maxHeartbeats 4000000 in
theorem X10_image_L90_bok {g : Gm} {w : Wd} (C : Cx g w RX10 cX10_image 2 (some .int)) {lv : Nat} (hlv : 2 < lv) {N : Nat} {k120 : Nat → Mem → Option (Int × Mem)} {r90 : Nat → Int → Mem → Option (Int × Mem)} {l0 : Nat} {l1 : Int} {m : Mem} {out : (Int × Mem)} (hk120 : ∀ l0 m, k120 l0 m = some out → Jd g w 2 (rmL lv 0 0) (Qm g w (some (vI out.1)) out.2) 120 [some (vR l0), none] [] 312 m 0 0) (hr90 : ∀ l0 l1 m, r90 l0 l1 m = some out → Jd g w 2 (rmL lv 0 0) (Qm g w (some (vI out.1)) out.2) 90 [some (vR l0), some (vI l1)] [] 312 m 0 0) (h : X10_image_L90_b N k120 r90 l0 l1 m = some out) : Jd g w 2 (rmL lv 0 0) (Qm g w (some (vI out.1)) out.2) 90 [some (vR l0), some (vI l1)] [] 312 m 0 0 := by
  unfold X10_image_L90_b at h
  refine j_iload_n C dX10_image_90 rfl ?_
  refine j_aload_n C dX10_image_91 rfl ?_
  refine j_getR C dX10_image_92 CF10 (by decide) fl_X10_27 rfl rfl h (fun t26 h => ?_)
  refine j_getI C dX10_image_95 CF5 (by decide) fl_X10_149 rfl rfl h (fun t27 h => ?_)
  refine j_icmp_ge C 120 dX10_image_98 rfl h (fun c32 h => ?_) (fun c32 h => ?_)
  · refine j_mask [true, false] (ls' := [some (vR _), none]) rfl ?_
    exact hk120 _ _ h
  · refine j_aload_n C dX10_image_101 rfl ?_
    refine j_aload_n C dX10_image_102 rfl ?_
    refine j_getR C dX10_image_103 CF10 (by decide) fl_X10_37 rfl rfl h (fun t28 h => ?_)
    refine j_getR C dX10_image_106 CF1 (by decide) fl_X10_236 rfl rfl h (fun t29 h => ?_)
    refine j_iload_n C dX10_image_109 rfl ?_
    refine j_iald C dX10_image_110 rfl h (fun t30 h => ?_)
    obtain ⟨p31, ep31, h⟩ := bind_some h
    have qp31 := X10_writeTwo_ct ep31
    refine j_cVV C dX10_image_111 vl_X10_400 CF10 rfl qp31.1 qp31.2 (by omega) rfl rfl (Nat.le_of_ble_eq_true rfl) ?_
    refine j_iinc (ls' := [some (vR _), some (vI _)]) C dX10_image_114 rfl (by decide) rfl ?_
    refine j_goto C 90 dX10_image_117 rfl ?_
    exact hr90 _ _ _ h
set_option maxRecDepth 100000 in
set_option maxHeartbeats 4000000 in
theorem X10_image_L90_ok {g : Gm} {w : Wd} (C : Cx g w RX10 cX10_image 2 (some .int)) {lv : Nat} (hlv : 2 < lv) {N : Nat} {k120 : Nat → Mem → Option (Int × Mem)} {out : (Int × Mem)} (hk120 : ∀ l0 m, k120 l0 m = some out → Jd g w 2 (rmL lv 0 0) (Qm g w (some (vI out.1)) out.2) 120 [some (vR l0), none] [] 312 m 0 0) (f : Nat) : ∀ {l0 : Nat} {l1 : Int} {m : Mem}, X10_image_L90 N k120 f l0 l1 m = some out → Jd g w 2 (rmL lv 0 0) (Qm g w (some (vI out.1)) out.2) 90 [some (vR l0), some (vI l1)] [] 312 m 0 0 := by
  induction f with
  | zero => intro l0 l1 m h; exact none_ne (α := (Int × Mem)) h
  | succ f ih => intro l0 l1 m h; exact X10_image_L90_bok C hlv hk120 (fun l0 l1 m h => ih h) h
set_option maxRecDepth 100000 in
set_option maxHeartbeats 4000000 in
theorem X10_image_ct {N : Nat} {l0 : Nat} {m : Mem} {out : (Int × Mem)} (h : X10_image N l0 m = some out) : shK l0 = 10 + 10 ∧ CT yX10_image cX10_image 2 (some .int) 3 0 0 [vR l0] 312 m (some (vI out.1)) 312 out.2 := by
  unfold X10_image at h
  obtain ⟨hK, h⟩ := ite_some h
  have hlv : 2 < 3 := by decide
  refine ⟨hK, CT.of (by decide +kernel) rfl (Nat.le_of_ble_eq_true rfl) (ls := [some (vR l0), none]) rfl fun g w C _ => ?_⟩
  refine j_aload_n C dX10_image_0 rfl ?_
  refine j_iconst C dX10_image_1 rfl ?_
  refine j_putI C dX10_image_2 CF10 (by decide) fl_X10_95 rfl rfl rfl rfl h (fun m1 h => ?_)
  refine j_aload_n C dX10_image_5 rfl ?_
  refine j_aload_n C dX10_image_6 rfl ?_
  refine j_getR C dX10_image_7 CF10 (by decide) fl_X10_37 rfl rfl h (fun t2 h => ?_)
  refine j_getI C dX10_image_10 CF1 (by decide) fl_X10_167 rfl rfl h (fun t3 h => ?_)
  obtain ⟨p4, ep4, h⟩ := bind_some h
  have qp4 := X10_writeTwo_ct ep4
  refine j_cVV C dX10_image_13 vl_X10_400 CF10 rfl qp4.1 qp4.2 (by omega) rfl rfl (Nat.le_of_ble_eq_true rfl) ?_
  refine j_iconst C dX10_image_16 rfl ?_
  refine j_istore_n (ls' := [some (vR _), some (vI _)]) C dX10_image_17 (by decide) rfl ?_
  refine X10_image_L18_ok C hlv (fun z12 m13 h => ?_) N h
  refine j_iconst C dX10_image_48 rfl ?_
  refine j_istore_n (ls' := [some (vR _), some (vI _)]) C dX10_image_49 (by decide) rfl ?_
  refine X10_image_L50_ok C hlv (fun z24 m25 h => ?_) N h
  refine j_iconst C dX10_image_88 rfl ?_
  refine j_istore_n (ls' := [some (vR _), some (vI _)]) C dX10_image_89 (by decide) rfl ?_
  refine X10_image_L90_ok C hlv (fun z33 m34 h => ?_) N h
  refine j_aload_n C dX10_image_120 rfl ?_
  refine j_aload_n C dX10_image_121 rfl ?_
  refine j_getR C dX10_image_122 CF10 (by decide) fl_X10_92 rfl rfl h (fun t35 h => ?_)
  refine j_aload_n C dX10_image_125 rfl ?_
  refine j_getI C dX10_image_126 CF10 (by decide) fl_X10_95 rfl rfl h (fun t36 h => ?_)
  obtain ⟨p37, ep37, h⟩ := bind_some h
  have qp37 := X10_checkOf_ct ep37
  refine j_cSI C dX10_image_129 sl_X10_406 qp37 (by omega) rfl rfl (Nat.le_of_ble_eq_true rfl) ?_
  obtain ⟨p38, ep38, h⟩ := bind_some h
  have qp38 := X10_write_ct ep38
  refine j_cVV C dX10_image_132 vl_X10_403 CF10 rfl qp38.1 qp38.2 (by omega) rfl rfl (Nat.le_of_ble_eq_true rfl) ?_
  refine j_aload_n C dX10_image_135 rfl ?_
  refine j_getI C dX10_image_136 CF10 (by decide) fl_X10_95 rfl rfl h (fun t39 h => ?_)
  have e := Option.some.inj h
  subst e
  exact j_ri C dX10_image_139 rfl rfl rfl
theorem dX10_twoAt_0 : decode cX10_twoAt 0 = .ok (.aload_n 0, 1) := by decide +kernel
theorem dX10_twoAt_1 : decode cX10_twoAt 1 = .ok (.getfield 9, 3) := by decide +kernel
theorem dX10_twoAt_4 : decode cX10_twoAt 4 = .ok (.iload_n 1, 1) := by decide +kernel
theorem dX10_twoAt_5 : decode cX10_twoAt 5 = .ok (.iaload, 1) := by decide +kernel
theorem dX10_twoAt_6 : decode cX10_twoAt 6 = .ok (.sipush 256, 3) := by decide +kernel
theorem dX10_twoAt_9 : decode cX10_twoAt 9 = .ok (.imul, 1) := by decide +kernel
theorem dX10_twoAt_10 : decode cX10_twoAt 10 = .ok (.aload_n 0, 1) := by decide +kernel
theorem dX10_twoAt_11 : decode cX10_twoAt 11 = .ok (.getfield 9, 3) := by decide +kernel
theorem dX10_twoAt_14 : decode cX10_twoAt 14 = .ok (.iload_n 1, 1) := by decide +kernel
theorem dX10_twoAt_15 : decode cX10_twoAt 15 = .ok (.iconst 1, 1) := by decide +kernel
theorem dX10_twoAt_16 : decode cX10_twoAt 16 = .ok (.iadd, 1) := by decide +kernel
theorem dX10_twoAt_17 : decode cX10_twoAt 17 = .ok (.iaload, 1) := by decide +kernel
theorem dX10_twoAt_18 : decode cX10_twoAt 18 = .ok (.iadd, 1) := by decide +kernel
theorem dX10_twoAt_19 : decode cX10_twoAt 19 = .ok (.ireturn, 1) := by decide +kernel
set_option maxRecDepth 100000 in
set_option maxHeartbeats 4000000 in
theorem X10_twoAt_ct {l0 : Nat} {l1 : Int} {m : Mem} {out : Int} (h : X10_twoAt l0 l1 m = some out) : shK l0 = 10 + 10 ∧ CT yX10_twoAt cX10_twoAt 2 (some .int) 1 0 0 [vR l0, vI l1] 312 m (some (vI out)) 312 m := by
  unfold X10_twoAt at h
  obtain ⟨hK, h⟩ := ite_some h
  have hlv : 0 < 1 := by decide
  refine ⟨hK, CT.of (by decide +kernel) rfl (Nat.le_of_ble_eq_true rfl) (ls := [some (vR l0), some (vI l1)]) rfl fun g w C _ => ?_⟩
  refine j_aload_n C dX10_twoAt_0 rfl ?_
  refine j_getR C dX10_twoAt_1 CF10 (by decide) fl_X10_9 rfl rfl h (fun t1 h => ?_)
  refine j_iload_n C dX10_twoAt_4 rfl ?_
  refine j_iald C dX10_twoAt_5 rfl h (fun t2 h => ?_)
  refine j_sipush C dX10_twoAt_6 rfl ?_
  refine j_imul C dX10_twoAt_9 ?_
  refine j_aload_n C dX10_twoAt_10 rfl ?_
  refine j_getR C dX10_twoAt_11 CF10 (by decide) fl_X10_9 rfl rfl h (fun t3 h => ?_)
  refine j_iload_n C dX10_twoAt_14 rfl ?_
  refine j_iconst C dX10_twoAt_15 rfl ?_
  refine j_iadd C dX10_twoAt_16 ?_
  refine j_iald C dX10_twoAt_17 rfl h (fun t4 h => ?_)
  refine j_iadd C dX10_twoAt_18 ?_
  exact j_ri C dX10_twoAt_19 rfl (Option.some.inj h).symm rfl
theorem dX10_wallsCanBe_0 : decode cX10_wallsCanBe 0 = .ok (.iconst 0, 1) := by decide +kernel
theorem dX10_wallsCanBe_1 : decode cX10_wallsCanBe 1 = .ok (.istore_n 1, 1) := by decide +kernel
theorem dX10_wallsCanBe_2 : decode cX10_wallsCanBe 2 = .ok (.iload_n 1, 1) := by decide +kernel
theorem dX10_wallsCanBe_3 : decode cX10_wallsCanBe 3 = .ok (.aload_n 0, 1) := by decide +kernel
theorem dX10_wallsCanBe_4 : decode cX10_wallsCanBe 4 = .ok (.getfield 27, 3) := by decide +kernel
theorem dX10_wallsCanBe_7 : decode cX10_wallsCanBe 7 = .ok (.invokevirtual 375, 3) := by decide +kernel
theorem dX10_wallsCanBe_10 : decode cX10_wallsCanBe 10 = .ok (.if_icmp .ge 42, 3) := by decide +kernel
theorem dX10_wallsCanBe_13 : decode cX10_wallsCanBe 13 = .ok (.aload_n 0, 1) := by decide +kernel
theorem dX10_wallsCanBe_14 : decode cX10_wallsCanBe 14 = .ok (.getfield 9, 3) := by decide +kernel
theorem dX10_wallsCanBe_17 : decode cX10_wallsCanBe 17 = .ok (.iload_n 1, 1) := by decide +kernel
theorem dX10_wallsCanBe_18 : decode cX10_wallsCanBe 18 = .ok (.invokestatic 416, 3) := by decide +kernel
theorem dX10_wallsCanBe_21 : decode cX10_wallsCanBe 21 = .ok (.iaload, 1) := by decide +kernel
theorem dX10_wallsCanBe_22 : decode cX10_wallsCanBe 22 = .ok (.istore_n 2, 1) := by decide +kernel
theorem dX10_wallsCanBe_23 : decode cX10_wallsCanBe 23 = .ok (.iload_n 2, 1) := by decide +kernel
theorem dX10_wallsCanBe_24 : decode cX10_wallsCanBe 24 = .ok (.iconst 1, 1) := by decide +kernel
theorem dX10_wallsCanBe_25 : decode cX10_wallsCanBe 25 = .ok (.if_icmp .gt 19, 3) := by decide +kernel
theorem dX10_wallsCanBe_28 : decode cX10_wallsCanBe 28 = .ok (.iload_n 2, 1) := by decide +kernel
theorem dX10_wallsCanBe_29 : decode cX10_wallsCanBe 29 = .ok (.iconst 1, 1) := by decide +kernel
theorem dX10_wallsCanBe_30 : decode cX10_wallsCanBe 30 = .ok (.if_icmp .ne 16, 3) := by decide +kernel
theorem dX10_wallsCanBe_33 : decode cX10_wallsCanBe 33 = .ok (.aload_n 0, 1) := by decide +kernel
theorem dX10_wallsCanBe_34 : decode cX10_wallsCanBe 34 = .ok (.getfield 27, 3) := by decide +kernel
theorem dX10_wallsCanBe_37 : decode cX10_wallsCanBe 37 = .ok (.iload_n 1, 1) := by decide +kernel
theorem dX10_wallsCanBe_38 : decode cX10_wallsCanBe 38 = .ok (.invokevirtual 431, 3) := by decide +kernel
theorem dX10_wallsCanBe_41 : decode cX10_wallsCanBe 41 = .ok (.ifCond .eq 5, 3) := by decide +kernel
theorem dX10_wallsCanBe_44 : decode cX10_wallsCanBe 44 = .ok (.iconst 0, 1) := by decide +kernel
theorem dX10_wallsCanBe_45 : decode cX10_wallsCanBe 45 = .ok (.ireturn, 1) := by decide +kernel
theorem dX10_wallsCanBe_46 : decode cX10_wallsCanBe 46 = .ok (.iinc 1 1, 3) := by decide +kernel
theorem dX10_wallsCanBe_49 : decode cX10_wallsCanBe 49 = .ok (.goto (-47), 3) := by decide +kernel
theorem dX10_wallsCanBe_52 : decode cX10_wallsCanBe 52 = .ok (.iconst 1, 1) := by decide +kernel
theorem dX10_wallsCanBe_53 : decode cX10_wallsCanBe 53 = .ok (.ireturn, 1) := by decide +kernel
set_option maxRecDepth 100000 in
set_option maxHeartbeats 4000000 in
theorem X10_wallsCanBe_J46_ok {g : Gm} {w : Wd} (C : Cx g w RX10 cX10_wallsCanBe 3 (some .boolean)) {lv : Nat} (hlv : 2 < lv) {N : Nat} {r2 : Nat → Int → Option Int } {l0 : Nat} {l1 : Int} {m : Mem} {out : Int} (hr2 : ∀ l0 l1, r2 l0 l1 = some out → Jd g w 3 (rmL lv 0 0) (Qm g w (some (vI out)) m) 2 [some (vR l0), some (vI l1), none] [] 312 m 0 0) (h : X10_wallsCanBe_J46 N r2 l0 l1 m = some out) : Jd g w 3 (rmL lv 0 0) (Qm g w (some (vI out)) m) 46 [some (vR l0), some (vI l1), none] [] 312 m 0 0 := by
  unfold X10_wallsCanBe_J46 at h
  refine j_iinc (ls' := [some (vR _), some (vI _), none]) C dX10_wallsCanBe_46 rfl (by decide) rfl ?_
  refine j_goto C 2 dX10_wallsCanBe_49 rfl ?_
  exact hr2 _ _ h
set_option maxRecDepth 100000 in
set_option maxHeartbeats 4000000 in
theorem X10_wallsCanBe_L2_bok {g : Gm} {w : Wd} (C : Cx g w RX10 cX10_wallsCanBe 3 (some .boolean)) {lv : Nat} (hlv : 2 < lv) {N : Nat} {r2 : Nat → Int → Option Int} {l0 : Nat} {l1 : Int} {m : Mem} {out : Int} (hr2 : ∀ l0 l1, r2 l0 l1 = some out → Jd g w 3 (rmL lv 0 0) (Qm g w (some (vI out)) m) 2 [some (vR l0), some (vI l1), none] [] 312 m 0 0) (h : X10_wallsCanBe_L2_b N m r2 l0 l1 = some out) : Jd g w 3 (rmL lv 0 0) (Qm g w (some (vI out)) m) 2 [some (vR l0), some (vI l1), none] [] 312 m 0 0 := by
  unfold X10_wallsCanBe_L2_b at h
  refine j_iload_n C dX10_wallsCanBe_2 rfl ?_
  refine j_aload_n C dX10_wallsCanBe_3 rfl ?_
  refine j_getR C dX10_wallsCanBe_4 CF10 (by decide) fl_X10_27 rfl rfl h (fun t1 h => ?_)
  obtain ⟨p2, ep2, h⟩ := bind_some h
  have qp2 := X5_cells_ct ep2
  refine j_cVI C dX10_wallsCanBe_7 vl_X10_375 CF5 rfl qp2.1 qp2.2 (by omega) rfl rfl (Nat.le_of_ble_eq_true rfl) ?_
  refine j_icmp_ge C 52 dX10_wallsCanBe_10 rfl h (fun c11 h => ?_) (fun c11 h => ?_)
  · refine j_iconst C dX10_wallsCanBe_52 rfl ?_
    exact j_rz C dX10_wallsCanBe_53 rfl (retZ_some h) rfl
  · refine j_aload_n C dX10_wallsCanBe_13 rfl ?_
    refine j_getR C dX10_wallsCanBe_14 CF10 (by decide) fl_X10_9 rfl rfl h (fun t3 h => ?_)
    refine j_iload_n C dX10_wallsCanBe_17 rfl ?_
    obtain ⟨p4, ep4, h⟩ := bind_some h
    have qp4 := X10_wallAt_ct ep4
    refine j_cSI C dX10_wallsCanBe_18 sl_X10_416 qp4 (by omega) rfl rfl (Nat.le_of_ble_eq_true rfl) ?_
    refine j_iald C dX10_wallsCanBe_21 rfl h (fun t5 h => ?_)
    refine j_istore_n (ls' := [some (vR _), some (vI _), some (vI _)]) C dX10_wallsCanBe_22 (by decide) rfl ?_
    refine j_iload_n C dX10_wallsCanBe_23 rfl ?_
    refine j_iconst C dX10_wallsCanBe_24 rfl ?_
    refine j_icmp_gt C 44 dX10_wallsCanBe_25 rfl h (fun c10 h => ?_) (fun c10 h => ?_)
    · refine j_iconst C dX10_wallsCanBe_44 rfl ?_
      exact j_rz C dX10_wallsCanBe_45 rfl (retZ_some h) rfl
    · refine j_iload_n C dX10_wallsCanBe_28 rfl ?_
      refine j_iconst C dX10_wallsCanBe_29 rfl ?_
      refine j_icmp_ne C 46 dX10_wallsCanBe_30 rfl h (fun c9 h => ?_) (fun c9 h => ?_)
      · refine j_mask [true, true, false] (ls' := [some (vR _), some (vI _), none]) rfl ?_
        exact X10_wallsCanBe_J46_ok C hlv hr2 h
      · refine j_aload_n C dX10_wallsCanBe_33 rfl ?_
        refine j_getR C dX10_wallsCanBe_34 CF10 (by decide) fl_X10_27 rfl rfl h (fun t6 h => ?_)
        refine j_iload_n C dX10_wallsCanBe_37 rfl ?_
        obtain ⟨p7, ep7, h⟩ := bind_some h
        have qp7 := X5_isTaken_ct ep7
        refine j_cVI C dX10_wallsCanBe_38 vl_X10_431 CF5 rfl qp7.1 qp7.2 (by omega) rfl rfl (Nat.le_of_ble_eq_true rfl) ?_
        refine j_if_eq C 46 dX10_wallsCanBe_41 rfl h (fun c8 h => ?_) (fun c8 h => ?_)
        · refine j_mask [true, true, false] (ls' := [some (vR _), some (vI _), none]) rfl ?_
          exact X10_wallsCanBe_J46_ok C hlv hr2 h
        · refine j_iconst C dX10_wallsCanBe_44 rfl ?_
          exact j_rz C dX10_wallsCanBe_45 rfl (retZ_some h) rfl
set_option maxRecDepth 100000 in
set_option maxHeartbeats 4000000 in
theorem X10_wallsCanBe_L2_ok {g : Gm} {w : Wd} (C : Cx g w RX10 cX10_wallsCanBe 3 (some .boolean)) {lv : Nat} (hlv : 2 < lv) {N : Nat} {m : Mem} {out : Int} (f : Nat) : ∀ {l0 : Nat} {l1 : Int}, X10_wallsCanBe_L2 N m f l0 l1 = some out → Jd g w 3 (rmL lv 0 0) (Qm g w (some (vI out)) m) 2 [some (vR l0), some (vI l1), none] [] 312 m 0 0 := by
  induction f with
  | zero => intro l0 l1 h; exact none_ne (α := Int) h
  | succ f ih => intro l0 l1 h; exact X10_wallsCanBe_L2_bok C hlv (fun l0 l1 h => ih h) h
set_option maxRecDepth 100000 in
set_option maxHeartbeats 4000000 in
theorem X10_wallsCanBe_ct {N : Nat} {l0 : Nat} {m : Mem} {out : Int} (h : X10_wallsCanBe N l0 m = some out) : shK l0 = 10 + 10 ∧ CT yX10_wallsCanBe cX10_wallsCanBe 3 (some .boolean) 3 0 0 [vR l0] 312 m (some (vI out)) 312 m := by
  unfold X10_wallsCanBe at h
  obtain ⟨hK, h⟩ := ite_some h
  have hlv : 2 < 3 := by decide
  refine ⟨hK, CT.of (by decide +kernel) rfl (Nat.le_of_ble_eq_true rfl) (ls := [some (vR l0), none, none]) rfl fun g w C _ => ?_⟩
  refine j_iconst C dX10_wallsCanBe_0 rfl ?_
  refine j_istore_n (ls' := [some (vR _), some (vI _), none]) C dX10_wallsCanBe_1 (by decide) rfl ?_
  exact X10_wallsCanBe_L2_ok C hlv N h
theorem dX10_isImage_0 : decode cX10_isImage 0 = .ok (.aload_n 0, 1) := by decide +kernel
theorem dX10_isImage_1 : decode cX10_isImage 1 = .ok (.aload_n 0, 1) := by decide +kernel
theorem dX10_isImage_2 : decode cX10_isImage 2 = .ok (.getfield 27, 3) := by decide +kernel
theorem dX10_isImage_5 : decode cX10_isImage 5 = .ok (.getfield 149, 3) := by decide +kernel
theorem dX10_isImage_8 : decode cX10_isImage 8 = .ok (.invokevirtual 422, 3) := by decide +kernel
theorem dX10_isImage_11 : decode cX10_isImage 11 = .ok (.istore_n 2, 1) := by decide +kernel
theorem dX10_isImage_12 : decode cX10_isImage 12 = .ok (.aload_n 0, 1) := by decide +kernel
theorem dX10_isImage_13 : decode cX10_isImage 13 = .ok (.invokevirtual 264, 3) := by decide +kernel
theorem dX10_isImage_16 : decode cX10_isImage 16 = .ok (.ifCond .eq 27, 3) := by decide +kernel
theorem dX10_isImage_19 : decode cX10_isImage 19 = .ok (.iload_n 1, 1) := by decide +kernel
theorem dX10_isImage_20 : decode cX10_isImage 20 = .ok (.iload_n 2, 1) := by decide +kernel
theorem dX10_isImage_21 : decode cX10_isImage 21 = .ok (.iconst 1, 1) := by decide +kernel
theorem dX10_isImage_22 : decode cX10_isImage 22 = .ok (.iadd, 1) := by decide +kernel
theorem dX10_isImage_23 : decode cX10_isImage 23 = .ok (.if_icmp .ne 20, 3) := by decide +kernel
theorem dX10_isImage_26 : decode cX10_isImage 26 = .ok (.aload_n 0, 1) := by decide +kernel
theorem dX10_isImage_27 : decode cX10_isImage 27 = .ok (.getfield 9, 3) := by decide +kernel
theorem dX10_isImage_30 : decode cX10_isImage 30 = .ok (.iload_n 2, 1) := by decide +kernel
theorem dX10_isImage_31 : decode cX10_isImage 31 = .ok (.invokestatic 406, 3) := by decide +kernel
theorem dX10_isImage_34 : decode cX10_isImage 34 = .ok (.aload_n 0, 1) := by decide +kernel
theorem dX10_isImage_35 : decode cX10_isImage 35 = .ok (.getfield 9, 3) := by decide +kernel
theorem dX10_isImage_38 : decode cX10_isImage 38 = .ok (.iload_n 2, 1) := by decide +kernel
theorem dX10_isImage_39 : decode cX10_isImage 39 = .ok (.iaload, 1) := by decide +kernel
theorem dX10_isImage_40 : decode cX10_isImage 40 = .ok (.if_icmp .eq 5, 3) := by decide +kernel
theorem dX10_isImage_43 : decode cX10_isImage 43 = .ok (.iconst 0, 1) := by decide +kernel
theorem dX10_isImage_44 : decode cX10_isImage 44 = .ok (.ireturn, 1) := by decide +kernel
theorem dX10_isImage_45 : decode cX10_isImage 45 = .ok (.aload_n 0, 1) := by decide +kernel
theorem dX10_isImage_46 : decode cX10_isImage 46 = .ok (.iconst 0, 1) := by decide +kernel
theorem dX10_isImage_47 : decode cX10_isImage 47 = .ok (.invokevirtual 413, 3) := by decide +kernel
theorem dX10_isImage_50 : decode cX10_isImage 50 = .ok (.sipush 9999, 3) := by decide +kernel
theorem dX10_isImage_53 : decode cX10_isImage 53 = .ok (.if_icmp .le 5, 3) := by decide +kernel
theorem dX10_isImage_56 : decode cX10_isImage 56 = .ok (.iconst 0, 1) := by decide +kernel
theorem dX10_isImage_57 : decode cX10_isImage 57 = .ok (.ireturn, 1) := by decide +kernel
theorem dX10_isImage_58 : decode cX10_isImage 58 = .ok (.iconst 0, 1) := by decide +kernel
theorem dX10_isImage_59 : decode cX10_isImage 59 = .ok (.istore_n 3, 1) := by decide +kernel
theorem dX10_isImage_60 : decode cX10_isImage 60 = .ok (.iload_n 3, 1) := by decide +kernel
theorem dX10_isImage_61 : decode cX10_isImage 61 = .ok (.aload_n 0, 1) := by decide +kernel
theorem dX10_isImage_62 : decode cX10_isImage 62 = .ok (.getfield 27, 3) := by decide +kernel
theorem dX10_isImage_65 : decode cX10_isImage 65 = .ok (.getfield 149, 3) := by decide +kernel
theorem dX10_isImage_68 : decode cX10_isImage 68 = .ok (.if_icmp .ge 26, 3) := by decide +kernel
theorem dX10_isImage_71 : decode cX10_isImage 71 = .ok (.aload_n 0, 1) := by decide +kernel
theorem dX10_isImage_72 : decode cX10_isImage 72 = .ok (.aload_n 0, 1) := by decide +kernel
theorem dX10_isImage_73 : decode cX10_isImage 73 = .ok (.iload_n 3, 1) := by decide +kernel
theorem dX10_isImage_74 : decode cX10_isImage 74 = .ok (.invokevirtual 422, 3) := by decide +kernel
theorem dX10_isImage_77 : decode cX10_isImage 77 = .ok (.invokevirtual 413, 3) := by decide +kernel
theorem dX10_isImage_80 : decode cX10_isImage 80 = .ok (.sipush 9999, 3) := by decide +kernel
theorem dX10_isImage_83 : decode cX10_isImage 83 = .ok (.if_icmp .le 5, 3) := by decide +kernel
theorem dX10_isImage_86 : decode cX10_isImage 86 = .ok (.iconst 0, 1) := by decide +kernel
theorem dX10_isImage_87 : decode cX10_isImage 87 = .ok (.ireturn, 1) := by decide +kernel
theorem dX10_isImage_88 : decode cX10_isImage 88 = .ok (.iinc 3 1, 3) := by decide +kernel
theorem dX10_isImage_91 : decode cX10_isImage 91 = .ok (.goto (-31), 3) := by decide +kernel
theorem dX10_isImage_94 : decode cX10_isImage 94 = .ok (.aload_n 0, 1) := by decide +kernel
theorem dX10_isImage_95 : decode cX10_isImage 95 = .ok (.invokevirtual 425, 3) := by decide +kernel
theorem dX10_isImage_98 : decode cX10_isImage 98 = .ok (.ifCond .eq 14, 3) := by decide +kernel
theorem dX10_isImage_101 : decode cX10_isImage 101 = .ok (.aload_n 0, 1) := by decide +kernel
theorem dX10_isImage_102 : decode cX10_isImage 102 = .ok (.invokevirtual 428, 3) := by decide +kernel
theorem dX10_isImage_105 : decode cX10_isImage 105 = .ok (.ifCond .eq 7, 3) := by decide +kernel
theorem dX10_isImage_108 : decode cX10_isImage 108 = .ok (.iconst 1, 1) := by decide +kernel
theorem dX10_isImage_109 : decode cX10_isImage 109 = .ok (.goto 4, 3) := by decide +kernel
theorem dX10_isImage_112 : decode cX10_isImage 112 = .ok (.iconst 0, 1) := by decide +kernel
theorem dX10_isImage_113 : decode cX10_isImage 113 = .ok (.ireturn, 1) := by decide +kernel
set_option maxRecDepth 100000 in
set_option maxHeartbeats 4000000 in
theorem X10_isImage_L60_bok {g : Gm} {w : Wd} (C : Cx g w RX10 cX10_isImage 4 (some .boolean)) {lv : Nat} (hlv : 3 < lv) {N : Nat} {k94 : Nat → Option Int} {r60 : Nat → Int → Option Int} {l0 : Nat} {l3 : Int} {m : Mem} {out : Int} (hk94 : ∀ l0, k94 l0 = some out → Jd g w 4 (rmL lv 0 0) (Qm g w (some (vI out)) m) 94 [some (vR l0), none, none, none] [] 312 m 0 0) (hr60 : ∀ l0 l3, r60 l0 l3 = some out → Jd g w 4 (rmL lv 0 0) (Qm g w (some (vI out)) m) 60 [some (vR l0), none, none, some (vI l3)] [] 312 m 0 0) (h : X10_isImage_L60_b N k94 m r60 l0 l3 = some out) : Jd g w 4 (rmL lv 0 0) (Qm g w (some (vI out)) m) 60 [some (vR l0), none, none, some (vI l3)] [] 312 m 0 0 := by
  unfold X10_isImage_L60_b at h
  refine j_iload_n C dX10_isImage_60 rfl ?_
  refine j_aload_n C dX10_isImage_61 rfl ?_
  refine j_getR C dX10_isImage_62 CF10 (by decide) fl_X10_27 rfl rfl h (fun t10 h => ?_)
  refine j_getI C dX10_isImage_65 CF5 (by decide) fl_X10_149 rfl rfl h (fun t11 h => ?_)
  refine j_icmp_ge C 94 dX10_isImage_68 rfl h (fun c15 h => ?_) (fun c15 h => ?_)
  · refine j_mask [true, false, false, false] (ls' := [some (vR _), none, none, none]) rfl ?_
    exact hk94 _ h
  · refine j_aload_n C dX10_isImage_71 rfl ?_
    refine j_aload_n C dX10_isImage_72 rfl ?_
    refine j_iload_n C dX10_isImage_73 rfl ?_
    obtain ⟨p12, ep12, h⟩ := bind_some h
    have qp12 := X10_dropsAt_ct ep12
    refine j_cVI C dX10_isImage_74 vl_X10_422 CF10 rfl qp12.1 qp12.2 (by omega) rfl rfl (Nat.le_of_ble_eq_true rfl) ?_
    obtain ⟨p13, ep13, h⟩ := bind_some h
    have qp13 := X10_twoAt_ct ep13
    refine j_cVI C dX10_isImage_77 vl_X10_413 CF10 rfl qp13.1 qp13.2 (by omega) rfl rfl (Nat.le_of_ble_eq_true rfl) ?_
    refine j_sipush C dX10_isImage_80 rfl ?_
    refine j_icmp_le C 88 dX10_isImage_83 rfl h (fun c14 h => ?_) (fun c14 h => ?_)
    · refine j_iinc (ls' := [some (vR _), none, none, some (vI _)]) C dX10_isImage_88 rfl (by decide) rfl ?_
      refine j_goto C 60 dX10_isImage_91 rfl ?_
      exact hr60 _ _ h
    · refine j_iconst C dX10_isImage_86 rfl ?_
      exact j_rz C dX10_isImage_87 rfl (retZ_some h) rfl
set_option maxRecDepth 100000 in
set_option maxHeartbeats 4000000 in
theorem X10_isImage_L60_ok {g : Gm} {w : Wd} (C : Cx g w RX10 cX10_isImage 4 (some .boolean)) {lv : Nat} (hlv : 3 < lv) {N : Nat} {k94 : Nat → Option Int} {m : Mem} {out : Int} (hk94 : ∀ l0, k94 l0 = some out → Jd g w 4 (rmL lv 0 0) (Qm g w (some (vI out)) m) 94 [some (vR l0), none, none, none] [] 312 m 0 0) (f : Nat) : ∀ {l0 : Nat} {l3 : Int}, X10_isImage_L60 N k94 m f l0 l3 = some out → Jd g w 4 (rmL lv 0 0) (Qm g w (some (vI out)) m) 60 [some (vR l0), none, none, some (vI l3)] [] 312 m 0 0 := by
  induction f with
  | zero => intro l0 l3 h; exact none_ne (α := Int) h
  | succ f ih => intro l0 l3 h; exact X10_isImage_L60_bok C hlv hk94 (fun l0 l3 h => ih h) h
set_option maxRecDepth 100000 in
set_option maxHeartbeats 4000000 in
theorem X10_isImage_ct {N : Nat} {l0 : Nat} {l1 : Int} {m : Mem} {out : Int} (h : X10_isImage N l0 l1 m = some out) : shK l0 = 10 + 10 ∧ CT yX10_isImage cX10_isImage 4 (some .boolean) 4 0 0 [vR l0, vI l1] 312 m (some (vI out)) 312 m := by
  unfold X10_isImage at h
  obtain ⟨hK, h⟩ := ite_some h
  have hlv : 3 < 4 := by decide
  refine ⟨hK, CT.of (by decide +kernel) rfl (Nat.le_of_ble_eq_true rfl) (ls := [some (vR l0), some (vI l1), none, none]) rfl fun g w C _ => ?_⟩
  refine j_aload_n C dX10_isImage_0 rfl ?_
  refine j_aload_n C dX10_isImage_1 rfl ?_
  refine j_getR C dX10_isImage_2 CF10 (by decide) fl_X10_27 rfl rfl h (fun t1 h => ?_)
  refine j_getI C dX10_isImage_5 CF5 (by decide) fl_X10_149 rfl rfl h (fun t2 h => ?_)
  obtain ⟨p3, ep3, h⟩ := bind_some h
  have qp3 := X10_dropsAt_ct ep3
  refine j_cVI C dX10_isImage_8 vl_X10_422 CF10 rfl qp3.1 qp3.2 (by omega) rfl rfl (Nat.le_of_ble_eq_true rfl) ?_
  refine j_istore_n (ls' := [some (vR _), some (vI _), some (vI _), none]) C dX10_isImage_11 (by decide) rfl ?_
  refine j_aload_n C dX10_isImage_12 rfl ?_
  obtain ⟨p4, ep4, h⟩ := bind_some h
  have qp4 := X10_hasIsland_ct ep4
  refine j_cVI C dX10_isImage_13 vl_X10_264 CF10 rfl qp4.1 qp4.2 (by omega) rfl rfl (Nat.le_of_ble_eq_true rfl) ?_
  refine j_if_eq C 43 dX10_isImage_16 rfl h (fun c24 h => ?_) (fun c24 h => ?_)
  · refine j_iconst C dX10_isImage_43 rfl ?_
    exact j_rz C dX10_isImage_44 rfl (retZ_some h) rfl
  · refine j_iload_n C dX10_isImage_19 rfl ?_
    refine j_iload_n C dX10_isImage_20 rfl ?_
    refine j_iconst C dX10_isImage_21 rfl ?_
    refine j_iadd C dX10_isImage_22 ?_
    refine j_icmp_ne C 43 dX10_isImage_23 rfl h (fun c23 h => ?_) (fun c23 h => ?_)
    · refine j_iconst C dX10_isImage_43 rfl ?_
      exact j_rz C dX10_isImage_44 rfl (retZ_some h) rfl
    · refine j_aload_n C dX10_isImage_26 rfl ?_
      refine j_getR C dX10_isImage_27 CF10 (by decide) fl_X10_9 rfl rfl h (fun t5 h => ?_)
      refine j_iload_n C dX10_isImage_30 rfl ?_
      obtain ⟨p6, ep6, h⟩ := bind_some h
      have qp6 := X10_checkOf_ct ep6
      refine j_cSI C dX10_isImage_31 sl_X10_406 qp6 (by omega) rfl rfl (Nat.le_of_ble_eq_true rfl) ?_
      refine j_aload_n C dX10_isImage_34 rfl ?_
      refine j_getR C dX10_isImage_35 CF10 (by decide) fl_X10_9 rfl rfl h (fun t7 h => ?_)
      refine j_iload_n C dX10_isImage_38 rfl ?_
      refine j_iald C dX10_isImage_39 rfl h (fun t8 h => ?_)
      refine j_icmp_eq C 45 dX10_isImage_40 rfl h (fun c22 h => ?_) (fun c22 h => ?_)
      · refine j_aload_n C dX10_isImage_45 rfl ?_
        refine j_iconst C dX10_isImage_46 rfl ?_
        obtain ⟨p9, ep9, h⟩ := bind_some h
        have qp9 := X10_twoAt_ct ep9
        refine j_cVI C dX10_isImage_47 vl_X10_413 CF10 rfl qp9.1 qp9.2 (by omega) rfl rfl (Nat.le_of_ble_eq_true rfl) ?_
        refine j_sipush C dX10_isImage_50 rfl ?_
        refine j_icmp_le C 58 dX10_isImage_53 rfl h (fun c21 h => ?_) (fun c21 h => ?_)
        · refine j_iconst C dX10_isImage_58 rfl ?_
          refine j_istore_n (ls' := [some (vR _), some (vI _), some (vI _), some (vI _)]) C dX10_isImage_59 (by decide) rfl ?_
          refine j_mask [true, false, false, true] (ls' := [some (vR _), none, none, some (vI _)]) rfl ?_
          refine X10_isImage_L60_ok C hlv (fun z16 h => ?_) N h
          refine j_aload_n C dX10_isImage_94 rfl ?_
          obtain ⟨p17, ep17, h⟩ := bind_some h
          have qp17 := X10_wallsCanBe_ct ep17
          refine j_cVI C dX10_isImage_95 vl_X10_425 CF10 rfl qp17.1 qp17.2 (by omega) rfl rfl (Nat.le_of_ble_eq_true rfl) ?_
          refine j_if_eq C 112 dX10_isImage_98 rfl h (fun c20 h => ?_) (fun c20 h => ?_)
          · refine j_iconst C dX10_isImage_112 rfl ?_
            exact j_rz C dX10_isImage_113 rfl (retZ_some h) rfl
          · refine j_aload_n C dX10_isImage_101 rfl ?_
            obtain ⟨p18, ep18, h⟩ := bind_some h
            have qp18 := X10_clothsCanBe_ct ep18
            refine j_cVI C dX10_isImage_102 vl_X10_428 CF10 rfl qp18.1 qp18.2 (by omega) rfl rfl (Nat.le_of_ble_eq_true rfl) ?_
            refine j_if_eq C 112 dX10_isImage_105 rfl h (fun c19 h => ?_) (fun c19 h => ?_)
            · refine j_iconst C dX10_isImage_112 rfl ?_
              exact j_rz C dX10_isImage_113 rfl (retZ_some h) rfl
            · refine j_iconst C dX10_isImage_108 rfl ?_
              refine j_goto C 113 dX10_isImage_109 rfl ?_
              exact j_rz C dX10_isImage_113 rfl (retZ_some h) rfl
        · refine j_iconst C dX10_isImage_56 rfl ?_
          exact j_rz C dX10_isImage_57 rfl (retZ_some h) rfl
      · refine j_iconst C dX10_isImage_43 rfl ?_
        exact j_rz C dX10_isImage_44 rfl (retZ_some h) rfl
theorem dX8_isBlank_0 : decode cX8_isBlank 0 = .ok (.iload_n 0, 1) := by decide +kernel
theorem dX8_isBlank_1 : decode cX8_isBlank 1 = .ok (.bipush 32, 2) := by decide +kernel
theorem dX8_isBlank_3 : decode cX8_isBlank 3 = .ok (.if_icmp .eq 9, 3) := by decide +kernel
theorem dX8_isBlank_6 : decode cX8_isBlank 6 = .ok (.iload_n 0, 1) := by decide +kernel
theorem dX8_isBlank_7 : decode cX8_isBlank 7 = .ok (.bipush 10, 2) := by decide +kernel
theorem dX8_isBlank_9 : decode cX8_isBlank 9 = .ok (.if_icmp .ne 7, 3) := by decide +kernel
theorem dX8_isBlank_12 : decode cX8_isBlank 12 = .ok (.iconst 1, 1) := by decide +kernel
theorem dX8_isBlank_13 : decode cX8_isBlank 13 = .ok (.goto 4, 3) := by decide +kernel
theorem dX8_isBlank_16 : decode cX8_isBlank 16 = .ok (.iconst 0, 1) := by decide +kernel
theorem dX8_isBlank_17 : decode cX8_isBlank 17 = .ok (.ireturn, 1) := by decide +kernel
set_option maxRecDepth 100000 in
set_option maxHeartbeats 4000000 in
theorem X8_isBlank_J12_ok {g : Gm} {w : Wd} (C : Cx g w RX8 cX8_isBlank 1 (some .boolean)) {lv : Nat} (hlv : 0 < lv)  {m : Mem} {out : Int} (h : X8_isBlank_J12 m = some out) : Jd g w 1 (rmL lv 0 0) (Qm g w (some (vI out)) m) 12 [none] [] 312 m 0 0 := by
  unfold X8_isBlank_J12 at h
  refine j_iconst C dX8_isBlank_12 rfl ?_
  refine j_goto C 17 dX8_isBlank_13 rfl ?_
  exact j_rz C dX8_isBlank_17 rfl (retZ_some h) rfl
set_option maxRecDepth 100000 in
set_option maxHeartbeats 4000000 in
theorem X8_isBlank_ct {l0 : Int} {m : Mem} {out : Int} (h : X8_isBlank l0 m = some out) : CT yX8_isBlank cX8_isBlank 1 (some .boolean) 1 0 0 [vI l0] 312 m (some (vI out)) 312 m := by
  unfold X8_isBlank at h
  have hlv : 0 < 1 := by decide
  refine CT.of (by decide +kernel) rfl (Nat.le_of_ble_eq_true rfl) (ls := [some (vI l0)]) rfl fun g w C _ => ?_
  refine j_iload_n C dX8_isBlank_0 rfl ?_
  refine j_bipush C dX8_isBlank_1 rfl ?_
  refine j_icmp_eq C 12 dX8_isBlank_3 rfl h (fun c2 h => ?_) (fun c2 h => ?_)
  · refine j_mask [false] (ls' := [none]) rfl ?_
    exact X8_isBlank_J12_ok C hlv h
  · refine j_iload_n C dX8_isBlank_6 rfl ?_
    refine j_bipush C dX8_isBlank_7 rfl ?_
    refine j_icmp_ne C 16 dX8_isBlank_9 rfl h (fun c1 h => ?_) (fun c1 h => ?_)
    · refine j_iconst C dX8_isBlank_16 rfl ?_
      exact j_rz C dX8_isBlank_17 rfl (retZ_some h) rfl
    · refine j_mask [false] (ls' := [none]) rfl ?_
      exact X8_isBlank_J12_ok C hlv h
theorem dX8_isLetter_0 : decode cX8_isLetter 0 = .ok (.iload_n 0, 1) := by decide +kernel
theorem dX8_isLetter_1 : decode cX8_isLetter 1 = .ok (.bipush 97, 2) := by decide +kernel
theorem dX8_isLetter_3 : decode cX8_isLetter 3 = .ok (.if_icmp .lt 13, 3) := by decide +kernel
theorem dX8_isLetter_6 : decode cX8_isLetter 6 = .ok (.iload_n 0, 1) := by decide +kernel
theorem dX8_isLetter_7 : decode cX8_isLetter 7 = .ok (.bipush 122, 2) := by decide +kernel
theorem dX8_isLetter_9 : decode cX8_isLetter 9 = .ok (.if_icmp .gt 7, 3) := by decide +kernel
theorem dX8_isLetter_12 : decode cX8_isLetter 12 = .ok (.iconst 1, 1) := by decide +kernel
theorem dX8_isLetter_13 : decode cX8_isLetter 13 = .ok (.goto 4, 3) := by decide +kernel
theorem dX8_isLetter_16 : decode cX8_isLetter 16 = .ok (.iconst 0, 1) := by decide +kernel
theorem dX8_isLetter_17 : decode cX8_isLetter 17 = .ok (.ireturn, 1) := by decide +kernel
set_option maxRecDepth 100000 in
set_option maxHeartbeats 4000000 in
theorem X8_isLetter_ct {l0 : Int} {m : Mem} {out : Int} (h : X8_isLetter l0 m = some out) : CT yX8_isLetter cX8_isLetter 1 (some .boolean) 1 0 0 [vI l0] 312 m (some (vI out)) 312 m := by
  unfold X8_isLetter at h
  have hlv : 0 < 1 := by decide
  refine CT.of (by decide +kernel) rfl (Nat.le_of_ble_eq_true rfl) (ls := [some (vI l0)]) rfl fun g w C _ => ?_
  refine j_iload_n C dX8_isLetter_0 rfl ?_
  refine j_bipush C dX8_isLetter_1 rfl ?_
  refine j_icmp_lt C 16 dX8_isLetter_3 rfl h (fun c2 h => ?_) (fun c2 h => ?_)
  · refine j_iconst C dX8_isLetter_16 rfl ?_
    exact j_rz C dX8_isLetter_17 rfl (retZ_some h) rfl
  · refine j_iload_n C dX8_isLetter_6 rfl ?_
    refine j_bipush C dX8_isLetter_7 rfl ?_
    refine j_icmp_gt C 16 dX8_isLetter_9 rfl h (fun c1 h => ?_) (fun c1 h => ?_)
    · refine j_iconst C dX8_isLetter_16 rfl ?_
      exact j_rz C dX8_isLetter_17 rfl (retZ_some h) rfl
    · refine j_iconst C dX8_isLetter_12 rfl ?_
      refine j_goto C 17 dX8_isLetter_13 rfl ?_
      exact j_rz C dX8_isLetter_17 rfl (retZ_some h) rfl
theorem dX8_isDigit_0 : decode cX8_isDigit 0 = .ok (.iload_n 0, 1) := by decide +kernel
theorem dX8_isDigit_1 : decode cX8_isDigit 1 = .ok (.bipush 48, 2) := by decide +kernel
theorem dX8_isDigit_3 : decode cX8_isDigit 3 = .ok (.if_icmp .lt 13, 3) := by decide +kernel
theorem dX8_isDigit_6 : decode cX8_isDigit 6 = .ok (.iload_n 0, 1) := by decide +kernel
theorem dX8_isDigit_7 : decode cX8_isDigit 7 = .ok (.bipush 57, 2) := by decide +kernel
theorem dX8_isDigit_9 : decode cX8_isDigit 9 = .ok (.if_icmp .gt 7, 3) := by decide +kernel
theorem dX8_isDigit_12 : decode cX8_isDigit 12 = .ok (.iconst 1, 1) := by decide +kernel
theorem dX8_isDigit_13 : decode cX8_isDigit 13 = .ok (.goto 4, 3) := by decide +kernel
theorem dX8_isDigit_16 : decode cX8_isDigit 16 = .ok (.iconst 0, 1) := by decide +kernel
theorem dX8_isDigit_17 : decode cX8_isDigit 17 = .ok (.ireturn, 1) := by decide +kernel
set_option maxRecDepth 100000 in
set_option maxHeartbeats 4000000 in
theorem X8_isDigit_ct {l0 : Int} {m : Mem} {out : Int} (h : X8_isDigit l0 m = some out) : CT yX8_isDigit cX8_isDigit 1 (some .boolean) 1 0 0 [vI l0] 312 m (some (vI out)) 312 m := by
  unfold X8_isDigit at h
  have hlv : 0 < 1 := by decide
  refine CT.of (by decide +kernel) rfl (Nat.le_of_ble_eq_true rfl) (ls := [some (vI l0)]) rfl fun g w C _ => ?_
  refine j_iload_n C dX8_isDigit_0 rfl ?_
  refine j_bipush C dX8_isDigit_1 rfl ?_
  refine j_icmp_lt C 16 dX8_isDigit_3 rfl h (fun c2 h => ?_) (fun c2 h => ?_)
  · refine j_iconst C dX8_isDigit_16 rfl ?_
    exact j_rz C dX8_isDigit_17 rfl (retZ_some h) rfl
  · refine j_iload_n C dX8_isDigit_6 rfl ?_
    refine j_bipush C dX8_isDigit_7 rfl ?_
    refine j_icmp_gt C 16 dX8_isDigit_9 rfl h (fun c1 h => ?_) (fun c1 h => ?_)
    · refine j_iconst C dX8_isDigit_16 rfl ?_
      exact j_rz C dX8_isDigit_17 rfl (retZ_some h) rfl
    · refine j_iconst C dX8_isDigit_12 rfl ?_
      refine j_goto C 17 dX8_isDigit_13 rfl ?_
      exact j_rz C dX8_isDigit_17 rfl (retZ_some h) rfl
theorem dX8_put_0 : decode cX8_put 0 = .ok (.aload_n 0, 1) := by decide +kernel
theorem dX8_put_1 : decode cX8_put 1 = .ok (.getfield 18, 3) := by decide +kernel
theorem dX8_put_4 : decode cX8_put 4 = .ok (.aload_n 0, 1) := by decide +kernel
theorem dX8_put_5 : decode cX8_put 5 = .ok (.getfield 15, 3) := by decide +kernel
theorem dX8_put_8 : decode cX8_put 8 = .ok (.arraylength, 1) := by decide +kernel
theorem dX8_put_9 : decode cX8_put 9 = .ok (.if_icmp .ge 35, 3) := by decide +kernel
theorem dX8_put_12 : decode cX8_put 12 = .ok (.aload_n 0, 1) := by decide +kernel
theorem dX8_put_13 : decode cX8_put 13 = .ok (.getfield 15, 3) := by decide +kernel
theorem dX8_put_16 : decode cX8_put 16 = .ok (.aload_n 0, 1) := by decide +kernel
theorem dX8_put_17 : decode cX8_put 17 = .ok (.getfield 18, 3) := by decide +kernel
theorem dX8_put_20 : decode cX8_put 20 = .ok (.iload_n 3, 1) := by decide +kernel
theorem dX8_put_21 : decode cX8_put 21 = .ok (.i2l, 1) := by decide +kernel
theorem dX8_put_22 : decode cX8_put 22 = .ok (.bipush 11, 2) := by decide +kernel
theorem dX8_put_24 : decode cX8_put 24 = .ok (.lshl, 1) := by decide +kernel
theorem dX8_put_25 : decode cX8_put 25 = .ok (.iload_n 2, 1) := by decide +kernel
theorem dX8_put_26 : decode cX8_put 26 = .ok (.i2l, 1) := by decide +kernel
theorem dX8_put_27 : decode cX8_put 27 = .ok (.lor, 1) := by decide +kernel
theorem dX8_put_28 : decode cX8_put 28 = .ok (.iconst 3, 1) := by decide +kernel
theorem dX8_put_29 : decode cX8_put 29 = .ok (.lshl, 1) := by decide +kernel
theorem dX8_put_30 : decode cX8_put 30 = .ok (.iload_n 1, 1) := by decide +kernel
theorem dX8_put_31 : decode cX8_put 31 = .ok (.i2l, 1) := by decide +kernel
theorem dX8_put_32 : decode cX8_put 32 = .ok (.lor, 1) := by decide +kernel
theorem dX8_put_33 : decode cX8_put 33 = .ok (.lastore, 1) := by decide +kernel
theorem dX8_put_34 : decode cX8_put 34 = .ok (.aload_n 0, 1) := by decide +kernel
theorem dX8_put_35 : decode cX8_put 35 = .ok (.dup, 1) := by decide +kernel
theorem dX8_put_36 : decode cX8_put 36 = .ok (.getfield 18, 3) := by decide +kernel
theorem dX8_put_39 : decode cX8_put 39 = .ok (.iconst 1, 1) := by decide +kernel
theorem dX8_put_40 : decode cX8_put 40 = .ok (.iadd, 1) := by decide +kernel
theorem dX8_put_41 : decode cX8_put 41 = .ok (.putfield 18, 3) := by decide +kernel
theorem dX8_put_44 : decode cX8_put 44 = .ok (.aload_n 0, 1) := by decide +kernel
theorem dX8_put_45 : decode cX8_put 45 = .ok (.iload_n 1, 1) := by decide +kernel
theorem dX8_put_46 : decode cX8_put 46 = .ok (.putfield 22, 3) := by decide +kernel
theorem dX8_put_49 : decode cX8_put 49 = .ok (.aload_n 0, 1) := by decide +kernel
theorem dX8_put_50 : decode cX8_put 50 = .ok (.iload_n 1, 1) := by decide +kernel
theorem dX8_put_51 : decode cX8_put 51 = .ok (.iconst 2, 1) := by decide +kernel
theorem dX8_put_52 : decode cX8_put 52 = .ok (.if_icmp .ne 13, 3) := by decide +kernel
theorem dX8_put_55 : decode cX8_put 55 = .ok (.iload_n 3, 1) := by decide +kernel
theorem dX8_put_56 : decode cX8_put 56 = .ok (.bipush 10, 2) := by decide +kernel
theorem dX8_put_58 : decode cX8_put 58 = .ok (.if_icmp .ne 7, 3) := by decide +kernel
theorem dX8_put_61 : decode cX8_put 61 = .ok (.iconst 1, 1) := by decide +kernel
theorem dX8_put_62 : decode cX8_put 62 = .ok (.goto 4, 3) := by decide +kernel
theorem dX8_put_65 : decode cX8_put 65 = .ok (.iconst 0, 1) := by decide +kernel
theorem dX8_put_66 : decode cX8_put 66 = .ok (.putfield 25, 3) := by decide +kernel
theorem dX8_put_69 : decode cX8_put 69 = .ok (.return_, 1) := by decide +kernel
set_option maxRecDepth 100000 in
set_option maxHeartbeats 4000000 in
theorem X8_put_J66_ok {g : Gm} {w : Wd} (C : Cx g w RX8 cX8_put 4 none) {lv : Nat} (hlv : 0 < lv) {s0 : Nat} {s1 : Int} {m : Mem} {out : Mem} (h : X8_put_J66 s0 s1 m = some out) : Jd g w 4 (rmL lv 0 0) (Qm g w none out) 66 [none, none, none, none] [vI s1, vR s0] 312 m 0 0 := by
  unfold X8_put_J66 at h
  refine j_putZ C dX8_put_66 CF8 (by decide) fl_X8_25 rfl rfl rfl rfl h (fun m5 h => ?_)
  have e := Option.some.inj h
  subst e
  exact j_rv C dX8_put_69 rfl rfl
set_option maxRecDepth 100000 in
set_option maxHeartbeats 4000000 in
theorem X8_put_J65_ok {g : Gm} {w : Wd} (C : Cx g w RX8 cX8_put 4 none) {lv : Nat} (hlv : 0 < lv) {s0 : Nat} {m : Mem} {out : Mem} (h : X8_put_J65 s0 m = some out) : Jd g w 4 (rmL lv 0 0) (Qm g w none out) 65 [none, none, none, none] [vR s0] 312 m 0 0 := by
  unfold X8_put_J65 at h
  refine j_iconst C dX8_put_65 rfl ?_
  exact X8_put_J66_ok C hlv h
set_option maxRecDepth 100000 in
set_option maxHeartbeats 4000000 in
theorem X8_put_J44_ok {g : Gm} {w : Wd} (C : Cx g w RX8 cX8_put 4 none) {lv : Nat} (hlv : 0 < lv) {l0 : Nat} {l1 : Int} {l3 : Int} {m : Mem} {out : Mem} (h : X8_put_J44 l0 l1 l3 m = some out) : Jd g w 4 (rmL lv 0 0) (Qm g w none out) 44 [some (vR l0), some (vI l1), none, some (vI l3)] [] 312 m 0 0 := by
  unfold X8_put_J44 at h
  refine j_aload_n C dX8_put_44 rfl ?_
  refine j_iload_n C dX8_put_45 rfl ?_
  refine j_putI C dX8_put_46 CF8 (by decide) fl_X8_22 rfl rfl rfl rfl h (fun m4 h => ?_)
  refine j_aload_n C dX8_put_49 rfl ?_
  refine j_iload_n C dX8_put_50 rfl ?_
  refine j_iconst C dX8_put_51 rfl ?_
  refine j_icmp_ne C 65 dX8_put_52 rfl h (fun c7 h => ?_) (fun c7 h => ?_)
  · refine j_mask [false, false, false, false] (ls' := [none, none, none, none]) rfl ?_
    exact X8_put_J65_ok C hlv h
  · refine j_iload_n C dX8_put_55 rfl ?_
    refine j_bipush C dX8_put_56 rfl ?_
    refine j_icmp_ne C 65 dX8_put_58 rfl h (fun c6 h => ?_) (fun c6 h => ?_)
    · refine j_mask [false, false, false, false] (ls' := [none, none, none, none]) rfl ?_
      exact X8_put_J65_ok C hlv h
    · refine j_iconst C dX8_put_61 rfl ?_
      refine j_goto C 66 dX8_put_62 rfl ?_
      refine j_mask [false, false, false, false] (ls' := [none, none, none, none]) rfl ?_
      exact X8_put_J66_ok C hlv h
set_option maxRecDepth 100000 in
set_option maxHeartbeats 4000000 in
theorem X8_put_ct {l0 : Nat} {l1 : Int} {l2 : Int} {l3 : Int} {m : Mem} {out : Mem} (h : X8_put l0 l1 l2 l3 m = some out) : shK l0 = 8 + 10 ∧ CT yX8_put cX8_put 4 none 1 0 0 [vR l0, vI l1, vI l2, vI l3] 312 m none 312 out := by
  unfold X8_put at h
  obtain ⟨hK, h⟩ := ite_some h
  have hlv : 0 < 1 := by decide
  refine ⟨hK, CT.of (by decide +kernel) rfl (Nat.le_of_ble_eq_true rfl) (ls := [some (vR l0), some (vI l1), some (vI l2), some (vI l3)]) rfl fun g w C _ => ?_⟩
  refine j_aload_n C dX8_put_0 rfl ?_
  refine j_getI C dX8_put_1 CF8 (by decide) fl_X8_18 rfl rfl h (fun t1 h => ?_)
  refine j_aload_n C dX8_put_4 rfl ?_
  refine j_getR C dX8_put_5 CF8 (by decide) fl_X8_15 rfl rfl h (fun t2 h => ?_)
  refine j_alen C dX8_put_8 rfl h (fun t3 h => ?_)
  refine j_icmp_ge C 44 dX8_put_9 rfl h (fun c13 h => ?_) (fun c13 h => ?_)
  · refine j_mask [true, true, false, true] (ls' := [some (vR _), some (vI _), none, some (vI _)]) rfl ?_
    exact X8_put_J44_ok C hlv h
  · refine j_aload_n C dX8_put_12 rfl ?_
    refine j_getR C dX8_put_13 CF8 (by decide) fl_X8_15 rfl rfl h (fun t8 h => ?_)
    refine j_aload_n C dX8_put_16 rfl ?_
    refine j_getI C dX8_put_17 CF8 (by decide) fl_X8_18 rfl rfl h (fun t9 h => ?_)
    refine j_iload_n C dX8_put_20 rfl ?_
    refine j_i2l C dX8_put_21 ?_
    refine j_bipush C dX8_put_22 rfl ?_
    refine j_lshl C dX8_put_24 ?_
    refine j_iload_n C dX8_put_25 rfl ?_
    refine j_i2l C dX8_put_26 ?_
    refine j_lor C dX8_put_27 ?_
    refine j_iconst C dX8_put_28 rfl ?_
    refine j_lshl C dX8_put_29 ?_
    refine j_iload_n C dX8_put_30 rfl ?_
    refine j_i2l C dX8_put_31 ?_
    refine j_lor C dX8_put_32 ?_
    refine j_last C dX8_put_33 rfl h (fun m10 h => ?_)
    refine j_aload_n C dX8_put_34 rfl ?_
    refine j_dup C dX8_put_35 rfl ?_
    refine j_getI C dX8_put_36 CF8 (by decide) fl_X8_18 rfl rfl h (fun t11 h => ?_)
    refine j_iconst C dX8_put_39 rfl ?_
    refine j_iadd C dX8_put_40 ?_
    refine j_putI C dX8_put_41 CF8 (by decide) fl_X8_18 rfl rfl rfl rfl h (fun m12 h => ?_)
    refine j_mask [true, true, false, true] (ls' := [some (vR _), some (vI _), none, some (vI _)]) rfl ?_
    exact X8_put_J44_ok C hlv h
