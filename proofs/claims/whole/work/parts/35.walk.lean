theorem dX10_thing_0 : decode cX10_thing 0 = .ok (.aload_n 0, 1) := by decide +kernel
theorem dX10_thing_1 : decode cX10_thing 1 = .ok (.getfield 27, 3) := by decide +kernel
theorem dX10_thing_4 : decode cX10_thing 4 = .ok (.iload_n 1, 1) := by decide +kernel
theorem dX10_thing_5 : decode cX10_thing 5 = .ok (.invokevirtual 211, 3) := by decide +kernel
theorem dX10_thing_8 : decode cX10_thing 8 = .ok (.ifCond .ne 5, 3) := by decide +kernel
theorem dX10_thing_11 : decode cX10_thing 11 = .ok (.iconst (-1), 1) := by decide +kernel
theorem dX10_thing_12 : decode cX10_thing 12 = .ok (.ireturn, 1) := by decide +kernel
theorem dX10_thing_13 : decode cX10_thing 13 = .ok (.iload_n 2, 1) := by decide +kernel
theorem dX10_thing_14 : decode cX10_thing 14 = .ok (.tableswitch 90 0 4 #[34, 44, 54, 64, 81], 34) := by decide +kernel
theorem dX10_thing_48 : decode cX10_thing 48 = .ok (.aload_n 0, 1) := by decide +kernel
theorem dX10_thing_49 : decode cX10_thing 49 = .ok (.getfield 37, 3) := by decide +kernel
theorem dX10_thing_52 : decode cX10_thing 52 = .ok (.getfield 214, 3) := by decide +kernel
theorem dX10_thing_55 : decode cX10_thing 55 = .ok (.iload_n 1, 1) := by decide +kernel
theorem dX10_thing_56 : decode cX10_thing 56 = .ok (.iaload, 1) := by decide +kernel
theorem dX10_thing_57 : decode cX10_thing 57 = .ok (.ireturn, 1) := by decide +kernel
theorem dX10_thing_58 : decode cX10_thing 58 = .ok (.aload_n 0, 1) := by decide +kernel
theorem dX10_thing_59 : decode cX10_thing 59 = .ok (.getfield 27, 3) := by decide +kernel
theorem dX10_thing_62 : decode cX10_thing 62 = .ok (.getfield 217, 3) := by decide +kernel
theorem dX10_thing_65 : decode cX10_thing 65 = .ok (.iload_n 1, 1) := by decide +kernel
theorem dX10_thing_66 : decode cX10_thing 66 = .ok (.iaload, 1) := by decide +kernel
theorem dX10_thing_67 : decode cX10_thing 67 = .ok (.ireturn, 1) := by decide +kernel
theorem dX10_thing_68 : decode cX10_thing 68 = .ok (.aload_n 0, 1) := by decide +kernel
theorem dX10_thing_69 : decode cX10_thing 69 = .ok (.getfield 27, 3) := by decide +kernel
theorem dX10_thing_72 : decode cX10_thing 72 = .ok (.getfield 220, 3) := by decide +kernel
theorem dX10_thing_75 : decode cX10_thing 75 = .ok (.iload_n 1, 1) := by decide +kernel
theorem dX10_thing_76 : decode cX10_thing 76 = .ok (.iaload, 1) := by decide +kernel
theorem dX10_thing_77 : decode cX10_thing 77 = .ok (.ireturn, 1) := by decide +kernel
theorem dX10_thing_78 : decode cX10_thing 78 = .ok (.aload_n 0, 1) := by decide +kernel
theorem dX10_thing_79 : decode cX10_thing 79 = .ok (.getfield 27, 3) := by decide +kernel
theorem dX10_thing_82 : decode cX10_thing 82 = .ok (.aload_n 0, 1) := by decide +kernel
theorem dX10_thing_83 : decode cX10_thing 83 = .ok (.getfield 37, 3) := by decide +kernel
theorem dX10_thing_86 : decode cX10_thing 86 = .ok (.getfield 214, 3) := by decide +kernel
theorem dX10_thing_89 : decode cX10_thing 89 = .ok (.iload_n 1, 1) := by decide +kernel
theorem dX10_thing_90 : decode cX10_thing 90 = .ok (.iaload, 1) := by decide +kernel
theorem dX10_thing_91 : decode cX10_thing 91 = .ok (.invokevirtual 223, 3) := by decide +kernel
theorem dX10_thing_94 : decode cX10_thing 94 = .ok (.ireturn, 1) := by decide +kernel
theorem dX10_thing_95 : decode cX10_thing 95 = .ok (.aload_n 0, 1) := by decide +kernel
theorem dX10_thing_96 : decode cX10_thing 96 = .ok (.invokevirtual 226, 3) := by decide +kernel
theorem dX10_thing_99 : decode cX10_thing 99 = .ok (.iload_n 1, 1) := by decide +kernel
theorem dX10_thing_100 : decode cX10_thing 100 = .ok (.invokevirtual 230, 3) := by decide +kernel
theorem dX10_thing_103 : decode cX10_thing 103 = .ok (.ireturn, 1) := by decide +kernel
theorem dX10_thing_104 : decode cX10_thing 104 = .ok (.iconst (-1), 1) := by decide +kernel
theorem dX10_thing_105 : decode cX10_thing 105 = .ok (.ireturn, 1) := by decide +kernel
set_option maxRecDepth 100000 in
set_option maxHeartbeats 4000000 in
theorem X10_thing_ct {N : Nat} {l0 : Nat} {l1 : Int} {l2 : Int} {m : Mem} {out : (Int × Mem)} (h : X10_thing N l0 l1 l2 m = some out) : shK l0 = 10 + 10 ∧ CT yX10_thing cX10_thing 3 (some .int) 7 0 0 [vR l0, vI l1, vI l2] 312 m (some (vI out.1)) 312 out.2 := by
  unfold X10_thing at h
  obtain ⟨hK, h⟩ := ite_some h
  have hlv : 6 < 7 := by decide
  refine ⟨hK, CT.of (by decide +kernel) rfl (Nat.le_of_ble_eq_true rfl) (ls := [some (vR l0), some (vI l1), some (vI l2)]) rfl fun g w C _ => ?_⟩
  refine j_aload_n C dX10_thing_0 rfl ?_
  refine j_getR C dX10_thing_1 CF10 (by decide) fl_X10_27 rfl rfl h (fun t1 h => ?_)
  refine j_iload_n C dX10_thing_4 rfl ?_
  obtain ⟨p2, ep2, h⟩ := bind_some h
  have qp2 := X5_isThing_ct ep2
  refine j_cVI C dX10_thing_5 vl_X10_211 CF5 rfl qp2.1 qp2.2 (by omega) rfl rfl (Nat.le_of_ble_eq_true rfl) ?_
  refine j_if_ne C 13 dX10_thing_8 rfl h (fun c24 h => ?_) (fun c24 h => ?_)
  · refine j_iload_n C dX10_thing_13 rfl ?_
    rcases ite_cases h with ⟨c6, h⟩ | ⟨c6, h⟩
    · refine j_tsIn C 48 (0) dX10_thing_14 c6 rfl rfl rfl ?_
      refine j_aload_n C dX10_thing_48 rfl ?_
      refine j_getR C dX10_thing_49 CF10 (by decide) fl_X10_37 rfl rfl h (fun t3 h => ?_)
      refine j_getR C dX10_thing_52 CF1 (by decide) fl_X10_214 rfl rfl h (fun t4 h => ?_)
      refine j_iload_n C dX10_thing_55 rfl ?_
      refine j_iald C dX10_thing_56 rfl h (fun t5 h => ?_)
      have e := Option.some.inj h
      subst e
      exact j_ri C dX10_thing_57 rfl rfl rfl
    rcases ite_cases h with ⟨c10, h⟩ | ⟨c10, h⟩
    · refine j_tsIn C 58 (1) dX10_thing_14 c10 rfl rfl rfl ?_
      refine j_aload_n C dX10_thing_58 rfl ?_
      refine j_getR C dX10_thing_59 CF10 (by decide) fl_X10_27 rfl rfl h (fun t7 h => ?_)
      refine j_getR C dX10_thing_62 CF5 (by decide) fl_X10_217 rfl rfl h (fun t8 h => ?_)
      refine j_iload_n C dX10_thing_65 rfl ?_
      refine j_iald C dX10_thing_66 rfl h (fun t9 h => ?_)
      have e := Option.some.inj h
      subst e
      exact j_ri C dX10_thing_67 rfl rfl rfl
    rcases ite_cases h with ⟨c14, h⟩ | ⟨c14, h⟩
    · refine j_tsIn C 68 (2) dX10_thing_14 c14 rfl rfl rfl ?_
      refine j_aload_n C dX10_thing_68 rfl ?_
      refine j_getR C dX10_thing_69 CF10 (by decide) fl_X10_27 rfl rfl h (fun t11 h => ?_)
      refine j_getR C dX10_thing_72 CF5 (by decide) fl_X10_220 rfl rfl h (fun t12 h => ?_)
      refine j_iload_n C dX10_thing_75 rfl ?_
      refine j_iald C dX10_thing_76 rfl h (fun t13 h => ?_)
      have e := Option.some.inj h
      subst e
      exact j_ri C dX10_thing_77 rfl rfl rfl
    rcases ite_cases h with ⟨c20, h⟩ | ⟨c20, h⟩
    · refine j_tsIn C 78 (3) dX10_thing_14 c20 rfl rfl rfl ?_
      refine j_aload_n C dX10_thing_78 rfl ?_
      refine j_getR C dX10_thing_79 CF10 (by decide) fl_X10_27 rfl rfl h (fun t15 h => ?_)
      refine j_aload_n C dX10_thing_82 rfl ?_
      refine j_getR C dX10_thing_83 CF10 (by decide) fl_X10_37 rfl rfl h (fun t16 h => ?_)
      refine j_getR C dX10_thing_86 CF1 (by decide) fl_X10_214 rfl rfl h (fun t17 h => ?_)
      refine j_iload_n C dX10_thing_89 rfl ?_
      refine j_iald C dX10_thing_90 rfl h (fun t18 h => ?_)
      obtain ⟨p19, ep19, h⟩ := bind_some h
      have qp19 := X5_nearest_ct ep19
      refine j_cVI C dX10_thing_91 vl_X10_223 CF5 rfl qp19.1 qp19.2 (by omega) rfl rfl (Nat.le_of_ble_eq_true rfl) ?_
      have e := Option.some.inj h
      subst e
      exact j_ri C dX10_thing_94 rfl rfl rfl
    rcases ite_cases h with ⟨c23, h⟩ | ⟨c23, h⟩
    · refine j_tsIn C 95 (4) dX10_thing_14 c23 rfl rfl rfl ?_
      refine j_aload_n C dX10_thing_95 rfl ?_
      obtain ⟨p21, ep21, h⟩ := bind_some h
      have qp21 := X10_asTold_ct ep21
      refine j_cVR C dX10_thing_96 vl_X10_226 CF10 rfl qp21.1 qp21.2 (by omega) rfl rfl (Nat.le_of_ble_eq_true rfl) ?_
      refine j_iload_n C dX10_thing_99 rfl ?_
      obtain ⟨p22, ep22, h⟩ := bind_some h
      have qp22 := X3_dawn_ct ep22
      refine j_cVI C dX10_thing_100 vl_X10_230 CF3 rfl qp22.1 qp22.2 (by omega) rfl rfl (Nat.le_of_ble_eq_true rfl) ?_
      have e := Option.some.inj h
      subst e
      exact j_ri C dX10_thing_103 rfl rfl rfl
    refine j_tsOut C 104 dX10_thing_14 (by omega) rfl ?_
    refine j_iconst C dX10_thing_104 rfl ?_
    have e := Option.some.inj h
    subst e
    exact j_ri C dX10_thing_105 rfl rfl rfl
  · refine j_iconst C dX10_thing_11 rfl ?_
    have e := Option.some.inj h
    subst e
    exact j_ri C dX10_thing_12 rfl rfl rfl
theorem dX4_restore_0 : decode cX4_restore 0 = .ok (.aload_n 0, 1) := by decide +kernel
theorem dX4_restore_1 : decode cX4_restore 1 = .ok (.getfield 21, 3) := by decide +kernel
theorem dX4_restore_4 : decode cX4_restore 4 = .ok (.ifCond .le 42, 3) := by decide +kernel
theorem dX4_restore_7 : decode cX4_restore 7 = .ok (.aload_n 0, 1) := by decide +kernel
theorem dX4_restore_8 : decode cX4_restore 8 = .ok (.aload_n 0, 1) := by decide +kernel
theorem dX4_restore_9 : decode cX4_restore 9 = .ok (.getfield 17, 3) := by decide +kernel
theorem dX4_restore_12 : decode cX4_restore 12 = .ok (.bipush 20, 2) := by decide +kernel
theorem dX4_restore_14 : decode cX4_restore 14 = .ok (.iadd, 1) := by decide +kernel
theorem dX4_restore_15 : decode cX4_restore 15 = .ok (.iconst 1, 1) := by decide +kernel
theorem dX4_restore_16 : decode cX4_restore 16 = .ok (.isub, 1) := by decide +kernel
theorem dX4_restore_17 : decode cX4_restore 17 = .ok (.bipush 20, 2) := by decide +kernel
theorem dX4_restore_19 : decode cX4_restore 19 = .ok (.irem, 1) := by decide +kernel
theorem dX4_restore_20 : decode cX4_restore 20 = .ok (.putfield 17, 3) := by decide +kernel
theorem dX4_restore_23 : decode cX4_restore 23 = .ok (.aload_n 1, 1) := by decide +kernel
theorem dX4_restore_24 : decode cX4_restore 24 = .ok (.aload_n 0, 1) := by decide +kernel
theorem dX4_restore_25 : decode cX4_restore 25 = .ok (.getfield 11, 3) := by decide +kernel
theorem dX4_restore_28 : decode cX4_restore 28 = .ok (.aload_n 0, 1) := by decide +kernel
theorem dX4_restore_29 : decode cX4_restore 29 = .ok (.getfield 17, 3) := by decide +kernel
theorem dX4_restore_32 : decode cX4_restore 32 = .ok (.aaload, 1) := by decide +kernel
theorem dX4_restore_33 : decode cX4_restore 33 = .ok (.invokevirtual 25, 3) := by decide +kernel
theorem dX4_restore_36 : decode cX4_restore 36 = .ok (.aload_n 0, 1) := by decide +kernel
theorem dX4_restore_37 : decode cX4_restore 37 = .ok (.dup, 1) := by decide +kernel
theorem dX4_restore_38 : decode cX4_restore 38 = .ok (.getfield 21, 3) := by decide +kernel
theorem dX4_restore_41 : decode cX4_restore 41 = .ok (.iconst 1, 1) := by decide +kernel
theorem dX4_restore_42 : decode cX4_restore 42 = .ok (.isub, 1) := by decide +kernel
theorem dX4_restore_43 : decode cX4_restore 43 = .ok (.putfield 21, 3) := by decide +kernel
theorem dX4_restore_46 : decode cX4_restore 46 = .ok (.return_, 1) := by decide +kernel
set_option maxRecDepth 100000 in
set_option maxHeartbeats 4000000 in
theorem X4_restore_ct {l0 : Nat} {l1 : Nat} {m : Mem} {out : Mem} (h : X4_restore l0 l1 m = some out) : shK l0 = 4 + 10 ∧ CT yX4_restore cX4_restore 2 none 2 0 0 [vR l0, vR l1] 312 m none 312 out := by
  unfold X4_restore at h
  obtain ⟨hK, h⟩ := ite_some h
  have hlv : 1 < 2 := by decide
  refine ⟨hK, CT.of (by decide +kernel) rfl (Nat.le_of_ble_eq_true rfl) (ls := [some (vR l0), some (vR l1)]) rfl fun g w C _ => ?_⟩
  refine j_aload_n C dX4_restore_0 rfl ?_
  refine j_getI C dX4_restore_1 CF4 (by decide) fl_X4_21 rfl rfl h (fun t1 h => ?_)
  refine j_if_le C 46 dX4_restore_4 rfl h (fun c10 h => ?_) (fun c10 h => ?_)
  · have e := Option.some.inj h
    subst e
    exact j_rv C dX4_restore_46 rfl rfl
  · refine j_aload_n C dX4_restore_7 rfl ?_
    refine j_aload_n C dX4_restore_8 rfl ?_
    refine j_getI C dX4_restore_9 CF4 (by decide) fl_X4_17 rfl rfl h (fun t2 h => ?_)
    refine j_bipush C dX4_restore_12 rfl ?_
    refine j_iadd C dX4_restore_14 ?_
    refine j_iconst C dX4_restore_15 rfl ?_
    refine j_isub C dX4_restore_16 ?_
    refine j_bipush C dX4_restore_17 rfl ?_
    refine j_irem C dX4_restore_19 (by decide) ?_
    refine j_putI C dX4_restore_20 CF4 (by decide) fl_X4_17 rfl rfl rfl rfl h (fun m3 h => ?_)
    refine j_aload_n C dX4_restore_23 rfl ?_
    refine j_aload_n C dX4_restore_24 rfl ?_
    refine j_getR C dX4_restore_25 CF4 (by decide) fl_X4_11 rfl rfl h (fun t4 h => ?_)
    refine j_aload_n C dX4_restore_28 rfl ?_
    refine j_getI C dX4_restore_29 CF4 (by decide) fl_X4_17 rfl rfl h (fun t5 h => ?_)
    refine j_aald C dX4_restore_32 rfl h (fun t6 h => ?_)
    obtain ⟨p7, ep7, h⟩ := bind_some h
    have qp7 := X1_copyFrom_ct ep7
    refine j_cVV C dX4_restore_33 vl_X4_25 CF1 rfl qp7.1 qp7.2 (by omega) rfl rfl (Nat.le_of_ble_eq_true rfl) ?_
    refine j_aload_n C dX4_restore_36 rfl ?_
    refine j_dup C dX4_restore_37 rfl ?_
    refine j_getI C dX4_restore_38 CF4 (by decide) fl_X4_21 rfl rfl h (fun t8 h => ?_)
    refine j_iconst C dX4_restore_41 rfl ?_
    refine j_isub C dX4_restore_42 ?_
    refine j_putI C dX4_restore_43 CF4 (by decide) fl_X4_21 rfl rfl rfl rfl h (fun m9 h => ?_)
    have e := Option.some.inj h
    subst e
    exact j_rv C dX4_restore_46 rfl rfl
theorem dX10_undo_0 : decode cX10_undo 0 = .ok (.aload_n 0, 1) := by decide +kernel
theorem dX10_undo_1 : decode cX10_undo 1 = .ok (.getfield 47, 3) := by decide +kernel
theorem dX10_undo_4 : decode cX10_undo 4 = .ok (.getfield 170, 3) := by decide +kernel
theorem dX10_undo_7 : decode cX10_undo 7 = .ok (.ifCond .ne 11, 3) := by decide +kernel
theorem dX10_undo_10 : decode cX10_undo 10 = .ok (.aload_n 0, 1) := by decide +kernel
theorem dX10_undo_11 : decode cX10_undo 11 = .ok (.iconst 4, 1) := by decide +kernel
theorem dX10_undo_12 : decode cX10_undo 12 = .ok (.invokevirtual 101, 3) := by decide +kernel
theorem dX10_undo_15 : decode cX10_undo 15 = .ok (.pop, 1) := by decide +kernel
theorem dX10_undo_16 : decode cX10_undo 16 = .ok (.iconst 0, 1) := by decide +kernel
theorem dX10_undo_17 : decode cX10_undo 17 = .ok (.ireturn, 1) := by decide +kernel
theorem dX10_undo_18 : decode cX10_undo 18 = .ok (.aload_n 0, 1) := by decide +kernel
theorem dX10_undo_19 : decode cX10_undo 19 = .ok (.getfield 47, 3) := by decide +kernel
theorem dX10_undo_22 : decode cX10_undo 22 = .ok (.aload_n 0, 1) := by decide +kernel
theorem dX10_undo_23 : decode cX10_undo 23 = .ok (.getfield 37, 3) := by decide +kernel
theorem dX10_undo_26 : decode cX10_undo 26 = .ok (.invokevirtual 314, 3) := by decide +kernel
theorem dX10_undo_29 : decode cX10_undo 29 = .ok (.aload_n 0, 1) := by decide +kernel
theorem dX10_undo_30 : decode cX10_undo 30 = .ok (.invokevirtual 124, 3) := by decide +kernel
theorem dX10_undo_33 : decode cX10_undo 33 = .ok (.iconst 1, 1) := by decide +kernel
theorem dX10_undo_34 : decode cX10_undo 34 = .ok (.ireturn, 1) := by decide +kernel
set_option maxRecDepth 100000 in
set_option maxHeartbeats 4000000 in
theorem X10_undo_ct {l0 : Nat} {m : Mem} {out : (Int × Mem)} (h : X10_undo l0 m = some out) : shK l0 = 10 + 10 ∧ CT yX10_undo cX10_undo 1 (some .boolean) 3 0 0 [vR l0] 312 m (some (vI out.1)) 312 out.2 := by
  unfold X10_undo at h
  obtain ⟨hK, h⟩ := ite_some h
  have hlv : 2 < 3 := by decide
  refine ⟨hK, CT.of (by decide +kernel) rfl (Nat.le_of_ble_eq_true rfl) (ls := [some (vR l0)]) rfl fun g w C _ => ?_⟩
  refine j_aload_n C dX10_undo_0 rfl ?_
  refine j_getR C dX10_undo_1 CF10 (by decide) fl_X10_47 rfl rfl h (fun t1 h => ?_)
  refine j_getI C dX10_undo_4 CF4 (by decide) fl_X10_170 rfl rfl h (fun t2 h => ?_)
  refine j_if_ne C 18 dX10_undo_7 rfl h (fun c10 h => ?_) (fun c10 h => ?_)
  · refine j_aload_n C dX10_undo_18 rfl ?_
    refine j_getR C dX10_undo_19 CF10 (by decide) fl_X10_47 rfl rfl h (fun t3 h => ?_)
    refine j_aload_n C dX10_undo_22 rfl ?_
    refine j_getR C dX10_undo_23 CF10 (by decide) fl_X10_37 rfl rfl h (fun t4 h => ?_)
    obtain ⟨p5, ep5, h⟩ := bind_some h
    have qp5 := X4_restore_ct ep5
    refine j_cVV C dX10_undo_26 vl_X10_314 CF4 rfl qp5.1 qp5.2 (by omega) rfl rfl (Nat.le_of_ble_eq_true rfl) ?_
    refine j_aload_n C dX10_undo_29 rfl ?_
    obtain ⟨p6, ep6, h⟩ := bind_some h
    have qp6 := X10_changed_ct ep6
    refine j_cVV C dX10_undo_30 vl_X10_124 CF10 rfl qp6.1 qp6.2 (by omega) rfl rfl (Nat.le_of_ble_eq_true rfl) ?_
    refine j_iconst C dX10_undo_33 rfl ?_
    obtain ⟨r7, er7, h⟩ := bind_some h
    have e := Option.some.inj h
    subst e
    exact j_rz C dX10_undo_34 rfl (retZ_some er7) rfl
  · refine j_aload_n C dX10_undo_10 rfl ?_
    refine j_iconst C dX10_undo_11 rfl ?_
    obtain ⟨p8, ep8, h⟩ := bind_some h
    have qp8 := X10_refuse_ct ep8
    refine j_cVI C dX10_undo_12 vl_X10_101 CF10 rfl qp8.1 qp8.2 (by omega) rfl rfl (Nat.le_of_ble_eq_true rfl) ?_
    refine j_pop C dX10_undo_15 rfl ?_
    refine j_iconst C dX10_undo_16 rfl ?_
    obtain ⟨r9, er9, h⟩ := bind_some h
    have e := Option.some.inj h
    subst e
    exact j_rz C dX10_undo_17 rfl (retZ_some er9) rfl
theorem dX10_unlikeBytes_0 : decode cX10_unlikeBytes 0 = .ok (.iconst 0, 1) := by decide +kernel
theorem dX10_unlikeBytes_1 : decode cX10_unlikeBytes 1 = .ok (.istore_n 3, 1) := by decide +kernel
theorem dX10_unlikeBytes_2 : decode cX10_unlikeBytes 2 = .ok (.iload_n 3, 1) := by decide +kernel
theorem dX10_unlikeBytes_3 : decode cX10_unlikeBytes 3 = .ok (.iload_n 1, 1) := by decide +kernel
theorem dX10_unlikeBytes_4 : decode cX10_unlikeBytes 4 = .ok (.if_icmp .ge 54, 3) := by decide +kernel
theorem dX10_unlikeBytes_7 : decode cX10_unlikeBytes 7 = .ok (.aload_n 0, 1) := by decide +kernel
theorem dX10_unlikeBytes_8 : decode cX10_unlikeBytes 8 = .ok (.getfield 9, 3) := by decide +kernel
theorem dX10_unlikeBytes_11 : decode cX10_unlikeBytes 11 = .ok (.iload_n 3, 1) := by decide +kernel
theorem dX10_unlikeBytes_12 : decode cX10_unlikeBytes 12 = .ok (.iaload, 1) := by decide +kernel
theorem dX10_unlikeBytes_13 : decode cX10_unlikeBytes 13 = .ok (.iload_n 2, 1) := by decide +kernel
theorem dX10_unlikeBytes_14 : decode cX10_unlikeBytes 14 = .ok (.if_icmp .lt 5, 3) := by decide +kernel
theorem dX10_unlikeBytes_17 : decode cX10_unlikeBytes 17 = .ok (.iconst 0, 1) := by decide +kernel
theorem dX10_unlikeBytes_18 : decode cX10_unlikeBytes 18 = .ok (.ireturn, 1) := by decide +kernel
theorem dX10_unlikeBytes_19 : decode cX10_unlikeBytes 19 = .ok (.iconst 0, 1) := by decide +kernel
theorem dX10_unlikeBytes_20 : decode cX10_unlikeBytes 20 = .ok (.istore 4, 2) := by decide +kernel
theorem dX10_unlikeBytes_22 : decode cX10_unlikeBytes 22 = .ok (.iload 4, 2) := by decide +kernel
theorem dX10_unlikeBytes_24 : decode cX10_unlikeBytes 24 = .ok (.iload_n 3, 1) := by decide +kernel
theorem dX10_unlikeBytes_25 : decode cX10_unlikeBytes 25 = .ok (.if_icmp .ge 27, 3) := by decide +kernel
theorem dX10_unlikeBytes_28 : decode cX10_unlikeBytes 28 = .ok (.aload_n 0, 1) := by decide +kernel
theorem dX10_unlikeBytes_29 : decode cX10_unlikeBytes 29 = .ok (.getfield 9, 3) := by decide +kernel
theorem dX10_unlikeBytes_32 : decode cX10_unlikeBytes 32 = .ok (.iload 4, 2) := by decide +kernel
theorem dX10_unlikeBytes_34 : decode cX10_unlikeBytes 34 = .ok (.iaload, 1) := by decide +kernel
theorem dX10_unlikeBytes_35 : decode cX10_unlikeBytes 35 = .ok (.aload_n 0, 1) := by decide +kernel
theorem dX10_unlikeBytes_36 : decode cX10_unlikeBytes 36 = .ok (.getfield 9, 3) := by decide +kernel
theorem dX10_unlikeBytes_39 : decode cX10_unlikeBytes 39 = .ok (.iload_n 3, 1) := by decide +kernel
theorem dX10_unlikeBytes_40 : decode cX10_unlikeBytes 40 = .ok (.iaload, 1) := by decide +kernel
theorem dX10_unlikeBytes_41 : decode cX10_unlikeBytes 41 = .ok (.if_icmp .ne 5, 3) := by decide +kernel
theorem dX10_unlikeBytes_44 : decode cX10_unlikeBytes 44 = .ok (.iconst 0, 1) := by decide +kernel
theorem dX10_unlikeBytes_45 : decode cX10_unlikeBytes 45 = .ok (.ireturn, 1) := by decide +kernel
theorem dX10_unlikeBytes_46 : decode cX10_unlikeBytes 46 = .ok (.iinc 4 1, 3) := by decide +kernel
theorem dX10_unlikeBytes_49 : decode cX10_unlikeBytes 49 = .ok (.goto (-27), 3) := by decide +kernel
theorem dX10_unlikeBytes_52 : decode cX10_unlikeBytes 52 = .ok (.iinc 3 1, 3) := by decide +kernel
theorem dX10_unlikeBytes_55 : decode cX10_unlikeBytes 55 = .ok (.goto (-53), 3) := by decide +kernel
theorem dX10_unlikeBytes_58 : decode cX10_unlikeBytes 58 = .ok (.iconst 1, 1) := by decide +kernel
theorem dX10_unlikeBytes_59 : decode cX10_unlikeBytes 59 = .ok (.ireturn, 1) := by decide +kernel
set_option maxRecDepth 100000 in
set_option maxHeartbeats 4000000 in
theorem X10_unlikeBytes_L22_bok {g : Gm} {w : Wd} (C : Cx g w RX10 cX10_unlikeBytes 5 (some .boolean)) {lv : Nat} (hlv : 0 < lv) {N : Nat} {k52 : Nat → Int → Int → Int → Option Int} {r22 : Nat → Int → Int → Int → Int → Option Int} {l0 : Nat} {l1 : Int} {l2 : Int} {l3 : Int} {l4 : Int} {m : Mem} {out : Int} (hk52 : ∀ l0 l1 l2 l3, k52 l0 l1 l2 l3 = some out → Jd g w 5 (rmL lv 0 0) (Qm g w (some (vI out)) m) 52 [some (vR l0), some (vI l1), some (vI l2), some (vI l3), none] [] 312 m 0 0) (hr22 : ∀ l0 l1 l2 l3 l4, r22 l0 l1 l2 l3 l4 = some out → Jd g w 5 (rmL lv 0 0) (Qm g w (some (vI out)) m) 22 [some (vR l0), some (vI l1), some (vI l2), some (vI l3), some (vI l4)] [] 312 m 0 0) (h : X10_unlikeBytes_L22_b N k52 m r22 l0 l1 l2 l3 l4 = some out) : Jd g w 5 (rmL lv 0 0) (Qm g w (some (vI out)) m) 22 [some (vR l0), some (vI l1), some (vI l2), some (vI l3), some (vI l4)] [] 312 m 0 0 := by
  unfold X10_unlikeBytes_L22_b at h
  refine j_iload C dX10_unlikeBytes_22 rfl ?_
  refine j_iload_n C dX10_unlikeBytes_24 rfl ?_
  refine j_icmp_ge C 52 dX10_unlikeBytes_25 rfl h (fun c8 h => ?_) (fun c8 h => ?_)
  · refine j_mask [true, true, true, true, false] (ls' := [some (vR _), some (vI _), some (vI _), some (vI _), none]) rfl ?_
    exact hk52 _ _ _ _ h
  · refine j_aload_n C dX10_unlikeBytes_28 rfl ?_
    refine j_getR C dX10_unlikeBytes_29 CF10 (by decide) fl_X10_9 rfl rfl h (fun t3 h => ?_)
    refine j_iload C dX10_unlikeBytes_32 rfl ?_
    refine j_iald C dX10_unlikeBytes_34 rfl h (fun t4 h => ?_)
    refine j_aload_n C dX10_unlikeBytes_35 rfl ?_
    refine j_getR C dX10_unlikeBytes_36 CF10 (by decide) fl_X10_9 rfl rfl h (fun t5 h => ?_)
    refine j_iload_n C dX10_unlikeBytes_39 rfl ?_
    refine j_iald C dX10_unlikeBytes_40 rfl h (fun t6 h => ?_)
    refine j_icmp_ne C 46 dX10_unlikeBytes_41 rfl h (fun c7 h => ?_) (fun c7 h => ?_)
    · refine j_iinc (ls' := [some (vR _), some (vI _), some (vI _), some (vI _), some (vI _)]) C dX10_unlikeBytes_46 rfl (by decide) rfl ?_
      refine j_goto C 22 dX10_unlikeBytes_49 rfl ?_
      exact hr22 _ _ _ _ _ h
    · refine j_iconst C dX10_unlikeBytes_44 rfl ?_
      exact j_rz C dX10_unlikeBytes_45 rfl (retZ_some h) rfl
set_option maxRecDepth 100000 in
set_option maxHeartbeats 4000000 in
theorem X10_unlikeBytes_L22_ok {g : Gm} {w : Wd} (C : Cx g w RX10 cX10_unlikeBytes 5 (some .boolean)) {lv : Nat} (hlv : 0 < lv) {N : Nat} {k52 : Nat → Int → Int → Int → Option Int} {m : Mem} {out : Int} (hk52 : ∀ l0 l1 l2 l3, k52 l0 l1 l2 l3 = some out → Jd g w 5 (rmL lv 0 0) (Qm g w (some (vI out)) m) 52 [some (vR l0), some (vI l1), some (vI l2), some (vI l3), none] [] 312 m 0 0) (f : Nat) : ∀ {l0 : Nat} {l1 : Int} {l2 : Int} {l3 : Int} {l4 : Int}, X10_unlikeBytes_L22 N k52 m f l0 l1 l2 l3 l4 = some out → Jd g w 5 (rmL lv 0 0) (Qm g w (some (vI out)) m) 22 [some (vR l0), some (vI l1), some (vI l2), some (vI l3), some (vI l4)] [] 312 m 0 0 := by
  induction f with
  | zero => intro l0 l1 l2 l3 l4 h; exact none_ne (α := Int) h
  | succ f ih => intro l0 l1 l2 l3 l4 h; exact X10_unlikeBytes_L22_bok C hlv hk52 (fun l0 l1 l2 l3 l4 h => ih h) h
set_option maxRecDepth 100000 in
set_option maxHeartbeats 4000000 in
theorem X10_unlikeBytes_L2_bok {g : Gm} {w : Wd} (C : Cx g w RX10 cX10_unlikeBytes 5 (some .boolean)) {lv : Nat} (hlv : 0 < lv) {N : Nat} {r2 : Nat → Int → Int → Int → Option Int} {l0 : Nat} {l1 : Int} {l2 : Int} {l3 : Int} {m : Mem} {out : Int} (hr2 : ∀ l0 l1 l2 l3, r2 l0 l1 l2 l3 = some out → Jd g w 5 (rmL lv 0 0) (Qm g w (some (vI out)) m) 2 [some (vR l0), some (vI l1), some (vI l2), some (vI l3), none] [] 312 m 0 0) (h : X10_unlikeBytes_L2_b N m r2 l0 l1 l2 l3 = some out) : Jd g w 5 (rmL lv 0 0) (Qm g w (some (vI out)) m) 2 [some (vR l0), some (vI l1), some (vI l2), some (vI l3), none] [] 312 m 0 0 := by
  unfold X10_unlikeBytes_L2_b at h
  refine j_iload_n C dX10_unlikeBytes_2 rfl ?_
  refine j_iload_n C dX10_unlikeBytes_3 rfl ?_
  refine j_icmp_ge C 58 dX10_unlikeBytes_4 rfl h (fun c14 h => ?_) (fun c14 h => ?_)
  · refine j_iconst C dX10_unlikeBytes_58 rfl ?_
    exact j_rz C dX10_unlikeBytes_59 rfl (retZ_some h) rfl
  · refine j_aload_n C dX10_unlikeBytes_7 rfl ?_
    refine j_getR C dX10_unlikeBytes_8 CF10 (by decide) fl_X10_9 rfl rfl h (fun t1 h => ?_)
    refine j_iload_n C dX10_unlikeBytes_11 rfl ?_
    refine j_iald C dX10_unlikeBytes_12 rfl h (fun t2 h => ?_)
    refine j_iload_n C dX10_unlikeBytes_13 rfl ?_
    refine j_icmp_lt C 19 dX10_unlikeBytes_14 rfl h (fun c13 h => ?_) (fun c13 h => ?_)
    · refine j_iconst C dX10_unlikeBytes_19 rfl ?_
      refine j_istore (ls' := [some (vR _), some (vI _), some (vI _), some (vI _), some (vI _)]) C dX10_unlikeBytes_20 (by decide) rfl ?_
      refine X10_unlikeBytes_L22_ok C hlv (fun z9 z10 z11 z12 h => ?_) N h
      refine j_iinc (ls' := [some (vR _), some (vI _), some (vI _), some (vI _), none]) C dX10_unlikeBytes_52 rfl (by decide) rfl ?_
      refine j_goto C 2 dX10_unlikeBytes_55 rfl ?_
      exact hr2 _ _ _ _ h
    · refine j_iconst C dX10_unlikeBytes_17 rfl ?_
      exact j_rz C dX10_unlikeBytes_18 rfl (retZ_some h) rfl
set_option maxRecDepth 100000 in
set_option maxHeartbeats 4000000 in
theorem X10_unlikeBytes_L2_ok {g : Gm} {w : Wd} (C : Cx g w RX10 cX10_unlikeBytes 5 (some .boolean)) {lv : Nat} (hlv : 0 < lv) {N : Nat} {m : Mem} {out : Int} (f : Nat) : ∀ {l0 : Nat} {l1 : Int} {l2 : Int} {l3 : Int}, X10_unlikeBytes_L2 N m f l0 l1 l2 l3 = some out → Jd g w 5 (rmL lv 0 0) (Qm g w (some (vI out)) m) 2 [some (vR l0), some (vI l1), some (vI l2), some (vI l3), none] [] 312 m 0 0 := by
  induction f with
  | zero => intro l0 l1 l2 l3 h; exact none_ne (α := Int) h
  | succ f ih => intro l0 l1 l2 l3 h; exact X10_unlikeBytes_L2_bok C hlv (fun l0 l1 l2 l3 h => ih h) h
set_option maxRecDepth 100000 in
set_option maxHeartbeats 4000000 in
theorem X10_unlikeBytes_ct {N : Nat} {l0 : Nat} {l1 : Int} {l2 : Int} {m : Mem} {out : Int} (h : X10_unlikeBytes N l0 l1 l2 m = some out) : shK l0 = 10 + 10 ∧ CT yX10_unlikeBytes cX10_unlikeBytes 5 (some .boolean) 1 0 0 [vR l0, vI l1, vI l2] 312 m (some (vI out)) 312 m := by
  unfold X10_unlikeBytes at h
  obtain ⟨hK, h⟩ := ite_some h
  have hlv : 0 < 1 := by decide
  refine ⟨hK, CT.of (by decide +kernel) rfl (Nat.le_of_ble_eq_true rfl) (ls := [some (vR l0), some (vI l1), some (vI l2), none, none]) rfl fun g w C _ => ?_⟩
  refine j_iconst C dX10_unlikeBytes_0 rfl ?_
  refine j_istore_n (ls' := [some (vR _), some (vI _), some (vI _), some (vI _), none]) C dX10_unlikeBytes_1 (by decide) rfl ?_
  exact X10_unlikeBytes_L2_ok C hlv N h
theorem dX10_votes_0 : decode cX10_votes 0 = .ok (.aload_n 0, 1) := by decide +kernel
theorem dX10_votes_1 : decode cX10_votes 1 = .ok (.getfield 37, 3) := by decide +kernel
theorem dX10_votes_4 : decode cX10_votes 4 = .ok (.iload_n 1, 1) := by decide +kernel
theorem dX10_votes_5 : decode cX10_votes 5 = .ok (.invokevirtual 294, 3) := by decide +kernel
theorem dX10_votes_8 : decode cX10_votes 8 = .ok (.ifCond .eq 12, 3) := by decide +kernel
theorem dX10_votes_11 : decode cX10_votes 11 = .ok (.iload_n 2, 1) := by decide +kernel
theorem dX10_votes_12 : decode cX10_votes 12 = .ok (.ifCond .lt 8, 3) := by decide +kernel
theorem dX10_votes_15 : decode cX10_votes 15 = .ok (.iload_n 2, 1) := by decide +kernel
theorem dX10_votes_16 : decode cX10_votes 16 = .ok (.iconst 1, 1) := by decide +kernel
theorem dX10_votes_17 : decode cX10_votes 17 = .ok (.if_icmp .le 5, 3) := by decide +kernel
theorem dX10_votes_20 : decode cX10_votes 20 = .ok (.iconst (-1), 1) := by decide +kernel
theorem dX10_votes_21 : decode cX10_votes 21 = .ok (.ireturn, 1) := by decide +kernel
theorem dX10_votes_22 : decode cX10_votes 22 = .ok (.aload_n 0, 1) := by decide +kernel
theorem dX10_votes_23 : decode cX10_votes 23 = .ok (.invokevirtual 226, 3) := by decide +kernel
theorem dX10_votes_26 : decode cX10_votes 26 = .ok (.astore_n 3, 1) := by decide +kernel
theorem dX10_votes_27 : decode cX10_votes 27 = .ok (.aload_n 0, 1) := by decide +kernel
theorem dX10_votes_28 : decode cX10_votes 28 = .ok (.iload_n 1, 1) := by decide +kernel
theorem dX10_votes_29 : decode cX10_votes 29 = .ok (.invokevirtual 368, 3) := by decide +kernel
theorem dX10_votes_32 : decode cX10_votes 32 = .ok (.iconst 0, 1) := by decide +kernel
theorem dX10_votes_33 : decode cX10_votes 33 = .ok (.istore 4, 2) := by decide +kernel
theorem dX10_votes_35 : decode cX10_votes 35 = .ok (.iconst 0, 1) := by decide +kernel
theorem dX10_votes_36 : decode cX10_votes 36 = .ok (.istore 5, 2) := by decide +kernel
theorem dX10_votes_38 : decode cX10_votes 38 = .ok (.iload 5, 2) := by decide +kernel
theorem dX10_votes_40 : decode cX10_votes 40 = .ok (.aload_n 0, 1) := by decide +kernel
theorem dX10_votes_41 : decode cX10_votes 41 = .ok (.getfield 27, 3) := by decide +kernel
theorem dX10_votes_44 : decode cX10_votes 44 = .ok (.getfield 149, 3) := by decide +kernel
theorem dX10_votes_47 : decode cX10_votes 47 = .ok (.if_icmp .ge 38, 3) := by decide +kernel
theorem dX10_votes_50 : decode cX10_votes 50 = .ok (.aload_n 0, 1) := by decide +kernel
theorem dX10_votes_51 : decode cX10_votes 51 = .ok (.aload_n 3, 1) := by decide +kernel
theorem dX10_votes_52 : decode cX10_votes 52 = .ok (.iload 5, 2) := by decide +kernel
theorem dX10_votes_54 : decode cX10_votes 54 = .ok (.invokevirtual 371, 3) := by decide +kernel
theorem dX10_votes_57 : decode cX10_votes 57 = .ok (.istore 6, 2) := by decide +kernel
theorem dX10_votes_59 : decode cX10_votes 59 = .ok (.iload_n 2, 1) := by decide +kernel
theorem dX10_votes_60 : decode cX10_votes 60 = .ok (.ifCond .ne 11, 3) := by decide +kernel
theorem dX10_votes_63 : decode cX10_votes 63 = .ok (.iload 6, 2) := by decide +kernel
theorem dX10_votes_65 : decode cX10_votes 65 = .ok (.ifCond .le 14, 3) := by decide +kernel
theorem dX10_votes_68 : decode cX10_votes 68 = .ok (.goto 8, 3) := by decide +kernel
theorem dX10_votes_71 : decode cX10_votes 71 = .ok (.iload 6, 2) := by decide +kernel
theorem dX10_votes_73 : decode cX10_votes 73 = .ok (.ifCond .ge 6, 3) := by decide +kernel
theorem dX10_votes_76 : decode cX10_votes 76 = .ok (.iinc 4 1, 3) := by decide +kernel
theorem dX10_votes_79 : decode cX10_votes 79 = .ok (.iinc 5 1, 3) := by decide +kernel
theorem dX10_votes_82 : decode cX10_votes 82 = .ok (.goto (-44), 3) := by decide +kernel
theorem dX10_votes_85 : decode cX10_votes 85 = .ok (.iload 4, 2) := by decide +kernel
theorem dX10_votes_87 : decode cX10_votes 87 = .ok (.ireturn, 1) := by decide +kernel
set_option maxRecDepth 100000 in
set_option maxHeartbeats 4000000 in
theorem X10_votes_J79_ok {g : Gm} {w : Wd} (C : Cx g w RX10 cX10_votes 7 (some .int)) {lv : Nat} (hlv : 6 < lv) {N : Nat} {r38 : Nat → Int → Nat → Int → Int → Mem → Option (Int × Mem) } {l0 : Nat} {l2 : Int} {l3 : Nat} {l4 : Int} {l5 : Int} {m : Mem} {out : (Int × Mem)} (hr38 : ∀ l0 l2 l3 l4 l5 m, r38 l0 l2 l3 l4 l5 m = some out → Jd g w 7 (rmL lv 0 0) (Qm g w (some (vI out.1)) out.2) 38 [some (vR l0), none, some (vI l2), some (vR l3), some (vI l4), some (vI l5), none] [] 312 m 0 0) (h : X10_votes_J79 N r38 l0 l2 l3 l4 l5 m = some out) : Jd g w 7 (rmL lv 0 0) (Qm g w (some (vI out.1)) out.2) 79 [some (vR l0), none, some (vI l2), some (vR l3), some (vI l4), some (vI l5), none] [] 312 m 0 0 := by
  unfold X10_votes_J79 at h
  refine j_iinc (ls' := [some (vR _), none, some (vI _), some (vR _), some (vI _), some (vI _), none]) C dX10_votes_79 rfl (by decide) rfl ?_
  refine j_goto C 38 dX10_votes_82 rfl ?_
  exact hr38 _ _ _ _ _ _ h
set_option maxRecDepth 100000 in
set_option maxHeartbeats 4000000 in
theorem X10_votes_J76_ok {g : Gm} {w : Wd} (C : Cx g w RX10 cX10_votes 7 (some .int)) {lv : Nat} (hlv : 6 < lv) {N : Nat} {r38 : Nat → Int → Nat → Int → Int → Mem → Option (Int × Mem) } {l0 : Nat} {l2 : Int} {l3 : Nat} {l4 : Int} {l5 : Int} {m : Mem} {out : (Int × Mem)} (hr38 : ∀ l0 l2 l3 l4 l5 m, r38 l0 l2 l3 l4 l5 m = some out → Jd g w 7 (rmL lv 0 0) (Qm g w (some (vI out.1)) out.2) 38 [some (vR l0), none, some (vI l2), some (vR l3), some (vI l4), some (vI l5), none] [] 312 m 0 0) (h : X10_votes_J76 N r38 l0 l2 l3 l4 l5 m = some out) : Jd g w 7 (rmL lv 0 0) (Qm g w (some (vI out.1)) out.2) 76 [some (vR l0), none, some (vI l2), some (vR l3), some (vI l4), some (vI l5), none] [] 312 m 0 0 := by
  unfold X10_votes_J76 at h
  refine j_iinc (ls' := [some (vR _), none, some (vI _), some (vR _), some (vI _), some (vI _), none]) C dX10_votes_76 rfl (by decide) rfl ?_
  exact X10_votes_J79_ok C hlv hr38 h
set_option maxRecDepth 100000 in
set_option maxHeartbeats 4000000 in
theorem X10_votes_L38_bok {g : Gm} {w : Wd} (C : Cx g w RX10 cX10_votes 7 (some .int)) {lv : Nat} (hlv : 6 < lv) {N : Nat} {r38 : Nat → Int → Nat → Int → Int → Mem → Option (Int × Mem)} {l0 : Nat} {l2 : Int} {l3 : Nat} {l4 : Int} {l5 : Int} {m : Mem} {out : (Int × Mem)} (hr38 : ∀ l0 l2 l3 l4 l5 m, r38 l0 l2 l3 l4 l5 m = some out → Jd g w 7 (rmL lv 0 0) (Qm g w (some (vI out.1)) out.2) 38 [some (vR l0), none, some (vI l2), some (vR l3), some (vI l4), some (vI l5), none] [] 312 m 0 0) (h : X10_votes_L38_b N r38 l0 l2 l3 l4 l5 m = some out) : Jd g w 7 (rmL lv 0 0) (Qm g w (some (vI out.1)) out.2) 38 [some (vR l0), none, some (vI l2), some (vR l3), some (vI l4), some (vI l5), none] [] 312 m 0 0 := by
  unfold X10_votes_L38_b at h
  refine j_iload C dX10_votes_38 rfl ?_
  refine j_aload_n C dX10_votes_40 rfl ?_
  refine j_getR C dX10_votes_41 CF10 (by decide) fl_X10_27 rfl rfl h (fun t5 h => ?_)
  refine j_getI C dX10_votes_44 CF5 (by decide) fl_X10_149 rfl rfl h (fun t6 h => ?_)
  refine j_icmp_ge C 85 dX10_votes_47 rfl h (fun c11 h => ?_) (fun c11 h => ?_)
  · refine j_iload C dX10_votes_85 rfl ?_
    have e := Option.some.inj h
    subst e
    exact j_ri C dX10_votes_87 rfl rfl rfl
  · refine j_aload_n C dX10_votes_50 rfl ?_
    refine j_aload_n C dX10_votes_51 rfl ?_
    refine j_iload C dX10_votes_52 rfl ?_
    obtain ⟨p7, ep7, h⟩ := bind_some h
    have qp7 := X10_gain_ct ep7
    refine j_cVI C dX10_votes_54 vl_X10_371 CF10 rfl qp7.1 qp7.2 (by omega) rfl rfl (Nat.le_of_ble_eq_true rfl) ?_
    refine j_istore (ls' := [some (vR _), none, some (vI _), some (vR _), some (vI _), some (vI _), some (vI _)]) C dX10_votes_57 (by decide) rfl ?_
    refine j_iload_n C dX10_votes_59 rfl ?_
    refine j_if_ne C 71 dX10_votes_60 rfl h (fun c10 h => ?_) (fun c10 h => ?_)
    · refine j_iload C dX10_votes_71 rfl ?_
      refine j_if_ge C 79 dX10_votes_73 rfl h (fun c8 h => ?_) (fun c8 h => ?_)
      · refine j_mask [true, false, true, true, true, true, false] (ls' := [some (vR _), none, some (vI _), some (vR _), some (vI _), some (vI _), none]) rfl ?_
        exact X10_votes_J79_ok C hlv hr38 h
      · refine j_mask [true, false, true, true, true, true, false] (ls' := [some (vR _), none, some (vI _), some (vR _), some (vI _), some (vI _), none]) rfl ?_
        exact X10_votes_J76_ok C hlv hr38 h
    · refine j_iload C dX10_votes_63 rfl ?_
      refine j_if_le C 79 dX10_votes_65 rfl h (fun c9 h => ?_) (fun c9 h => ?_)
      · refine j_mask [true, false, true, true, true, true, false] (ls' := [some (vR _), none, some (vI _), some (vR _), some (vI _), some (vI _), none]) rfl ?_
        exact X10_votes_J79_ok C hlv hr38 h
      · refine j_goto C 76 dX10_votes_68 rfl ?_
        refine j_mask [true, false, true, true, true, true, false] (ls' := [some (vR _), none, some (vI _), some (vR _), some (vI _), some (vI _), none]) rfl ?_
        exact X10_votes_J76_ok C hlv hr38 h
set_option maxRecDepth 100000 in
set_option maxHeartbeats 4000000 in
theorem X10_votes_L38_ok {g : Gm} {w : Wd} (C : Cx g w RX10 cX10_votes 7 (some .int)) {lv : Nat} (hlv : 6 < lv) {N : Nat} {out : (Int × Mem)} (f : Nat) : ∀ {l0 : Nat} {l2 : Int} {l3 : Nat} {l4 : Int} {l5 : Int} {m : Mem}, X10_votes_L38 N f l0 l2 l3 l4 l5 m = some out → Jd g w 7 (rmL lv 0 0) (Qm g w (some (vI out.1)) out.2) 38 [some (vR l0), none, some (vI l2), some (vR l3), some (vI l4), some (vI l5), none] [] 312 m 0 0 := by
  induction f with
  | zero => intro l0 l2 l3 l4 l5 m h; exact none_ne (α := (Int × Mem)) h
  | succ f ih => intro l0 l2 l3 l4 l5 m h; exact X10_votes_L38_bok C hlv (fun l0 l2 l3 l4 l5 m h => ih h) h
set_option maxRecDepth 100000 in
set_option maxHeartbeats 4000000 in
theorem X10_votes_ct {N : Nat} {l0 : Nat} {l1 : Int} {l2 : Int} {m : Mem} {out : (Int × Mem)} (h : X10_votes N l0 l1 l2 m = some out) : shK l0 = 10 + 10 ∧ CT yX10_votes cX10_votes 7 (some .int) 7 0 0 [vR l0, vI l1, vI l2] 312 m (some (vI out.1)) 312 out.2 := by
  unfold X10_votes at h
  obtain ⟨hK, h⟩ := ite_some h
  have hlv : 6 < 7 := by decide
  refine ⟨hK, CT.of (by decide +kernel) rfl (Nat.le_of_ble_eq_true rfl) (ls := [some (vR l0), some (vI l1), some (vI l2), none, none, none, none]) rfl fun g w C _ => ?_⟩
  refine j_aload_n C dX10_votes_0 rfl ?_
  refine j_getR C dX10_votes_1 CF10 (by decide) fl_X10_37 rfl rfl h (fun t1 h => ?_)
  refine j_iload_n C dX10_votes_4 rfl ?_
  obtain ⟨p2, ep2, h⟩ := bind_some h
  have qp2 := X1_hasWall_ct ep2
  refine j_cVI C dX10_votes_5 vl_X10_294 CF1 rfl qp2.1 qp2.2 (by omega) rfl rfl (Nat.le_of_ble_eq_true rfl) ?_
  refine j_if_eq C 20 dX10_votes_8 rfl h (fun c14 h => ?_) (fun c14 h => ?_)
  · refine j_iconst C dX10_votes_20 rfl ?_
    have e := Option.some.inj h
    subst e
    exact j_ri C dX10_votes_21 rfl rfl rfl
  · refine j_iload_n C dX10_votes_11 rfl ?_
    refine j_if_lt C 20 dX10_votes_12 rfl h (fun c13 h => ?_) (fun c13 h => ?_)
    · refine j_iconst C dX10_votes_20 rfl ?_
      have e := Option.some.inj h
      subst e
      exact j_ri C dX10_votes_21 rfl rfl rfl
    · refine j_iload_n C dX10_votes_15 rfl ?_
      refine j_iconst C dX10_votes_16 rfl ?_
      refine j_icmp_le C 22 dX10_votes_17 rfl h (fun c12 h => ?_) (fun c12 h => ?_)
      · refine j_aload_n C dX10_votes_22 rfl ?_
        obtain ⟨p3, ep3, h⟩ := bind_some h
        have qp3 := X10_asTold_ct ep3
        refine j_cVR C dX10_votes_23 vl_X10_226 CF10 rfl qp3.1 qp3.2 (by omega) rfl rfl (Nat.le_of_ble_eq_true rfl) ?_
        refine j_astore_n (ls' := [some (vR _), some (vI _), some (vI _), some (vR _), none, none, none]) C dX10_votes_26 (by decide) rfl ?_
        refine j_aload_n C dX10_votes_27 rfl ?_
        refine j_iload_n C dX10_votes_28 rfl ?_
        obtain ⟨p4, ep4, h⟩ := bind_some h
        have qp4 := X10_passWithout_ct ep4
        refine j_cVV C dX10_votes_29 vl_X10_368 CF10 rfl qp4.1 qp4.2 (by omega) rfl rfl (Nat.le_of_ble_eq_true rfl) ?_
        refine j_iconst C dX10_votes_32 rfl ?_
        refine j_istore (ls' := [some (vR _), some (vI _), some (vI _), some (vR _), some (vI _), none, none]) C dX10_votes_33 (by decide) rfl ?_
        refine j_iconst C dX10_votes_35 rfl ?_
        refine j_istore (ls' := [some (vR _), some (vI _), some (vI _), some (vR _), some (vI _), some (vI _), none]) C dX10_votes_36 (by decide) rfl ?_
        refine j_mask [true, false, true, true, true, true, false] (ls' := [some (vR _), none, some (vI _), some (vR _), some (vI _), some (vI _), none]) rfl ?_
        exact X10_votes_L38_ok C hlv N h
      · refine j_iconst C dX10_votes_20 rfl ?_
        have e := Option.some.inj h
        subst e
        exact j_ri C dX10_votes_21 rfl rfl rfl
theorem dX2_firstAt_0 : decode cX2_firstAt 0 = .ok (.aload_n 0, 1) := by decide +kernel
theorem dX2_firstAt_1 : decode cX2_firstAt 1 = .ok (.getfield 25, 3) := by decide +kernel
theorem dX2_firstAt_4 : decode cX2_firstAt 4 = .ok (.ifCond .le 24, 3) := by decide +kernel
theorem dX2_firstAt_7 : decode cX2_firstAt 7 = .ok (.iload_n 1, 1) := by decide +kernel
theorem dX2_firstAt_8 : decode cX2_firstAt 8 = .ok (.ifCond .lt 20, 3) := by decide +kernel
theorem dX2_firstAt_11 : decode cX2_firstAt 11 = .ok (.iload_n 1, 1) := by decide +kernel
theorem dX2_firstAt_12 : decode cX2_firstAt 12 = .ok (.aload_n 0, 1) := by decide +kernel
theorem dX2_firstAt_13 : decode cX2_firstAt 13 = .ok (.getfield 15, 3) := by decide +kernel
theorem dX2_firstAt_16 : decode cX2_firstAt 16 = .ok (.if_icmp .ge 12, 3) := by decide +kernel
theorem dX2_firstAt_19 : decode cX2_firstAt 19 = .ok (.aload_n 0, 1) := by decide +kernel
theorem dX2_firstAt_20 : decode cX2_firstAt 20 = .ok (.getfield 22, 3) := by decide +kernel
theorem dX2_firstAt_23 : decode cX2_firstAt 23 = .ok (.iload_n 1, 1) := by decide +kernel
theorem dX2_firstAt_24 : decode cX2_firstAt 24 = .ok (.iaload, 1) := by decide +kernel
theorem dX2_firstAt_25 : decode cX2_firstAt 25 = .ok (.goto 4, 3) := by decide +kernel
theorem dX2_firstAt_28 : decode cX2_firstAt 28 = .ok (.iconst (-1), 1) := by decide +kernel
theorem dX2_firstAt_29 : decode cX2_firstAt 29 = .ok (.ireturn, 1) := by decide +kernel
set_option maxRecDepth 100000 in
set_option maxHeartbeats 4000000 in
theorem X2_firstAt_ct {l0 : Nat} {l1 : Int} {m : Mem} {out : Int} (h : X2_firstAt l0 l1 m = some out) : shK l0 = 2 + 10 ∧ CT yX2_firstAt cX2_firstAt 2 (some .int) 1 0 0 [vR l0, vI l1] 312 m (some (vI out)) 312 m := by
  unfold X2_firstAt at h
  obtain ⟨hK, h⟩ := ite_some h
  have hlv : 0 < 1 := by decide
  refine ⟨hK, CT.of (by decide +kernel) rfl (Nat.le_of_ble_eq_true rfl) (ls := [some (vR l0), some (vI l1)]) rfl fun g w C _ => ?_⟩
  refine j_aload_n C dX2_firstAt_0 rfl ?_
  refine j_getI C dX2_firstAt_1 CF2 (by decide) fl_X2_25 rfl rfl h (fun t1 h => ?_)
  refine j_if_le C 28 dX2_firstAt_4 rfl h (fun c7 h => ?_) (fun c7 h => ?_)
  · refine j_iconst C dX2_firstAt_28 rfl ?_
    exact j_ri C dX2_firstAt_29 rfl (Option.some.inj h).symm rfl
  · refine j_iload_n C dX2_firstAt_7 rfl ?_
    refine j_if_lt C 28 dX2_firstAt_8 rfl h (fun c6 h => ?_) (fun c6 h => ?_)
    · refine j_iconst C dX2_firstAt_28 rfl ?_
      exact j_ri C dX2_firstAt_29 rfl (Option.some.inj h).symm rfl
    · refine j_iload_n C dX2_firstAt_11 rfl ?_
      refine j_aload_n C dX2_firstAt_12 rfl ?_
      refine j_getI C dX2_firstAt_13 CF2 (by decide) fl_X2_15 rfl rfl h (fun t2 h => ?_)
      refine j_icmp_ge C 28 dX2_firstAt_16 rfl h (fun c5 h => ?_) (fun c5 h => ?_)
      · refine j_iconst C dX2_firstAt_28 rfl ?_
        exact j_ri C dX2_firstAt_29 rfl (Option.some.inj h).symm rfl
      · refine j_aload_n C dX2_firstAt_19 rfl ?_
        refine j_getR C dX2_firstAt_20 CF2 (by decide) fl_X2_22 rfl rfl h (fun t3 h => ?_)
        refine j_iload_n C dX2_firstAt_23 rfl ?_
        refine j_iald C dX2_firstAt_24 rfl h (fun t4 h => ?_)
        refine j_goto C 29 dX2_firstAt_25 rfl ?_
        exact j_ri C dX2_firstAt_29 rfl (Option.some.inj h).symm rfl
theorem dX10_walk_0 : decode cX10_walk 0 = .ok (.aload_n 0, 1) := by decide +kernel
theorem dX10_walk_1 : decode cX10_walk 1 = .ok (.getfield 88, 3) := by decide +kernel
theorem dX10_walk_4 : decode cX10_walk 4 = .ok (.iload_n 1, 1) := by decide +kernel
theorem dX10_walk_5 : decode cX10_walk 5 = .ok (.invokevirtual 394, 3) := by decide +kernel
theorem dX10_walk_8 : decode cX10_walk 8 = .ok (.ireturn, 1) := by decide +kernel
set_option maxRecDepth 100000 in
set_option maxHeartbeats 4000000 in
theorem X10_walk_ct {l0 : Nat} {l1 : Int} {m : Mem} {out : Int} (h : X10_walk l0 l1 m = some out) : shK l0 = 10 + 10 ∧ CT yX10_walk cX10_walk 2 (some .int) 2 0 0 [vR l0, vI l1] 312 m (some (vI out)) 312 m := by
  unfold X10_walk at h
  obtain ⟨hK, h⟩ := ite_some h
  have hlv : 1 < 2 := by decide
  refine ⟨hK, CT.of (by decide +kernel) rfl (Nat.le_of_ble_eq_true rfl) (ls := [some (vR l0), some (vI l1)]) rfl fun g w C _ => ?_⟩
  refine j_aload_n C dX10_walk_0 rfl ?_
  refine j_getR C dX10_walk_1 CF10 (by decide) fl_X10_88 rfl rfl h (fun t1 h => ?_)
  refine j_iload_n C dX10_walk_4 rfl ?_
  obtain ⟨p2, ep2, h⟩ := bind_some h
  have qp2 := X2_firstAt_ct ep2
  refine j_cVI C dX10_walk_5 vl_X10_394 CF2 rfl qp2.1 qp2.2 (by omega) rfl rfl (Nat.le_of_ble_eq_true rfl) ?_
  exact j_ri C dX10_walk_8 rfl (Option.some.inj h).symm rfl
theorem dX2_tell_0 : decode cX2_tell 0 = .ok (.aload_n 0, 1) := by decide +kernel
theorem dX2_tell_1 : decode cX2_tell 1 = .ok (.iconst 0, 1) := by decide +kernel
theorem dX2_tell_2 : decode cX2_tell 2 = .ok (.putfield 15, 3) := by decide +kernel
theorem dX2_tell_5 : decode cX2_tell 5 = .ok (.iconst 0, 1) := by decide +kernel
theorem dX2_tell_6 : decode cX2_tell 6 = .ok (.istore_n 3, 1) := by decide +kernel
theorem dX2_tell_7 : decode cX2_tell 7 = .ok (.iload_n 3, 1) := by decide +kernel
theorem dX2_tell_8 : decode cX2_tell 8 = .ok (.iload_n 2, 1) := by decide +kernel
theorem dX2_tell_9 : decode cX2_tell 9 = .ok (.if_icmp .ge 89, 3) := by decide +kernel
theorem dX2_tell_12 : decode cX2_tell 12 = .ok (.iload_n 3, 1) := by decide +kernel
theorem dX2_tell_13 : decode cX2_tell 13 = .ok (.bipush 10, 2) := by decide +kernel
theorem dX2_tell_15 : decode cX2_tell 15 = .ok (.if_icmp .ge 83, 3) := by decide +kernel
theorem dX2_tell_18 : decode cX2_tell 18 = .ok (.iload_n 3, 1) := by decide +kernel
theorem dX2_tell_19 : decode cX2_tell 19 = .ok (.aload_n 1, 1) := by decide +kernel
theorem dX2_tell_20 : decode cX2_tell 20 = .ok (.arraylength, 1) := by decide +kernel
theorem dX2_tell_21 : decode cX2_tell 21 = .ok (.if_icmp .ge 77, 3) := by decide +kernel
theorem dX2_tell_24 : decode cX2_tell 24 = .ok (.aload_n 0, 1) := by decide +kernel
theorem dX2_tell_25 : decode cX2_tell 25 = .ok (.getfield 15, 3) := by decide +kernel
theorem dX2_tell_28 : decode cX2_tell 28 = .ok (.istore 4, 2) := by decide +kernel
theorem dX2_tell_30 : decode cX2_tell 30 = .ok (.iload 4, 2) := by decide +kernel
theorem dX2_tell_32 : decode cX2_tell 32 = .ok (.ifCond .le 40, 3) := by decide +kernel
theorem dX2_tell_35 : decode cX2_tell 35 = .ok (.aload_n 0, 1) := by decide +kernel
theorem dX2_tell_36 : decode cX2_tell 36 = .ok (.getfield 9, 3) := by decide +kernel
theorem dX2_tell_39 : decode cX2_tell 39 = .ok (.iload 4, 2) := by decide +kernel
theorem dX2_tell_41 : decode cX2_tell 41 = .ok (.iconst 1, 1) := by decide +kernel
theorem dX2_tell_42 : decode cX2_tell 42 = .ok (.isub, 1) := by decide +kernel
theorem dX2_tell_43 : decode cX2_tell 43 = .ok (.iaload, 1) := by decide +kernel
theorem dX2_tell_44 : decode cX2_tell 44 = .ok (.aload_n 1, 1) := by decide +kernel
theorem dX2_tell_45 : decode cX2_tell 45 = .ok (.iload_n 3, 1) := by decide +kernel
theorem dX2_tell_46 : decode cX2_tell 46 = .ok (.iaload, 1) := by decide +kernel
theorem dX2_tell_47 : decode cX2_tell 47 = .ok (.if_icmp .le 25, 3) := by decide +kernel
theorem dX2_tell_50 : decode cX2_tell 50 = .ok (.aload_n 0, 1) := by decide +kernel
theorem dX2_tell_51 : decode cX2_tell 51 = .ok (.getfield 9, 3) := by decide +kernel
theorem dX2_tell_54 : decode cX2_tell 54 = .ok (.iload 4, 2) := by decide +kernel
theorem dX2_tell_56 : decode cX2_tell 56 = .ok (.aload_n 0, 1) := by decide +kernel
theorem dX2_tell_57 : decode cX2_tell 57 = .ok (.getfield 9, 3) := by decide +kernel
theorem dX2_tell_60 : decode cX2_tell 60 = .ok (.iload 4, 2) := by decide +kernel
theorem dX2_tell_62 : decode cX2_tell 62 = .ok (.iconst 1, 1) := by decide +kernel
theorem dX2_tell_63 : decode cX2_tell 63 = .ok (.isub, 1) := by decide +kernel
theorem dX2_tell_64 : decode cX2_tell 64 = .ok (.iaload, 1) := by decide +kernel
theorem dX2_tell_65 : decode cX2_tell 65 = .ok (.iastore, 1) := by decide +kernel
theorem dX2_tell_66 : decode cX2_tell 66 = .ok (.iinc 4 (-1), 3) := by decide +kernel
theorem dX2_tell_69 : decode cX2_tell 69 = .ok (.goto (-39), 3) := by decide +kernel
theorem dX2_tell_72 : decode cX2_tell 72 = .ok (.aload_n 0, 1) := by decide +kernel
theorem dX2_tell_73 : decode cX2_tell 73 = .ok (.getfield 9, 3) := by decide +kernel
theorem dX2_tell_76 : decode cX2_tell 76 = .ok (.iload 4, 2) := by decide +kernel
theorem dX2_tell_78 : decode cX2_tell 78 = .ok (.aload_n 1, 1) := by decide +kernel
theorem dX2_tell_79 : decode cX2_tell 79 = .ok (.iload_n 3, 1) := by decide +kernel
theorem dX2_tell_80 : decode cX2_tell 80 = .ok (.iaload, 1) := by decide +kernel
theorem dX2_tell_81 : decode cX2_tell 81 = .ok (.iastore, 1) := by decide +kernel
theorem dX2_tell_82 : decode cX2_tell 82 = .ok (.aload_n 0, 1) := by decide +kernel
theorem dX2_tell_83 : decode cX2_tell 83 = .ok (.dup, 1) := by decide +kernel
theorem dX2_tell_84 : decode cX2_tell 84 = .ok (.getfield 15, 3) := by decide +kernel
theorem dX2_tell_87 : decode cX2_tell 87 = .ok (.iconst 1, 1) := by decide +kernel
theorem dX2_tell_88 : decode cX2_tell 88 = .ok (.iadd, 1) := by decide +kernel
theorem dX2_tell_89 : decode cX2_tell 89 = .ok (.putfield 15, 3) := by decide +kernel
theorem dX2_tell_92 : decode cX2_tell 92 = .ok (.iinc 3 1, 3) := by decide +kernel
theorem dX2_tell_95 : decode cX2_tell 95 = .ok (.goto (-88), 3) := by decide +kernel
theorem dX2_tell_98 : decode cX2_tell 98 = .ok (.return_, 1) := by decide +kernel
set_option maxRecDepth 100000 in
set_option maxHeartbeats 4000000 in
theorem X2_tell_L30_bok {g : Gm} {w : Wd} (C : Cx g w RX2 cX2_tell 5 none) {lv : Nat} (hlv : 0 < lv) {N : Nat} {k72 : Nat → Nat → Int → Int → Int → Mem → Option Mem} {r30 : Nat → Nat → Int → Int → Int → Mem → Option Mem} {l0 : Nat} {l1 : Nat} {l2 : Int} {l3 : Int} {l4 : Int} {m : Mem} {out : Mem} (hk72 : ∀ l0 l1 l2 l3 l4 m, k72 l0 l1 l2 l3 l4 m = some out → Jd g w 5 (rmL lv 0 0) (Qm g w none out) 72 [some (vR l0), some (vR l1), some (vI l2), some (vI l3), some (vI l4)] [] 312 m 0 0) (hr30 : ∀ l0 l1 l2 l3 l4 m, r30 l0 l1 l2 l3 l4 m = some out → Jd g w 5 (rmL lv 0 0) (Qm g w none out) 30 [some (vR l0), some (vR l1), some (vI l2), some (vI l3), some (vI l4)] [] 312 m 0 0) (h : X2_tell_L30_b N k72 r30 l0 l1 l2 l3 l4 m = some out) : Jd g w 5 (rmL lv 0 0) (Qm g w none out) 30 [some (vR l0), some (vR l1), some (vI l2), some (vI l3), some (vI l4)] [] 312 m 0 0 := by
  unfold X2_tell_L30_b at h
  refine j_iload C dX2_tell_30 rfl ?_
  refine j_if_le C 72 dX2_tell_32 rfl h (fun c12 h => ?_) (fun c12 h => ?_)
  · exact hk72 _ _ _ _ _ _ h
  · refine j_aload_n C dX2_tell_35 rfl ?_
    refine j_getR C dX2_tell_36 CF2 (by decide) fl_X2_9 rfl rfl h (fun t4 h => ?_)
    refine j_iload C dX2_tell_39 rfl ?_
    refine j_iconst C dX2_tell_41 rfl ?_
    refine j_isub C dX2_tell_42 ?_
    refine j_iald C dX2_tell_43 rfl h (fun t5 h => ?_)
    refine j_aload_n C dX2_tell_44 rfl ?_
    refine j_iload_n C dX2_tell_45 rfl ?_
    refine j_iald C dX2_tell_46 rfl h (fun t6 h => ?_)
    refine j_icmp_le C 72 dX2_tell_47 rfl h (fun c11 h => ?_) (fun c11 h => ?_)
    · exact hk72 _ _ _ _ _ _ h
    · refine j_aload_n C dX2_tell_50 rfl ?_
      refine j_getR C dX2_tell_51 CF2 (by decide) fl_X2_9 rfl rfl h (fun t7 h => ?_)
      refine j_iload C dX2_tell_54 rfl ?_
      refine j_aload_n C dX2_tell_56 rfl ?_
      refine j_getR C dX2_tell_57 CF2 (by decide) fl_X2_9 rfl rfl h (fun t8 h => ?_)
      refine j_iload C dX2_tell_60 rfl ?_
      refine j_iconst C dX2_tell_62 rfl ?_
      refine j_isub C dX2_tell_63 ?_
      refine j_iald C dX2_tell_64 rfl h (fun t9 h => ?_)
      refine j_iast C dX2_tell_65 rfl h (fun m10 h => ?_)
      refine j_iinc (ls' := [some (vR _), some (vR _), some (vI _), some (vI _), some (vI _)]) C dX2_tell_66 rfl (by decide) rfl ?_
      refine j_goto C 30 dX2_tell_69 rfl ?_
      exact hr30 _ _ _ _ _ _ h
set_option maxRecDepth 100000 in
set_option maxHeartbeats 4000000 in
theorem X2_tell_L30_ok {g : Gm} {w : Wd} (C : Cx g w RX2 cX2_tell 5 none) {lv : Nat} (hlv : 0 < lv) {N : Nat} {k72 : Nat → Nat → Int → Int → Int → Mem → Option Mem} {out : Mem} (hk72 : ∀ l0 l1 l2 l3 l4 m, k72 l0 l1 l2 l3 l4 m = some out → Jd g w 5 (rmL lv 0 0) (Qm g w none out) 72 [some (vR l0), some (vR l1), some (vI l2), some (vI l3), some (vI l4)] [] 312 m 0 0) (f : Nat) : ∀ {l0 : Nat} {l1 : Nat} {l2 : Int} {l3 : Int} {l4 : Int} {m : Mem}, X2_tell_L30 N k72 f l0 l1 l2 l3 l4 m = some out → Jd g w 5 (rmL lv 0 0) (Qm g w none out) 30 [some (vR l0), some (vR l1), some (vI l2), some (vI l3), some (vI l4)] [] 312 m 0 0 := by
  induction f with
  | zero => intro l0 l1 l2 l3 l4 m h; exact none_ne (α := Mem) h
  | succ f ih => intro l0 l1 l2 l3 l4 m h; exact X2_tell_L30_bok C hlv hk72 (fun l0 l1 l2 l3 l4 m h => ih h) h
set_option maxRecDepth 100000 in
set_option maxHeartbeats 4000000 in
theorem X2_tell_L7_bok {g : Gm} {w : Wd} (C : Cx g w RX2 cX2_tell 5 none) {lv : Nat} (hlv : 0 < lv) {N : Nat} {r7 : Nat → Nat → Int → Int → Mem → Option Mem} {l0 : Nat} {l1 : Nat} {l2 : Int} {l3 : Int} {m : Mem} {out : Mem} (hr7 : ∀ l0 l1 l2 l3 m, r7 l0 l1 l2 l3 m = some out → Jd g w 5 (rmL lv 0 0) (Qm g w none out) 7 [some (vR l0), some (vR l1), some (vI l2), some (vI l3), none] [] 312 m 0 0) (h : X2_tell_L7_b N r7 l0 l1 l2 l3 m = some out) : Jd g w 5 (rmL lv 0 0) (Qm g w none out) 7 [some (vR l0), some (vR l1), some (vI l2), some (vI l3), none] [] 312 m 0 0 := by
  unfold X2_tell_L7_b at h
  refine j_iload_n C dX2_tell_7 rfl ?_
  refine j_iload_n C dX2_tell_8 rfl ?_
  refine j_icmp_ge C 98 dX2_tell_9 rfl h (fun c26 h => ?_) (fun c26 h => ?_)
  · have e := Option.some.inj h
    subst e
    exact j_rv C dX2_tell_98 rfl rfl
  · refine j_iload_n C dX2_tell_12 rfl ?_
    refine j_bipush C dX2_tell_13 rfl ?_
    refine j_icmp_ge C 98 dX2_tell_15 rfl h (fun c25 h => ?_) (fun c25 h => ?_)
    · have e := Option.some.inj h
      subst e
      exact j_rv C dX2_tell_98 rfl rfl
    · refine j_iload_n C dX2_tell_18 rfl ?_
      refine j_aload_n C dX2_tell_19 rfl ?_
      refine j_alen C dX2_tell_20 rfl h (fun t2 h => ?_)
      refine j_icmp_ge C 98 dX2_tell_21 rfl h (fun c24 h => ?_) (fun c24 h => ?_)
      · have e := Option.some.inj h
        subst e
        exact j_rv C dX2_tell_98 rfl rfl
      · refine j_aload_n C dX2_tell_24 rfl ?_
        refine j_getI C dX2_tell_25 CF2 (by decide) fl_X2_15 rfl rfl h (fun t3 h => ?_)
        refine j_istore (ls' := [some (vR _), some (vR _), some (vI _), some (vI _), some (vI _)]) C dX2_tell_28 (by decide) rfl ?_
        refine X2_tell_L30_ok C hlv (fun z13 z14 z15 z16 z17 m18 h => ?_) N h
        refine j_aload_n C dX2_tell_72 rfl ?_
        refine j_getR C dX2_tell_73 CF2 (by decide) fl_X2_9 rfl rfl h (fun t19 h => ?_)
        refine j_iload C dX2_tell_76 rfl ?_
        refine j_aload_n C dX2_tell_78 rfl ?_
        refine j_iload_n C dX2_tell_79 rfl ?_
        refine j_iald C dX2_tell_80 rfl h (fun t20 h => ?_)
        refine j_iast C dX2_tell_81 rfl h (fun m21 h => ?_)
        refine j_aload_n C dX2_tell_82 rfl ?_
        refine j_dup C dX2_tell_83 rfl ?_
        refine j_getI C dX2_tell_84 CF2 (by decide) fl_X2_15 rfl rfl h (fun t22 h => ?_)
        refine j_iconst C dX2_tell_87 rfl ?_
        refine j_iadd C dX2_tell_88 ?_
        refine j_putI C dX2_tell_89 CF2 (by decide) fl_X2_15 rfl rfl rfl rfl h (fun m23 h => ?_)
        refine j_iinc (ls' := [some (vR _), some (vR _), some (vI _), some (vI _), some (vI _)]) C dX2_tell_92 rfl (by decide) rfl ?_
        refine j_goto C 7 dX2_tell_95 rfl ?_
        refine j_mask [true, true, true, true, false] (ls' := [some (vR _), some (vR _), some (vI _), some (vI _), none]) rfl ?_
        exact hr7 _ _ _ _ _ h
set_option maxRecDepth 100000 in
set_option maxHeartbeats 4000000 in
theorem X2_tell_L7_ok {g : Gm} {w : Wd} (C : Cx g w RX2 cX2_tell 5 none) {lv : Nat} (hlv : 0 < lv) {N : Nat} {out : Mem} (f : Nat) : ∀ {l0 : Nat} {l1 : Nat} {l2 : Int} {l3 : Int} {m : Mem}, X2_tell_L7 N f l0 l1 l2 l3 m = some out → Jd g w 5 (rmL lv 0 0) (Qm g w none out) 7 [some (vR l0), some (vR l1), some (vI l2), some (vI l3), none] [] 312 m 0 0 := by
  induction f with
  | zero => intro l0 l1 l2 l3 m h; exact none_ne (α := Mem) h
  | succ f ih => intro l0 l1 l2 l3 m h; exact X2_tell_L7_bok C hlv (fun l0 l1 l2 l3 m h => ih h) h
set_option maxRecDepth 100000 in
set_option maxHeartbeats 4000000 in
theorem X2_tell_ct {N : Nat} {l0 : Nat} {l1 : Nat} {l2 : Int} {m : Mem} {out : Mem} (h : X2_tell N l0 l1 l2 m = some out) : shK l0 = 2 + 10 ∧ CT yX2_tell cX2_tell 5 none 1 0 0 [vR l0, vR l1, vI l2] 312 m none 312 out := by
  unfold X2_tell at h
  obtain ⟨hK, h⟩ := ite_some h
  have hlv : 0 < 1 := by decide
  refine ⟨hK, CT.of (by decide +kernel) rfl (Nat.le_of_ble_eq_true rfl) (ls := [some (vR l0), some (vR l1), some (vI l2), none, none]) rfl fun g w C _ => ?_⟩
  refine j_aload_n C dX2_tell_0 rfl ?_
  refine j_iconst C dX2_tell_1 rfl ?_
  refine j_putI C dX2_tell_2 CF2 (by decide) fl_X2_15 rfl rfl rfl rfl h (fun m1 h => ?_)
  refine j_iconst C dX2_tell_5 rfl ?_
  refine j_istore_n (ls' := [some (vR _), some (vR _), some (vI _), some (vI _), none]) C dX2_tell_6 (by decide) rfl ?_
  exact X2_tell_L7_ok C hlv N h
theorem dX5_isAtEdge_0 : decode cX5_isAtEdge 0 = .ok (.aload_n 0, 1) := by decide +kernel
theorem dX5_isAtEdge_1 : decode cX5_isAtEdge 1 = .ok (.iload_n 1, 1) := by decide +kernel
theorem dX5_isAtEdge_2 : decode cX5_isAtEdge 2 = .ok (.invokevirtual 93, 3) := by decide +kernel
theorem dX5_isAtEdge_5 : decode cX5_isAtEdge 5 = .ok (.istore_n 2, 1) := by decide +kernel
theorem dX5_isAtEdge_6 : decode cX5_isAtEdge 6 = .ok (.aload_n 0, 1) := by decide +kernel
theorem dX5_isAtEdge_7 : decode cX5_isAtEdge 7 = .ok (.iload_n 1, 1) := by decide +kernel
theorem dX5_isAtEdge_8 : decode cX5_isAtEdge 8 = .ok (.invokevirtual 100, 3) := by decide +kernel
theorem dX5_isAtEdge_11 : decode cX5_isAtEdge 11 = .ok (.istore_n 3, 1) := by decide +kernel
theorem dX5_isAtEdge_12 : decode cX5_isAtEdge 12 = .ok (.iload_n 2, 1) := by decide +kernel
theorem dX5_isAtEdge_13 : decode cX5_isAtEdge 13 = .ok (.ifCond .eq 27, 3) := by decide +kernel
theorem dX5_isAtEdge_16 : decode cX5_isAtEdge 16 = .ok (.iload_n 2, 1) := by decide +kernel
theorem dX5_isAtEdge_17 : decode cX5_isAtEdge 17 = .ok (.aload_n 0, 1) := by decide +kernel
theorem dX5_isAtEdge_18 : decode cX5_isAtEdge 18 = .ok (.getfield 9, 3) := by decide +kernel
theorem dX5_isAtEdge_21 : decode cX5_isAtEdge 21 = .ok (.iconst 1, 1) := by decide +kernel
theorem dX5_isAtEdge_22 : decode cX5_isAtEdge 22 = .ok (.isub, 1) := by decide +kernel
theorem dX5_isAtEdge_23 : decode cX5_isAtEdge 23 = .ok (.if_icmp .eq 17, 3) := by decide +kernel
theorem dX5_isAtEdge_26 : decode cX5_isAtEdge 26 = .ok (.iload_n 3, 1) := by decide +kernel
theorem dX5_isAtEdge_27 : decode cX5_isAtEdge 27 = .ok (.ifCond .eq 13, 3) := by decide +kernel
theorem dX5_isAtEdge_30 : decode cX5_isAtEdge 30 = .ok (.iload_n 3, 1) := by decide +kernel
theorem dX5_isAtEdge_31 : decode cX5_isAtEdge 31 = .ok (.aload_n 0, 1) := by decide +kernel
theorem dX5_isAtEdge_32 : decode cX5_isAtEdge 32 = .ok (.getfield 15, 3) := by decide +kernel
theorem dX5_isAtEdge_35 : decode cX5_isAtEdge 35 = .ok (.iconst 1, 1) := by decide +kernel
theorem dX5_isAtEdge_36 : decode cX5_isAtEdge 36 = .ok (.isub, 1) := by decide +kernel
theorem dX5_isAtEdge_37 : decode cX5_isAtEdge 37 = .ok (.if_icmp .ne 7, 3) := by decide +kernel
theorem dX5_isAtEdge_40 : decode cX5_isAtEdge 40 = .ok (.iconst 1, 1) := by decide +kernel
theorem dX5_isAtEdge_41 : decode cX5_isAtEdge 41 = .ok (.goto 4, 3) := by decide +kernel
theorem dX5_isAtEdge_44 : decode cX5_isAtEdge 44 = .ok (.iconst 0, 1) := by decide +kernel
theorem dX5_isAtEdge_45 : decode cX5_isAtEdge 45 = .ok (.ireturn, 1) := by decide +kernel
set_option maxRecDepth 100000 in
set_option maxHeartbeats 4000000 in
theorem X5_isAtEdge_J40_ok {g : Gm} {w : Wd} (C : Cx g w RX5 cX5_isAtEdge 4 (some .boolean)) {lv : Nat} (hlv : 1 < lv)  {m : Mem} {out : Int} (h : X5_isAtEdge_J40 m = some out) : Jd g w 4 (rmL lv 0 0) (Qm g w (some (vI out)) m) 40 [none, none, none, none] [] 312 m 0 0 := by
  unfold X5_isAtEdge_J40 at h
  refine j_iconst C dX5_isAtEdge_40 rfl ?_
  refine j_goto C 45 dX5_isAtEdge_41 rfl ?_
  exact j_rz C dX5_isAtEdge_45 rfl (retZ_some h) rfl
set_option maxRecDepth 100000 in
set_option maxHeartbeats 4000000 in
theorem X5_isAtEdge_ct {l0 : Nat} {l1 : Int} {m : Mem} {out : Int} (h : X5_isAtEdge l0 l1 m = some out) : shK l0 = 5 + 10 ∧ CT yX5_isAtEdge cX5_isAtEdge 4 (some .boolean) 2 0 0 [vR l0, vI l1] 312 m (some (vI out)) 312 m := by
  unfold X5_isAtEdge at h
  obtain ⟨hK, h⟩ := ite_some h
  have hlv : 1 < 2 := by decide
  refine ⟨hK, CT.of (by decide +kernel) rfl (Nat.le_of_ble_eq_true rfl) (ls := [some (vR l0), some (vI l1), none, none]) rfl fun g w C _ => ?_⟩
  refine j_aload_n C dX5_isAtEdge_0 rfl ?_
  refine j_iload_n C dX5_isAtEdge_1 rfl ?_
  obtain ⟨p1, ep1, h⟩ := bind_some h
  have qp1 := X5_acrossOf_ct ep1
  refine j_cVI C dX5_isAtEdge_2 vl_X5_93 CF5 rfl qp1.1 qp1.2 (by omega) rfl rfl (Nat.le_of_ble_eq_true rfl) ?_
  refine j_istore_n (ls' := [some (vR _), some (vI _), some (vI _), none]) C dX5_isAtEdge_5 (by decide) rfl ?_
  refine j_aload_n C dX5_isAtEdge_6 rfl ?_
  refine j_iload_n C dX5_isAtEdge_7 rfl ?_
  obtain ⟨p2, ep2, h⟩ := bind_some h
  have qp2 := X5_downOf_ct ep2
  refine j_cVI C dX5_isAtEdge_8 vl_X5_100 CF5 rfl qp2.1 qp2.2 (by omega) rfl rfl (Nat.le_of_ble_eq_true rfl) ?_
  refine j_istore_n (ls' := [some (vR _), some (vI _), some (vI _), some (vI _)]) C dX5_isAtEdge_11 (by decide) rfl ?_
  refine j_iload_n C dX5_isAtEdge_12 rfl ?_
  refine j_if_eq C 40 dX5_isAtEdge_13 rfl h (fun c8 h => ?_) (fun c8 h => ?_)
  · refine j_mask [false, false, false, false] (ls' := [none, none, none, none]) rfl ?_
    exact X5_isAtEdge_J40_ok C hlv h
  · refine j_iload_n C dX5_isAtEdge_16 rfl ?_
    refine j_aload_n C dX5_isAtEdge_17 rfl ?_
    refine j_getI C dX5_isAtEdge_18 CF5 (by decide) fl_X5_9 rfl rfl h (fun t3 h => ?_)
    refine j_iconst C dX5_isAtEdge_21 rfl ?_
    refine j_isub C dX5_isAtEdge_22 ?_
    refine j_icmp_eq C 40 dX5_isAtEdge_23 rfl h (fun c7 h => ?_) (fun c7 h => ?_)
    · refine j_mask [false, false, false, false] (ls' := [none, none, none, none]) rfl ?_
      exact X5_isAtEdge_J40_ok C hlv h
    · refine j_iload_n C dX5_isAtEdge_26 rfl ?_
      refine j_if_eq C 40 dX5_isAtEdge_27 rfl h (fun c6 h => ?_) (fun c6 h => ?_)
      · refine j_mask [false, false, false, false] (ls' := [none, none, none, none]) rfl ?_
        exact X5_isAtEdge_J40_ok C hlv h
      · refine j_iload_n C dX5_isAtEdge_30 rfl ?_
        refine j_aload_n C dX5_isAtEdge_31 rfl ?_
        refine j_getI C dX5_isAtEdge_32 CF5 (by decide) fl_X5_15 rfl rfl h (fun t4 h => ?_)
        refine j_iconst C dX5_isAtEdge_35 rfl ?_
        refine j_isub C dX5_isAtEdge_36 ?_
        refine j_icmp_ne C 44 dX5_isAtEdge_37 rfl h (fun c5 h => ?_) (fun c5 h => ?_)
        · refine j_iconst C dX5_isAtEdge_44 rfl ?_
          exact j_rz C dX5_isAtEdge_45 rfl (retZ_some h) rfl
        · refine j_mask [false, false, false, false] (ls' := [none, none, none, none]) rfl ?_
          exact X5_isAtEdge_J40_ok C hlv h
theorem dX2_keep_0 : decode cX2_keep 0 = .ok (.aload_n 0, 1) := by decide +kernel
theorem dX2_keep_1 : decode cX2_keep 1 = .ok (.getfield 25, 3) := by decide +kernel
theorem dX2_keep_4 : decode cX2_keep 4 = .ok (.ifCond .ne 18, 3) := by decide +kernel
theorem dX2_keep_7 : decode cX2_keep 7 = .ok (.aload_n 0, 1) := by decide +kernel
theorem dX2_keep_8 : decode cX2_keep 8 = .ok (.getfield 19, 3) := by decide +kernel
theorem dX2_keep_11 : decode cX2_keep 11 = .ok (.iconst 0, 1) := by decide +kernel
theorem dX2_keep_12 : decode cX2_keep 12 = .ok (.aload_n 0, 1) := by decide +kernel
theorem dX2_keep_13 : decode cX2_keep 13 = .ok (.getfield 22, 3) := by decide +kernel
theorem dX2_keep_16 : decode cX2_keep 16 = .ok (.iconst 0, 1) := by decide +kernel
theorem dX2_keep_17 : decode cX2_keep 17 = .ok (.bipush 10, 2) := by decide +kernel
theorem dX2_keep_19 : decode cX2_keep 19 = .ok (.invokestatic 50, 3) := by decide +kernel
theorem dX2_keep_22 : decode cX2_keep 22 = .ok (.aload_n 0, 1) := by decide +kernel
theorem dX2_keep_23 : decode cX2_keep 23 = .ok (.dup, 1) := by decide +kernel
theorem dX2_keep_24 : decode cX2_keep 24 = .ok (.getfield 25, 3) := by decide +kernel
theorem dX2_keep_27 : decode cX2_keep 27 = .ok (.iconst 1, 1) := by decide +kernel
theorem dX2_keep_28 : decode cX2_keep 28 = .ok (.iadd, 1) := by decide +kernel
theorem dX2_keep_29 : decode cX2_keep 29 = .ok (.putfield 25, 3) := by decide +kernel
theorem dX2_keep_32 : decode cX2_keep 32 = .ok (.return_, 1) := by decide +kernel
set_option maxRecDepth 100000 in
set_option maxHeartbeats 4000000 in
theorem X2_keep_J22_ok {g : Gm} {w : Wd} (C : Cx g w RX2 cX2_keep 1 none) {lv : Nat} (hlv : 0 < lv) {l0 : Nat} {m : Mem} {out : Mem} (h : X2_keep_J22 l0 m = some out) : Jd g w 1 (rmL lv 0 0) (Qm g w none out) 22 [some (vR l0)] [] 312 m 0 0 := by
  unfold X2_keep_J22 at h
  refine j_aload_n C dX2_keep_22 rfl ?_
  refine j_dup C dX2_keep_23 rfl ?_
  refine j_getI C dX2_keep_24 CF2 (by decide) fl_X2_25 rfl rfl h (fun t2 h => ?_)
  refine j_iconst C dX2_keep_27 rfl ?_
  refine j_iadd C dX2_keep_28 ?_
  refine j_putI C dX2_keep_29 CF2 (by decide) fl_X2_25 rfl rfl rfl rfl h (fun m3 h => ?_)
  have e := Option.some.inj h
  subst e
  exact j_rv C dX2_keep_32 rfl rfl
set_option maxRecDepth 100000 in
set_option maxHeartbeats 4000000 in
theorem X2_keep_ct {l0 : Nat} {m : Mem} {out : Mem} (h : X2_keep l0 m = some out) : shK l0 = 2 + 10 ∧ CT yX2_keep cX2_keep 1 none 1 0 0 [vR l0] 312 m none 312 out := by
  unfold X2_keep at h
  obtain ⟨hK, h⟩ := ite_some h
  have hlv : 0 < 1 := by decide
  refine ⟨hK, CT.of (by decide +kernel) rfl (Nat.le_of_ble_eq_true rfl) (ls := [some (vR l0)]) rfl fun g w C _ => ?_⟩
  refine j_aload_n C dX2_keep_0 rfl ?_
  refine j_getI C dX2_keep_1 CF2 (by decide) fl_X2_25 rfl rfl h (fun t1 h => ?_)
  refine j_if_ne C 22 dX2_keep_4 rfl h (fun c7 h => ?_) (fun c7 h => ?_)
  · exact X2_keep_J22_ok C hlv h
  · refine j_aload_n C dX2_keep_7 rfl ?_
    refine j_getR C dX2_keep_8 CF2 (by decide) fl_X2_19 rfl rfl h (fun t4 h => ?_)
    refine j_iconst C dX2_keep_11 rfl ?_
    refine j_aload_n C dX2_keep_12 rfl ?_
    refine j_getR C dX2_keep_13 CF2 (by decide) fl_X2_22 rfl rfl h (fun t5 h => ?_)
    refine j_iconst C dX2_keep_16 rfl ?_
    refine j_bipush C dX2_keep_17 rfl ?_
    refine j_acopy C dX2_keep_19 al_X2_50 rfl (by omega) (Nat.le_of_ble_eq_true rfl) rfl h (fun m6 h => ?_)
    exact X2_keep_J22_ok C hlv h
theorem dX5_areNext_0 : decode cX5_areNext 0 = .ok (.aload_n 0, 1) := by decide +kernel
theorem dX5_areNext_1 : decode cX5_areNext 1 = .ok (.iload_n 1, 1) := by decide +kernel
theorem dX5_areNext_2 : decode cX5_areNext 2 = .ok (.invokevirtual 118, 3) := by decide +kernel
theorem dX5_areNext_5 : decode cX5_areNext 5 = .ok (.ifCond .eq 25, 3) := by decide +kernel
theorem dX5_areNext_8 : decode cX5_areNext 8 = .ok (.aload_n 0, 1) := by decide +kernel
theorem dX5_areNext_9 : decode cX5_areNext 9 = .ok (.iload_n 2, 1) := by decide +kernel
theorem dX5_areNext_10 : decode cX5_areNext 10 = .ok (.invokevirtual 118, 3) := by decide +kernel
theorem dX5_areNext_13 : decode cX5_areNext 13 = .ok (.ifCond .eq 17, 3) := by decide +kernel
theorem dX5_areNext_16 : decode cX5_areNext 16 = .ok (.aload_n 0, 1) := by decide +kernel
theorem dX5_areNext_17 : decode cX5_areNext 17 = .ok (.iload_n 1, 1) := by decide +kernel
theorem dX5_areNext_18 : decode cX5_areNext 18 = .ok (.iload_n 2, 1) := by decide +kernel
theorem dX5_areNext_19 : decode cX5_areNext 19 = .ok (.invokevirtual 122, 3) := by decide +kernel
theorem dX5_areNext_22 : decode cX5_areNext 22 = .ok (.iconst 1, 1) := by decide +kernel
theorem dX5_areNext_23 : decode cX5_areNext 23 = .ok (.if_icmp .ne 7, 3) := by decide +kernel
theorem dX5_areNext_26 : decode cX5_areNext 26 = .ok (.iconst 1, 1) := by decide +kernel
theorem dX5_areNext_27 : decode cX5_areNext 27 = .ok (.goto 4, 3) := by decide +kernel
theorem dX5_areNext_30 : decode cX5_areNext 30 = .ok (.iconst 0, 1) := by decide +kernel
theorem dX5_areNext_31 : decode cX5_areNext 31 = .ok (.ireturn, 1) := by decide +kernel
set_option maxRecDepth 100000 in
set_option maxHeartbeats 4000000 in
theorem X5_areNext_ct {l0 : Nat} {l1 : Int} {l2 : Int} {m : Mem} {out : Int} (h : X5_areNext l0 l1 l2 m = some out) : shK l0 = 5 + 10 ∧ CT yX5_areNext cX5_areNext 3 (some .boolean) 3 0 0 [vR l0, vI l1, vI l2] 312 m (some (vI out)) 312 m := by
  unfold X5_areNext at h
  obtain ⟨hK, h⟩ := ite_some h
  have hlv : 2 < 3 := by decide
  refine ⟨hK, CT.of (by decide +kernel) rfl (Nat.le_of_ble_eq_true rfl) (ls := [some (vR l0), some (vI l1), some (vI l2)]) rfl fun g w C _ => ?_⟩
  refine j_aload_n C dX5_areNext_0 rfl ?_
  refine j_iload_n C dX5_areNext_1 rfl ?_
  obtain ⟨p1, ep1, h⟩ := bind_some h
  have qp1 := X5_isCell_ct ep1
  refine j_cVI C dX5_areNext_2 vl_X5_118 CF5 rfl qp1.1 qp1.2 (by omega) rfl rfl (Nat.le_of_ble_eq_true rfl) ?_
  refine j_if_eq C 30 dX5_areNext_5 rfl h (fun c6 h => ?_) (fun c6 h => ?_)
  · refine j_iconst C dX5_areNext_30 rfl ?_
    exact j_rz C dX5_areNext_31 rfl (retZ_some h) rfl
  · refine j_aload_n C dX5_areNext_8 rfl ?_
    refine j_iload_n C dX5_areNext_9 rfl ?_
    obtain ⟨p2, ep2, h⟩ := bind_some h
    have qp2 := X5_isCell_ct ep2
    refine j_cVI C dX5_areNext_10 vl_X5_118 CF5 rfl qp2.1 qp2.2 (by omega) rfl rfl (Nat.le_of_ble_eq_true rfl) ?_
    refine j_if_eq C 30 dX5_areNext_13 rfl h (fun c5 h => ?_) (fun c5 h => ?_)
    · refine j_iconst C dX5_areNext_30 rfl ?_
      exact j_rz C dX5_areNext_31 rfl (retZ_some h) rfl
    · refine j_aload_n C dX5_areNext_16 rfl ?_
      refine j_iload_n C dX5_areNext_17 rfl ?_
      refine j_iload_n C dX5_areNext_18 rfl ?_
      obtain ⟨p3, ep3, h⟩ := bind_some h
      have qp3 := X5_steps_ct ep3
      refine j_cVI C dX5_areNext_19 vl_X5_122 CF5 rfl qp3.1 qp3.2 (by omega) rfl rfl (Nat.le_of_ble_eq_true rfl) ?_
      refine j_iconst C dX5_areNext_22 rfl ?_
      refine j_icmp_ne C 30 dX5_areNext_23 rfl h (fun c4 h => ?_) (fun c4 h => ?_)
      · refine j_iconst C dX5_areNext_30 rfl ?_
        exact j_rz C dX5_areNext_31 rfl (retZ_some h) rfl
      · refine j_iconst C dX5_areNext_26 rfl ?_
        refine j_goto C 31 dX5_areNext_27 rfl ?_
        exact j_rz C dX5_areNext_31 rfl (retZ_some h) rfl
theorem dX2_tread_0 : decode cX2_tread 0 = .ok (.iload 4, 2) := by decide +kernel
theorem dX2_tread_2 : decode cX2_tread 2 = .ok (.aload_n 0, 1) := by decide +kernel
theorem dX2_tread_3 : decode cX2_tread 3 = .ok (.getfield 15, 3) := by decide +kernel
theorem dX2_tread_6 : decode cX2_tread 6 = .ok (.if_icmp .ge 15, 3) := by decide +kernel
theorem dX2_tread_9 : decode cX2_tread 9 = .ok (.iload_n 2, 1) := by decide +kernel
theorem dX2_tread_10 : decode cX2_tread 10 = .ok (.ifCond .lt 11, 3) := by decide +kernel
theorem dX2_tread_13 : decode cX2_tread 13 = .ok (.iload_n 2, 1) := by decide +kernel
theorem dX2_tread_14 : decode cX2_tread 14 = .ok (.aload_n 0, 1) := by decide +kernel
theorem dX2_tread_15 : decode cX2_tread 15 = .ok (.getfield 15, 3) := by decide +kernel
theorem dX2_tread_18 : decode cX2_tread 18 = .ok (.if_icmp .lt 4, 3) := by decide +kernel
theorem dX2_tread_21 : decode cX2_tread 21 = .ok (.return_, 1) := by decide +kernel
theorem dX2_tread_22 : decode cX2_tread 22 = .ok (.aload_n 0, 1) := by decide +kernel
theorem dX2_tread_23 : decode cX2_tread 23 = .ok (.getfield 19, 3) := by decide +kernel
theorem dX2_tread_26 : decode cX2_tread 26 = .ok (.iload 4, 2) := by decide +kernel
theorem dX2_tread_28 : decode cX2_tread 28 = .ok (.aload_n 0, 1) := by decide +kernel
theorem dX2_tread_29 : decode cX2_tread 29 = .ok (.getfield 9, 3) := by decide +kernel
theorem dX2_tread_32 : decode cX2_tread 32 = .ok (.iload_n 2, 1) := by decide +kernel
theorem dX2_tread_33 : decode cX2_tread 33 = .ok (.iaload, 1) := by decide +kernel
theorem dX2_tread_34 : decode cX2_tread 34 = .ok (.iastore, 1) := by decide +kernel
theorem dX2_tread_35 : decode cX2_tread 35 = .ok (.iload_n 3, 1) := by decide +kernel
theorem dX2_tread_36 : decode cX2_tread 36 = .ok (.iconst 1, 1) := by decide +kernel
theorem dX2_tread_37 : decode cX2_tread 37 = .ok (.iload_n 2, 1) := by decide +kernel
theorem dX2_tread_38 : decode cX2_tread 38 = .ok (.ishl, 1) := by decide +kernel
theorem dX2_tread_39 : decode cX2_tread 39 = .ok (.ior, 1) := by decide +kernel
theorem dX2_tread_40 : decode cX2_tread 40 = .ok (.istore 5, 2) := by decide +kernel
theorem dX2_tread_42 : decode cX2_tread 42 = .ok (.iload 4, 2) := by decide +kernel
theorem dX2_tread_44 : decode cX2_tread 44 = .ok (.iconst 1, 1) := by decide +kernel
theorem dX2_tread_45 : decode cX2_tread 45 = .ok (.iadd, 1) := by decide +kernel
theorem dX2_tread_46 : decode cX2_tread 46 = .ok (.aload_n 0, 1) := by decide +kernel
theorem dX2_tread_47 : decode cX2_tread 47 = .ok (.getfield 15, 3) := by decide +kernel
theorem dX2_tread_50 : decode cX2_tread 50 = .ok (.if_icmp .ne 8, 3) := by decide +kernel
theorem dX2_tread_53 : decode cX2_tread 53 = .ok (.aload_n 0, 1) := by decide +kernel
theorem dX2_tread_54 : decode cX2_tread 54 = .ok (.invokevirtual 43, 3) := by decide +kernel
theorem dX2_tread_57 : decode cX2_tread 57 = .ok (.return_, 1) := by decide +kernel
theorem dX2_tread_58 : decode cX2_tread 58 = .ok (.iconst 0, 1) := by decide +kernel
theorem dX2_tread_59 : decode cX2_tread 59 = .ok (.istore 6, 2) := by decide +kernel
theorem dX2_tread_61 : decode cX2_tread 61 = .ok (.iload 6, 2) := by decide +kernel
theorem dX2_tread_63 : decode cX2_tread 63 = .ok (.aload_n 0, 1) := by decide +kernel
theorem dX2_tread_64 : decode cX2_tread 64 = .ok (.getfield 15, 3) := by decide +kernel
theorem dX2_tread_67 : decode cX2_tread 67 = .ok (.if_icmp .ge 52, 3) := by decide +kernel
theorem dX2_tread_70 : decode cX2_tread 70 = .ok (.iload 5, 2) := by decide +kernel
theorem dX2_tread_72 : decode cX2_tread 72 = .ok (.iload 6, 2) := by decide +kernel
theorem dX2_tread_74 : decode cX2_tread 74 = .ok (.ishr, 1) := by decide +kernel
theorem dX2_tread_75 : decode cX2_tread 75 = .ok (.iconst 1, 1) := by decide +kernel
theorem dX2_tread_76 : decode cX2_tread 76 = .ok (.iand, 1) := by decide +kernel
theorem dX2_tread_77 : decode cX2_tread 77 = .ok (.ifCond .ne 36, 3) := by decide +kernel
theorem dX2_tread_80 : decode cX2_tread 80 = .ok (.aload_n 1, 1) := by decide +kernel
theorem dX2_tread_81 : decode cX2_tread 81 = .ok (.aload_n 0, 1) := by decide +kernel
theorem dX2_tread_82 : decode cX2_tread 82 = .ok (.getfield 9, 3) := by decide +kernel
theorem dX2_tread_85 : decode cX2_tread 85 = .ok (.iload_n 2, 1) := by decide +kernel
theorem dX2_tread_86 : decode cX2_tread 86 = .ok (.iaload, 1) := by decide +kernel
theorem dX2_tread_87 : decode cX2_tread 87 = .ok (.aload_n 0, 1) := by decide +kernel
theorem dX2_tread_88 : decode cX2_tread 88 = .ok (.getfield 9, 3) := by decide +kernel
theorem dX2_tread_91 : decode cX2_tread 91 = .ok (.iload 6, 2) := by decide +kernel
theorem dX2_tread_93 : decode cX2_tread 93 = .ok (.iaload, 1) := by decide +kernel
theorem dX2_tread_94 : decode cX2_tread 94 = .ok (.invokevirtual 46, 3) := by decide +kernel
theorem dX2_tread_97 : decode cX2_tread 97 = .ok (.ifCond .eq 16, 3) := by decide +kernel
theorem dX2_tread_100 : decode cX2_tread 100 = .ok (.aload_n 0, 1) := by decide +kernel
theorem dX2_tread_101 : decode cX2_tread 101 = .ok (.aload_n 1, 1) := by decide +kernel
theorem dX2_tread_102 : decode cX2_tread 102 = .ok (.iload 6, 2) := by decide +kernel
theorem dX2_tread_104 : decode cX2_tread 104 = .ok (.iload 5, 2) := by decide +kernel
theorem dX2_tread_106 : decode cX2_tread 106 = .ok (.iload 4, 2) := by decide +kernel
theorem dX2_tread_108 : decode cX2_tread 108 = .ok (.iconst 1, 1) := by decide +kernel
theorem dX2_tread_109 : decode cX2_tread 109 = .ok (.iadd, 1) := by decide +kernel
theorem dX2_tread_110 : decode cX2_tread 110 = .ok (.invokestatic 39, 3) := by decide +kernel
theorem dX2_tread_113 : decode cX2_tread 113 = .ok (.iinc 6 1, 3) := by decide +kernel
theorem dX2_tread_116 : decode cX2_tread 116 = .ok (.goto (-55), 3) := by decide +kernel
theorem dX2_tread_119 : decode cX2_tread 119 = .ok (.return_, 1) := by decide +kernel
set_option maxRecDepth 100000 in
set_option maxHeartbeats 4000000 in
theorem X2_tread_J113_ok {g : Gm} {w : Wd} (C : Cx g w RX2 cX2_tread 7 none) {lv : Nat} (hlv : 3 < lv) {N : Nat} {lvs : Nat} (hk : 8 ≤ lvs) (hs : lvs + 0 < lv) {self : Nat → Nat → Int → Int → Int → Mem → Option Mem} (hself : ∀ l0 l1 l2 l3 l4 m r, self l0 l1 l2 l3 l4 m = some r → CT yX2_tread cX2_tread 7 none lvs 0 0 [vR l0, vR l1, vI l2, vI l3, vI l4] 312 m none 312 r) {r61 : Nat → Nat → Int → Int → Int → Int → Mem → Option Mem } {l0 : Nat} {l1 : Nat} {l2 : Int} {l4 : Int} {l5 : Int} {l6 : Int} {m : Mem} {out : Mem} (hr61 : ∀ l0 l1 l2 l4 l5 l6 m, r61 l0 l1 l2 l4 l5 l6 m = some out → Jd g w 7 (rmL lv 0 0) (Qm g w none out) 61 [some (vR l0), some (vR l1), some (vI l2), none, some (vI l4), some (vI l5), some (vI l6)] [] 312 m 0 0) (h : X2_tread_J113 N self r61 l0 l1 l2 l4 l5 l6 m = some out) : Jd g w 7 (rmL lv 0 0) (Qm g w none out) 113 [some (vR l0), some (vR l1), some (vI l2), none, some (vI l4), some (vI l5), some (vI l6)] [] 312 m 0 0 := by
  unfold X2_tread_J113 at h
  refine j_iinc (ls' := [some (vR _), some (vR _), some (vI _), none, some (vI _), some (vI _), some (vI _)]) C dX2_tread_113 rfl (by decide) rfl ?_
  refine j_goto C 61 dX2_tread_116 rfl ?_
  exact hr61 _ _ _ _ _ _ _ h
set_option maxRecDepth 100000 in
set_option maxHeartbeats 4000000 in
theorem X2_tread_L61_bok {g : Gm} {w : Wd} (C : Cx g w RX2 cX2_tread 7 none) {lv : Nat} (hlv : 3 < lv) {N : Nat} {lvs : Nat} (hk : 8 ≤ lvs) (hs : lvs + 0 < lv) {self : Nat → Nat → Int → Int → Int → Mem → Option Mem} (hself : ∀ l0 l1 l2 l3 l4 m r, self l0 l1 l2 l3 l4 m = some r → CT yX2_tread cX2_tread 7 none lvs 0 0 [vR l0, vR l1, vI l2, vI l3, vI l4] 312 m none 312 r) {r61 : Nat → Nat → Int → Int → Int → Int → Mem → Option Mem} {l0 : Nat} {l1 : Nat} {l2 : Int} {l4 : Int} {l5 : Int} {l6 : Int} {m : Mem} {out : Mem} (hr61 : ∀ l0 l1 l2 l4 l5 l6 m, r61 l0 l1 l2 l4 l5 l6 m = some out → Jd g w 7 (rmL lv 0 0) (Qm g w none out) 61 [some (vR l0), some (vR l1), some (vI l2), none, some (vI l4), some (vI l5), some (vI l6)] [] 312 m 0 0) (h : X2_tread_L61_b N self r61 l0 l1 l2 l4 l5 l6 m = some out) : Jd g w 7 (rmL lv 0 0) (Qm g w none out) 61 [some (vR l0), some (vR l1), some (vI l2), none, some (vI l4), some (vI l5), some (vI l6)] [] 312 m 0 0 := by
  unfold X2_tread_L61_b at h
  refine j_iload C dX2_tread_61 rfl ?_
  refine j_aload_n C dX2_tread_63 rfl ?_
  refine j_getI C dX2_tread_64 CF2 (by decide) fl_X2_15 rfl rfl h (fun t8 h => ?_)
  refine j_icmp_ge C 119 dX2_tread_67 rfl h (fun c17 h => ?_) (fun c17 h => ?_)
  · have e := Option.some.inj h
    subst e
    exact j_rv C dX2_tread_119 rfl rfl
  · refine j_iload C dX2_tread_70 rfl ?_
    refine j_iload C dX2_tread_72 rfl ?_
    refine j_ishr C dX2_tread_74 ?_
    refine j_iconst C dX2_tread_75 rfl ?_
    refine j_iand C dX2_tread_76 ?_
    refine j_if_ne C 113 dX2_tread_77 rfl h (fun c16 h => ?_) (fun c16 h => ?_)
    · exact X2_tread_J113_ok C hlv hk hs hself hr61 h
    · refine j_aload_n C dX2_tread_80 rfl ?_
      refine j_aload_n C dX2_tread_81 rfl ?_
      refine j_getR C dX2_tread_82 CF2 (by decide) fl_X2_9 rfl rfl h (fun t9 h => ?_)
      refine j_iload_n C dX2_tread_85 rfl ?_
      refine j_iald C dX2_tread_86 rfl h (fun t10 h => ?_)
      refine j_aload_n C dX2_tread_87 rfl ?_
      refine j_getR C dX2_tread_88 CF2 (by decide) fl_X2_9 rfl rfl h (fun t11 h => ?_)
      refine j_iload C dX2_tread_91 rfl ?_
      refine j_iald C dX2_tread_93 rfl h (fun t12 h => ?_)
      obtain ⟨p13, ep13, h⟩ := bind_some h
      have qp13 := X5_areNext_ct ep13
      refine j_cVI C dX2_tread_94 vl_X2_46 CF5 rfl qp13.1 qp13.2 (by omega) rfl rfl (Nat.le_of_ble_eq_true rfl) ?_
      refine j_if_eq C 113 dX2_tread_97 rfl h (fun c15 h => ?_) (fun c15 h => ?_)
      · exact X2_tread_J113_ok C hlv hk hs hself hr61 h
      · refine j_aload_n C dX2_tread_100 rfl ?_
        refine j_aload_n C dX2_tread_101 rfl ?_
        refine j_iload C dX2_tread_102 rfl ?_
        refine j_iload C dX2_tread_104 rfl ?_
        refine j_iload C dX2_tread_106 rfl ?_
        refine j_iconst C dX2_tread_108 rfl ?_
        refine j_iadd C dX2_tread_109 ?_
        obtain ⟨p14, ep14, h⟩ := bind_some h
        have qp14 := hself _ _ _ _ _ _ _ ep14
        refine j_cSV C dX2_tread_110 sl_X2_39 qp14 (by omega) rfl rfl (Nat.le_of_ble_eq_true rfl) ?_
        exact X2_tread_J113_ok C hlv hk hs hself hr61 h
set_option maxRecDepth 100000 in
set_option maxHeartbeats 4000000 in
theorem X2_tread_L61_ok {g : Gm} {w : Wd} (C : Cx g w RX2 cX2_tread 7 none) {lv : Nat} (hlv : 3 < lv) {N : Nat} {lvs : Nat} (hk : 8 ≤ lvs) (hs : lvs + 0 < lv) {self : Nat → Nat → Int → Int → Int → Mem → Option Mem} (hself : ∀ l0 l1 l2 l3 l4 m r, self l0 l1 l2 l3 l4 m = some r → CT yX2_tread cX2_tread 7 none lvs 0 0 [vR l0, vR l1, vI l2, vI l3, vI l4] 312 m none 312 r) {out : Mem} (f : Nat) : ∀ {l0 : Nat} {l1 : Nat} {l2 : Int} {l4 : Int} {l5 : Int} {l6 : Int} {m : Mem}, X2_tread_L61 N self f l0 l1 l2 l4 l5 l6 m = some out → Jd g w 7 (rmL lv 0 0) (Qm g w none out) 61 [some (vR l0), some (vR l1), some (vI l2), none, some (vI l4), some (vI l5), some (vI l6)] [] 312 m 0 0 := by
  induction f with
  | zero => intro l0 l1 l2 l4 l5 l6 m h; exact none_ne (α := Mem) h
  | succ f ih => intro l0 l1 l2 l4 l5 l6 m h; exact X2_tread_L61_bok C hlv hk hs hself (fun l0 l1 l2 l4 l5 l6 m h => ih h) h
set_option maxRecDepth 100000 in
set_option maxHeartbeats 4000000 in
theorem X2_tread_c_ct {N : Nat} {lv : Nat} (hlv : 3 < lv) {lvs : Nat} (hk : 8 ≤ lvs) (hs : lvs + 0 < lv) {self : Nat → Nat → Int → Int → Int → Mem → Option Mem} (hself : ∀ l0 l1 l2 l3 l4 m r, self l0 l1 l2 l3 l4 m = some r → CT yX2_tread cX2_tread 7 none lvs 0 0 [vR l0, vR l1, vI l2, vI l3, vI l4] 312 m none 312 r) {l0 : Nat} {l1 : Nat} {l2 : Int} {l3 : Int} {l4 : Int} {m : Mem} {out : Mem} (h : X2_tread_c N self l0 l1 l2 l3 l4 m = some out) : CT yX2_tread cX2_tread 7 none lv 0 0 [vR l0, vR l1, vI l2, vI l3, vI l4] 312 m none 312 out := by
  unfold X2_tread_c at h
  refine CT.of (by decide +kernel) rfl (Nat.le_of_ble_eq_true rfl) (ls := [some (vR l0), some (vR l1), some (vI l2), some (vI l3), some (vI l4), none, none]) rfl fun g w C _ => ?_
  refine j_iload C dX2_tread_0 rfl ?_
  refine j_aload_n C dX2_tread_2 rfl ?_
  refine j_getI C dX2_tread_3 CF2 (by decide) fl_X2_15 rfl rfl h (fun t1 h => ?_)
  refine j_icmp_ge C 21 dX2_tread_6 rfl h (fun c22 h => ?_) (fun c22 h => ?_)
  · have e := Option.some.inj h
    subst e
    exact j_rv C dX2_tread_21 rfl rfl
  · refine j_iload_n C dX2_tread_9 rfl ?_
    refine j_if_lt C 21 dX2_tread_10 rfl h (fun c21 h => ?_) (fun c21 h => ?_)
    · have e := Option.some.inj h
      subst e
      exact j_rv C dX2_tread_21 rfl rfl
    · refine j_iload_n C dX2_tread_13 rfl ?_
      refine j_aload_n C dX2_tread_14 rfl ?_
      refine j_getI C dX2_tread_15 CF2 (by decide) fl_X2_15 rfl rfl h (fun t2 h => ?_)
      refine j_icmp_lt C 22 dX2_tread_18 rfl h (fun c20 h => ?_) (fun c20 h => ?_)
      · refine j_aload_n C dX2_tread_22 rfl ?_
        refine j_getR C dX2_tread_23 CF2 (by decide) fl_X2_19 rfl rfl h (fun t3 h => ?_)
        refine j_iload C dX2_tread_26 rfl ?_
        refine j_aload_n C dX2_tread_28 rfl ?_
        refine j_getR C dX2_tread_29 CF2 (by decide) fl_X2_9 rfl rfl h (fun t4 h => ?_)
        refine j_iload_n C dX2_tread_32 rfl ?_
        refine j_iald C dX2_tread_33 rfl h (fun t5 h => ?_)
        refine j_iast C dX2_tread_34 rfl h (fun m6 h => ?_)
        refine j_iload_n C dX2_tread_35 rfl ?_
        refine j_iconst C dX2_tread_36 rfl ?_
        refine j_iload_n C dX2_tread_37 rfl ?_
        refine j_ishl C dX2_tread_38 ?_
        refine j_ior C dX2_tread_39 ?_
        refine j_istore (ls' := [some (vR _), some (vR _), some (vI _), some (vI _), some (vI _), some (vI _), none]) C dX2_tread_40 (by decide) rfl ?_
        refine j_iload C dX2_tread_42 rfl ?_
        refine j_iconst C dX2_tread_44 rfl ?_
        refine j_iadd C dX2_tread_45 ?_
        refine j_aload_n C dX2_tread_46 rfl ?_
        refine j_getI C dX2_tread_47 CF2 (by decide) fl_X2_15 rfl rfl h (fun t7 h => ?_)
        refine j_icmp_ne C 58 dX2_tread_50 rfl h (fun c19 h => ?_) (fun c19 h => ?_)
        · refine j_iconst C dX2_tread_58 rfl ?_
          refine j_istore (ls' := [some (vR _), some (vR _), some (vI _), some (vI _), some (vI _), some (vI _), some (vI _)]) C dX2_tread_59 (by decide) rfl ?_
          refine j_mask [true, true, true, false, true, true, true] (ls' := [some (vR _), some (vR _), some (vI _), none, some (vI _), some (vI _), some (vI _)]) rfl ?_
          exact X2_tread_L61_ok C hlv hk hs hself N h
        · refine j_aload_n C dX2_tread_53 rfl ?_
          obtain ⟨p18, ep18, h⟩ := bind_some h
          have qp18 := X2_keep_ct ep18
          refine j_cVV C dX2_tread_54 vl_X2_43 CF2 rfl qp18.1 qp18.2 (by omega) rfl rfl (Nat.le_of_ble_eq_true rfl) ?_
          have e := Option.some.inj h
          subst e
          exact j_rv C dX2_tread_57 rfl rfl
      · have e := Option.some.inj h
        subst e
        exact j_rv C dX2_tread_21 rfl rfl
set_option maxRecDepth 100000 in
set_option maxHeartbeats 4000000 in
theorem X2_tread_ctd {N : Nat} (d : Nat) : ∀ {l0 : Nat} {l1 : Nat} {l2 : Int} {l3 : Int} {l4 : Int} {m : Mem} {out : Mem}, X2_tread N d l0 l1 l2 l3 l4 m = some out → CT yX2_tread cX2_tread 7 none (9 + 1 * d) 0 0 [vR l0, vR l1, vI l2, vI l3, vI l4] 312 m none 312 out := by
  induction d with
  | zero => intro l0 l1 l2 l3 l4 m out h; exact none_ne (α := Mem) h
  | succ d ih => intro l0 l1 l2 l3 l4 m out h; exact X2_tread_c_ct (lv := 9 + 1 * (d + 1)) (lvs := 9 + 1 * d) (self := X2_tread N d) (by omega) (by omega) (by omega) (fun l0 l1 l2 l3 l4 m r h => ih h) h
set_option maxRecDepth 100000 in
set_option maxHeartbeats 4000000 in
theorem X2_tread_ct {N : Nat} {l0 : Nat} {l1 : Nat} {l2 : Int} {l3 : Int} {l4 : Int} {m : Mem} {out : Mem} (h : X2_tread N 12 l0 l1 l2 l3 l4 m = some out) : CT yX2_tread cX2_tread 7 none (21) 0 0 [vR l0, vR l1, vI l2, vI l3, vI l4] 312 m none 312 out := X2_tread_ctd 12 h
theorem dX2_findWalks_0 : decode cX2_findWalks 0 = .ok (.aload_n 0, 1) := by decide +kernel
theorem dX2_findWalks_1 : decode cX2_findWalks 1 = .ok (.iconst 0, 1) := by decide +kernel
theorem dX2_findWalks_2 : decode cX2_findWalks 2 = .ok (.putfield 25, 3) := by decide +kernel
theorem dX2_findWalks_5 : decode cX2_findWalks 5 = .ok (.iconst 0, 1) := by decide +kernel
theorem dX2_findWalks_6 : decode cX2_findWalks 6 = .ok (.istore_n 3, 1) := by decide +kernel
theorem dX2_findWalks_7 : decode cX2_findWalks 7 = .ok (.iload_n 3, 1) := by decide +kernel
theorem dX2_findWalks_8 : decode cX2_findWalks 8 = .ok (.aload_n 0, 1) := by decide +kernel
theorem dX2_findWalks_9 : decode cX2_findWalks 9 = .ok (.getfield 15, 3) := by decide +kernel
theorem dX2_findWalks_12 : decode cX2_findWalks 12 = .ok (.if_icmp .ge 23, 3) := by decide +kernel
theorem dX2_findWalks_15 : decode cX2_findWalks 15 = .ok (.aload_n 2, 1) := by decide +kernel
theorem dX2_findWalks_16 : decode cX2_findWalks 16 = .ok (.aload_n 0, 1) := by decide +kernel
theorem dX2_findWalks_17 : decode cX2_findWalks 17 = .ok (.getfield 9, 3) := by decide +kernel
theorem dX2_findWalks_20 : decode cX2_findWalks 20 = .ok (.iload_n 3, 1) := by decide +kernel
theorem dX2_findWalks_21 : decode cX2_findWalks 21 = .ok (.iaload, 1) := by decide +kernel
theorem dX2_findWalks_22 : decode cX2_findWalks 22 = .ok (.invokevirtual 28, 3) := by decide +kernel
theorem dX2_findWalks_25 : decode cX2_findWalks 25 = .ok (.ifCond .eq 4, 3) := by decide +kernel
theorem dX2_findWalks_28 : decode cX2_findWalks 28 = .ok (.return_, 1) := by decide +kernel
theorem dX2_findWalks_29 : decode cX2_findWalks 29 = .ok (.iinc 3 1, 3) := by decide +kernel
theorem dX2_findWalks_32 : decode cX2_findWalks 32 = .ok (.goto (-25), 3) := by decide +kernel
theorem dX2_findWalks_35 : decode cX2_findWalks 35 = .ok (.iconst 0, 1) := by decide +kernel
theorem dX2_findWalks_36 : decode cX2_findWalks 36 = .ok (.istore_n 3, 1) := by decide +kernel
theorem dX2_findWalks_37 : decode cX2_findWalks 37 = .ok (.iload_n 3, 1) := by decide +kernel
theorem dX2_findWalks_38 : decode cX2_findWalks 38 = .ok (.aload_n 0, 1) := by decide +kernel
theorem dX2_findWalks_39 : decode cX2_findWalks 39 = .ok (.getfield 15, 3) := by decide +kernel
theorem dX2_findWalks_42 : decode cX2_findWalks 42 = .ok (.if_icmp .ge 30, 3) := by decide +kernel
theorem dX2_findWalks_45 : decode cX2_findWalks 45 = .ok (.aload_n 1, 1) := by decide +kernel
theorem dX2_findWalks_46 : decode cX2_findWalks 46 = .ok (.aload_n 0, 1) := by decide +kernel
theorem dX2_findWalks_47 : decode cX2_findWalks 47 = .ok (.getfield 9, 3) := by decide +kernel
theorem dX2_findWalks_50 : decode cX2_findWalks 50 = .ok (.iload_n 3, 1) := by decide +kernel
theorem dX2_findWalks_51 : decode cX2_findWalks 51 = .ok (.iaload, 1) := by decide +kernel
theorem dX2_findWalks_52 : decode cX2_findWalks 52 = .ok (.invokevirtual 34, 3) := by decide +kernel
theorem dX2_findWalks_55 : decode cX2_findWalks 55 = .ok (.ifCond .eq 11, 3) := by decide +kernel
theorem dX2_findWalks_58 : decode cX2_findWalks 58 = .ok (.aload_n 0, 1) := by decide +kernel
theorem dX2_findWalks_59 : decode cX2_findWalks 59 = .ok (.aload_n 1, 1) := by decide +kernel
theorem dX2_findWalks_60 : decode cX2_findWalks 60 = .ok (.iload_n 3, 1) := by decide +kernel
theorem dX2_findWalks_61 : decode cX2_findWalks 61 = .ok (.iconst 0, 1) := by decide +kernel
theorem dX2_findWalks_62 : decode cX2_findWalks 62 = .ok (.iconst 0, 1) := by decide +kernel
theorem dX2_findWalks_63 : decode cX2_findWalks 63 = .ok (.invokestatic 39, 3) := by decide +kernel
theorem dX2_findWalks_66 : decode cX2_findWalks 66 = .ok (.iinc 3 1, 3) := by decide +kernel
theorem dX2_findWalks_69 : decode cX2_findWalks 69 = .ok (.goto (-32), 3) := by decide +kernel
theorem dX2_findWalks_72 : decode cX2_findWalks 72 = .ok (.return_, 1) := by decide +kernel
set_option maxRecDepth 100000 in
set_option maxHeartbeats 4000000 in
theorem X2_findWalks_L7_bok {g : Gm} {w : Wd} (C : Cx g w RX2 cX2_findWalks 4 none) {lv : Nat} (hlv : 21 < lv) {N : Nat} {k35 : Nat → Nat → Mem → Option Mem} {r7 : Nat → Nat → Nat → Int → Mem → Option Mem} {l0 : Nat} {l1 : Nat} {l2 : Nat} {l3 : Int} {m : Mem} {out : Mem} (hk35 : ∀ l0 l1 m, k35 l0 l1 m = some out → Jd g w 4 (rmL lv 0 0) (Qm g w none out) 35 [some (vR l0), some (vR l1), none, none] [] 312 m 0 0) (hr7 : ∀ l0 l1 l2 l3 m, r7 l0 l1 l2 l3 m = some out → Jd g w 4 (rmL lv 0 0) (Qm g w none out) 7 [some (vR l0), some (vR l1), some (vR l2), some (vI l3)] [] 312 m 0 0) (h : X2_findWalks_L7_b N k35 r7 l0 l1 l2 l3 m = some out) : Jd g w 4 (rmL lv 0 0) (Qm g w none out) 7 [some (vR l0), some (vR l1), some (vR l2), some (vI l3)] [] 312 m 0 0 := by
  unfold X2_findWalks_L7_b at h
  refine j_iload_n C dX2_findWalks_7 rfl ?_
  refine j_aload_n C dX2_findWalks_8 rfl ?_
  refine j_getI C dX2_findWalks_9 CF2 (by decide) fl_X2_15 rfl rfl h (fun t2 h => ?_)
  refine j_icmp_ge C 35 dX2_findWalks_12 rfl h (fun c7 h => ?_) (fun c7 h => ?_)
  · refine j_mask [true, true, false, false] (ls' := [some (vR _), some (vR _), none, none]) rfl ?_
    exact hk35 _ _ _ h
  · refine j_aload_n C dX2_findWalks_15 rfl ?_
    refine j_aload_n C dX2_findWalks_16 rfl ?_
    refine j_getR C dX2_findWalks_17 CF2 (by decide) fl_X2_9 rfl rfl h (fun t3 h => ?_)
    refine j_iload_n C dX2_findWalks_20 rfl ?_
    refine j_iald C dX2_findWalks_21 rfl h (fun t4 h => ?_)
    obtain ⟨p5, ep5, h⟩ := bind_some h
    have qp5 := X1_hasWall_ct ep5
    refine j_cVI C dX2_findWalks_22 vl_X2_28 CF1 rfl qp5.1 qp5.2 (by omega) rfl rfl (Nat.le_of_ble_eq_true rfl) ?_
    refine j_if_eq C 29 dX2_findWalks_25 rfl h (fun c6 h => ?_) (fun c6 h => ?_)
    · refine j_iinc (ls' := [some (vR _), some (vR _), some (vR _), some (vI _)]) C dX2_findWalks_29 rfl (by decide) rfl ?_
      refine j_goto C 7 dX2_findWalks_32 rfl ?_
      exact hr7 _ _ _ _ _ h
    · have e := Option.some.inj h
      subst e
      exact j_rv C dX2_findWalks_28 rfl rfl
set_option maxRecDepth 100000 in
set_option maxHeartbeats 4000000 in
theorem X2_findWalks_L7_ok {g : Gm} {w : Wd} (C : Cx g w RX2 cX2_findWalks 4 none) {lv : Nat} (hlv : 21 < lv) {N : Nat} {k35 : Nat → Nat → Mem → Option Mem} {out : Mem} (hk35 : ∀ l0 l1 m, k35 l0 l1 m = some out → Jd g w 4 (rmL lv 0 0) (Qm g w none out) 35 [some (vR l0), some (vR l1), none, none] [] 312 m 0 0) (f : Nat) : ∀ {l0 : Nat} {l1 : Nat} {l2 : Nat} {l3 : Int} {m : Mem}, X2_findWalks_L7 N k35 f l0 l1 l2 l3 m = some out → Jd g w 4 (rmL lv 0 0) (Qm g w none out) 7 [some (vR l0), some (vR l1), some (vR l2), some (vI l3)] [] 312 m 0 0 := by
  induction f with
  | zero => intro l0 l1 l2 l3 m h; exact none_ne (α := Mem) h
  | succ f ih => intro l0 l1 l2 l3 m h; exact X2_findWalks_L7_bok C hlv hk35 (fun l0 l1 l2 l3 m h => ih h) h
set_option maxRecDepth 100000 in
set_option maxHeartbeats 4000000 in
theorem X2_findWalks_J66_ok {g : Gm} {w : Wd} (C : Cx g w RX2 cX2_findWalks 4 none) {lv : Nat} (hlv : 21 < lv) {N : Nat} {r37 : Nat → Nat → Int → Mem → Option Mem } {l0 : Nat} {l1 : Nat} {l3 : Int} {m : Mem} {out : Mem} (hr37 : ∀ l0 l1 l3 m, r37 l0 l1 l3 m = some out → Jd g w 4 (rmL lv 0 0) (Qm g w none out) 37 [some (vR l0), some (vR l1), none, some (vI l3)] [] 312 m 0 0) (h : X2_findWalks_J66 N r37 l0 l1 l3 m = some out) : Jd g w 4 (rmL lv 0 0) (Qm g w none out) 66 [some (vR l0), some (vR l1), none, some (vI l3)] [] 312 m 0 0 := by
  unfold X2_findWalks_J66 at h
  refine j_iinc (ls' := [some (vR _), some (vR _), none, some (vI _)]) C dX2_findWalks_66 rfl (by decide) rfl ?_
  refine j_goto C 37 dX2_findWalks_69 rfl ?_
  exact hr37 _ _ _ _ h
set_option maxRecDepth 100000 in
set_option maxHeartbeats 4000000 in
theorem X2_findWalks_L37_bok {g : Gm} {w : Wd} (C : Cx g w RX2 cX2_findWalks 4 none) {lv : Nat} (hlv : 21 < lv) {N : Nat} {r37 : Nat → Nat → Int → Mem → Option Mem} {l0 : Nat} {l1 : Nat} {l3 : Int} {m : Mem} {out : Mem} (hr37 : ∀ l0 l1 l3 m, r37 l0 l1 l3 m = some out → Jd g w 4 (rmL lv 0 0) (Qm g w none out) 37 [some (vR l0), some (vR l1), none, some (vI l3)] [] 312 m 0 0) (h : X2_findWalks_L37_b N r37 l0 l1 l3 m = some out) : Jd g w 4 (rmL lv 0 0) (Qm g w none out) 37 [some (vR l0), some (vR l1), none, some (vI l3)] [] 312 m 0 0 := by
  unfold X2_findWalks_L37_b at h
  refine j_iload_n C dX2_findWalks_37 rfl ?_
  refine j_aload_n C dX2_findWalks_38 rfl ?_
  refine j_getI C dX2_findWalks_39 CF2 (by decide) fl_X2_15 rfl rfl h (fun t11 h => ?_)
  refine j_icmp_ge C 72 dX2_findWalks_42 rfl h (fun c17 h => ?_) (fun c17 h => ?_)
  · have e := Option.some.inj h
    subst e
    exact j_rv C dX2_findWalks_72 rfl rfl
  · refine j_aload_n C dX2_findWalks_45 rfl ?_
    refine j_aload_n C dX2_findWalks_46 rfl ?_
    refine j_getR C dX2_findWalks_47 CF2 (by decide) fl_X2_9 rfl rfl h (fun t12 h => ?_)
    refine j_iload_n C dX2_findWalks_50 rfl ?_
    refine j_iald C dX2_findWalks_51 rfl h (fun t13 h => ?_)
    obtain ⟨p14, ep14, h⟩ := bind_some h
    have qp14 := X5_isAtEdge_ct ep14
    refine j_cVI C dX2_findWalks_52 vl_X2_34 CF5 rfl qp14.1 qp14.2 (by omega) rfl rfl (Nat.le_of_ble_eq_true rfl) ?_
    refine j_if_eq C 66 dX2_findWalks_55 rfl h (fun c16 h => ?_) (fun c16 h => ?_)
    · exact X2_findWalks_J66_ok C hlv hr37 h
    · refine j_aload_n C dX2_findWalks_58 rfl ?_
      refine j_aload_n C dX2_findWalks_59 rfl ?_
      refine j_iload_n C dX2_findWalks_60 rfl ?_
      refine j_iconst C dX2_findWalks_61 rfl ?_
      refine j_iconst C dX2_findWalks_62 rfl ?_
      obtain ⟨p15, ep15, h⟩ := bind_some h
      have qp15 := X2_tread_ct (N := N) ep15
      refine j_cSV C dX2_findWalks_63 sl_X2_39 qp15 (by omega) rfl rfl (Nat.le_of_ble_eq_true rfl) ?_
      exact X2_findWalks_J66_ok C hlv hr37 h
set_option maxRecDepth 100000 in
set_option maxHeartbeats 4000000 in
theorem X2_findWalks_L37_ok {g : Gm} {w : Wd} (C : Cx g w RX2 cX2_findWalks 4 none) {lv : Nat} (hlv : 21 < lv) {N : Nat} {out : Mem} (f : Nat) : ∀ {l0 : Nat} {l1 : Nat} {l3 : Int} {m : Mem}, X2_findWalks_L37 N f l0 l1 l3 m = some out → Jd g w 4 (rmL lv 0 0) (Qm g w none out) 37 [some (vR l0), some (vR l1), none, some (vI l3)] [] 312 m 0 0 := by
  induction f with
  | zero => intro l0 l1 l3 m h; exact none_ne (α := Mem) h
  | succ f ih => intro l0 l1 l3 m h; exact X2_findWalks_L37_bok C hlv (fun l0 l1 l3 m h => ih h) h
set_option maxRecDepth 100000 in
set_option maxHeartbeats 4000000 in
theorem X2_findWalks_ct {N : Nat} {l0 : Nat} {l1 : Nat} {l2 : Nat} {m : Mem} {out : Mem} (h : X2_findWalks N l0 l1 l2 m = some out) : shK l0 = 2 + 10 ∧ CT yX2_findWalks cX2_findWalks 4 none 22 0 0 [vR l0, vR l1, vR l2] 312 m none 312 out := by
  unfold X2_findWalks at h
  obtain ⟨hK, h⟩ := ite_some h
  have hlv : 21 < 22 := by decide
  refine ⟨hK, CT.of (by decide +kernel) rfl (Nat.le_of_ble_eq_true rfl) (ls := [some (vR l0), some (vR l1), some (vR l2), none]) rfl fun g w C _ => ?_⟩
  refine j_aload_n C dX2_findWalks_0 rfl ?_
  refine j_iconst C dX2_findWalks_1 rfl ?_
  refine j_putI C dX2_findWalks_2 CF2 (by decide) fl_X2_25 rfl rfl rfl rfl h (fun m1 h => ?_)
  refine j_iconst C dX2_findWalks_5 rfl ?_
  refine j_istore_n (ls' := [some (vR _), some (vR _), some (vR _), some (vI _)]) C dX2_findWalks_6 (by decide) rfl ?_
  refine X2_findWalks_L7_ok C hlv (fun z8 z9 m10 h => ?_) N h
  refine j_iconst C dX2_findWalks_35 rfl ?_
  refine j_istore_n (ls' := [some (vR _), some (vR _), none, some (vI _)]) C dX2_findWalks_36 (by decide) rfl ?_
  exact X2_findWalks_L37_ok C hlv N h
theorem dX10_walked_0 : decode cX10_walked 0 = .ok (.aload_n 0, 1) := by decide +kernel
theorem dX10_walked_1 : decode cX10_walked 1 = .ok (.getfield 13, 3) := by decide +kernel
theorem dX10_walked_4 : decode cX10_walked 4 = .ok (.istore_n 1, 1) := by decide +kernel
theorem dX10_walked_5 : decode cX10_walked 5 = .ok (.aload_n 0, 1) := by decide +kernel
theorem dX10_walked_6 : decode cX10_walked 6 = .ok (.iconst 0, 1) := by decide +kernel
theorem dX10_walked_7 : decode cX10_walked 7 = .ok (.putfield 13, 3) := by decide +kernel
theorem dX10_walked_10 : decode cX10_walked 10 = .ok (.iload_n 1, 1) := by decide +kernel
theorem dX10_walked_11 : decode cX10_walked 11 = .ok (.iconst 2, 1) := by decide +kernel
theorem dX10_walked_12 : decode cX10_walked 12 = .ok (.if_icmp .lt 24, 3) := by decide +kernel
theorem dX10_walked_15 : decode cX10_walked 15 = .ok (.iload_n 1, 1) := by decide +kernel
theorem dX10_walked_16 : decode cX10_walked 16 = .ok (.bipush 10, 2) := by decide +kernel
theorem dX10_walked_18 : decode cX10_walked 18 = .ok (.if_icmp .gt 18, 3) := by decide +kernel
theorem dX10_walked_21 : decode cX10_walked 21 = .ok (.aload_n 0, 1) := by decide +kernel
theorem dX10_walked_22 : decode cX10_walked 22 = .ok (.iload_n 1, 1) := by decide +kernel
theorem dX10_walked_23 : decode cX10_walked 23 = .ok (.aload_n 0, 1) := by decide +kernel
theorem dX10_walked_24 : decode cX10_walked 24 = .ok (.getfield 27, 3) := by decide +kernel
theorem dX10_walked_27 : decode cX10_walked 27 = .ok (.invokevirtual 375, 3) := by decide +kernel
theorem dX10_walked_30 : decode cX10_walked 30 = .ok (.invokevirtual 339, 3) := by decide +kernel
theorem dX10_walked_33 : decode cX10_walked 33 = .ok (.ifCond .ne 9, 3) := by decide +kernel
theorem dX10_walked_36 : decode cX10_walked 36 = .ok (.aload_n 0, 1) := by decide +kernel
theorem dX10_walked_37 : decode cX10_walked 37 = .ok (.iconst 5, 1) := by decide +kernel
theorem dX10_walked_38 : decode cX10_walked 38 = .ok (.invokevirtual 101, 3) := by decide +kernel
theorem dX10_walked_41 : decode cX10_walked 41 = .ok (.ireturn, 1) := by decide +kernel
theorem dX10_walked_42 : decode cX10_walked 42 = .ok (.aload_n 0, 1) := by decide +kernel
theorem dX10_walked_43 : decode cX10_walked 43 = .ok (.getfield 88, 3) := by decide +kernel
theorem dX10_walked_46 : decode cX10_walked 46 = .ok (.aload_n 0, 1) := by decide +kernel
theorem dX10_walked_47 : decode cX10_walked 47 = .ok (.getfield 9, 3) := by decide +kernel
theorem dX10_walked_50 : decode cX10_walked 50 = .ok (.iload_n 1, 1) := by decide +kernel
theorem dX10_walked_51 : decode cX10_walked 51 = .ok (.invokevirtual 383, 3) := by decide +kernel
theorem dX10_walked_54 : decode cX10_walked 54 = .ok (.aload_n 0, 1) := by decide +kernel
theorem dX10_walked_55 : decode cX10_walked 55 = .ok (.getfield 88, 3) := by decide +kernel
theorem dX10_walked_58 : decode cX10_walked 58 = .ok (.aload_n 0, 1) := by decide +kernel
theorem dX10_walked_59 : decode cX10_walked 59 = .ok (.getfield 27, 3) := by decide +kernel
theorem dX10_walked_62 : decode cX10_walked 62 = .ok (.aload_n 0, 1) := by decide +kernel
theorem dX10_walked_63 : decode cX10_walked 63 = .ok (.getfield 37, 3) := by decide +kernel
theorem dX10_walked_66 : decode cX10_walked 66 = .ok (.invokevirtual 387, 3) := by decide +kernel
theorem dX10_walked_69 : decode cX10_walked 69 = .ok (.aload_n 0, 1) := by decide +kernel
theorem dX10_walked_70 : decode cX10_walked 70 = .ok (.getfield 88, 3) := by decide +kernel
theorem dX10_walked_73 : decode cX10_walked 73 = .ok (.getfield 391, 3) := by decide +kernel
theorem dX10_walked_76 : decode cX10_walked 76 = .ok (.ireturn, 1) := by decide +kernel
set_option maxRecDepth 100000 in
set_option maxHeartbeats 4000000 in
theorem X10_walked_J36_ok {g : Gm} {w : Wd} (C : Cx g w RX10 cX10_walked 2 (some .int)) {lv : Nat} (hlv : 22 < lv) {N : Nat} {l0 : Nat} {m : Mem} {out : (Int × Mem)} (h : X10_walked_J36 N l0 m = some out) : Jd g w 2 (rmL lv 0 0) (Qm g w (some (vI out.1)) out.2) 36 [some (vR l0), none] [] 312 m 0 0 := by
  unfold X10_walked_J36 at h
  refine j_aload_n C dX10_walked_36 rfl ?_
  refine j_iconst C dX10_walked_37 rfl ?_
  obtain ⟨p3, ep3, h⟩ := bind_some h
  have qp3 := X10_refuse_ct ep3
  refine j_cVI C dX10_walked_38 vl_X10_101 CF10 rfl qp3.1 qp3.2 (by omega) rfl rfl (Nat.le_of_ble_eq_true rfl) ?_
  have e := Option.some.inj h
  subst e
  exact j_ri C dX10_walked_41 rfl rfl rfl
set_option maxRecDepth 100000 in
set_option maxHeartbeats 4000000 in
theorem X10_walked_ct {N : Nat} {l0 : Nat} {m : Mem} {out : (Int × Mem)} (h : X10_walked N l0 m = some out) : shK l0 = 10 + 10 ∧ CT yX10_walked cX10_walked 2 (some .int) 23 0 0 [vR l0] 312 m (some (vI out.1)) 312 out.2 := by
  unfold X10_walked at h
  obtain ⟨hK, h⟩ := ite_some h
  have hlv : 22 < 23 := by decide
  refine ⟨hK, CT.of (by decide +kernel) rfl (Nat.le_of_ble_eq_true rfl) (ls := [some (vR l0), none]) rfl fun g w C _ => ?_⟩
  refine j_aload_n C dX10_walked_0 rfl ?_
  refine j_getI C dX10_walked_1 CF10 (by decide) fl_X10_13 rfl rfl h (fun t1 h => ?_)
  refine j_istore_n (ls' := [some (vR _), some (vI _)]) C dX10_walked_4 (by decide) rfl ?_
  refine j_aload_n C dX10_walked_5 rfl ?_
  refine j_iconst C dX10_walked_6 rfl ?_
  refine j_putI C dX10_walked_7 CF10 (by decide) fl_X10_13 rfl rfl rfl rfl h (fun m2 h => ?_)
  refine j_iload_n C dX10_walked_10 rfl ?_
  refine j_iconst C dX10_walked_11 rfl ?_
  refine j_icmp_lt C 36 dX10_walked_12 rfl h (fun c18 h => ?_) (fun c18 h => ?_)
  · refine j_mask [true, false] (ls' := [some (vR _), none]) rfl ?_
    exact X10_walked_J36_ok C hlv h
  · refine j_iload_n C dX10_walked_15 rfl ?_
    refine j_bipush C dX10_walked_16 rfl ?_
    refine j_icmp_gt C 36 dX10_walked_18 rfl h (fun c17 h => ?_) (fun c17 h => ?_)
    · refine j_mask [true, false] (ls' := [some (vR _), none]) rfl ?_
      exact X10_walked_J36_ok C hlv h
    · refine j_aload_n C dX10_walked_21 rfl ?_
      refine j_iload_n C dX10_walked_22 rfl ?_
      refine j_aload_n C dX10_walked_23 rfl ?_
      refine j_getR C dX10_walked_24 CF10 (by decide) fl_X10_27 rfl rfl h (fun t4 h => ?_)
      obtain ⟨p5, ep5, h⟩ := bind_some h
      have qp5 := X5_cells_ct ep5
      refine j_cVI C dX10_walked_27 vl_X10_375 CF5 rfl qp5.1 qp5.2 (by omega) rfl rfl (Nat.le_of_ble_eq_true rfl) ?_
      obtain ⟨p6, ep6, h⟩ := bind_some h
      have qp6 := X10_unlikeBytes_ct ep6
      refine j_cVI C dX10_walked_30 vl_X10_339 CF10 rfl qp6.1 qp6.2 (by omega) rfl rfl (Nat.le_of_ble_eq_true rfl) ?_
      refine j_if_ne C 42 dX10_walked_33 rfl h (fun c16 h => ?_) (fun c16 h => ?_)
      · refine j_aload_n C dX10_walked_42 rfl ?_
        refine j_getR C dX10_walked_43 CF10 (by decide) fl_X10_88 rfl rfl h (fun t7 h => ?_)
        refine j_aload_n C dX10_walked_46 rfl ?_
        refine j_getR C dX10_walked_47 CF10 (by decide) fl_X10_9 rfl rfl h (fun t8 h => ?_)
        refine j_iload_n C dX10_walked_50 rfl ?_
        obtain ⟨p9, ep9, h⟩ := bind_some h
        have qp9 := X2_tell_ct ep9
        refine j_cVV C dX10_walked_51 vl_X10_383 CF2 rfl qp9.1 qp9.2 (by omega) rfl rfl (Nat.le_of_ble_eq_true rfl) ?_
        refine j_aload_n C dX10_walked_54 rfl ?_
        refine j_getR C dX10_walked_55 CF10 (by decide) fl_X10_88 rfl rfl h (fun t10 h => ?_)
        refine j_aload_n C dX10_walked_58 rfl ?_
        refine j_getR C dX10_walked_59 CF10 (by decide) fl_X10_27 rfl rfl h (fun t11 h => ?_)
        refine j_aload_n C dX10_walked_62 rfl ?_
        refine j_getR C dX10_walked_63 CF10 (by decide) fl_X10_37 rfl rfl h (fun t12 h => ?_)
        obtain ⟨p13, ep13, h⟩ := bind_some h
        have qp13 := X2_findWalks_ct ep13
        refine j_cVV C dX10_walked_66 vl_X10_387 CF2 rfl qp13.1 qp13.2 (by omega) rfl rfl (Nat.le_of_ble_eq_true rfl) ?_
        refine j_aload_n C dX10_walked_69 rfl ?_
        refine j_getR C dX10_walked_70 CF10 (by decide) fl_X10_88 rfl rfl h (fun t14 h => ?_)
        refine j_getI C dX10_walked_73 CF2 (by decide) fl_X10_391 rfl rfl h (fun t15 h => ?_)
        have e := Option.some.inj h
        subst e
        exact j_ri C dX10_walked_76 rfl rfl rfl
      · refine j_mask [true, false] (ls' := [some (vR _), none]) rfl ?_
        exact X10_walked_J36_ok C hlv h
theorem dX10_wall_0 : decode cX10_wall 0 = .ok (.iload_n 2, 1) := by decide +kernel
theorem dX10_wall_1 : decode cX10_wall 1 = .ok (.ifCond .eq 18, 3) := by decide +kernel
theorem dX10_wall_4 : decode cX10_wall 4 = .ok (.aload_n 0, 1) := by decide +kernel
theorem dX10_wall_5 : decode cX10_wall 5 = .ok (.getfield 27, 3) := by decide +kernel
theorem dX10_wall_8 : decode cX10_wall 8 = .ok (.aload_n 0, 1) := by decide +kernel
theorem dX10_wall_9 : decode cX10_wall 9 = .ok (.getfield 37, 3) := by decide +kernel
theorem dX10_wall_12 : decode cX10_wall 12 = .ok (.iload_n 1, 1) := by decide +kernel
theorem dX10_wall_13 : decode cX10_wall 13 = .ok (.invokevirtual 284, 3) := by decide +kernel
theorem dX10_wall_16 : decode cX10_wall 16 = .ok (.goto 11, 3) := by decide +kernel
theorem dX10_wall_19 : decode cX10_wall 19 = .ok (.aload_n 0, 1) := by decide +kernel
theorem dX10_wall_20 : decode cX10_wall 20 = .ok (.getfield 37, 3) := by decide +kernel
theorem dX10_wall_23 : decode cX10_wall 23 = .ok (.iload_n 1, 1) := by decide +kernel
theorem dX10_wall_24 : decode cX10_wall 24 = .ok (.invokevirtual 294, 3) := by decide +kernel
theorem dX10_wall_27 : decode cX10_wall 27 = .ok (.istore_n 3, 1) := by decide +kernel
theorem dX10_wall_28 : decode cX10_wall 28 = .ok (.iload_n 3, 1) := by decide +kernel
theorem dX10_wall_29 : decode cX10_wall 29 = .ok (.ifCond .eq 14, 3) := by decide +kernel
theorem dX10_wall_32 : decode cX10_wall 32 = .ok (.aload_n 0, 1) := by decide +kernel
theorem dX10_wall_33 : decode cX10_wall 33 = .ok (.getfield 27, 3) := by decide +kernel
theorem dX10_wall_36 : decode cX10_wall 36 = .ok (.iload_n 1, 1) := by decide +kernel
theorem dX10_wall_37 : decode cX10_wall 37 = .ok (.invokevirtual 192, 3) := by decide +kernel
theorem dX10_wall_40 : decode cX10_wall 40 = .ok (.ifCond .ne 11, 3) := by decide +kernel
theorem dX10_wall_43 : decode cX10_wall 43 = .ok (.aload_n 0, 1) := by decide +kernel
theorem dX10_wall_44 : decode cX10_wall 44 = .ok (.iconst 2, 1) := by decide +kernel
theorem dX10_wall_45 : decode cX10_wall 45 = .ok (.invokevirtual 101, 3) := by decide +kernel
theorem dX10_wall_48 : decode cX10_wall 48 = .ok (.pop, 1) := by decide +kernel
theorem dX10_wall_49 : decode cX10_wall 49 = .ok (.iconst 0, 1) := by decide +kernel
theorem dX10_wall_50 : decode cX10_wall 50 = .ok (.ireturn, 1) := by decide +kernel
theorem dX10_wall_51 : decode cX10_wall 51 = .ok (.aload_n 0, 1) := by decide +kernel
theorem dX10_wall_52 : decode cX10_wall 52 = .ok (.getfield 47, 3) := by decide +kernel
theorem dX10_wall_55 : decode cX10_wall 55 = .ok (.aload_n 0, 1) := by decide +kernel
theorem dX10_wall_56 : decode cX10_wall 56 = .ok (.getfield 37, 3) := by decide +kernel
theorem dX10_wall_59 : decode cX10_wall 59 = .ok (.invokevirtual 288, 3) := by decide +kernel
theorem dX10_wall_62 : decode cX10_wall 62 = .ok (.aload_n 0, 1) := by decide +kernel
theorem dX10_wall_63 : decode cX10_wall 63 = .ok (.getfield 37, 3) := by decide +kernel
theorem dX10_wall_66 : decode cX10_wall 66 = .ok (.getfield 297, 3) := by decide +kernel
theorem dX10_wall_69 : decode cX10_wall 69 = .ok (.iload_n 1, 1) := by decide +kernel
theorem dX10_wall_70 : decode cX10_wall 70 = .ok (.iload_n 2, 1) := by decide +kernel
theorem dX10_wall_71 : decode cX10_wall 71 = .ok (.ifCond .eq 7, 3) := by decide +kernel
theorem dX10_wall_74 : decode cX10_wall 74 = .ok (.iconst 1, 1) := by decide +kernel
theorem dX10_wall_75 : decode cX10_wall 75 = .ok (.goto 4, 3) := by decide +kernel
theorem dX10_wall_78 : decode cX10_wall 78 = .ok (.iconst 0, 1) := by decide +kernel
theorem dX10_wall_79 : decode cX10_wall 79 = .ok (.iastore, 1) := by decide +kernel
theorem dX10_wall_80 : decode cX10_wall 80 = .ok (.aload_n 0, 1) := by decide +kernel
theorem dX10_wall_81 : decode cX10_wall 81 = .ok (.invokevirtual 124, 3) := by decide +kernel
theorem dX10_wall_84 : decode cX10_wall 84 = .ok (.iconst 1, 1) := by decide +kernel
theorem dX10_wall_85 : decode cX10_wall 85 = .ok (.ireturn, 1) := by decide +kernel
set_option maxRecDepth 100000 in
set_option maxHeartbeats 4000000 in
theorem X10_wall_J43_ok {g : Gm} {w : Wd} (C : Cx g w RX10 cX10_wall 4 (some .boolean)) {lv : Nat} (hlv : 3 < lv) {N : Nat} {l0 : Nat} {m : Mem} {out : (Int × Mem)} (h : X10_wall_J43 N l0 m = some out) : Jd g w 4 (rmL lv 0 0) (Qm g w (some (vI out.1)) out.2) 43 [some (vR l0), none, none, none] [] 312 m 0 0 := by
  unfold X10_wall_J43 at h
  refine j_aload_n C dX10_wall_43 rfl ?_
  refine j_iconst C dX10_wall_44 rfl ?_
  obtain ⟨p3, ep3, h⟩ := bind_some h
  have qp3 := X10_refuse_ct ep3
  refine j_cVI C dX10_wall_45 vl_X10_101 CF10 rfl qp3.1 qp3.2 (by omega) rfl rfl (Nat.le_of_ble_eq_true rfl) ?_
  refine j_pop C dX10_wall_48 rfl ?_
  refine j_iconst C dX10_wall_49 rfl ?_
  obtain ⟨r4, er4, h⟩ := bind_some h
  have e := Option.some.inj h
  subst e
  exact j_rz C dX10_wall_50 rfl (retZ_some er4) rfl
set_option maxRecDepth 100000 in
set_option maxHeartbeats 4000000 in
theorem X10_wall_J79_ok {g : Gm} {w : Wd} (C : Cx g w RX10 cX10_wall 4 (some .boolean)) {lv : Nat} (hlv : 3 < lv) {N : Nat} {l0 : Nat} {s0 : Nat} {s1 : Int} {s2 : Int} {m : Mem} {out : (Int × Mem)} (h : X10_wall_J79 N l0 s0 s1 s2 m = some out) : Jd g w 4 (rmL lv 0 0) (Qm g w (some (vI out.1)) out.2) 79 [some (vR l0), none, none, none] [vI s2, vI s1, vR s0] 312 m 0 0 := by
  unfold X10_wall_J79 at h
  refine j_iast C dX10_wall_79 rfl h (fun m12 h => ?_)
  refine j_aload_n C dX10_wall_80 rfl ?_
  obtain ⟨p13, ep13, h⟩ := bind_some h
  have qp13 := X10_changed_ct ep13
  refine j_cVV C dX10_wall_81 vl_X10_124 CF10 rfl qp13.1 qp13.2 (by omega) rfl rfl (Nat.le_of_ble_eq_true rfl) ?_
  refine j_iconst C dX10_wall_84 rfl ?_
  obtain ⟨r14, er14, h⟩ := bind_some h
  have e := Option.some.inj h
  subst e
  exact j_rz C dX10_wall_85 rfl (retZ_some er14) rfl
set_option maxRecDepth 100000 in
set_option maxHeartbeats 4000000 in
theorem X10_wall_J27_ok {g : Gm} {w : Wd} (C : Cx g w RX10 cX10_wall 4 (some .boolean)) {lv : Nat} (hlv : 3 < lv) {N : Nat} {l0 : Nat} {l1 : Int} {l2 : Int} {s0 : Int} {m : Mem} {out : (Int × Mem)} (h : X10_wall_J27 N l0 l1 l2 s0 m = some out) : Jd g w 4 (rmL lv 0 0) (Qm g w (some (vI out.1)) out.2) 27 [some (vR l0), some (vI l1), some (vI l2), none] [vI s0] 312 m 0 0 := by
  unfold X10_wall_J27 at h
  refine j_istore_n (ls' := [some (vR _), some (vI _), some (vI _), some (vI _)]) C dX10_wall_27 (by decide) rfl ?_
  refine j_iload_n C dX10_wall_28 rfl ?_
  refine j_if_eq C 43 dX10_wall_29 rfl h (fun c17 h => ?_) (fun c17 h => ?_)
  · refine j_mask [true, false, false, false] (ls' := [some (vR _), none, none, none]) rfl ?_
    exact X10_wall_J43_ok C hlv h
  · refine j_aload_n C dX10_wall_32 rfl ?_
    refine j_getR C dX10_wall_33 CF10 (by decide) fl_X10_27 rfl rfl h (fun t5 h => ?_)
    refine j_iload_n C dX10_wall_36 rfl ?_
    obtain ⟨p6, ep6, h⟩ := bind_some h
    have qp6 := X5_isCell_ct ep6
    refine j_cVI C dX10_wall_37 vl_X10_192 CF5 rfl qp6.1 qp6.2 (by omega) rfl rfl (Nat.le_of_ble_eq_true rfl) ?_
    refine j_if_ne C 51 dX10_wall_40 rfl h (fun c16 h => ?_) (fun c16 h => ?_)
    · refine j_aload_n C dX10_wall_51 rfl ?_
      refine j_getR C dX10_wall_52 CF10 (by decide) fl_X10_47 rfl rfl h (fun t7 h => ?_)
      refine j_aload_n C dX10_wall_55 rfl ?_
      refine j_getR C dX10_wall_56 CF10 (by decide) fl_X10_37 rfl rfl h (fun t8 h => ?_)
      obtain ⟨p9, ep9, h⟩ := bind_some h
      have qp9 := X4_remember_ct ep9
      refine j_cVV C dX10_wall_59 vl_X10_288 CF4 rfl qp9.1 qp9.2 (by omega) rfl rfl (Nat.le_of_ble_eq_true rfl) ?_
      refine j_aload_n C dX10_wall_62 rfl ?_
      refine j_getR C dX10_wall_63 CF10 (by decide) fl_X10_37 rfl rfl h (fun t10 h => ?_)
      refine j_getR C dX10_wall_66 CF1 (by decide) fl_X10_297 rfl rfl h (fun t11 h => ?_)
      refine j_iload_n C dX10_wall_69 rfl ?_
      refine j_iload_n C dX10_wall_70 rfl ?_
      refine j_if_eq C 78 dX10_wall_71 rfl h (fun c15 h => ?_) (fun c15 h => ?_)
      · refine j_iconst C dX10_wall_78 rfl ?_
        refine j_mask [true, false, false, false] (ls' := [some (vR _), none, none, none]) rfl ?_
        exact X10_wall_J79_ok C hlv h
      · refine j_iconst C dX10_wall_74 rfl ?_
        refine j_goto C 79 dX10_wall_75 rfl ?_
        refine j_mask [true, false, false, false] (ls' := [some (vR _), none, none, none]) rfl ?_
        exact X10_wall_J79_ok C hlv h
    · refine j_mask [true, false, false, false] (ls' := [some (vR _), none, none, none]) rfl ?_
      exact X10_wall_J43_ok C hlv h
set_option maxRecDepth 100000 in
set_option maxHeartbeats 4000000 in
theorem X10_wall_ct {N : Nat} {l0 : Nat} {l1 : Int} {l2 : Int} {m : Mem} {out : (Int × Mem)} (h : X10_wall N l0 l1 l2 m = some out) : shK l0 = 10 + 10 ∧ CT yX10_wall cX10_wall 4 (some .boolean) 4 0 0 [vR l0, vI l1, vI l2] 312 m (some (vI out.1)) 312 out.2 := by
  unfold X10_wall at h
  obtain ⟨hK, h⟩ := ite_some h
  have hlv : 3 < 4 := by decide
  refine ⟨hK, CT.of (by decide +kernel) rfl (Nat.le_of_ble_eq_true rfl) (ls := [some (vR l0), some (vI l1), some (vI l2), none]) rfl fun g w C _ => ?_⟩
  refine j_iload_n C dX10_wall_0 rfl ?_
  refine j_if_eq C 19 dX10_wall_1 rfl h (fun c21 h => ?_) (fun c21 h => ?_)
  · refine j_aload_n C dX10_wall_19 rfl ?_
    refine j_getR C dX10_wall_20 CF10 (by decide) fl_X10_37 rfl rfl h (fun t1 h => ?_)
    refine j_iload_n C dX10_wall_23 rfl ?_
    obtain ⟨p2, ep2, h⟩ := bind_some h
    have qp2 := X1_hasWall_ct ep2
    refine j_cVI C dX10_wall_24 vl_X10_294 CF1 rfl qp2.1 qp2.2 (by omega) rfl rfl (Nat.le_of_ble_eq_true rfl) ?_
    exact X10_wall_J27_ok C hlv h
  · refine j_aload_n C dX10_wall_4 rfl ?_
    refine j_getR C dX10_wall_5 CF10 (by decide) fl_X10_27 rfl rfl h (fun t18 h => ?_)
    refine j_aload_n C dX10_wall_8 rfl ?_
    refine j_getR C dX10_wall_9 CF10 (by decide) fl_X10_37 rfl rfl h (fun t19 h => ?_)
    refine j_iload_n C dX10_wall_12 rfl ?_
    obtain ⟨p20, ep20, h⟩ := bind_some h
    have qp20 := X5_isFree_ct ep20
    refine j_cVI C dX10_wall_13 vl_X10_284 CF5 rfl qp20.1 qp20.2 (by omega) rfl rfl (Nat.le_of_ble_eq_true rfl) ?_
    refine j_goto C 27 dX10_wall_16 rfl ?_
    exact X10_wall_J27_ok C hlv h
theorem dX3_cameIn_0 : decode cX3_cameIn 0 = .ok (.iconst 0, 1) := by decide +kernel
theorem dX3_cameIn_1 : decode cX3_cameIn 1 = .ok (.istore_n 3, 1) := by decide +kernel
theorem dX3_cameIn_2 : decode cX3_cameIn 2 = .ok (.iconst 0, 1) := by decide +kernel
theorem dX3_cameIn_3 : decode cX3_cameIn 3 = .ok (.istore 4, 2) := by decide +kernel
theorem dX3_cameIn_5 : decode cX3_cameIn 5 = .ok (.iload 4, 2) := by decide +kernel
theorem dX3_cameIn_7 : decode cX3_cameIn 7 = .ok (.aload_n 1, 1) := by decide +kernel
theorem dX3_cameIn_8 : decode cX3_cameIn 8 = .ok (.getfield 65, 3) := by decide +kernel
theorem dX3_cameIn_11 : decode cX3_cameIn 11 = .ok (.if_icmp .ge 21, 3) := by decide +kernel
theorem dX3_cameIn_14 : decode cX3_cameIn 14 = .ok (.iload_n 3, 1) := by decide +kernel
theorem dX3_cameIn_15 : decode cX3_cameIn 15 = .ok (.aload_n 0, 1) := by decide +kernel
theorem dX3_cameIn_16 : decode cX3_cameIn 16 = .ok (.getfield 31, 3) := by decide +kernel
theorem dX3_cameIn_19 : decode cX3_cameIn 19 = .ok (.iload 4, 2) := by decide +kernel
theorem dX3_cameIn_21 : decode cX3_cameIn 21 = .ok (.aaload, 1) := by decide +kernel
theorem dX3_cameIn_22 : decode cX3_cameIn 22 = .ok (.iload_n 2, 1) := by decide +kernel
theorem dX3_cameIn_23 : decode cX3_cameIn 23 = .ok (.iaload, 1) := by decide +kernel
theorem dX3_cameIn_24 : decode cX3_cameIn 24 = .ok (.iadd, 1) := by decide +kernel
theorem dX3_cameIn_25 : decode cX3_cameIn 25 = .ok (.istore_n 3, 1) := by decide +kernel
theorem dX3_cameIn_26 : decode cX3_cameIn 26 = .ok (.iinc 4 1, 3) := by decide +kernel
theorem dX3_cameIn_29 : decode cX3_cameIn 29 = .ok (.goto (-24), 3) := by decide +kernel
theorem dX3_cameIn_32 : decode cX3_cameIn 32 = .ok (.iload_n 3, 1) := by decide +kernel
theorem dX3_cameIn_33 : decode cX3_cameIn 33 = .ok (.ireturn, 1) := by decide +kernel
set_option maxRecDepth 100000 in
set_option maxHeartbeats 4000000 in
theorem X3_cameIn_L5_bok {g : Gm} {w : Wd} (C : Cx g w RX3 cX3_cameIn 5 (some .int)) {lv : Nat} (hlv : 0 < lv) {N : Nat} {r5 : Nat → Nat → Int → Int → Int → Option Int} {l0 : Nat} {l1 : Nat} {l2 : Int} {l3 : Int} {l4 : Int} {m : Mem} {out : Int} (hr5 : ∀ l0 l1 l2 l3 l4, r5 l0 l1 l2 l3 l4 = some out → Jd g w 5 (rmL lv 0 0) (Qm g w (some (vI out)) m) 5 [some (vR l0), some (vR l1), some (vI l2), some (vI l3), some (vI l4)] [] 312 m 0 0) (h : X3_cameIn_L5_b N m r5 l0 l1 l2 l3 l4 = some out) : Jd g w 5 (rmL lv 0 0) (Qm g w (some (vI out)) m) 5 [some (vR l0), some (vR l1), some (vI l2), some (vI l3), some (vI l4)] [] 312 m 0 0 := by
  unfold X3_cameIn_L5_b at h
  refine j_iload C dX3_cameIn_5 rfl ?_
  refine j_aload_n C dX3_cameIn_7 rfl ?_
  refine j_getI C dX3_cameIn_8 CF5 (by decide) fl_X3_65 rfl rfl h (fun t1 h => ?_)
  refine j_icmp_ge C 32 dX3_cameIn_11 rfl h (fun c5 h => ?_) (fun c5 h => ?_)
  · refine j_iload_n C dX3_cameIn_32 rfl ?_
    exact j_ri C dX3_cameIn_33 rfl (Option.some.inj h).symm rfl
  · refine j_iload_n C dX3_cameIn_14 rfl ?_
    refine j_aload_n C dX3_cameIn_15 rfl ?_
    refine j_getR C dX3_cameIn_16 CF3 (by decide) fl_X3_31 rfl rfl h (fun t2 h => ?_)
    refine j_iload C dX3_cameIn_19 rfl ?_
    refine j_aald C dX3_cameIn_21 rfl h (fun t3 h => ?_)
    refine j_iload_n C dX3_cameIn_22 rfl ?_
    refine j_iald C dX3_cameIn_23 rfl h (fun t4 h => ?_)
    refine j_iadd C dX3_cameIn_24 ?_
    refine j_istore_n (ls' := [some (vR _), some (vR _), some (vI _), some (vI _), some (vI _)]) C dX3_cameIn_25 (by decide) rfl ?_
    refine j_iinc (ls' := [some (vR _), some (vR _), some (vI _), some (vI _), some (vI _)]) C dX3_cameIn_26 rfl (by decide) rfl ?_
    refine j_goto C 5 dX3_cameIn_29 rfl ?_
    exact hr5 _ _ _ _ _ h
set_option maxRecDepth 100000 in
set_option maxHeartbeats 4000000 in
theorem X3_cameIn_L5_ok {g : Gm} {w : Wd} (C : Cx g w RX3 cX3_cameIn 5 (some .int)) {lv : Nat} (hlv : 0 < lv) {N : Nat} {m : Mem} {out : Int} (f : Nat) : ∀ {l0 : Nat} {l1 : Nat} {l2 : Int} {l3 : Int} {l4 : Int}, X3_cameIn_L5 N m f l0 l1 l2 l3 l4 = some out → Jd g w 5 (rmL lv 0 0) (Qm g w (some (vI out)) m) 5 [some (vR l0), some (vR l1), some (vI l2), some (vI l3), some (vI l4)] [] 312 m 0 0 := by
  induction f with
  | zero => intro l0 l1 l2 l3 l4 h; exact none_ne (α := Int) h
  | succ f ih => intro l0 l1 l2 l3 l4 h; exact X3_cameIn_L5_bok C hlv (fun l0 l1 l2 l3 l4 h => ih h) h
set_option maxRecDepth 100000 in
set_option maxHeartbeats 4000000 in
theorem X3_cameIn_ct {N : Nat} {l0 : Nat} {l1 : Nat} {l2 : Int} {m : Mem} {out : Int} (h : X3_cameIn N l0 l1 l2 m = some out) : shK l0 = 3 + 10 ∧ CT yX3_cameIn cX3_cameIn 5 (some .int) 1 0 0 [vR l0, vR l1, vI l2] 312 m (some (vI out)) 312 m := by
  unfold X3_cameIn at h
  obtain ⟨hK, h⟩ := ite_some h
  have hlv : 0 < 1 := by decide
  refine ⟨hK, CT.of (by decide +kernel) rfl (Nat.le_of_ble_eq_true rfl) (ls := [some (vR l0), some (vR l1), some (vI l2), none, none]) rfl fun g w C _ => ?_⟩
  refine j_iconst C dX3_cameIn_0 rfl ?_
  refine j_istore_n (ls' := [some (vR _), some (vR _), some (vI _), some (vI _), none]) C dX3_cameIn_1 (by decide) rfl ?_
  refine j_iconst C dX3_cameIn_2 rfl ?_
  refine j_istore (ls' := [some (vR _), some (vR _), some (vI _), some (vI _), some (vI _)]) C dX3_cameIn_3 (by decide) rfl ?_
  exact X3_cameIn_L5_ok C hlv N h
theorem dX3_allCame_0 : decode cX3_allCame 0 = .ok (.iconst 0, 1) := by decide +kernel
theorem dX3_allCame_1 : decode cX3_allCame 1 = .ok (.istore_n 2, 1) := by decide +kernel
theorem dX3_allCame_2 : decode cX3_allCame 2 = .ok (.iconst 1, 1) := by decide +kernel
theorem dX3_allCame_3 : decode cX3_allCame 3 = .ok (.istore_n 3, 1) := by decide +kernel
theorem dX3_allCame_4 : decode cX3_allCame 4 = .ok (.iload_n 3, 1) := by decide +kernel
theorem dX3_allCame_5 : decode cX3_allCame 5 = .ok (.bipush 12, 2) := by decide +kernel
theorem dX3_allCame_7 : decode cX3_allCame 7 = .ok (.if_icmp .gt 18, 3) := by decide +kernel
theorem dX3_allCame_10 : decode cX3_allCame 10 = .ok (.iload_n 2, 1) := by decide +kernel
theorem dX3_allCame_11 : decode cX3_allCame 11 = .ok (.aload_n 0, 1) := by decide +kernel
theorem dX3_allCame_12 : decode cX3_allCame 12 = .ok (.aload_n 1, 1) := by decide +kernel
theorem dX3_allCame_13 : decode cX3_allCame 13 = .ok (.iload_n 3, 1) := by decide +kernel
theorem dX3_allCame_14 : decode cX3_allCame 14 = .ok (.invokevirtual 135, 3) := by decide +kernel
theorem dX3_allCame_17 : decode cX3_allCame 17 = .ok (.iadd, 1) := by decide +kernel
theorem dX3_allCame_18 : decode cX3_allCame 18 = .ok (.istore_n 2, 1) := by decide +kernel
theorem dX3_allCame_19 : decode cX3_allCame 19 = .ok (.iinc 3 1, 3) := by decide +kernel
theorem dX3_allCame_22 : decode cX3_allCame 22 = .ok (.goto (-18), 3) := by decide +kernel
theorem dX3_allCame_25 : decode cX3_allCame 25 = .ok (.iload_n 2, 1) := by decide +kernel
theorem dX3_allCame_26 : decode cX3_allCame 26 = .ok (.ireturn, 1) := by decide +kernel
set_option maxRecDepth 100000 in
set_option maxHeartbeats 4000000 in
theorem X3_allCame_L4_bok {g : Gm} {w : Wd} (C : Cx g w RX3 cX3_allCame 4 (some .int)) {lv : Nat} (hlv : 1 < lv) {N : Nat} {r4 : Nat → Nat → Int → Int → Option Int} {l0 : Nat} {l1 : Nat} {l2 : Int} {l3 : Int} {m : Mem} {out : Int} (hr4 : ∀ l0 l1 l2 l3, r4 l0 l1 l2 l3 = some out → Jd g w 4 (rmL lv 0 0) (Qm g w (some (vI out)) m) 4 [some (vR l0), some (vR l1), some (vI l2), some (vI l3)] [] 312 m 0 0) (h : X3_allCame_L4_b N m r4 l0 l1 l2 l3 = some out) : Jd g w 4 (rmL lv 0 0) (Qm g w (some (vI out)) m) 4 [some (vR l0), some (vR l1), some (vI l2), some (vI l3)] [] 312 m 0 0 := by
  unfold X3_allCame_L4_b at h
  refine j_iload_n C dX3_allCame_4 rfl ?_
  refine j_bipush C dX3_allCame_5 rfl ?_
  refine j_icmp_gt C 25 dX3_allCame_7 rfl h (fun c2 h => ?_) (fun c2 h => ?_)
  · refine j_iload_n C dX3_allCame_25 rfl ?_
    exact j_ri C dX3_allCame_26 rfl (Option.some.inj h).symm rfl
  · refine j_iload_n C dX3_allCame_10 rfl ?_
    refine j_aload_n C dX3_allCame_11 rfl ?_
    refine j_aload_n C dX3_allCame_12 rfl ?_
    refine j_iload_n C dX3_allCame_13 rfl ?_
    obtain ⟨p1, ep1, h⟩ := bind_some h
    have qp1 := X3_cameIn_ct ep1
    refine j_cVI C dX3_allCame_14 vl_X3_135 CF3 rfl qp1.1 qp1.2 (by omega) rfl rfl (Nat.le_of_ble_eq_true rfl) ?_
    refine j_iadd C dX3_allCame_17 ?_
    refine j_istore_n (ls' := [some (vR _), some (vR _), some (vI _), some (vI _)]) C dX3_allCame_18 (by decide) rfl ?_
    refine j_iinc (ls' := [some (vR _), some (vR _), some (vI _), some (vI _)]) C dX3_allCame_19 rfl (by decide) rfl ?_
    refine j_goto C 4 dX3_allCame_22 rfl ?_
    exact hr4 _ _ _ _ h
set_option maxRecDepth 100000 in
set_option maxHeartbeats 4000000 in
theorem X3_allCame_L4_ok {g : Gm} {w : Wd} (C : Cx g w RX3 cX3_allCame 4 (some .int)) {lv : Nat} (hlv : 1 < lv) {N : Nat} {m : Mem} {out : Int} (f : Nat) : ∀ {l0 : Nat} {l1 : Nat} {l2 : Int} {l3 : Int}, X3_allCame_L4 N m f l0 l1 l2 l3 = some out → Jd g w 4 (rmL lv 0 0) (Qm g w (some (vI out)) m) 4 [some (vR l0), some (vR l1), some (vI l2), some (vI l3)] [] 312 m 0 0 := by
  induction f with
  | zero => intro l0 l1 l2 l3 h; exact none_ne (α := Int) h
  | succ f ih => intro l0 l1 l2 l3 h; exact X3_allCame_L4_bok C hlv (fun l0 l1 l2 l3 h => ih h) h
set_option maxRecDepth 100000 in
set_option maxHeartbeats 4000000 in
theorem X3_allCame_ct {N : Nat} {l0 : Nat} {l1 : Nat} {m : Mem} {out : Int} (h : X3_allCame N l0 l1 m = some out) : shK l0 = 3 + 10 ∧ CT yX3_allCame cX3_allCame 4 (some .int) 2 0 0 [vR l0, vR l1] 312 m (some (vI out)) 312 m := by
  unfold X3_allCame at h
  obtain ⟨hK, h⟩ := ite_some h
  have hlv : 1 < 2 := by decide
  refine ⟨hK, CT.of (by decide +kernel) rfl (Nat.le_of_ble_eq_true rfl) (ls := [some (vR l0), some (vR l1), none, none]) rfl fun g w C _ => ?_⟩
  refine j_iconst C dX3_allCame_0 rfl ?_
  refine j_istore_n (ls' := [some (vR _), some (vR _), some (vI _), none]) C dX3_allCame_1 (by decide) rfl ?_
  refine j_iconst C dX3_allCame_2 rfl ?_
  refine j_istore_n (ls' := [some (vR _), some (vR _), some (vI _), some (vI _)]) C dX3_allCame_3 (by decide) rfl ?_
  exact X3_allCame_L4_ok C hlv N h
theorem dX3_allDried_0 : decode cX3_allDried 0 = .ok (.aload_n 0, 1) := by decide +kernel
theorem dX3_allDried_1 : decode cX3_allDried 1 = .ok (.aload_n 1, 1) := by decide +kernel
theorem dX3_allDried_2 : decode cX3_allDried 2 = .ok (.invokevirtual 139, 3) := by decide +kernel
theorem dX3_allDried_5 : decode cX3_allDried 5 = .ok (.aload_n 0, 1) := by decide +kernel
theorem dX3_allDried_6 : decode cX3_allDried 6 = .ok (.aload_n 1, 1) := by decide +kernel
theorem dX3_allDried_7 : decode cX3_allDried 7 = .ok (.invokevirtual 143, 3) := by decide +kernel
theorem dX3_allDried_10 : decode cX3_allDried 10 = .ok (.isub, 1) := by decide +kernel
theorem dX3_allDried_11 : decode cX3_allDried 11 = .ok (.ireturn, 1) := by decide +kernel
set_option maxRecDepth 100000 in
set_option maxHeartbeats 4000000 in
theorem X3_allDried_ct {N : Nat} {l0 : Nat} {l1 : Nat} {m : Mem} {out : Int} (h : X3_allDried N l0 l1 m = some out) : shK l0 = 3 + 10 ∧ CT yX3_allDried cX3_allDried 2 (some .int) 3 0 0 [vR l0, vR l1] 312 m (some (vI out)) 312 m := by
  unfold X3_allDried at h
  obtain ⟨hK, h⟩ := ite_some h
  have hlv : 2 < 3 := by decide
  refine ⟨hK, CT.of (by decide +kernel) rfl (Nat.le_of_ble_eq_true rfl) (ls := [some (vR l0), some (vR l1)]) rfl fun g w C _ => ?_⟩
  refine j_aload_n C dX3_allDried_0 rfl ?_
  refine j_aload_n C dX3_allDried_1 rfl ?_
  obtain ⟨p1, ep1, h⟩ := bind_some h
  have qp1 := X3_allCame_ct ep1
  refine j_cVI C dX3_allDried_2 vl_X3_139 CF3 rfl qp1.1 qp1.2 (by omega) rfl rfl (Nat.le_of_ble_eq_true rfl) ?_
  refine j_aload_n C dX3_allDried_5 rfl ?_
  refine j_aload_n C dX3_allDried_6 rfl ?_
  obtain ⟨p2, ep2, h⟩ := bind_some h
  have qp2 := X3_allByDawn_ct ep2
  refine j_cVI C dX3_allDried_7 vl_X3_143 CF3 rfl qp2.1 qp2.2 (by omega) rfl rfl (Nat.le_of_ble_eq_true rfl) ?_
  refine j_isub C dX3_allDried_10 ?_
  exact j_ri C dX3_allDried_11 rfl (Option.some.inj h).symm rfl
theorem dX3_fullestHour_0 : decode cX3_fullestHour 0 = .ok (.iconst 0, 1) := by decide +kernel
theorem dX3_fullestHour_1 : decode cX3_fullestHour 1 = .ok (.istore_n 2, 1) := by decide +kernel
theorem dX3_fullestHour_2 : decode cX3_fullestHour 2 = .ok (.iconst (-1), 1) := by decide +kernel
theorem dX3_fullestHour_3 : decode cX3_fullestHour 3 = .ok (.istore_n 3, 1) := by decide +kernel
theorem dX3_fullestHour_4 : decode cX3_fullestHour 4 = .ok (.iconst 1, 1) := by decide +kernel
theorem dX3_fullestHour_5 : decode cX3_fullestHour 5 = .ok (.istore 4, 2) := by decide +kernel
theorem dX3_fullestHour_7 : decode cX3_fullestHour 7 = .ok (.iload 4, 2) := by decide +kernel
theorem dX3_fullestHour_9 : decode cX3_fullestHour 9 = .ok (.bipush 12, 2) := by decide +kernel
theorem dX3_fullestHour_11 : decode cX3_fullestHour 11 = .ok (.if_icmp .gt 30, 3) := by decide +kernel
theorem dX3_fullestHour_14 : decode cX3_fullestHour 14 = .ok (.aload_n 0, 1) := by decide +kernel
theorem dX3_fullestHour_15 : decode cX3_fullestHour 15 = .ok (.aload_n 1, 1) := by decide +kernel
theorem dX3_fullestHour_16 : decode cX3_fullestHour 16 = .ok (.iload 4, 2) := by decide +kernel
theorem dX3_fullestHour_18 : decode cX3_fullestHour 18 = .ok (.invokevirtual 135, 3) := by decide +kernel
theorem dX3_fullestHour_21 : decode cX3_fullestHour 21 = .ok (.istore 5, 2) := by decide +kernel
theorem dX3_fullestHour_23 : decode cX3_fullestHour 23 = .ok (.iload 5, 2) := by decide +kernel
theorem dX3_fullestHour_25 : decode cX3_fullestHour 25 = .ok (.iload_n 2, 1) := by decide +kernel
theorem dX3_fullestHour_26 : decode cX3_fullestHour 26 = .ok (.if_icmp .le 9, 3) := by decide +kernel
theorem dX3_fullestHour_29 : decode cX3_fullestHour 29 = .ok (.iload 5, 2) := by decide +kernel
theorem dX3_fullestHour_31 : decode cX3_fullestHour 31 = .ok (.istore_n 2, 1) := by decide +kernel
theorem dX3_fullestHour_32 : decode cX3_fullestHour 32 = .ok (.iload 4, 2) := by decide +kernel
theorem dX3_fullestHour_34 : decode cX3_fullestHour 34 = .ok (.istore_n 3, 1) := by decide +kernel
theorem dX3_fullestHour_35 : decode cX3_fullestHour 35 = .ok (.iinc 4 1, 3) := by decide +kernel
theorem dX3_fullestHour_38 : decode cX3_fullestHour 38 = .ok (.goto (-31), 3) := by decide +kernel
theorem dX3_fullestHour_41 : decode cX3_fullestHour 41 = .ok (.iload_n 3, 1) := by decide +kernel
theorem dX3_fullestHour_42 : decode cX3_fullestHour 42 = .ok (.ireturn, 1) := by decide +kernel
set_option maxRecDepth 100000 in
set_option maxHeartbeats 4000000 in
theorem X3_fullestHour_J35_ok {g : Gm} {w : Wd} (C : Cx g w RX3 cX3_fullestHour 6 (some .int)) {lv : Nat} (hlv : 1 < lv) {N : Nat} {r7 : Nat → Nat → Int → Int → Int → Option Int } {l0 : Nat} {l1 : Nat} {l2 : Int} {l3 : Int} {l4 : Int} {m : Mem} {out : Int} (hr7 : ∀ l0 l1 l2 l3 l4, r7 l0 l1 l2 l3 l4 = some out → Jd g w 6 (rmL lv 0 0) (Qm g w (some (vI out)) m) 7 [some (vR l0), some (vR l1), some (vI l2), some (vI l3), some (vI l4), none] [] 312 m 0 0) (h : X3_fullestHour_J35 N r7 l0 l1 l2 l3 l4 m = some out) : Jd g w 6 (rmL lv 0 0) (Qm g w (some (vI out)) m) 35 [some (vR l0), some (vR l1), some (vI l2), some (vI l3), some (vI l4), none] [] 312 m 0 0 := by
  unfold X3_fullestHour_J35 at h
  refine j_iinc (ls' := [some (vR _), some (vR _), some (vI _), some (vI _), some (vI _), none]) C dX3_fullestHour_35 rfl (by decide) rfl ?_
  refine j_goto C 7 dX3_fullestHour_38 rfl ?_
  exact hr7 _ _ _ _ _ h
set_option maxRecDepth 100000 in
set_option maxHeartbeats 4000000 in
theorem X3_fullestHour_L7_bok {g : Gm} {w : Wd} (C : Cx g w RX3 cX3_fullestHour 6 (some .int)) {lv : Nat} (hlv : 1 < lv) {N : Nat} {r7 : Nat → Nat → Int → Int → Int → Option Int} {l0 : Nat} {l1 : Nat} {l2 : Int} {l3 : Int} {l4 : Int} {m : Mem} {out : Int} (hr7 : ∀ l0 l1 l2 l3 l4, r7 l0 l1 l2 l3 l4 = some out → Jd g w 6 (rmL lv 0 0) (Qm g w (some (vI out)) m) 7 [some (vR l0), some (vR l1), some (vI l2), some (vI l3), some (vI l4), none] [] 312 m 0 0) (h : X3_fullestHour_L7_b N m r7 l0 l1 l2 l3 l4 = some out) : Jd g w 6 (rmL lv 0 0) (Qm g w (some (vI out)) m) 7 [some (vR l0), some (vR l1), some (vI l2), some (vI l3), some (vI l4), none] [] 312 m 0 0 := by
  unfold X3_fullestHour_L7_b at h
  refine j_iload C dX3_fullestHour_7 rfl ?_
  refine j_bipush C dX3_fullestHour_9 rfl ?_
  refine j_icmp_gt C 41 dX3_fullestHour_11 rfl h (fun c3 h => ?_) (fun c3 h => ?_)
  · refine j_iload_n C dX3_fullestHour_41 rfl ?_
    exact j_ri C dX3_fullestHour_42 rfl (Option.some.inj h).symm rfl
  · refine j_aload_n C dX3_fullestHour_14 rfl ?_
    refine j_aload_n C dX3_fullestHour_15 rfl ?_
    refine j_iload C dX3_fullestHour_16 rfl ?_
    obtain ⟨p1, ep1, h⟩ := bind_some h
    have qp1 := X3_cameIn_ct ep1
    refine j_cVI C dX3_fullestHour_18 vl_X3_135 CF3 rfl qp1.1 qp1.2 (by omega) rfl rfl (Nat.le_of_ble_eq_true rfl) ?_
    refine j_istore (ls' := [some (vR _), some (vR _), some (vI _), some (vI _), some (vI _), some (vI _)]) C dX3_fullestHour_21 (by decide) rfl ?_
    refine j_iload C dX3_fullestHour_23 rfl ?_
    refine j_iload_n C dX3_fullestHour_25 rfl ?_
    refine j_icmp_le C 35 dX3_fullestHour_26 rfl h (fun c2 h => ?_) (fun c2 h => ?_)
    · refine j_mask [true, true, true, true, true, false] (ls' := [some (vR _), some (vR _), some (vI _), some (vI _), some (vI _), none]) rfl ?_
      exact X3_fullestHour_J35_ok C hlv hr7 h
    · refine j_iload C dX3_fullestHour_29 rfl ?_
      refine j_istore_n (ls' := [some (vR _), some (vR _), some (vI _), some (vI _), some (vI _), some (vI _)]) C dX3_fullestHour_31 (by decide) rfl ?_
      refine j_iload C dX3_fullestHour_32 rfl ?_
      refine j_istore_n (ls' := [some (vR _), some (vR _), some (vI _), some (vI _), some (vI _), some (vI _)]) C dX3_fullestHour_34 (by decide) rfl ?_
      refine j_mask [true, true, true, true, true, false] (ls' := [some (vR _), some (vR _), some (vI _), some (vI _), some (vI _), none]) rfl ?_
      exact X3_fullestHour_J35_ok C hlv hr7 h
set_option maxRecDepth 100000 in
set_option maxHeartbeats 4000000 in
theorem X3_fullestHour_L7_ok {g : Gm} {w : Wd} (C : Cx g w RX3 cX3_fullestHour 6 (some .int)) {lv : Nat} (hlv : 1 < lv) {N : Nat} {m : Mem} {out : Int} (f : Nat) : ∀ {l0 : Nat} {l1 : Nat} {l2 : Int} {l3 : Int} {l4 : Int}, X3_fullestHour_L7 N m f l0 l1 l2 l3 l4 = some out → Jd g w 6 (rmL lv 0 0) (Qm g w (some (vI out)) m) 7 [some (vR l0), some (vR l1), some (vI l2), some (vI l3), some (vI l4), none] [] 312 m 0 0 := by
  induction f with
  | zero => intro l0 l1 l2 l3 l4 h; exact none_ne (α := Int) h
  | succ f ih => intro l0 l1 l2 l3 l4 h; exact X3_fullestHour_L7_bok C hlv (fun l0 l1 l2 l3 l4 h => ih h) h
set_option maxRecDepth 100000 in
set_option maxHeartbeats 4000000 in
theorem X3_fullestHour_ct {N : Nat} {l0 : Nat} {l1 : Nat} {m : Mem} {out : Int} (h : X3_fullestHour N l0 l1 m = some out) : shK l0 = 3 + 10 ∧ CT yX3_fullestHour cX3_fullestHour 6 (some .int) 2 0 0 [vR l0, vR l1] 312 m (some (vI out)) 312 m := by
  unfold X3_fullestHour at h
  obtain ⟨hK, h⟩ := ite_some h
  have hlv : 1 < 2 := by decide
  refine ⟨hK, CT.of (by decide +kernel) rfl (Nat.le_of_ble_eq_true rfl) (ls := [some (vR l0), some (vR l1), none, none, none, none]) rfl fun g w C _ => ?_⟩
  refine j_iconst C dX3_fullestHour_0 rfl ?_
  refine j_istore_n (ls' := [some (vR _), some (vR _), some (vI _), none, none, none]) C dX3_fullestHour_1 (by decide) rfl ?_
  refine j_iconst C dX3_fullestHour_2 rfl ?_
  refine j_istore_n (ls' := [some (vR _), some (vR _), some (vI _), some (vI _), none, none]) C dX3_fullestHour_3 (by decide) rfl ?_
  refine j_iconst C dX3_fullestHour_4 rfl ?_
  refine j_istore (ls' := [some (vR _), some (vR _), some (vI _), some (vI _), some (vI _), none]) C dX3_fullestHour_5 (by decide) rfl ?_
  exact X3_fullestHour_L7_ok C hlv N h
theorem dX3_fullestThing_0 : decode cX3_fullestThing 0 = .ok (.iconst 0, 1) := by decide +kernel
theorem dX3_fullestThing_1 : decode cX3_fullestThing 1 = .ok (.istore_n 2, 1) := by decide +kernel
theorem dX3_fullestThing_2 : decode cX3_fullestThing 2 = .ok (.iconst (-1), 1) := by decide +kernel
theorem dX3_fullestThing_3 : decode cX3_fullestThing 3 = .ok (.istore_n 3, 1) := by decide +kernel
theorem dX3_fullestThing_4 : decode cX3_fullestThing 4 = .ok (.iconst 0, 1) := by decide +kernel
theorem dX3_fullestThing_5 : decode cX3_fullestThing 5 = .ok (.istore 4, 2) := by decide +kernel
theorem dX3_fullestThing_7 : decode cX3_fullestThing 7 = .ok (.iload 4, 2) := by decide +kernel
theorem dX3_fullestThing_9 : decode cX3_fullestThing 9 = .ok (.aload_n 1, 1) := by decide +kernel
theorem dX3_fullestThing_10 : decode cX3_fullestThing 10 = .ok (.getfield 65, 3) := by decide +kernel
theorem dX3_fullestThing_13 : decode cX3_fullestThing 13 = .ok (.if_icmp .ge 29, 3) := by decide +kernel
theorem dX3_fullestThing_16 : decode cX3_fullestThing 16 = .ok (.aload_n 0, 1) := by decide +kernel
theorem dX3_fullestThing_17 : decode cX3_fullestThing 17 = .ok (.iload 4, 2) := by decide +kernel
theorem dX3_fullestThing_19 : decode cX3_fullestThing 19 = .ok (.invokevirtual 146, 3) := by decide +kernel
theorem dX3_fullestThing_22 : decode cX3_fullestThing 22 = .ok (.iload_n 2, 1) := by decide +kernel
theorem dX3_fullestThing_23 : decode cX3_fullestThing 23 = .ok (.if_icmp .le 13, 3) := by decide +kernel
theorem dX3_fullestThing_26 : decode cX3_fullestThing 26 = .ok (.aload_n 0, 1) := by decide +kernel
theorem dX3_fullestThing_27 : decode cX3_fullestThing 27 = .ok (.iload 4, 2) := by decide +kernel
theorem dX3_fullestThing_29 : decode cX3_fullestThing 29 = .ok (.invokevirtual 146, 3) := by decide +kernel
theorem dX3_fullestThing_32 : decode cX3_fullestThing 32 = .ok (.istore_n 2, 1) := by decide +kernel
theorem dX3_fullestThing_33 : decode cX3_fullestThing 33 = .ok (.iload 4, 2) := by decide +kernel
theorem dX3_fullestThing_35 : decode cX3_fullestThing 35 = .ok (.istore_n 3, 1) := by decide +kernel
theorem dX3_fullestThing_36 : decode cX3_fullestThing 36 = .ok (.iinc 4 1, 3) := by decide +kernel
theorem dX3_fullestThing_39 : decode cX3_fullestThing 39 = .ok (.goto (-32), 3) := by decide +kernel
theorem dX3_fullestThing_42 : decode cX3_fullestThing 42 = .ok (.iload_n 3, 1) := by decide +kernel
theorem dX3_fullestThing_43 : decode cX3_fullestThing 43 = .ok (.ireturn, 1) := by decide +kernel
set_option maxRecDepth 100000 in
set_option maxHeartbeats 4000000 in
theorem X3_fullestThing_J36_ok {g : Gm} {w : Wd} (C : Cx g w RX3 cX3_fullestThing 5 (some .int)) {lv : Nat} (hlv : 1 < lv) {N : Nat} {r7 : Nat → Nat → Int → Int → Int → Option Int } {l0 : Nat} {l1 : Nat} {l2 : Int} {l3 : Int} {l4 : Int} {m : Mem} {out : Int} (hr7 : ∀ l0 l1 l2 l3 l4, r7 l0 l1 l2 l3 l4 = some out → Jd g w 5 (rmL lv 0 0) (Qm g w (some (vI out)) m) 7 [some (vR l0), some (vR l1), some (vI l2), some (vI l3), some (vI l4)] [] 312 m 0 0) (h : X3_fullestThing_J36 N r7 l0 l1 l2 l3 l4 m = some out) : Jd g w 5 (rmL lv 0 0) (Qm g w (some (vI out)) m) 36 [some (vR l0), some (vR l1), some (vI l2), some (vI l3), some (vI l4)] [] 312 m 0 0 := by
  unfold X3_fullestThing_J36 at h
  refine j_iinc (ls' := [some (vR _), some (vR _), some (vI _), some (vI _), some (vI _)]) C dX3_fullestThing_36 rfl (by decide) rfl ?_
  refine j_goto C 7 dX3_fullestThing_39 rfl ?_
  exact hr7 _ _ _ _ _ h
set_option maxRecDepth 100000 in
set_option maxHeartbeats 4000000 in
theorem X3_fullestThing_L7_bok {g : Gm} {w : Wd} (C : Cx g w RX3 cX3_fullestThing 5 (some .int)) {lv : Nat} (hlv : 1 < lv) {N : Nat} {r7 : Nat → Nat → Int → Int → Int → Option Int} {l0 : Nat} {l1 : Nat} {l2 : Int} {l3 : Int} {l4 : Int} {m : Mem} {out : Int} (hr7 : ∀ l0 l1 l2 l3 l4, r7 l0 l1 l2 l3 l4 = some out → Jd g w 5 (rmL lv 0 0) (Qm g w (some (vI out)) m) 7 [some (vR l0), some (vR l1), some (vI l2), some (vI l3), some (vI l4)] [] 312 m 0 0) (h : X3_fullestThing_L7_b N m r7 l0 l1 l2 l3 l4 = some out) : Jd g w 5 (rmL lv 0 0) (Qm g w (some (vI out)) m) 7 [some (vR l0), some (vR l1), some (vI l2), some (vI l3), some (vI l4)] [] 312 m 0 0 := by
  unfold X3_fullestThing_L7_b at h
  refine j_iload C dX3_fullestThing_7 rfl ?_
  refine j_aload_n C dX3_fullestThing_9 rfl ?_
  refine j_getI C dX3_fullestThing_10 CF5 (by decide) fl_X3_65 rfl rfl h (fun t1 h => ?_)
  refine j_icmp_ge C 42 dX3_fullestThing_13 rfl h (fun c5 h => ?_) (fun c5 h => ?_)
  · refine j_iload_n C dX3_fullestThing_42 rfl ?_
    exact j_ri C dX3_fullestThing_43 rfl (Option.some.inj h).symm rfl
  · refine j_aload_n C dX3_fullestThing_16 rfl ?_
    refine j_iload C dX3_fullestThing_17 rfl ?_
    obtain ⟨p2, ep2, h⟩ := bind_some h
    have qp2 := X3_dawn_ct ep2
    refine j_cVI C dX3_fullestThing_19 vl_X3_146 CF3 rfl qp2.1 qp2.2 (by omega) rfl rfl (Nat.le_of_ble_eq_true rfl) ?_
    refine j_iload_n C dX3_fullestThing_22 rfl ?_
    refine j_icmp_le C 36 dX3_fullestThing_23 rfl h (fun c4 h => ?_) (fun c4 h => ?_)
    · exact X3_fullestThing_J36_ok C hlv hr7 h
    · refine j_aload_n C dX3_fullestThing_26 rfl ?_
      refine j_iload C dX3_fullestThing_27 rfl ?_
      obtain ⟨p3, ep3, h⟩ := bind_some h
      have qp3 := X3_dawn_ct ep3
      refine j_cVI C dX3_fullestThing_29 vl_X3_146 CF3 rfl qp3.1 qp3.2 (by omega) rfl rfl (Nat.le_of_ble_eq_true rfl) ?_
      refine j_istore_n (ls' := [some (vR _), some (vR _), some (vI _), some (vI _), some (vI _)]) C dX3_fullestThing_32 (by decide) rfl ?_
      refine j_iload C dX3_fullestThing_33 rfl ?_
      refine j_istore_n (ls' := [some (vR _), some (vR _), some (vI _), some (vI _), some (vI _)]) C dX3_fullestThing_35 (by decide) rfl ?_
      exact X3_fullestThing_J36_ok C hlv hr7 h
set_option maxRecDepth 100000 in
set_option maxHeartbeats 4000000 in
theorem X3_fullestThing_L7_ok {g : Gm} {w : Wd} (C : Cx g w RX3 cX3_fullestThing 5 (some .int)) {lv : Nat} (hlv : 1 < lv) {N : Nat} {m : Mem} {out : Int} (f : Nat) : ∀ {l0 : Nat} {l1 : Nat} {l2 : Int} {l3 : Int} {l4 : Int}, X3_fullestThing_L7 N m f l0 l1 l2 l3 l4 = some out → Jd g w 5 (rmL lv 0 0) (Qm g w (some (vI out)) m) 7 [some (vR l0), some (vR l1), some (vI l2), some (vI l3), some (vI l4)] [] 312 m 0 0 := by
  induction f with
  | zero => intro l0 l1 l2 l3 l4 h; exact none_ne (α := Int) h
  | succ f ih => intro l0 l1 l2 l3 l4 h; exact X3_fullestThing_L7_bok C hlv (fun l0 l1 l2 l3 l4 h => ih h) h
set_option maxRecDepth 100000 in
set_option maxHeartbeats 4000000 in
theorem X3_fullestThing_ct {N : Nat} {l0 : Nat} {l1 : Nat} {m : Mem} {out : Int} (h : X3_fullestThing N l0 l1 m = some out) : shK l0 = 3 + 10 ∧ CT yX3_fullestThing cX3_fullestThing 5 (some .int) 2 0 0 [vR l0, vR l1] 312 m (some (vI out)) 312 m := by
  unfold X3_fullestThing at h
  obtain ⟨hK, h⟩ := ite_some h
  have hlv : 1 < 2 := by decide
  refine ⟨hK, CT.of (by decide +kernel) rfl (Nat.le_of_ble_eq_true rfl) (ls := [some (vR l0), some (vR l1), none, none, none]) rfl fun g w C _ => ?_⟩
  refine j_iconst C dX3_fullestThing_0 rfl ?_
  refine j_istore_n (ls' := [some (vR _), some (vR _), some (vI _), none, none]) C dX3_fullestThing_1 (by decide) rfl ?_
  refine j_iconst C dX3_fullestThing_2 rfl ?_
  refine j_istore_n (ls' := [some (vR _), some (vR _), some (vI _), some (vI _), none]) C dX3_fullestThing_3 (by decide) rfl ?_
  refine j_iconst C dX3_fullestThing_4 rfl ?_
  refine j_istore (ls' := [some (vR _), some (vR _), some (vI _), some (vI _), some (vI _)]) C dX3_fullestThing_5 (by decide) rfl ?_
  exact X3_fullestThing_L7_ok C hlv N h
theorem dX10_whole_0 : decode cX10_whole 0 = .ok (.aload_n 0, 1) := by decide +kernel
theorem dX10_whole_1 : decode cX10_whole 1 = .ok (.invokevirtual 264, 3) := by decide +kernel
theorem dX10_whole_4 : decode cX10_whole 4 = .ok (.ifCond .ne 5, 3) := by decide +kernel
theorem dX10_whole_7 : decode cX10_whole 7 = .ok (.iconst (-1), 1) := by decide +kernel
theorem dX10_whole_8 : decode cX10_whole 8 = .ok (.ireturn, 1) := by decide +kernel
theorem dX10_whole_9 : decode cX10_whole 9 = .ok (.iload_n 1, 1) := by decide +kernel
theorem dX10_whole_10 : decode cX10_whole 10 = .ok (.tableswitch 94 0 4 #[34, 46, 58, 70, 82], 34) := by decide +kernel
theorem dX10_whole_44 : decode cX10_whole 44 = .ok (.aload_n 0, 1) := by decide +kernel
theorem dX10_whole_45 : decode cX10_whole 45 = .ok (.invokevirtual 226, 3) := by decide +kernel
theorem dX10_whole_48 : decode cX10_whole 48 = .ok (.aload_n 0, 1) := by decide +kernel
theorem dX10_whole_49 : decode cX10_whole 49 = .ok (.getfield 27, 3) := by decide +kernel
theorem dX10_whole_52 : decode cX10_whole 52 = .ok (.invokevirtual 268, 3) := by decide +kernel
theorem dX10_whole_55 : decode cX10_whole 55 = .ok (.ireturn, 1) := by decide +kernel
theorem dX10_whole_56 : decode cX10_whole 56 = .ok (.aload_n 0, 1) := by decide +kernel
theorem dX10_whole_57 : decode cX10_whole 57 = .ok (.invokevirtual 226, 3) := by decide +kernel
theorem dX10_whole_60 : decode cX10_whole 60 = .ok (.aload_n 0, 1) := by decide +kernel
theorem dX10_whole_61 : decode cX10_whole 61 = .ok (.getfield 27, 3) := by decide +kernel
theorem dX10_whole_64 : decode cX10_whole 64 = .ok (.invokevirtual 272, 3) := by decide +kernel
theorem dX10_whole_67 : decode cX10_whole 67 = .ok (.ireturn, 1) := by decide +kernel
theorem dX10_whole_68 : decode cX10_whole 68 = .ok (.aload_n 0, 1) := by decide +kernel
theorem dX10_whole_69 : decode cX10_whole 69 = .ok (.invokevirtual 226, 3) := by decide +kernel
theorem dX10_whole_72 : decode cX10_whole 72 = .ok (.aload_n 0, 1) := by decide +kernel
theorem dX10_whole_73 : decode cX10_whole 73 = .ok (.getfield 27, 3) := by decide +kernel
theorem dX10_whole_76 : decode cX10_whole 76 = .ok (.invokevirtual 275, 3) := by decide +kernel
theorem dX10_whole_79 : decode cX10_whole 79 = .ok (.ireturn, 1) := by decide +kernel
theorem dX10_whole_80 : decode cX10_whole 80 = .ok (.aload_n 0, 1) := by decide +kernel
theorem dX10_whole_81 : decode cX10_whole 81 = .ok (.invokevirtual 226, 3) := by decide +kernel
theorem dX10_whole_84 : decode cX10_whole 84 = .ok (.aload_n 0, 1) := by decide +kernel
theorem dX10_whole_85 : decode cX10_whole 85 = .ok (.getfield 27, 3) := by decide +kernel
theorem dX10_whole_88 : decode cX10_whole 88 = .ok (.invokevirtual 278, 3) := by decide +kernel
theorem dX10_whole_91 : decode cX10_whole 91 = .ok (.ireturn, 1) := by decide +kernel
theorem dX10_whole_92 : decode cX10_whole 92 = .ok (.aload_n 0, 1) := by decide +kernel
theorem dX10_whole_93 : decode cX10_whole 93 = .ok (.invokevirtual 226, 3) := by decide +kernel
theorem dX10_whole_96 : decode cX10_whole 96 = .ok (.aload_n 0, 1) := by decide +kernel
theorem dX10_whole_97 : decode cX10_whole 97 = .ok (.getfield 27, 3) := by decide +kernel
theorem dX10_whole_100 : decode cX10_whole 100 = .ok (.invokevirtual 281, 3) := by decide +kernel
theorem dX10_whole_103 : decode cX10_whole 103 = .ok (.ireturn, 1) := by decide +kernel
theorem dX10_whole_104 : decode cX10_whole 104 = .ok (.iconst (-1), 1) := by decide +kernel
theorem dX10_whole_105 : decode cX10_whole 105 = .ok (.ireturn, 1) := by decide +kernel
set_option maxRecDepth 100000 in
set_option maxHeartbeats 4000000 in
theorem X10_whole_ct {N : Nat} {l0 : Nat} {l1 : Int} {m : Mem} {out : (Int × Mem)} (h : X10_whole N l0 l1 m = some out) : shK l0 = 10 + 10 ∧ CT yX10_whole cX10_whole 2 (some .int) 7 0 0 [vR l0, vI l1] 312 m (some (vI out.1)) 312 out.2 := by
  unfold X10_whole at h
  obtain ⟨hK, h⟩ := ite_some h
  have hlv : 6 < 7 := by decide
  refine ⟨hK, CT.of (by decide +kernel) rfl (Nat.le_of_ble_eq_true rfl) (ls := [some (vR l0), some (vI l1)]) rfl fun g w C _ => ?_⟩
  refine j_aload_n C dX10_whole_0 rfl ?_
  obtain ⟨p1, ep1, h⟩ := bind_some h
  have qp1 := X10_hasIsland_ct ep1
  refine j_cVI C dX10_whole_1 vl_X10_264 CF10 rfl qp1.1 qp1.2 (by omega) rfl rfl (Nat.le_of_ble_eq_true rfl) ?_
  refine j_if_ne C 9 dX10_whole_4 rfl h (fun c22 h => ?_) (fun c22 h => ?_)
  · refine j_iload_n C dX10_whole_9 rfl ?_
    rcases ite_cases h with ⟨c5, h⟩ | ⟨c5, h⟩
    · refine j_tsIn C 44 (0) dX10_whole_10 c5 rfl rfl rfl ?_
      refine j_aload_n C dX10_whole_44 rfl ?_
      obtain ⟨p2, ep2, h⟩ := bind_some h
      have qp2 := X10_asTold_ct ep2
      refine j_cVR C dX10_whole_45 vl_X10_226 CF10 rfl qp2.1 qp2.2 (by omega) rfl rfl (Nat.le_of_ble_eq_true rfl) ?_
      refine j_aload_n C dX10_whole_48 rfl ?_
      refine j_getR C dX10_whole_49 CF10 (by decide) fl_X10_27 rfl rfl h (fun t3 h => ?_)
      obtain ⟨p4, ep4, h⟩ := bind_some h
      have qp4 := X3_allCame_ct ep4
      refine j_cVI C dX10_whole_52 vl_X10_268 CF3 rfl qp4.1 qp4.2 (by omega) rfl rfl (Nat.le_of_ble_eq_true rfl) ?_
      have e := Option.some.inj h
      subst e
      exact j_ri C dX10_whole_55 rfl rfl rfl
    rcases ite_cases h with ⟨c9, h⟩ | ⟨c9, h⟩
    · refine j_tsIn C 56 (1) dX10_whole_10 c9 rfl rfl rfl ?_
      refine j_aload_n C dX10_whole_56 rfl ?_
      obtain ⟨p6, ep6, h⟩ := bind_some h
      have qp6 := X10_asTold_ct ep6
      refine j_cVR C dX10_whole_57 vl_X10_226 CF10 rfl qp6.1 qp6.2 (by omega) rfl rfl (Nat.le_of_ble_eq_true rfl) ?_
      refine j_aload_n C dX10_whole_60 rfl ?_
      refine j_getR C dX10_whole_61 CF10 (by decide) fl_X10_27 rfl rfl h (fun t7 h => ?_)
      obtain ⟨p8, ep8, h⟩ := bind_some h
      have qp8 := X3_allDried_ct ep8
      refine j_cVI C dX10_whole_64 vl_X10_272 CF3 rfl qp8.1 qp8.2 (by omega) rfl rfl (Nat.le_of_ble_eq_true rfl) ?_
      have e := Option.some.inj h
      subst e
      exact j_ri C dX10_whole_67 rfl rfl rfl
    rcases ite_cases h with ⟨c13, h⟩ | ⟨c13, h⟩
    · refine j_tsIn C 68 (2) dX10_whole_10 c13 rfl rfl rfl ?_
      refine j_aload_n C dX10_whole_68 rfl ?_
      obtain ⟨p10, ep10, h⟩ := bind_some h
      have qp10 := X10_asTold_ct ep10
      refine j_cVR C dX10_whole_69 vl_X10_226 CF10 rfl qp10.1 qp10.2 (by omega) rfl rfl (Nat.le_of_ble_eq_true rfl) ?_
      refine j_aload_n C dX10_whole_72 rfl ?_
      refine j_getR C dX10_whole_73 CF10 (by decide) fl_X10_27 rfl rfl h (fun t11 h => ?_)
      obtain ⟨p12, ep12, h⟩ := bind_some h
      have qp12 := X3_allByDawn_ct ep12
      refine j_cVI C dX10_whole_76 vl_X10_275 CF3 rfl qp12.1 qp12.2 (by omega) rfl rfl (Nat.le_of_ble_eq_true rfl) ?_
      have e := Option.some.inj h
      subst e
      exact j_ri C dX10_whole_79 rfl rfl rfl
    rcases ite_cases h with ⟨c17, h⟩ | ⟨c17, h⟩
    · refine j_tsIn C 80 (3) dX10_whole_10 c17 rfl rfl rfl ?_
      refine j_aload_n C dX10_whole_80 rfl ?_
      obtain ⟨p14, ep14, h⟩ := bind_some h
      have qp14 := X10_asTold_ct ep14
      refine j_cVR C dX10_whole_81 vl_X10_226 CF10 rfl qp14.1 qp14.2 (by omega) rfl rfl (Nat.le_of_ble_eq_true rfl) ?_
      refine j_aload_n C dX10_whole_84 rfl ?_
      refine j_getR C dX10_whole_85 CF10 (by decide) fl_X10_27 rfl rfl h (fun t15 h => ?_)
      obtain ⟨p16, ep16, h⟩ := bind_some h
      have qp16 := X3_fullestHour_ct ep16
      refine j_cVI C dX10_whole_88 vl_X10_278 CF3 rfl qp16.1 qp16.2 (by omega) rfl rfl (Nat.le_of_ble_eq_true rfl) ?_
      have e := Option.some.inj h
      subst e
      exact j_ri C dX10_whole_91 rfl rfl rfl
    rcases ite_cases h with ⟨c21, h⟩ | ⟨c21, h⟩
    · refine j_tsIn C 92 (4) dX10_whole_10 c21 rfl rfl rfl ?_
      refine j_aload_n C dX10_whole_92 rfl ?_
      obtain ⟨p18, ep18, h⟩ := bind_some h
      have qp18 := X10_asTold_ct ep18
      refine j_cVR C dX10_whole_93 vl_X10_226 CF10 rfl qp18.1 qp18.2 (by omega) rfl rfl (Nat.le_of_ble_eq_true rfl) ?_
      refine j_aload_n C dX10_whole_96 rfl ?_
      refine j_getR C dX10_whole_97 CF10 (by decide) fl_X10_27 rfl rfl h (fun t19 h => ?_)
      obtain ⟨p20, ep20, h⟩ := bind_some h
      have qp20 := X3_fullestThing_ct ep20
      refine j_cVI C dX10_whole_100 vl_X10_281 CF3 rfl qp20.1 qp20.2 (by omega) rfl rfl (Nat.le_of_ble_eq_true rfl) ?_
      have e := Option.some.inj h
      subst e
      exact j_ri C dX10_whole_103 rfl rfl rfl
    refine j_tsOut C 104 dX10_whole_10 (by omega) rfl ?_
    refine j_iconst C dX10_whole_104 rfl ?_
    have e := Option.some.inj h
    subst e
    exact j_ri C dX10_whole_105 rfl rfl rfl
  · refine j_iconst C dX10_whole_7 rfl ?_
    have e := Option.some.inj h
    subst e
    exact j_ri C dX10_whole_8 rfl rfl rfl
theorem dX10_wrung_0 : decode cX10_wrung 0 = .ok (.aload_n 0, 1) := by decide +kernel
theorem dX10_wrung_1 : decode cX10_wrung 1 = .ok (.getfield 13, 3) := by decide +kernel
theorem dX10_wrung_4 : decode cX10_wrung 4 = .ok (.istore_n 1, 1) := by decide +kernel
theorem dX10_wrung_5 : decode cX10_wrung 5 = .ok (.aload_n 0, 1) := by decide +kernel
theorem dX10_wrung_6 : decode cX10_wrung 6 = .ok (.iconst 0, 1) := by decide +kernel
theorem dX10_wrung_7 : decode cX10_wrung 7 = .ok (.putfield 13, 3) := by decide +kernel
theorem dX10_wrung_10 : decode cX10_wrung 10 = .ok (.iload_n 1, 1) := by decide +kernel
theorem dX10_wrung_11 : decode cX10_wrung 11 = .ok (.aload_n 0, 1) := by decide +kernel
theorem dX10_wrung_12 : decode cX10_wrung 12 = .ok (.getfield 27, 3) := by decide +kernel
theorem dX10_wrung_15 : decode cX10_wrung 15 = .ok (.getfield 155, 3) := by decide +kernel
theorem dX10_wrung_18 : decode cX10_wrung 18 = .ok (.if_icmp .ne 18, 3) := by decide +kernel
theorem dX10_wrung_21 : decode cX10_wrung 21 = .ok (.aload_n 0, 1) := by decide +kernel
theorem dX10_wrung_22 : decode cX10_wrung 22 = .ok (.iload_n 1, 1) := by decide +kernel
theorem dX10_wrung_23 : decode cX10_wrung 23 = .ok (.aload_n 0, 1) := by decide +kernel
theorem dX10_wrung_24 : decode cX10_wrung 24 = .ok (.getfield 27, 3) := by decide +kernel
theorem dX10_wrung_27 : decode cX10_wrung 27 = .ok (.getfield 155, 3) := by decide +kernel
theorem dX10_wrung_30 : decode cX10_wrung 30 = .ok (.invokevirtual 339, 3) := by decide +kernel
theorem dX10_wrung_33 : decode cX10_wrung 33 = .ok (.ifCond .ne 9, 3) := by decide +kernel
theorem dX10_wrung_36 : decode cX10_wrung 36 = .ok (.aload_n 0, 1) := by decide +kernel
theorem dX10_wrung_37 : decode cX10_wrung 37 = .ok (.iconst 5, 1) := by decide +kernel
theorem dX10_wrung_38 : decode cX10_wrung 38 = .ok (.invokevirtual 101, 3) := by decide +kernel
theorem dX10_wrung_41 : decode cX10_wrung 41 = .ok (.ireturn, 1) := by decide +kernel
theorem dX10_wrung_42 : decode cX10_wrung 42 = .ok (.aload_n 0, 1) := by decide +kernel
theorem dX10_wrung_43 : decode cX10_wrung 43 = .ok (.getfield 74, 3) := by decide +kernel
theorem dX10_wrung_46 : decode cX10_wrung 46 = .ok (.aload_n 0, 1) := by decide +kernel
theorem dX10_wrung_47 : decode cX10_wrung 47 = .ok (.getfield 27, 3) := by decide +kernel
theorem dX10_wrung_50 : decode cX10_wrung 50 = .ok (.aload_n 0, 1) := by decide +kernel
theorem dX10_wrung_51 : decode cX10_wrung 51 = .ok (.getfield 37, 3) := by decide +kernel
theorem dX10_wrung_54 : decode cX10_wrung 54 = .ok (.aload_n 0, 1) := by decide +kernel
theorem dX10_wrung_55 : decode cX10_wrung 55 = .ok (.invokevirtual 226, 3) := by decide +kernel
theorem dX10_wrung_58 : decode cX10_wrung 58 = .ok (.invokevirtual 326, 3) := by decide +kernel
theorem dX10_wrung_61 : decode cX10_wrung 61 = .ok (.iconst 0, 1) := by decide +kernel
theorem dX10_wrung_62 : decode cX10_wrung 62 = .ok (.istore_n 2, 1) := by decide +kernel
theorem dX10_wrung_63 : decode cX10_wrung 63 = .ok (.iconst 0, 1) := by decide +kernel
theorem dX10_wrung_64 : decode cX10_wrung 64 = .ok (.istore_n 3, 1) := by decide +kernel
theorem dX10_wrung_65 : decode cX10_wrung 65 = .ok (.iload_n 3, 1) := by decide +kernel
theorem dX10_wrung_66 : decode cX10_wrung 66 = .ok (.iload_n 1, 1) := by decide +kernel
theorem dX10_wrung_67 : decode cX10_wrung 67 = .ok (.if_icmp .ge 26, 3) := by decide +kernel
theorem dX10_wrung_70 : decode cX10_wrung 70 = .ok (.iload_n 2, 1) := by decide +kernel
theorem dX10_wrung_71 : decode cX10_wrung 71 = .ok (.aload_n 0, 1) := by decide +kernel
theorem dX10_wrung_72 : decode cX10_wrung 72 = .ok (.getfield 74, 3) := by decide +kernel
theorem dX10_wrung_75 : decode cX10_wrung 75 = .ok (.aload_n 0, 1) := by decide +kernel
theorem dX10_wrung_76 : decode cX10_wrung 76 = .ok (.getfield 9, 3) := by decide +kernel
theorem dX10_wrung_79 : decode cX10_wrung 79 = .ok (.iload_n 3, 1) := by decide +kernel
theorem dX10_wrung_80 : decode cX10_wrung 80 = .ok (.iaload, 1) := by decide +kernel
theorem dX10_wrung_81 : decode cX10_wrung 81 = .ok (.iload_n 3, 1) := by decide +kernel
theorem dX10_wrung_82 : decode cX10_wrung 82 = .ok (.invokevirtual 343, 3) := by decide +kernel
theorem dX10_wrung_85 : decode cX10_wrung 85 = .ok (.iadd, 1) := by decide +kernel
theorem dX10_wrung_86 : decode cX10_wrung 86 = .ok (.istore_n 2, 1) := by decide +kernel
theorem dX10_wrung_87 : decode cX10_wrung 87 = .ok (.iinc 3 1, 3) := by decide +kernel
theorem dX10_wrung_90 : decode cX10_wrung 90 = .ok (.goto (-25), 3) := by decide +kernel
theorem dX10_wrung_93 : decode cX10_wrung 93 = .ok (.iload_n 2, 1) := by decide +kernel
theorem dX10_wrung_94 : decode cX10_wrung 94 = .ok (.ireturn, 1) := by decide +kernel
set_option maxRecDepth 100000 in
set_option maxHeartbeats 4000000 in
theorem X10_wrung_J36_ok {g : Gm} {w : Wd} (C : Cx g w RX10 cX10_wrung 4 (some .int)) {lv : Nat} (hlv : 6 < lv) {N : Nat} {l0 : Nat} {m : Mem} {out : (Int × Mem)} (h : X10_wrung_J36 N l0 m = some out) : Jd g w 4 (rmL lv 0 0) (Qm g w (some (vI out.1)) out.2) 36 [some (vR l0), none, none, none] [] 312 m 0 0 := by
  unfold X10_wrung_J36 at h
  refine j_aload_n C dX10_wrung_36 rfl ?_
  refine j_iconst C dX10_wrung_37 rfl ?_
  obtain ⟨p5, ep5, h⟩ := bind_some h
  have qp5 := X10_refuse_ct ep5
  refine j_cVI C dX10_wrung_38 vl_X10_101 CF10 rfl qp5.1 qp5.2 (by omega) rfl rfl (Nat.le_of_ble_eq_true rfl) ?_
  have e := Option.some.inj h
  subst e
  exact j_ri C dX10_wrung_41 rfl rfl rfl
set_option maxRecDepth 100000 in
set_option maxHeartbeats 4000000 in
theorem X10_wrung_L65_bok {g : Gm} {w : Wd} (C : Cx g w RX10 cX10_wrung 4 (some .int)) {lv : Nat} (hlv : 6 < lv) {N : Nat} {r65 : Nat → Int → Int → Int → Mem → Option (Int × Mem)} {l0 : Nat} {l1 : Int} {l2 : Int} {l3 : Int} {m : Mem} {out : (Int × Mem)} (hr65 : ∀ l0 l1 l2 l3 m, r65 l0 l1 l2 l3 m = some out → Jd g w 4 (rmL lv 0 0) (Qm g w (some (vI out.1)) out.2) 65 [some (vR l0), some (vI l1), some (vI l2), some (vI l3)] [] 312 m 0 0) (h : X10_wrung_L65_b N r65 l0 l1 l2 l3 m = some out) : Jd g w 4 (rmL lv 0 0) (Qm g w (some (vI out.1)) out.2) 65 [some (vR l0), some (vI l1), some (vI l2), some (vI l3)] [] 312 m 0 0 := by
  unfold X10_wrung_L65_b at h
  refine j_iload_n C dX10_wrung_65 rfl ?_
  refine j_iload_n C dX10_wrung_66 rfl ?_
  refine j_icmp_ge C 93 dX10_wrung_67 rfl h (fun c18 h => ?_) (fun c18 h => ?_)
  · refine j_iload_n C dX10_wrung_93 rfl ?_
    have e := Option.some.inj h
    subst e
    exact j_ri C dX10_wrung_94 rfl rfl rfl
  · refine j_iload_n C dX10_wrung_70 rfl ?_
    refine j_aload_n C dX10_wrung_71 rfl ?_
    refine j_getR C dX10_wrung_72 CF10 (by decide) fl_X10_74 rfl rfl h (fun t14 h => ?_)
    refine j_aload_n C dX10_wrung_75 rfl ?_
    refine j_getR C dX10_wrung_76 CF10 (by decide) fl_X10_9 rfl rfl h (fun t15 h => ?_)
    refine j_iload_n C dX10_wrung_79 rfl ?_
    refine j_iald C dX10_wrung_80 rfl h (fun t16 h => ?_)
    refine j_iload_n C dX10_wrung_81 rfl ?_
    obtain ⟨p17, ep17, h⟩ := bind_some h
    have qp17 := X9_gotFrom_ct ep17
    refine j_cVI C dX10_wrung_82 vl_X10_343 CF9 rfl qp17.1 qp17.2 (by omega) rfl rfl (Nat.le_of_ble_eq_true rfl) ?_
    refine j_iadd C dX10_wrung_85 ?_
    refine j_istore_n (ls' := [some (vR _), some (vI _), some (vI _), some (vI _)]) C dX10_wrung_86 (by decide) rfl ?_
    refine j_iinc (ls' := [some (vR _), some (vI _), some (vI _), some (vI _)]) C dX10_wrung_87 rfl (by decide) rfl ?_
    refine j_goto C 65 dX10_wrung_90 rfl ?_
    exact hr65 _ _ _ _ _ h
set_option maxRecDepth 100000 in
set_option maxHeartbeats 4000000 in
theorem X10_wrung_L65_ok {g : Gm} {w : Wd} (C : Cx g w RX10 cX10_wrung 4 (some .int)) {lv : Nat} (hlv : 6 < lv) {N : Nat} {out : (Int × Mem)} (f : Nat) : ∀ {l0 : Nat} {l1 : Int} {l2 : Int} {l3 : Int} {m : Mem}, X10_wrung_L65 N f l0 l1 l2 l3 m = some out → Jd g w 4 (rmL lv 0 0) (Qm g w (some (vI out.1)) out.2) 65 [some (vR l0), some (vI l1), some (vI l2), some (vI l3)] [] 312 m 0 0 := by
  induction f with
  | zero => intro l0 l1 l2 l3 m h; exact none_ne (α := (Int × Mem)) h
  | succ f ih => intro l0 l1 l2 l3 m h; exact X10_wrung_L65_bok C hlv (fun l0 l1 l2 l3 m h => ih h) h
set_option maxRecDepth 100000 in
set_option maxHeartbeats 4000000 in
theorem X10_wrung_ct {N : Nat} {l0 : Nat} {m : Mem} {out : (Int × Mem)} (h : X10_wrung N l0 m = some out) : shK l0 = 10 + 10 ∧ CT yX10_wrung cX10_wrung 4 (some .int) 7 0 0 [vR l0] 312 m (some (vI out.1)) 312 out.2 := by
  unfold X10_wrung at h
  obtain ⟨hK, h⟩ := ite_some h
  have hlv : 6 < 7 := by decide
  refine ⟨hK, CT.of (by decide +kernel) rfl (Nat.le_of_ble_eq_true rfl) (ls := [some (vR l0), none, none, none]) rfl fun g w C _ => ?_⟩
  refine j_aload_n C dX10_wrung_0 rfl ?_
  refine j_getI C dX10_wrung_1 CF10 (by decide) fl_X10_13 rfl rfl h (fun t1 h => ?_)
  refine j_istore_n (ls' := [some (vR _), some (vI _), none, none]) C dX10_wrung_4 (by decide) rfl ?_
  refine j_aload_n C dX10_wrung_5 rfl ?_
  refine j_iconst C dX10_wrung_6 rfl ?_
  refine j_putI C dX10_wrung_7 CF10 (by decide) fl_X10_13 rfl rfl rfl rfl h (fun m2 h => ?_)
  refine j_iload_n C dX10_wrung_10 rfl ?_
  refine j_aload_n C dX10_wrung_11 rfl ?_
  refine j_getR C dX10_wrung_12 CF10 (by decide) fl_X10_27 rfl rfl h (fun t3 h => ?_)
  refine j_getI C dX10_wrung_15 CF5 (by decide) fl_X10_155 rfl rfl h (fun t4 h => ?_)
  refine j_icmp_ne C 36 dX10_wrung_18 rfl h (fun c20 h => ?_) (fun c20 h => ?_)
  · refine j_mask [true, false, false, false] (ls' := [some (vR _), none, none, none]) rfl ?_
    exact X10_wrung_J36_ok C hlv h
  · refine j_aload_n C dX10_wrung_21 rfl ?_
    refine j_iload_n C dX10_wrung_22 rfl ?_
    refine j_aload_n C dX10_wrung_23 rfl ?_
    refine j_getR C dX10_wrung_24 CF10 (by decide) fl_X10_27 rfl rfl h (fun t6 h => ?_)
    refine j_getI C dX10_wrung_27 CF5 (by decide) fl_X10_155 rfl rfl h (fun t7 h => ?_)
    obtain ⟨p8, ep8, h⟩ := bind_some h
    have qp8 := X10_unlikeBytes_ct ep8
    refine j_cVI C dX10_wrung_30 vl_X10_339 CF10 rfl qp8.1 qp8.2 (by omega) rfl rfl (Nat.le_of_ble_eq_true rfl) ?_
    refine j_if_ne C 42 dX10_wrung_33 rfl h (fun c19 h => ?_) (fun c19 h => ?_)
    · refine j_aload_n C dX10_wrung_42 rfl ?_
      refine j_getR C dX10_wrung_43 CF10 (by decide) fl_X10_74 rfl rfl h (fun t9 h => ?_)
      refine j_aload_n C dX10_wrung_46 rfl ?_
      refine j_getR C dX10_wrung_47 CF10 (by decide) fl_X10_27 rfl rfl h (fun t10 h => ?_)
      refine j_aload_n C dX10_wrung_50 rfl ?_
      refine j_getR C dX10_wrung_51 CF10 (by decide) fl_X10_37 rfl rfl h (fun t11 h => ?_)
      refine j_aload_n C dX10_wrung_54 rfl ?_
      obtain ⟨p12, ep12, h⟩ := bind_some h
      have qp12 := X10_asTold_ct ep12
      refine j_cVR C dX10_wrung_55 vl_X10_226 CF10 rfl qp12.1 qp12.2 (by omega) rfl rfl (Nat.le_of_ble_eq_true rfl) ?_
      obtain ⟨p13, ep13, h⟩ := bind_some h
      have qp13 := X9_prepare_ct ep13
      refine j_cVV C dX10_wrung_58 vl_X10_326 CF9 rfl qp13.1 qp13.2 (by omega) rfl rfl (Nat.le_of_ble_eq_true rfl) ?_
      refine j_iconst C dX10_wrung_61 rfl ?_
      refine j_istore_n (ls' := [some (vR _), some (vI _), some (vI _), none]) C dX10_wrung_62 (by decide) rfl ?_
      refine j_iconst C dX10_wrung_63 rfl ?_
      refine j_istore_n (ls' := [some (vR _), some (vI _), some (vI _), some (vI _)]) C dX10_wrung_64 (by decide) rfl ?_
      exact X10_wrung_L65_ok C hlv N h
    · refine j_mask [true, false, false, false] (ls' := [some (vR _), none, none, none]) rfl ?_
      exact X10_wrung_J36_ok C hlv h
theorem dX11_add_0 : decode cX11_add 0 = .ok (.aload_n 0, 1) := by decide +kernel
theorem dX11_add_1 : decode cX11_add 1 = .ok (.getfield 117, 3) := by decide +kernel
theorem dX11_add_4 : decode cX11_add 4 = .ok (.sipush 1600, 3) := by decide +kernel
theorem dX11_add_7 : decode cX11_add 7 = .ok (.aload_n 0, 1) := by decide +kernel
theorem dX11_add_8 : decode cX11_add 8 = .ok (.getfield 133, 3) := by decide +kernel
theorem dX11_add_11 : decode cX11_add 11 = .ok (.imul, 1) := by decide +kernel
theorem dX11_add_12 : decode cX11_add 12 = .ok (.aload_n 0, 1) := by decide +kernel
theorem dX11_add_13 : decode cX11_add 13 = .ok (.getfield 130, 3) := by decide +kernel
theorem dX11_add_16 : decode cX11_add 16 = .ok (.iadd, 1) := by decide +kernel
theorem dX11_add_17 : decode cX11_add 17 = .ok (.iload_n 1, 1) := by decide +kernel
theorem dX11_add_18 : decode cX11_add 18 = .ok (.iastore, 1) := by decide +kernel
theorem dX11_add_19 : decode cX11_add 19 = .ok (.aload_n 0, 1) := by decide +kernel
theorem dX11_add_20 : decode cX11_add 20 = .ok (.getfield 120, 3) := by decide +kernel
theorem dX11_add_23 : decode cX11_add 23 = .ok (.sipush 1600, 3) := by decide +kernel
theorem dX11_add_26 : decode cX11_add 26 = .ok (.aload_n 0, 1) := by decide +kernel
theorem dX11_add_27 : decode cX11_add 27 = .ok (.getfield 133, 3) := by decide +kernel
theorem dX11_add_30 : decode cX11_add 30 = .ok (.imul, 1) := by decide +kernel
theorem dX11_add_31 : decode cX11_add 31 = .ok (.aload_n 0, 1) := by decide +kernel
theorem dX11_add_32 : decode cX11_add 32 = .ok (.getfield 130, 3) := by decide +kernel
theorem dX11_add_35 : decode cX11_add 35 = .ok (.iadd, 1) := by decide +kernel
theorem dX11_add_36 : decode cX11_add 36 = .ok (.iload_n 2, 1) := by decide +kernel
theorem dX11_add_37 : decode cX11_add 37 = .ok (.iastore, 1) := by decide +kernel
theorem dX11_add_38 : decode cX11_add 38 = .ok (.aload_n 0, 1) := by decide +kernel
theorem dX11_add_39 : decode cX11_add 39 = .ok (.dup, 1) := by decide +kernel
theorem dX11_add_40 : decode cX11_add 40 = .ok (.getfield 130, 3) := by decide +kernel
theorem dX11_add_43 : decode cX11_add 43 = .ok (.iconst 1, 1) := by decide +kernel
theorem dX11_add_44 : decode cX11_add 44 = .ok (.iadd, 1) := by decide +kernel
theorem dX11_add_45 : decode cX11_add 45 = .ok (.putfield 130, 3) := by decide +kernel
theorem dX11_add_48 : decode cX11_add 48 = .ok (.return_, 1) := by decide +kernel
set_option maxRecDepth 100000 in
set_option maxHeartbeats 4000000 in
theorem X11_add_ct {l0 : Nat} {l1 : Int} {l2 : Int} {m : Mem} {out : Mem} (h : X11_add l0 l1 l2 m = some out) : shK l0 = 11 + 10 ∧ CT yX11_add cX11_add 3 none 1 0 0 [vR l0, vI l1, vI l2] 312 m none 312 out := by
  unfold X11_add at h
  obtain ⟨hK, h⟩ := ite_some h
  have hlv : 0 < 1 := by decide
  refine ⟨hK, CT.of (by decide +kernel) rfl (Nat.le_of_ble_eq_true rfl) (ls := [some (vR l0), some (vI l1), some (vI l2)]) rfl fun g w C _ => ?_⟩
  refine j_aload_n C dX11_add_0 rfl ?_
  refine j_getR C dX11_add_1 CF11 (by decide) fl_X11_117 rfl rfl h (fun t1 h => ?_)
  refine j_sipush C dX11_add_4 rfl ?_
  refine j_aload_n C dX11_add_7 rfl ?_
  refine j_getI C dX11_add_8 CF11 (by decide) fl_X11_133 rfl rfl h (fun t2 h => ?_)
  refine j_imul C dX11_add_11 ?_
  refine j_aload_n C dX11_add_12 rfl ?_
  refine j_getI C dX11_add_13 CF11 (by decide) fl_X11_130 rfl rfl h (fun t3 h => ?_)
  refine j_iadd C dX11_add_16 ?_
  refine j_iload_n C dX11_add_17 rfl ?_
  refine j_iast C dX11_add_18 rfl h (fun m4 h => ?_)
  refine j_aload_n C dX11_add_19 rfl ?_
  refine j_getR C dX11_add_20 CF11 (by decide) fl_X11_120 rfl rfl h (fun t5 h => ?_)
  refine j_sipush C dX11_add_23 rfl ?_
  refine j_aload_n C dX11_add_26 rfl ?_
  refine j_getI C dX11_add_27 CF11 (by decide) fl_X11_133 rfl rfl h (fun t6 h => ?_)
  refine j_imul C dX11_add_30 ?_
  refine j_aload_n C dX11_add_31 rfl ?_
  refine j_getI C dX11_add_32 CF11 (by decide) fl_X11_130 rfl rfl h (fun t7 h => ?_)
  refine j_iadd C dX11_add_35 ?_
  refine j_iload_n C dX11_add_36 rfl ?_
  refine j_iast C dX11_add_37 rfl h (fun m8 h => ?_)
  refine j_aload_n C dX11_add_38 rfl ?_
  refine j_dup C dX11_add_39 rfl ?_
  refine j_getI C dX11_add_40 CF11 (by decide) fl_X11_130 rfl rfl h (fun t9 h => ?_)
  refine j_iconst C dX11_add_43 rfl ?_
  refine j_iadd C dX11_add_44 ?_
  refine j_putI C dX11_add_45 CF11 (by decide) fl_X11_130 rfl rfl rfl rfl h (fun m10 h => ?_)
  have e := Option.some.inj h
  subst e
  exact j_rv C dX11_add_48 rfl rfl
theorem dX11_isLetter_0 : decode cX11_isLetter 0 = .ok (.iload_n 0, 1) := by decide +kernel
theorem dX11_isLetter_1 : decode cX11_isLetter 1 = .ok (.bipush 97, 2) := by decide +kernel
theorem dX11_isLetter_3 : decode cX11_isLetter 3 = .ok (.if_icmp .lt 13, 3) := by decide +kernel
theorem dX11_isLetter_6 : decode cX11_isLetter 6 = .ok (.iload_n 0, 1) := by decide +kernel
theorem dX11_isLetter_7 : decode cX11_isLetter 7 = .ok (.bipush 122, 2) := by decide +kernel
theorem dX11_isLetter_9 : decode cX11_isLetter 9 = .ok (.if_icmp .gt 7, 3) := by decide +kernel
theorem dX11_isLetter_12 : decode cX11_isLetter 12 = .ok (.iconst 1, 1) := by decide +kernel
theorem dX11_isLetter_13 : decode cX11_isLetter 13 = .ok (.goto 4, 3) := by decide +kernel
theorem dX11_isLetter_16 : decode cX11_isLetter 16 = .ok (.iconst 0, 1) := by decide +kernel
theorem dX11_isLetter_17 : decode cX11_isLetter 17 = .ok (.ireturn, 1) := by decide +kernel
set_option maxRecDepth 100000 in
set_option maxHeartbeats 4000000 in
theorem X11_isLetter_ct {l0 : Int} {m : Mem} {out : Int} (h : X11_isLetter l0 m = some out) : CT yX11_isLetter cX11_isLetter 1 (some .boolean) 1 0 0 [vI l0] 312 m (some (vI out)) 312 m := by
  unfold X11_isLetter at h
  have hlv : 0 < 1 := by decide
  refine CT.of (by decide +kernel) rfl (Nat.le_of_ble_eq_true rfl) (ls := [some (vI l0)]) rfl fun g w C _ => ?_
  refine j_iload_n C dX11_isLetter_0 rfl ?_
  refine j_bipush C dX11_isLetter_1 rfl ?_
  refine j_icmp_lt C 16 dX11_isLetter_3 rfl h (fun c2 h => ?_) (fun c2 h => ?_)
  · refine j_iconst C dX11_isLetter_16 rfl ?_
    exact j_rz C dX11_isLetter_17 rfl (retZ_some h) rfl
  · refine j_iload_n C dX11_isLetter_6 rfl ?_
    refine j_bipush C dX11_isLetter_7 rfl ?_
    refine j_icmp_gt C 16 dX11_isLetter_9 rfl h (fun c1 h => ?_) (fun c1 h => ?_)
    · refine j_iconst C dX11_isLetter_16 rfl ?_
      exact j_rz C dX11_isLetter_17 rfl (retZ_some h) rfl
    · refine j_iconst C dX11_isLetter_12 rfl ?_
      refine j_goto C 17 dX11_isLetter_13 rfl ?_
      exact j_rz C dX11_isLetter_17 rfl (retZ_some h) rfl
theorem dX11_isDigit_0 : decode cX11_isDigit 0 = .ok (.iload_n 0, 1) := by decide +kernel
theorem dX11_isDigit_1 : decode cX11_isDigit 1 = .ok (.bipush 48, 2) := by decide +kernel
theorem dX11_isDigit_3 : decode cX11_isDigit 3 = .ok (.if_icmp .lt 13, 3) := by decide +kernel
theorem dX11_isDigit_6 : decode cX11_isDigit 6 = .ok (.iload_n 0, 1) := by decide +kernel
theorem dX11_isDigit_7 : decode cX11_isDigit 7 = .ok (.bipush 57, 2) := by decide +kernel
theorem dX11_isDigit_9 : decode cX11_isDigit 9 = .ok (.if_icmp .gt 7, 3) := by decide +kernel
theorem dX11_isDigit_12 : decode cX11_isDigit 12 = .ok (.iconst 1, 1) := by decide +kernel
theorem dX11_isDigit_13 : decode cX11_isDigit 13 = .ok (.goto 4, 3) := by decide +kernel
theorem dX11_isDigit_16 : decode cX11_isDigit 16 = .ok (.iconst 0, 1) := by decide +kernel
theorem dX11_isDigit_17 : decode cX11_isDigit 17 = .ok (.ireturn, 1) := by decide +kernel
set_option maxRecDepth 100000 in
set_option maxHeartbeats 4000000 in
theorem X11_isDigit_ct {l0 : Int} {m : Mem} {out : Int} (h : X11_isDigit l0 m = some out) : CT yX11_isDigit cX11_isDigit 1 (some .boolean) 1 0 0 [vI l0] 312 m (some (vI out)) 312 m := by
  unfold X11_isDigit at h
  have hlv : 0 < 1 := by decide
  refine CT.of (by decide +kernel) rfl (Nat.le_of_ble_eq_true rfl) (ls := [some (vI l0)]) rfl fun g w C _ => ?_
  refine j_iload_n C dX11_isDigit_0 rfl ?_
  refine j_bipush C dX11_isDigit_1 rfl ?_
  refine j_icmp_lt C 16 dX11_isDigit_3 rfl h (fun c2 h => ?_) (fun c2 h => ?_)
  · refine j_iconst C dX11_isDigit_16 rfl ?_
    exact j_rz C dX11_isDigit_17 rfl (retZ_some h) rfl
  · refine j_iload_n C dX11_isDigit_6 rfl ?_
    refine j_bipush C dX11_isDigit_7 rfl ?_
    refine j_icmp_gt C 16 dX11_isDigit_9 rfl h (fun c1 h => ?_) (fun c1 h => ?_)
    · refine j_iconst C dX11_isDigit_16 rfl ?_
      exact j_rz C dX11_isDigit_17 rfl (retZ_some h) rfl
    · refine j_iconst C dX11_isDigit_12 rfl ?_
      refine j_goto C 17 dX11_isDigit_13 rfl ?_
      exact j_rz C dX11_isDigit_17 rfl (retZ_some h) rfl
theorem dX11_isOwn_0 : decode cX11_isOwn 0 = .ok (.lload_n 1, 1) := by decide +kernel
theorem dX11_isOwn_1 : decode cX11_isOwn 1 = .ok (.ldc2_w 280, 3) := by decide +kernel
theorem dX11_isOwn_4 : decode cX11_isOwn 4 = .ok (.lcmp, 1) := by decide +kernel
theorem dX11_isOwn_5 : decode cX11_isOwn 5 = .ok (.ifCond .eq 35, 3) := by decide +kernel
theorem dX11_isOwn_8 : decode cX11_isOwn 8 = .ok (.lload_n 1, 1) := by decide +kernel
theorem dX11_isOwn_9 : decode cX11_isOwn 9 = .ok (.ldc2_w 282, 3) := by decide +kernel
theorem dX11_isOwn_12 : decode cX11_isOwn 12 = .ok (.lcmp, 1) := by decide +kernel
theorem dX11_isOwn_13 : decode cX11_isOwn 13 = .ok (.ifCond .eq 27, 3) := by decide +kernel
theorem dX11_isOwn_16 : decode cX11_isOwn 16 = .ok (.lload_n 1, 1) := by decide +kernel
theorem dX11_isOwn_17 : decode cX11_isOwn 17 = .ok (.ldc2_w 284, 3) := by decide +kernel
theorem dX11_isOwn_20 : decode cX11_isOwn 20 = .ok (.lcmp, 1) := by decide +kernel
theorem dX11_isOwn_21 : decode cX11_isOwn 21 = .ok (.ifCond .eq 19, 3) := by decide +kernel
theorem dX11_isOwn_24 : decode cX11_isOwn 24 = .ok (.lload_n 1, 1) := by decide +kernel
theorem dX11_isOwn_25 : decode cX11_isOwn 25 = .ok (.ldc2_w 286, 3) := by decide +kernel
theorem dX11_isOwn_28 : decode cX11_isOwn 28 = .ok (.lcmp, 1) := by decide +kernel
theorem dX11_isOwn_29 : decode cX11_isOwn 29 = .ok (.ifCond .eq 11, 3) := by decide +kernel
theorem dX11_isOwn_32 : decode cX11_isOwn 32 = .ok (.lload_n 1, 1) := by decide +kernel
theorem dX11_isOwn_33 : decode cX11_isOwn 33 = .ok (.ldc2_w 288, 3) := by decide +kernel
theorem dX11_isOwn_36 : decode cX11_isOwn 36 = .ok (.lcmp, 1) := by decide +kernel
theorem dX11_isOwn_37 : decode cX11_isOwn 37 = .ok (.ifCond .ne 5, 3) := by decide +kernel
theorem dX11_isOwn_40 : decode cX11_isOwn 40 = .ok (.iconst 1, 1) := by decide +kernel
theorem dX11_isOwn_41 : decode cX11_isOwn 41 = .ok (.ireturn, 1) := by decide +kernel
theorem dX11_isOwn_42 : decode cX11_isOwn 42 = .ok (.lload_n 1, 1) := by decide +kernel
theorem dX11_isOwn_43 : decode cX11_isOwn 43 = .ok (.ldc2_w 290, 3) := by decide +kernel
theorem dX11_isOwn_46 : decode cX11_isOwn 46 = .ok (.lcmp, 1) := by decide +kernel
theorem dX11_isOwn_47 : decode cX11_isOwn 47 = .ok (.ifCond .eq 35, 3) := by decide +kernel
theorem dX11_isOwn_50 : decode cX11_isOwn 50 = .ok (.lload_n 1, 1) := by decide +kernel
theorem dX11_isOwn_51 : decode cX11_isOwn 51 = .ok (.ldc2_w 292, 3) := by decide +kernel
theorem dX11_isOwn_54 : decode cX11_isOwn 54 = .ok (.lcmp, 1) := by decide +kernel
theorem dX11_isOwn_55 : decode cX11_isOwn 55 = .ok (.ifCond .eq 27, 3) := by decide +kernel
theorem dX11_isOwn_58 : decode cX11_isOwn 58 = .ok (.lload_n 1, 1) := by decide +kernel
theorem dX11_isOwn_59 : decode cX11_isOwn 59 = .ok (.ldc2_w 294, 3) := by decide +kernel
theorem dX11_isOwn_62 : decode cX11_isOwn 62 = .ok (.lcmp, 1) := by decide +kernel
theorem dX11_isOwn_63 : decode cX11_isOwn 63 = .ok (.ifCond .eq 19, 3) := by decide +kernel
theorem dX11_isOwn_66 : decode cX11_isOwn 66 = .ok (.lload_n 1, 1) := by decide +kernel
theorem dX11_isOwn_67 : decode cX11_isOwn 67 = .ok (.ldc2_w 296, 3) := by decide +kernel
theorem dX11_isOwn_70 : decode cX11_isOwn 70 = .ok (.lcmp, 1) := by decide +kernel
theorem dX11_isOwn_71 : decode cX11_isOwn 71 = .ok (.ifCond .eq 11, 3) := by decide +kernel
theorem dX11_isOwn_74 : decode cX11_isOwn 74 = .ok (.lload_n 1, 1) := by decide +kernel
theorem dX11_isOwn_75 : decode cX11_isOwn 75 = .ok (.ldc2_w 298, 3) := by decide +kernel
theorem dX11_isOwn_78 : decode cX11_isOwn 78 = .ok (.lcmp, 1) := by decide +kernel
theorem dX11_isOwn_79 : decode cX11_isOwn 79 = .ok (.ifCond .ne 5, 3) := by decide +kernel
theorem dX11_isOwn_82 : decode cX11_isOwn 82 = .ok (.iconst 1, 1) := by decide +kernel
theorem dX11_isOwn_83 : decode cX11_isOwn 83 = .ok (.ireturn, 1) := by decide +kernel
theorem dX11_isOwn_84 : decode cX11_isOwn 84 = .ok (.lload_n 1, 1) := by decide +kernel
theorem dX11_isOwn_85 : decode cX11_isOwn 85 = .ok (.ldc2_w 300, 3) := by decide +kernel
theorem dX11_isOwn_88 : decode cX11_isOwn 88 = .ok (.lcmp, 1) := by decide +kernel
theorem dX11_isOwn_89 : decode cX11_isOwn 89 = .ok (.ifCond .eq 35, 3) := by decide +kernel
theorem dX11_isOwn_92 : decode cX11_isOwn 92 = .ok (.lload_n 1, 1) := by decide +kernel
theorem dX11_isOwn_93 : decode cX11_isOwn 93 = .ok (.ldc2_w 302, 3) := by decide +kernel
theorem dX11_isOwn_96 : decode cX11_isOwn 96 = .ok (.lcmp, 1) := by decide +kernel
theorem dX11_isOwn_97 : decode cX11_isOwn 97 = .ok (.ifCond .eq 27, 3) := by decide +kernel
theorem dX11_isOwn_100 : decode cX11_isOwn 100 = .ok (.lload_n 1, 1) := by decide +kernel
theorem dX11_isOwn_101 : decode cX11_isOwn 101 = .ok (.ldc2_w 304, 3) := by decide +kernel
theorem dX11_isOwn_104 : decode cX11_isOwn 104 = .ok (.lcmp, 1) := by decide +kernel
theorem dX11_isOwn_105 : decode cX11_isOwn 105 = .ok (.ifCond .eq 19, 3) := by decide +kernel
theorem dX11_isOwn_108 : decode cX11_isOwn 108 = .ok (.lload_n 1, 1) := by decide +kernel
theorem dX11_isOwn_109 : decode cX11_isOwn 109 = .ok (.ldc2_w 306, 3) := by decide +kernel
theorem dX11_isOwn_112 : decode cX11_isOwn 112 = .ok (.lcmp, 1) := by decide +kernel
theorem dX11_isOwn_113 : decode cX11_isOwn 113 = .ok (.ifCond .eq 11, 3) := by decide +kernel
theorem dX11_isOwn_116 : decode cX11_isOwn 116 = .ok (.lload_n 1, 1) := by decide +kernel
theorem dX11_isOwn_117 : decode cX11_isOwn 117 = .ok (.ldc2_w 308, 3) := by decide +kernel
theorem dX11_isOwn_120 : decode cX11_isOwn 120 = .ok (.lcmp, 1) := by decide +kernel
theorem dX11_isOwn_121 : decode cX11_isOwn 121 = .ok (.ifCond .ne 5, 3) := by decide +kernel
theorem dX11_isOwn_124 : decode cX11_isOwn 124 = .ok (.iconst 1, 1) := by decide +kernel
theorem dX11_isOwn_125 : decode cX11_isOwn 125 = .ok (.ireturn, 1) := by decide +kernel
theorem dX11_isOwn_126 : decode cX11_isOwn 126 = .ok (.lload_n 1, 1) := by decide +kernel
theorem dX11_isOwn_127 : decode cX11_isOwn 127 = .ok (.ldc2_w 310, 3) := by decide +kernel
theorem dX11_isOwn_130 : decode cX11_isOwn 130 = .ok (.lcmp, 1) := by decide +kernel
theorem dX11_isOwn_131 : decode cX11_isOwn 131 = .ok (.ifCond .eq 35, 3) := by decide +kernel
theorem dX11_isOwn_134 : decode cX11_isOwn 134 = .ok (.lload_n 1, 1) := by decide +kernel
theorem dX11_isOwn_135 : decode cX11_isOwn 135 = .ok (.ldc2_w 312, 3) := by decide +kernel
theorem dX11_isOwn_138 : decode cX11_isOwn 138 = .ok (.lcmp, 1) := by decide +kernel
theorem dX11_isOwn_139 : decode cX11_isOwn 139 = .ok (.ifCond .eq 27, 3) := by decide +kernel
theorem dX11_isOwn_142 : decode cX11_isOwn 142 = .ok (.lload_n 1, 1) := by decide +kernel
theorem dX11_isOwn_143 : decode cX11_isOwn 143 = .ok (.ldc2_w 314, 3) := by decide +kernel
theorem dX11_isOwn_146 : decode cX11_isOwn 146 = .ok (.lcmp, 1) := by decide +kernel
theorem dX11_isOwn_147 : decode cX11_isOwn 147 = .ok (.ifCond .eq 19, 3) := by decide +kernel
theorem dX11_isOwn_150 : decode cX11_isOwn 150 = .ok (.lload_n 1, 1) := by decide +kernel
theorem dX11_isOwn_151 : decode cX11_isOwn 151 = .ok (.ldc2_w 316, 3) := by decide +kernel
theorem dX11_isOwn_154 : decode cX11_isOwn 154 = .ok (.lcmp, 1) := by decide +kernel
theorem dX11_isOwn_155 : decode cX11_isOwn 155 = .ok (.ifCond .eq 11, 3) := by decide +kernel
theorem dX11_isOwn_158 : decode cX11_isOwn 158 = .ok (.lload_n 1, 1) := by decide +kernel
theorem dX11_isOwn_159 : decode cX11_isOwn 159 = .ok (.ldc2_w 318, 3) := by decide +kernel
theorem dX11_isOwn_162 : decode cX11_isOwn 162 = .ok (.lcmp, 1) := by decide +kernel
theorem dX11_isOwn_163 : decode cX11_isOwn 163 = .ok (.ifCond .ne 5, 3) := by decide +kernel
theorem dX11_isOwn_166 : decode cX11_isOwn 166 = .ok (.iconst 1, 1) := by decide +kernel
theorem dX11_isOwn_167 : decode cX11_isOwn 167 = .ok (.ireturn, 1) := by decide +kernel
theorem dX11_isOwn_168 : decode cX11_isOwn 168 = .ok (.lload_n 1, 1) := by decide +kernel
theorem dX11_isOwn_169 : decode cX11_isOwn 169 = .ok (.ldc2_w 320, 3) := by decide +kernel
theorem dX11_isOwn_172 : decode cX11_isOwn 172 = .ok (.lcmp, 1) := by decide +kernel
theorem dX11_isOwn_173 : decode cX11_isOwn 173 = .ok (.ifCond .eq 35, 3) := by decide +kernel
theorem dX11_isOwn_176 : decode cX11_isOwn 176 = .ok (.lload_n 1, 1) := by decide +kernel
theorem dX11_isOwn_177 : decode cX11_isOwn 177 = .ok (.ldc2_w 322, 3) := by decide +kernel
theorem dX11_isOwn_180 : decode cX11_isOwn 180 = .ok (.lcmp, 1) := by decide +kernel
theorem dX11_isOwn_181 : decode cX11_isOwn 181 = .ok (.ifCond .eq 27, 3) := by decide +kernel
theorem dX11_isOwn_184 : decode cX11_isOwn 184 = .ok (.lload_n 1, 1) := by decide +kernel
theorem dX11_isOwn_185 : decode cX11_isOwn 185 = .ok (.ldc2_w 324, 3) := by decide +kernel
theorem dX11_isOwn_188 : decode cX11_isOwn 188 = .ok (.lcmp, 1) := by decide +kernel
theorem dX11_isOwn_189 : decode cX11_isOwn 189 = .ok (.ifCond .eq 19, 3) := by decide +kernel
theorem dX11_isOwn_192 : decode cX11_isOwn 192 = .ok (.lload_n 1, 1) := by decide +kernel
theorem dX11_isOwn_193 : decode cX11_isOwn 193 = .ok (.ldc2_w 326, 3) := by decide +kernel
theorem dX11_isOwn_196 : decode cX11_isOwn 196 = .ok (.lcmp, 1) := by decide +kernel
theorem dX11_isOwn_197 : decode cX11_isOwn 197 = .ok (.ifCond .eq 11, 3) := by decide +kernel
theorem dX11_isOwn_200 : decode cX11_isOwn 200 = .ok (.lload_n 1, 1) := by decide +kernel
theorem dX11_isOwn_201 : decode cX11_isOwn 201 = .ok (.ldc2_w 328, 3) := by decide +kernel
theorem dX11_isOwn_204 : decode cX11_isOwn 204 = .ok (.lcmp, 1) := by decide +kernel
theorem dX11_isOwn_205 : decode cX11_isOwn 205 = .ok (.ifCond .ne 5, 3) := by decide +kernel
theorem dX11_isOwn_208 : decode cX11_isOwn 208 = .ok (.iconst 1, 1) := by decide +kernel
theorem dX11_isOwn_209 : decode cX11_isOwn 209 = .ok (.ireturn, 1) := by decide +kernel
theorem dX11_isOwn_210 : decode cX11_isOwn 210 = .ok (.lload_n 1, 1) := by decide +kernel
theorem dX11_isOwn_211 : decode cX11_isOwn 211 = .ok (.ldc2_w 330, 3) := by decide +kernel
theorem dX11_isOwn_214 : decode cX11_isOwn 214 = .ok (.lcmp, 1) := by decide +kernel
theorem dX11_isOwn_215 : decode cX11_isOwn 215 = .ok (.ifCond .eq 11, 3) := by decide +kernel
theorem dX11_isOwn_218 : decode cX11_isOwn 218 = .ok (.lload_n 1, 1) := by decide +kernel
theorem dX11_isOwn_219 : decode cX11_isOwn 219 = .ok (.ldc2_w 332, 3) := by decide +kernel
theorem dX11_isOwn_222 : decode cX11_isOwn 222 = .ok (.lcmp, 1) := by decide +kernel
theorem dX11_isOwn_223 : decode cX11_isOwn 223 = .ok (.ifCond .ne 5, 3) := by decide +kernel
theorem dX11_isOwn_226 : decode cX11_isOwn 226 = .ok (.iconst 1, 1) := by decide +kernel
theorem dX11_isOwn_227 : decode cX11_isOwn 227 = .ok (.ireturn, 1) := by decide +kernel
theorem dX11_isOwn_228 : decode cX11_isOwn 228 = .ok (.iconst 0, 1) := by decide +kernel
theorem dX11_isOwn_229 : decode cX11_isOwn 229 = .ok (.ireturn, 1) := by decide +kernel
set_option maxRecDepth 100000 in
set_option maxHeartbeats 4000000 in
theorem X11_isOwn_ct {l0 : Nat} {l1 : Int} {m : Mem} {out : Int} (h : X11_isOwn l0 l1 m = some out) : shK l0 = 11 + 10 ∧ CT yX11_isOwn cX11_isOwn 3 (some .boolean) 1 0 0 [vR l0, vL l1] 312 m (some (vI out)) 312 m := by
  unfold X11_isOwn at h
  obtain ⟨hK, h⟩ := ite_some h
  have hlv : 0 < 1 := by decide
  refine ⟨hK, CT.of (by decide +kernel) rfl (Nat.le_of_ble_eq_true rfl) (ls := [some (vR l0), some (vL l1), none]) rfl fun g w C _ => ?_⟩
  refine j_lload_n C dX11_isOwn_0 rfl ?_
  refine j_ldc2 (v := 115944460480100) C dX11_isOwn_1 k_X11_280 rfl rfl ?_
  refine j_lcmp C dX11_isOwn_4 ?_
  refine j_if_eq C 40 dX11_isOwn_5 rfl h (fun c27 h => ?_) (fun c27 h => ?_)
  · refine j_iconst C dX11_isOwn_40 rfl ?_
    exact j_rz C dX11_isOwn_41 rfl (retZ_some h) rfl
  · refine j_lload_n C dX11_isOwn_8 rfl ?_
    refine j_ldc2 (v := 114784769370228) C dX11_isOwn_9 k_X11_282 rfl rfl ?_
    refine j_lcmp C dX11_isOwn_12 ?_
    refine j_if_eq C 40 dX11_isOwn_13 rfl h (fun c26 h => ?_) (fun c26 h => ?_)
    · refine j_iconst C dX11_isOwn_40 rfl ?_
      exact j_rz C dX11_isOwn_41 rfl (retZ_some h) rfl
    · refine j_lload_n C dX11_isOwn_16 rfl ?_
      refine j_ldc2 (v := 24948) C dX11_isOwn_17 k_X11_284 rfl rfl ?_
      refine j_lcmp C dX11_isOwn_20 ?_
      refine j_if_eq C 40 dX11_isOwn_21 rfl h (fun c25 h => ?_) (fun c25 h => ?_)
      · refine j_iconst C dX11_isOwn_40 rfl ?_
        exact j_rz C dX11_isOwn_41 rfl (retZ_some h) rfl
      · refine j_lload_n C dX11_isOwn_24 rfl ?_
        refine j_ldc2 (v := 2002873452) C dX11_isOwn_25 k_X11_286 rfl rfl ?_
        refine j_lcmp C dX11_isOwn_28 ?_
        refine j_if_eq C 40 dX11_isOwn_29 rfl h (fun c24 h => ?_) (fun c24 h => ?_)
        · refine j_iconst C dX11_isOwn_40 rfl ?_
          exact j_rz C dX11_isOwn_41 rfl (retZ_some h) rfl
        · refine j_lload_n C dX11_isOwn_32 rfl ?_
          refine j_ldc2 (v := 448546567013) C dX11_isOwn_33 k_X11_288 rfl rfl ?_
          refine j_lcmp C dX11_isOwn_36 ?_
          refine j_if_ne C 42 dX11_isOwn_37 rfl h (fun c23 h => ?_) (fun c23 h => ?_)
          · refine j_lload_n C dX11_isOwn_42 rfl ?_
            refine j_ldc2 (v := 27981967289315950) C dX11_isOwn_43 k_X11_290 rfl rfl ?_
            refine j_lcmp C dX11_isOwn_46 ?_
            refine j_if_eq C 82 dX11_isOwn_47 rfl h (fun c22 h => ?_) (fun c22 h => ?_)
            · refine j_iconst C dX11_isOwn_82 rfl ?_
              exact j_rz C dX11_isOwn_83 rfl (retZ_some h) rfl
            · refine j_lload_n C dX11_isOwn_50 rfl ?_
              refine j_ldc2 (v := 427021005928) C dX11_isOwn_51 k_X11_292 rfl rfl ?_
              refine j_lcmp C dX11_isOwn_54 ?_
              refine j_if_eq C 82 dX11_isOwn_55 rfl h (fun c21 h => ?_) (fun c21 h => ?_)
              · refine j_iconst C dX11_isOwn_82 rfl ?_
                exact j_rz C dX11_isOwn_83 rfl (retZ_some h) rfl
              · refine j_lload_n C dX11_isOwn_58 rfl ?_
                refine j_ldc2 (v := 499850634611) C dX11_isOwn_59 k_X11_294 rfl rfl ?_
                refine j_lcmp C dX11_isOwn_62 ?_
                refine j_if_eq C 82 dX11_isOwn_63 rfl h (fun c20 h => ?_) (fun c20 h => ?_)
                · refine j_iconst C dX11_isOwn_82 rfl ?_
                  exact j_rz C dX11_isOwn_83 rfl (retZ_some h) rfl
                · refine j_lload_n C dX11_isOwn_66 rfl ?_
                  refine j_ldc2 (v := 495874698853) C dX11_isOwn_67 k_X11_296 rfl rfl ?_
                  refine j_lcmp C dX11_isOwn_70 ?_
                  refine j_if_eq C 82 dX11_isOwn_71 rfl h (fun c19 h => ?_) (fun c19 h => ?_)
                  · refine j_iconst C dX11_isOwn_82 rfl ?_
                    exact j_rz C dX11_isOwn_83 rfl (retZ_some h) rfl
                  · refine j_lload_n C dX11_isOwn_74 rfl ?_
                    refine j_ldc2 (v := 7824738) C dX11_isOwn_75 k_X11_298 rfl rfl ?_
                    refine j_lcmp C dX11_isOwn_78 ?_
                    refine j_if_ne C 84 dX11_isOwn_79 rfl h (fun c18 h => ?_) (fun c18 h => ?_)
                    · refine j_lload_n C dX11_isOwn_84 rfl ?_
                      refine j_ldc2 (v := 7564153) C dX11_isOwn_85 k_X11_300 rfl rfl ?_
                      refine j_lcmp C dX11_isOwn_88 ?_
                      refine j_if_eq C 124 dX11_isOwn_89 rfl h (fun c17 h => ?_) (fun c17 h => ?_)
                      · refine j_iconst C dX11_isOwn_124 rfl ?_
                        exact j_rz C dX11_isOwn_125 rfl (retZ_some h) rfl
                      · refine j_lload_n C dX11_isOwn_92 rfl ?_
                        refine j_ldc2 (v := 6579575) C dX11_isOwn_93 k_X11_302 rfl rfl ?_
                        refine j_lcmp C dX11_isOwn_96 ?_
                        refine j_if_eq C 124 dX11_isOwn_97 rfl h (fun c16 h => ?_) (fun c16 h => ?_)
                        · refine j_iconst C dX11_isOwn_124 rfl ?_
                          exact j_rz C dX11_isOwn_125 rfl (retZ_some h) rfl
                        · refine j_lload_n C dX11_isOwn_100 rfl ?_
                          refine j_ldc2 (v := 431416239475) C dX11_isOwn_101 k_X11_304 rfl rfl ?_
                          refine j_lcmp C dX11_isOwn_104 ?_
                          refine j_if_eq C 124 dX11_isOwn_105 rfl h (fun c15 h => ?_) (fun c15 h => ?_)
                          · refine j_iconst C dX11_isOwn_124 rfl ?_
                            exact j_rz C dX11_isOwn_125 rfl (retZ_some h) rfl
                          · refine j_lload_n C dX11_isOwn_108 rfl ?_
                            refine j_ldc2 (v := 110442557893491) C dX11_isOwn_109 k_X11_306 rfl rfl ?_
                            refine j_lcmp C dX11_isOwn_112 ?_
                            refine j_if_eq C 124 dX11_isOwn_113 rfl h (fun c14 h => ?_) (fun c14 h => ?_)
                            · refine j_iconst C dX11_isOwn_124 rfl ?_
                              exact j_rz C dX11_isOwn_125 rfl (retZ_some h) rfl
                            · refine j_lload_n C dX11_isOwn_116 rfl ?_
                              refine j_ldc2 (v := 109317377582201) C dX11_isOwn_117 k_X11_308 rfl rfl ?_
                              refine j_lcmp C dX11_isOwn_120 ?_
                              refine j_if_ne C 126 dX11_isOwn_121 rfl h (fun c13 h => ?_) (fun c13 h => ?_)
                              · refine j_lload_n C dX11_isOwn_126 rfl ?_
                                refine j_ldc2 (v := 513020620391) C dX11_isOwn_127 k_X11_310 rfl rfl ?_
                                refine j_lcmp C dX11_isOwn_130 ?_
                                refine j_if_eq C 166 dX11_isOwn_131 rfl h (fun c12 h => ?_) (fun c12 h => ?_)
                                · refine j_iconst C dX11_isOwn_166 rfl ?_
                                  exact j_rz C dX11_isOwn_167 rfl (retZ_some h) rfl
                                · refine j_lload_n C dX11_isOwn_134 rfl ?_
                                  refine j_ldc2 (v := 1869636974) C dX11_isOwn_135 k_X11_312 rfl rfl ?_
                                  refine j_lcmp C dX11_isOwn_138 ?_
                                  refine j_if_eq C 166 dX11_isOwn_139 rfl h (fun c11 h => ?_) (fun c11 h => ?_)
                                  · refine j_iconst C dX11_isOwn_166 rfl ?_
                                    exact j_rz C dX11_isOwn_167 rfl (retZ_some h) rfl
                                  · refine j_lload_n C dX11_isOwn_142 rfl ?_
                                    refine j_ldc2 (v := 1751738216) C dX11_isOwn_143 k_X11_314 rfl rfl ?_
                                    refine j_lcmp C dX11_isOwn_146 ?_
                                    refine j_if_eq C 166 dX11_isOwn_147 rfl h (fun c10 h => ?_) (fun c10 h => ?_)
                                    · refine j_iconst C dX11_isOwn_166 rfl ?_
                                      exact j_rz C dX11_isOwn_167 rfl (retZ_some h) rfl
                                    · refine j_lload_n C dX11_isOwn_150 rfl ?_
                                      refine j_ldc2 (v := 1668246628) C dX11_isOwn_151 k_X11_316 rfl rfl ?_
                                      refine j_lcmp C dX11_isOwn_154 ?_
                                      refine j_if_eq C 166 dX11_isOwn_155 rfl h (fun c9 h => ?_) (fun c9 h => ?_)
                                      · refine j_iconst C dX11_isOwn_166 rfl ?_
                                        exact j_rz C dX11_isOwn_167 rfl (retZ_some h) rfl
                                      · refine j_lload_n C dX11_isOwn_158 rfl ?_
                                        refine j_ldc2 (v := 1752135026) C dX11_isOwn_159 k_X11_318 rfl rfl ?_
                                        refine j_lcmp C dX11_isOwn_162 ?_
                                        refine j_if_ne C 168 dX11_isOwn_163 rfl h (fun c8 h => ?_) (fun c8 h => ?_)
                                        · refine j_lload_n C dX11_isOwn_168 rfl ?_
                                          refine j_ldc2 (v := 427021006180) C dX11_isOwn_169 k_X11_320 rfl rfl ?_
                                          refine j_lcmp C dX11_isOwn_172 ?_
                                          refine j_if_eq C 208 dX11_isOwn_173 rfl h (fun c7 h => ?_) (fun c7 h => ?_)
                                          · refine j_iconst C dX11_isOwn_208 rfl ?_
                                            exact j_rz C dX11_isOwn_209 rfl (retZ_some h) rfl
                                          · refine j_lload_n C dX11_isOwn_176 rfl ?_
                                            refine j_ldc2 (v := 2003398244) C dX11_isOwn_177 k_X11_322 rfl rfl ?_
                                            refine j_lcmp C dX11_isOwn_180 ?_
                                            refine j_if_eq C 208 dX11_isOwn_181 rfl h (fun c6 h => ?_) (fun c6 h => ?_)
                                            · refine j_iconst C dX11_isOwn_208 rfl ?_
                                              exact j_rz C dX11_isOwn_209 rfl (retZ_some h) rfl
                                            · refine j_lload_n C dX11_isOwn_184 rfl ?_
                                              refine j_ldc2 (v := 495757257573) C dX11_isOwn_185 k_X11_324 rfl rfl ?_
                                              refine j_lcmp C dX11_isOwn_188 ?_
                                              refine j_if_eq C 208 dX11_isOwn_189 rfl h (fun c5 h => ?_) (fun c5 h => ?_)
                                              · refine j_iconst C dX11_isOwn_208 rfl ?_
                                                exact j_rz C dX11_isOwn_209 rfl (retZ_some h) rfl
                                              · refine j_lload_n C dX11_isOwn_192 rfl ?_
                                                refine j_ldc2 (v := 1852137842) C dX11_isOwn_193 k_X11_326 rfl rfl ?_
                                                refine j_lcmp C dX11_isOwn_196 ?_
                                                refine j_if_eq C 208 dX11_isOwn_197 rfl h (fun c4 h => ?_) (fun c4 h => ?_)
                                                · refine j_iconst C dX11_isOwn_208 rfl ?_
                                                  exact j_rz C dX11_isOwn_209 rfl (retZ_some h) rfl
                                                · refine j_lload_n C dX11_isOwn_200 rfl ?_
                                                  refine j_ldc2 (v := 7824756) C dX11_isOwn_201 k_X11_328 rfl rfl ?_
                                                  refine j_lcmp C dX11_isOwn_204 ?_
                                                  refine j_if_ne C 210 dX11_isOwn_205 rfl h (fun c3 h => ?_) (fun c3 h => ?_)
                                                  · refine j_lload_n C dX11_isOwn_210 rfl ?_
                                                    refine j_ldc2 (v := 7170414) C dX11_isOwn_211 k_X11_330 rfl rfl ?_
                                                    refine j_lcmp C dX11_isOwn_214 ?_
                                                    refine j_if_eq C 226 dX11_isOwn_215 rfl h (fun c2 h => ?_) (fun c2 h => ?_)
                                                    · refine j_iconst C dX11_isOwn_226 rfl ?_
                                                      exact j_rz C dX11_isOwn_227 rfl (retZ_some h) rfl
                                                    · refine j_lload_n C dX11_isOwn_218 rfl ?_
                                                      refine j_ldc2 (v := 7168376) C dX11_isOwn_219 k_X11_332 rfl rfl ?_
                                                      refine j_lcmp C dX11_isOwn_222 ?_
                                                      refine j_if_ne C 228 dX11_isOwn_223 rfl h (fun c1 h => ?_) (fun c1 h => ?_)
                                                      · refine j_iconst C dX11_isOwn_228 rfl ?_
                                                        exact j_rz C dX11_isOwn_229 rfl (retZ_some h) rfl
                                                      · refine j_iconst C dX11_isOwn_226 rfl ?_
                                                        exact j_rz C dX11_isOwn_227 rfl (retZ_some h) rfl
                                                  · refine j_iconst C dX11_isOwn_208 rfl ?_
                                                    exact j_rz C dX11_isOwn_209 rfl (retZ_some h) rfl
                                        · refine j_iconst C dX11_isOwn_166 rfl ?_
                                          exact j_rz C dX11_isOwn_167 rfl (retZ_some h) rfl
                              · refine j_iconst C dX11_isOwn_124 rfl ?_
                                exact j_rz C dX11_isOwn_125 rfl (retZ_some h) rfl
                    · refine j_iconst C dX11_isOwn_82 rfl ?_
                      exact j_rz C dX11_isOwn_83 rfl (retZ_some h) rfl
          · refine j_iconst C dX11_isOwn_40 rfl ?_
            exact j_rz C dX11_isOwn_41 rfl (retZ_some h) rfl
theorem dX11_ahead_0 : decode cX11_ahead 0 = .ok (.aload_n 0, 1) := by decide +kernel
theorem dX11_ahead_1 : decode cX11_ahead 1 = .ok (.getfield 26, 3) := by decide +kernel
theorem dX11_ahead_4 : decode cX11_ahead 4 = .ok (.istore_n 1, 1) := by decide +kernel
theorem dX11_ahead_5 : decode cX11_ahead 5 = .ok (.iload_n 1, 1) := by decide +kernel
theorem dX11_ahead_6 : decode cX11_ahead 6 = .ok (.aload_n 0, 1) := by decide +kernel
theorem dX11_ahead_7 : decode cX11_ahead 7 = .ok (.getfield 17, 3) := by decide +kernel
theorem dX11_ahead_10 : decode cX11_ahead 10 = .ok (.if_icmp .ge 31, 3) := by decide +kernel
theorem dX11_ahead_13 : decode cX11_ahead 13 = .ok (.aload_n 0, 1) := by decide +kernel
theorem dX11_ahead_14 : decode cX11_ahead 14 = .ok (.getfield 7, 3) := by decide +kernel
theorem dX11_ahead_17 : decode cX11_ahead 17 = .ok (.iload_n 1, 1) := by decide +kernel
theorem dX11_ahead_18 : decode cX11_ahead 18 = .ok (.iaload, 1) := by decide +kernel
theorem dX11_ahead_19 : decode cX11_ahead 19 = .ok (.bipush 32, 2) := by decide +kernel
theorem dX11_ahead_21 : decode cX11_ahead 21 = .ok (.if_icmp .eq 14, 3) := by decide +kernel
theorem dX11_ahead_24 : decode cX11_ahead 24 = .ok (.aload_n 0, 1) := by decide +kernel
theorem dX11_ahead_25 : decode cX11_ahead 25 = .ok (.getfield 7, 3) := by decide +kernel
theorem dX11_ahead_28 : decode cX11_ahead 28 = .ok (.iload_n 1, 1) := by decide +kernel
theorem dX11_ahead_29 : decode cX11_ahead 29 = .ok (.iaload, 1) := by decide +kernel
theorem dX11_ahead_30 : decode cX11_ahead 30 = .ok (.bipush 10, 2) := by decide +kernel
theorem dX11_ahead_32 : decode cX11_ahead 32 = .ok (.if_icmp .ne 9, 3) := by decide +kernel
theorem dX11_ahead_35 : decode cX11_ahead 35 = .ok (.iinc 1 1, 3) := by decide +kernel
theorem dX11_ahead_38 : decode cX11_ahead 38 = .ok (.goto (-33), 3) := by decide +kernel
theorem dX11_ahead_41 : decode cX11_ahead 41 = .ok (.aload_n 0, 1) := by decide +kernel
theorem dX11_ahead_42 : decode cX11_ahead 42 = .ok (.iload_n 1, 1) := by decide +kernel
theorem dX11_ahead_43 : decode cX11_ahead 43 = .ok (.putfield 23, 3) := by decide +kernel
theorem dX11_ahead_46 : decode cX11_ahead 46 = .ok (.aload_n 0, 1) := by decide +kernel
theorem dX11_ahead_47 : decode cX11_ahead 47 = .ok (.iload_n 1, 1) := by decide +kernel
theorem dX11_ahead_48 : decode cX11_ahead 48 = .ok (.putfield 26, 3) := by decide +kernel
theorem dX11_ahead_51 : decode cX11_ahead 51 = .ok (.aload_n 0, 1) := by decide +kernel
theorem dX11_ahead_52 : decode cX11_ahead 52 = .ok (.iconst 0, 1) := by decide +kernel
theorem dX11_ahead_53 : decode cX11_ahead 53 = .ok (.putfield 20, 3) := by decide +kernel
theorem dX11_ahead_56 : decode cX11_ahead 56 = .ok (.aload_n 0, 1) := by decide +kernel
theorem dX11_ahead_57 : decode cX11_ahead 57 = .ok (.iconst (-1), 1) := by decide +kernel
theorem dX11_ahead_58 : decode cX11_ahead 58 = .ok (.putfield 48, 3) := by decide +kernel
theorem dX11_ahead_61 : decode cX11_ahead 61 = .ok (.iload_n 1, 1) := by decide +kernel
theorem dX11_ahead_62 : decode cX11_ahead 62 = .ok (.aload_n 0, 1) := by decide +kernel
theorem dX11_ahead_63 : decode cX11_ahead 63 = .ok (.getfield 17, 3) := by decide +kernel
theorem dX11_ahead_66 : decode cX11_ahead 66 = .ok (.if_icmp .lt 4, 3) := by decide +kernel
theorem dX11_ahead_69 : decode cX11_ahead 69 = .ok (.return_, 1) := by decide +kernel
theorem dX11_ahead_70 : decode cX11_ahead 70 = .ok (.aload_n 0, 1) := by decide +kernel
theorem dX11_ahead_71 : decode cX11_ahead 71 = .ok (.getfield 7, 3) := by decide +kernel
theorem dX11_ahead_74 : decode cX11_ahead 74 = .ok (.iload_n 1, 1) := by decide +kernel
theorem dX11_ahead_75 : decode cX11_ahead 75 = .ok (.iaload, 1) := by decide +kernel
theorem dX11_ahead_76 : decode cX11_ahead 76 = .ok (.invokestatic 260, 3) := by decide +kernel
theorem dX11_ahead_79 : decode cX11_ahead 79 = .ok (.istore_n 2, 1) := by decide +kernel
theorem dX11_ahead_80 : decode cX11_ahead 80 = .ok (.aload_n 0, 1) := by decide +kernel
theorem dX11_ahead_81 : decode cX11_ahead 81 = .ok (.getfield 7, 3) := by decide +kernel
theorem dX11_ahead_84 : decode cX11_ahead 84 = .ok (.iload_n 1, 1) := by decide +kernel
theorem dX11_ahead_85 : decode cX11_ahead 85 = .ok (.iaload, 1) := by decide +kernel
theorem dX11_ahead_86 : decode cX11_ahead 86 = .ok (.invokestatic 264, 3) := by decide +kernel
theorem dX11_ahead_89 : decode cX11_ahead 89 = .ok (.istore_n 3, 1) := by decide +kernel
theorem dX11_ahead_90 : decode cX11_ahead 90 = .ok (.iload_n 2, 1) := by decide +kernel
theorem dX11_ahead_91 : decode cX11_ahead 91 = .ok (.ifCond .ne 7, 3) := by decide +kernel
theorem dX11_ahead_94 : decode cX11_ahead 94 = .ok (.iload_n 3, 1) := by decide +kernel
theorem dX11_ahead_95 : decode cX11_ahead 95 = .ok (.ifCond .eq 40, 3) := by decide +kernel
theorem dX11_ahead_98 : decode cX11_ahead 98 = .ok (.iload_n 1, 1) := by decide +kernel
theorem dX11_ahead_99 : decode cX11_ahead 99 = .ok (.ifCond .le 36, 3) := by decide +kernel
theorem dX11_ahead_102 : decode cX11_ahead 102 = .ok (.aload_n 0, 1) := by decide +kernel
theorem dX11_ahead_103 : decode cX11_ahead 103 = .ok (.getfield 7, 3) := by decide +kernel
theorem dX11_ahead_106 : decode cX11_ahead 106 = .ok (.iload_n 1, 1) := by decide +kernel
theorem dX11_ahead_107 : decode cX11_ahead 107 = .ok (.iconst 1, 1) := by decide +kernel
theorem dX11_ahead_108 : decode cX11_ahead 108 = .ok (.isub, 1) := by decide +kernel
theorem dX11_ahead_109 : decode cX11_ahead 109 = .ok (.iaload, 1) := by decide +kernel
theorem dX11_ahead_110 : decode cX11_ahead 110 = .ok (.invokestatic 260, 3) := by decide +kernel
theorem dX11_ahead_113 : decode cX11_ahead 113 = .ok (.ifCond .ne 17, 3) := by decide +kernel
theorem dX11_ahead_116 : decode cX11_ahead 116 = .ok (.aload_n 0, 1) := by decide +kernel
theorem dX11_ahead_117 : decode cX11_ahead 117 = .ok (.getfield 7, 3) := by decide +kernel
theorem dX11_ahead_120 : decode cX11_ahead 120 = .ok (.iload_n 1, 1) := by decide +kernel
theorem dX11_ahead_121 : decode cX11_ahead 121 = .ok (.iconst 1, 1) := by decide +kernel
theorem dX11_ahead_122 : decode cX11_ahead 122 = .ok (.isub, 1) := by decide +kernel
theorem dX11_ahead_123 : decode cX11_ahead 123 = .ok (.iaload, 1) := by decide +kernel
theorem dX11_ahead_124 : decode cX11_ahead 124 = .ok (.invokestatic 264, 3) := by decide +kernel
theorem dX11_ahead_127 : decode cX11_ahead 127 = .ok (.ifCond .eq 8, 3) := by decide +kernel
theorem dX11_ahead_130 : decode cX11_ahead 130 = .ok (.aload_n 0, 1) := by decide +kernel
theorem dX11_ahead_131 : decode cX11_ahead 131 = .ok (.iload_n 1, 1) := by decide +kernel
theorem dX11_ahead_132 : decode cX11_ahead 132 = .ok (.putfield 48, 3) := by decide +kernel
theorem dX11_ahead_135 : decode cX11_ahead 135 = .ok (.aload_n 0, 1) := by decide +kernel
theorem dX11_ahead_136 : decode cX11_ahead 136 = .ok (.iconst 0, 1) := by decide +kernel
theorem dX11_ahead_137 : decode cX11_ahead 137 = .ok (.putfield 29, 3) := by decide +kernel
theorem dX11_ahead_140 : decode cX11_ahead 140 = .ok (.aload_n 0, 1) := by decide +kernel
theorem dX11_ahead_141 : decode cX11_ahead 141 = .ok (.lconst 0, 1) := by decide +kernel
theorem dX11_ahead_142 : decode cX11_ahead 142 = .ok (.putfield 32, 3) := by decide +kernel
theorem dX11_ahead_145 : decode cX11_ahead 145 = .ok (.aload_n 0, 1) := by decide +kernel
theorem dX11_ahead_146 : decode cX11_ahead 146 = .ok (.iconst 3, 1) := by decide +kernel
theorem dX11_ahead_147 : decode cX11_ahead 147 = .ok (.putfield 20, 3) := by decide +kernel
theorem dX11_ahead_150 : decode cX11_ahead 150 = .ok (.aload_n 0, 1) := by decide +kernel
theorem dX11_ahead_151 : decode cX11_ahead 151 = .ok (.iload_n 1, 1) := by decide +kernel
theorem dX11_ahead_152 : decode cX11_ahead 152 = .ok (.iconst 1, 1) := by decide +kernel
theorem dX11_ahead_153 : decode cX11_ahead 153 = .ok (.iadd, 1) := by decide +kernel
theorem dX11_ahead_154 : decode cX11_ahead 154 = .ok (.putfield 26, 3) := by decide +kernel
theorem dX11_ahead_157 : decode cX11_ahead 157 = .ok (.iload_n 2, 1) := by decide +kernel
theorem dX11_ahead_158 : decode cX11_ahead 158 = .ok (.ifCond .ne 18, 3) := by decide +kernel
theorem dX11_ahead_161 : decode cX11_ahead 161 = .ok (.iload_n 3, 1) := by decide +kernel
theorem dX11_ahead_162 : decode cX11_ahead 162 = .ok (.ifCond .ne 14, 3) := by decide +kernel
theorem dX11_ahead_165 : decode cX11_ahead 165 = .ok (.aload_n 0, 1) := by decide +kernel
theorem dX11_ahead_166 : decode cX11_ahead 166 = .ok (.aload_n 0, 1) := by decide +kernel
theorem dX11_ahead_167 : decode cX11_ahead 167 = .ok (.getfield 7, 3) := by decide +kernel
theorem dX11_ahead_170 : decode cX11_ahead 170 = .ok (.iload_n 1, 1) := by decide +kernel
theorem dX11_ahead_171 : decode cX11_ahead 171 = .ok (.iaload, 1) := by decide +kernel
theorem dX11_ahead_172 : decode cX11_ahead 172 = .ok (.putfield 29, 3) := by decide +kernel
theorem dX11_ahead_175 : decode cX11_ahead 175 = .ok (.return_, 1) := by decide +kernel
theorem dX11_ahead_176 : decode cX11_ahead 176 = .ok (.aload_n 0, 1) := by decide +kernel
theorem dX11_ahead_177 : decode cX11_ahead 177 = .ok (.iload_n 2, 1) := by decide +kernel
theorem dX11_ahead_178 : decode cX11_ahead 178 = .ok (.ifCond .eq 7, 3) := by decide +kernel
theorem dX11_ahead_181 : decode cX11_ahead 181 = .ok (.iconst 1, 1) := by decide +kernel
theorem dX11_ahead_182 : decode cX11_ahead 182 = .ok (.goto 4, 3) := by decide +kernel
theorem dX11_ahead_185 : decode cX11_ahead 185 = .ok (.iconst 2, 1) := by decide +kernel
theorem dX11_ahead_186 : decode cX11_ahead 186 = .ok (.putfield 20, 3) := by decide +kernel
theorem dX11_ahead_189 : decode cX11_ahead 189 = .ok (.iload_n 2, 1) := by decide +kernel
theorem dX11_ahead_190 : decode cX11_ahead 190 = .ok (.ifCond .eq 8, 3) := by decide +kernel
theorem dX11_ahead_193 : decode cX11_ahead 193 = .ok (.bipush 6, 2) := by decide +kernel
theorem dX11_ahead_195 : decode cX11_ahead 195 = .ok (.goto 4, 3) := by decide +kernel
theorem dX11_ahead_198 : decode cX11_ahead 198 = .ok (.iconst 4, 1) := by decide +kernel
theorem dX11_ahead_199 : decode cX11_ahead 199 = .ok (.istore 4, 2) := by decide +kernel
theorem dX11_ahead_201 : decode cX11_ahead 201 = .ok (.iconst 0, 1) := by decide +kernel
theorem dX11_ahead_202 : decode cX11_ahead 202 = .ok (.istore 5, 2) := by decide +kernel
theorem dX11_ahead_204 : decode cX11_ahead 204 = .ok (.iload_n 1, 1) := by decide +kernel
theorem dX11_ahead_205 : decode cX11_ahead 205 = .ok (.aload_n 0, 1) := by decide +kernel
theorem dX11_ahead_206 : decode cX11_ahead 206 = .ok (.getfield 17, 3) := by decide +kernel
theorem dX11_ahead_209 : decode cX11_ahead 209 = .ok (.if_icmp .ge 125, 3) := by decide +kernel
theorem dX11_ahead_212 : decode cX11_ahead 212 = .ok (.iload_n 2, 1) := by decide +kernel
theorem dX11_ahead_213 : decode cX11_ahead 213 = .ok (.ifCond .eq 18, 3) := by decide +kernel
theorem dX11_ahead_216 : decode cX11_ahead 216 = .ok (.aload_n 0, 1) := by decide +kernel
theorem dX11_ahead_217 : decode cX11_ahead 217 = .ok (.getfield 7, 3) := by decide +kernel
theorem dX11_ahead_220 : decode cX11_ahead 220 = .ok (.iload_n 1, 1) := by decide +kernel
theorem dX11_ahead_221 : decode cX11_ahead 221 = .ok (.iaload, 1) := by decide +kernel
theorem dX11_ahead_222 : decode cX11_ahead 222 = .ok (.invokestatic 260, 3) := by decide +kernel
theorem dX11_ahead_225 : decode cX11_ahead 225 = .ok (.ifCond .eq 109, 3) := by decide +kernel
theorem dX11_ahead_228 : decode cX11_ahead 228 = .ok (.goto 15, 3) := by decide +kernel
theorem dX11_ahead_231 : decode cX11_ahead 231 = .ok (.aload_n 0, 1) := by decide +kernel
theorem dX11_ahead_232 : decode cX11_ahead 232 = .ok (.getfield 7, 3) := by decide +kernel
theorem dX11_ahead_235 : decode cX11_ahead 235 = .ok (.iload_n 1, 1) := by decide +kernel
theorem dX11_ahead_236 : decode cX11_ahead 236 = .ok (.iaload, 1) := by decide +kernel
theorem dX11_ahead_237 : decode cX11_ahead 237 = .ok (.invokestatic 264, 3) := by decide +kernel
theorem dX11_ahead_240 : decode cX11_ahead 240 = .ok (.ifCond .eq 94, 3) := by decide +kernel
theorem dX11_ahead_243 : decode cX11_ahead 243 = .ok (.iload 5, 2) := by decide +kernel
theorem dX11_ahead_245 : decode cX11_ahead 245 = .ok (.iload 4, 2) := by decide +kernel
theorem dX11_ahead_247 : decode cX11_ahead 247 = .ok (.if_icmp .ne 16, 3) := by decide +kernel
theorem dX11_ahead_250 : decode cX11_ahead 250 = .ok (.aload_n 0, 1) := by decide +kernel
theorem dX11_ahead_251 : decode cX11_ahead 251 = .ok (.getfield 48, 3) := by decide +kernel
theorem dX11_ahead_254 : decode cX11_ahead 254 = .ok (.iconst (-1), 1) := by decide +kernel
theorem dX11_ahead_255 : decode cX11_ahead 255 = .ok (.if_icmp .ne 8, 3) := by decide +kernel
theorem dX11_ahead_258 : decode cX11_ahead 258 = .ok (.aload_n 0, 1) := by decide +kernel
theorem dX11_ahead_259 : decode cX11_ahead 259 = .ok (.iload_n 1, 1) := by decide +kernel
theorem dX11_ahead_260 : decode cX11_ahead 260 = .ok (.putfield 48, 3) := by decide +kernel
theorem dX11_ahead_263 : decode cX11_ahead 263 = .ok (.iload 5, 2) := by decide +kernel
theorem dX11_ahead_265 : decode cX11_ahead 265 = .ok (.bipush 8, 2) := by decide +kernel
theorem dX11_ahead_267 : decode cX11_ahead 267 = .ok (.if_icmp .ge 26, 3) := by decide +kernel
theorem dX11_ahead_270 : decode cX11_ahead 270 = .ok (.iload_n 2, 1) := by decide +kernel
theorem dX11_ahead_271 : decode cX11_ahead 271 = .ok (.ifCond .eq 22, 3) := by decide +kernel
theorem dX11_ahead_274 : decode cX11_ahead 274 = .ok (.aload_n 0, 1) := by decide +kernel
theorem dX11_ahead_275 : decode cX11_ahead 275 = .ok (.aload_n 0, 1) := by decide +kernel
theorem dX11_ahead_276 : decode cX11_ahead 276 = .ok (.getfield 32, 3) := by decide +kernel
theorem dX11_ahead_279 : decode cX11_ahead 279 = .ok (.bipush 8, 2) := by decide +kernel
theorem dX11_ahead_281 : decode cX11_ahead 281 = .ok (.lshl, 1) := by decide +kernel
theorem dX11_ahead_282 : decode cX11_ahead 282 = .ok (.aload_n 0, 1) := by decide +kernel
theorem dX11_ahead_283 : decode cX11_ahead 283 = .ok (.getfield 7, 3) := by decide +kernel
theorem dX11_ahead_286 : decode cX11_ahead 286 = .ok (.iload_n 1, 1) := by decide +kernel
theorem dX11_ahead_287 : decode cX11_ahead 287 = .ok (.iaload, 1) := by decide +kernel
theorem dX11_ahead_288 : decode cX11_ahead 288 = .ok (.i2l, 1) := by decide +kernel
theorem dX11_ahead_289 : decode cX11_ahead 289 = .ok (.lor, 1) := by decide +kernel
theorem dX11_ahead_290 : decode cX11_ahead 290 = .ok (.putfield 32, 3) := by decide +kernel
theorem dX11_ahead_293 : decode cX11_ahead 293 = .ok (.iload 5, 2) := by decide +kernel
theorem dX11_ahead_295 : decode cX11_ahead 295 = .ok (.iload 4, 2) := by decide +kernel
theorem dX11_ahead_297 : decode cX11_ahead 297 = .ok (.if_icmp .ge 28, 3) := by decide +kernel
theorem dX11_ahead_300 : decode cX11_ahead 300 = .ok (.iload_n 3, 1) := by decide +kernel
theorem dX11_ahead_301 : decode cX11_ahead 301 = .ok (.ifCond .eq 24, 3) := by decide +kernel
theorem dX11_ahead_304 : decode cX11_ahead 304 = .ok (.aload_n 0, 1) := by decide +kernel
theorem dX11_ahead_305 : decode cX11_ahead 305 = .ok (.bipush 10, 2) := by decide +kernel
theorem dX11_ahead_307 : decode cX11_ahead 307 = .ok (.aload_n 0, 1) := by decide +kernel
theorem dX11_ahead_308 : decode cX11_ahead 308 = .ok (.getfield 29, 3) := by decide +kernel
theorem dX11_ahead_311 : decode cX11_ahead 311 = .ok (.imul, 1) := by decide +kernel
theorem dX11_ahead_312 : decode cX11_ahead 312 = .ok (.aload_n 0, 1) := by decide +kernel
theorem dX11_ahead_313 : decode cX11_ahead 313 = .ok (.getfield 7, 3) := by decide +kernel
theorem dX11_ahead_316 : decode cX11_ahead 316 = .ok (.iload_n 1, 1) := by decide +kernel
theorem dX11_ahead_317 : decode cX11_ahead 317 = .ok (.iaload, 1) := by decide +kernel
theorem dX11_ahead_318 : decode cX11_ahead 318 = .ok (.iadd, 1) := by decide +kernel
theorem dX11_ahead_319 : decode cX11_ahead 319 = .ok (.bipush 48, 2) := by decide +kernel
theorem dX11_ahead_321 : decode cX11_ahead 321 = .ok (.isub, 1) := by decide +kernel
theorem dX11_ahead_322 : decode cX11_ahead 322 = .ok (.putfield 29, 3) := by decide +kernel
theorem dX11_ahead_325 : decode cX11_ahead 325 = .ok (.iinc 5 1, 3) := by decide +kernel
theorem dX11_ahead_328 : decode cX11_ahead 328 = .ok (.iinc 1 1, 3) := by decide +kernel
theorem dX11_ahead_331 : decode cX11_ahead 331 = .ok (.goto (-127), 3) := by decide +kernel
theorem dX11_ahead_334 : decode cX11_ahead 334 = .ok (.aload_n 0, 1) := by decide +kernel
theorem dX11_ahead_335 : decode cX11_ahead 335 = .ok (.iload_n 1, 1) := by decide +kernel
theorem dX11_ahead_336 : decode cX11_ahead 336 = .ok (.putfield 26, 3) := by decide +kernel
theorem dX11_ahead_339 : decode cX11_ahead 339 = .ok (.iload_n 2, 1) := by decide +kernel
theorem dX11_ahead_340 : decode cX11_ahead 340 = .ok (.ifCond .eq 40, 3) := by decide +kernel
theorem dX11_ahead_343 : decode cX11_ahead 343 = .ok (.iload 5, 2) := by decide +kernel
theorem dX11_ahead_345 : decode cX11_ahead 345 = .ok (.bipush 8, 2) := by decide +kernel
theorem dX11_ahead_347 : decode cX11_ahead 347 = .ok (.if_icmp .gt 33, 3) := by decide +kernel
theorem dX11_ahead_350 : decode cX11_ahead 350 = .ok (.aload_n 0, 1) := by decide +kernel
theorem dX11_ahead_351 : decode cX11_ahead 351 = .ok (.getfield 48, 3) := by decide +kernel
theorem dX11_ahead_354 : decode cX11_ahead 354 = .ok (.aload_n 0, 1) := by decide +kernel
theorem dX11_ahead_355 : decode cX11_ahead 355 = .ok (.getfield 23, 3) := by decide +kernel
theorem dX11_ahead_358 : decode cX11_ahead 358 = .ok (.iload 4, 2) := by decide +kernel
theorem dX11_ahead_360 : decode cX11_ahead 360 = .ok (.iadd, 1) := by decide +kernel
theorem dX11_ahead_361 : decode cX11_ahead 361 = .ok (.if_icmp .ne 19, 3) := by decide +kernel
theorem dX11_ahead_364 : decode cX11_ahead 364 = .ok (.aload_n 0, 1) := by decide +kernel
theorem dX11_ahead_365 : decode cX11_ahead 365 = .ok (.aload_n 0, 1) := by decide +kernel
theorem dX11_ahead_366 : decode cX11_ahead 366 = .ok (.getfield 32, 3) := by decide +kernel
theorem dX11_ahead_369 : decode cX11_ahead 369 = .ok (.invokevirtual 267, 3) := by decide +kernel
theorem dX11_ahead_372 : decode cX11_ahead 372 = .ok (.ifCond .eq 8, 3) := by decide +kernel
theorem dX11_ahead_375 : decode cX11_ahead 375 = .ok (.aload_n 0, 1) := by decide +kernel
theorem dX11_ahead_376 : decode cX11_ahead 376 = .ok (.iconst (-1), 1) := by decide +kernel
theorem dX11_ahead_377 : decode cX11_ahead 377 = .ok (.putfield 48, 3) := by decide +kernel
theorem dX11_ahead_380 : decode cX11_ahead 380 = .ok (.return_, 1) := by decide +kernel
set_option maxRecDepth 100000 in
set_option maxHeartbeats 4000000 in
theorem X11_ahead_J35_ok {g : Gm} {w : Wd} (C : Cx g w RX11 cX11_ahead 6 none) {lv : Nat} (hlv : 1 < lv) {N : Nat} {r5 : Nat → Int → Mem → Option Mem } {l0 : Nat} {l1 : Int} {m : Mem} {out : Mem} (hr5 : ∀ l0 l1 m, r5 l0 l1 m = some out → Jd g w 6 (rmL lv 0 0) (Qm g w none out) 5 [some (vR l0), some (vI l1), none, none, none, none] [] 312 m 0 0) (h : X11_ahead_J35 N r5 l0 l1 m = some out) : Jd g w 6 (rmL lv 0 0) (Qm g w none out) 35 [some (vR l0), some (vI l1), none, none, none, none] [] 312 m 0 0 := by
  unfold X11_ahead_J35 at h
  refine j_iinc (ls' := [some (vR _), some (vI _), none, none, none, none]) C dX11_ahead_35 rfl (by decide) rfl ?_
  refine j_goto C 5 dX11_ahead_38 rfl ?_
  exact hr5 _ _ _ h
set_option maxRecDepth 100000 in
set_option maxHeartbeats 4000000 in
theorem X11_ahead_L5_bok {g : Gm} {w : Wd} (C : Cx g w RX11 cX11_ahead 6 none) {lv : Nat} (hlv : 1 < lv) {N : Nat} {k41 : Nat → Int → Mem → Option Mem} {r5 : Nat → Int → Mem → Option Mem} {l0 : Nat} {l1 : Int} {m : Mem} {out : Mem} (hk41 : ∀ l0 l1 m, k41 l0 l1 m = some out → Jd g w 6 (rmL lv 0 0) (Qm g w none out) 41 [some (vR l0), some (vI l1), none, none, none, none] [] 312 m 0 0) (hr5 : ∀ l0 l1 m, r5 l0 l1 m = some out → Jd g w 6 (rmL lv 0 0) (Qm g w none out) 5 [some (vR l0), some (vI l1), none, none, none, none] [] 312 m 0 0) (h : X11_ahead_L5_b N k41 r5 l0 l1 m = some out) : Jd g w 6 (rmL lv 0 0) (Qm g w none out) 5 [some (vR l0), some (vI l1), none, none, none, none] [] 312 m 0 0 := by
  unfold X11_ahead_L5_b at h
  refine j_iload_n C dX11_ahead_5 rfl ?_
  refine j_aload_n C dX11_ahead_6 rfl ?_
  refine j_getI C dX11_ahead_7 CF11 (by decide) fl_X11_17 rfl rfl h (fun t2 h => ?_)
  refine j_icmp_ge C 41 dX11_ahead_10 rfl h (fun c9 h => ?_) (fun c9 h => ?_)
  · exact hk41 _ _ _ h
  · refine j_aload_n C dX11_ahead_13 rfl ?_
    refine j_getR C dX11_ahead_14 CF11 (by decide) fl_X11_7 rfl rfl h (fun t3 h => ?_)
    refine j_iload_n C dX11_ahead_17 rfl ?_
    refine j_iald C dX11_ahead_18 rfl h (fun t4 h => ?_)
    refine j_bipush C dX11_ahead_19 rfl ?_
    refine j_icmp_eq C 35 dX11_ahead_21 rfl h (fun c8 h => ?_) (fun c8 h => ?_)
    · exact X11_ahead_J35_ok C hlv hr5 h
    · refine j_aload_n C dX11_ahead_24 rfl ?_
      refine j_getR C dX11_ahead_25 CF11 (by decide) fl_X11_7 rfl rfl h (fun t5 h => ?_)
      refine j_iload_n C dX11_ahead_28 rfl ?_
      refine j_iald C dX11_ahead_29 rfl h (fun t6 h => ?_)
      refine j_bipush C dX11_ahead_30 rfl ?_
      refine j_icmp_ne C 41 dX11_ahead_32 rfl h (fun c7 h => ?_) (fun c7 h => ?_)
      · exact hk41 _ _ _ h
      · exact X11_ahead_J35_ok C hlv hr5 h
set_option maxRecDepth 100000 in
set_option maxHeartbeats 4000000 in
theorem X11_ahead_L5_ok {g : Gm} {w : Wd} (C : Cx g w RX11 cX11_ahead 6 none) {lv : Nat} (hlv : 1 < lv) {N : Nat} {k41 : Nat → Int → Mem → Option Mem} {out : Mem} (hk41 : ∀ l0 l1 m, k41 l0 l1 m = some out → Jd g w 6 (rmL lv 0 0) (Qm g w none out) 41 [some (vR l0), some (vI l1), none, none, none, none] [] 312 m 0 0) (f : Nat) : ∀ {l0 : Nat} {l1 : Int} {m : Mem}, X11_ahead_L5 N k41 f l0 l1 m = some out → Jd g w 6 (rmL lv 0 0) (Qm g w none out) 5 [some (vR l0), some (vI l1), none, none, none, none] [] 312 m 0 0 := by
  induction f with
  | zero => intro l0 l1 m h; exact none_ne (α := Mem) h
  | succ f ih => intro l0 l1 m h; exact X11_ahead_L5_bok C hlv hk41 (fun l0 l1 m h => ih h) h
set_option maxRecDepth 100000 in
set_option maxHeartbeats 4000000 in
theorem X11_ahead_J325_ok {g : Gm} {w : Wd} (C : Cx g w RX11 cX11_ahead 6 none) {lv : Nat} (hlv : 1 < lv) {N : Nat} {r204 : Nat → Int → Int → Int → Int → Int → Mem → Option Mem } {l0 : Nat} {l1 : Int} {l2 : Int} {l3 : Int} {l4 : Int} {l5 : Int} {m : Mem} {out : Mem} (hr204 : ∀ l0 l1 l2 l3 l4 l5 m, r204 l0 l1 l2 l3 l4 l5 m = some out → Jd g w 6 (rmL lv 0 0) (Qm g w none out) 204 [some (vR l0), some (vI l1), some (vI l2), some (vI l3), some (vI l4), some (vI l5)] [] 312 m 0 0) (h : X11_ahead_J325 N r204 l0 l1 l2 l3 l4 l5 m = some out) : Jd g w 6 (rmL lv 0 0) (Qm g w none out) 325 [some (vR l0), some (vI l1), some (vI l2), some (vI l3), some (vI l4), some (vI l5)] [] 312 m 0 0 := by
  unfold X11_ahead_J325 at h
  refine j_iinc (ls' := [some (vR _), some (vI _), some (vI _), some (vI _), some (vI _), some (vI _)]) C dX11_ahead_325 rfl (by decide) rfl ?_
  refine j_iinc (ls' := [some (vR _), some (vI _), some (vI _), some (vI _), some (vI _), some (vI _)]) C dX11_ahead_328 rfl (by decide) rfl ?_
  refine j_goto C 204 dX11_ahead_331 rfl ?_
  exact hr204 _ _ _ _ _ _ _ h
set_option maxRecDepth 100000 in
set_option maxHeartbeats 4000000 in
theorem X11_ahead_J293_ok {g : Gm} {w : Wd} (C : Cx g w RX11 cX11_ahead 6 none) {lv : Nat} (hlv : 1 < lv) {N : Nat} {r204 : Nat → Int → Int → Int → Int → Int → Mem → Option Mem } {l0 : Nat} {l1 : Int} {l2 : Int} {l3 : Int} {l4 : Int} {l5 : Int} {m : Mem} {out : Mem} (hr204 : ∀ l0 l1 l2 l3 l4 l5 m, r204 l0 l1 l2 l3 l4 l5 m = some out → Jd g w 6 (rmL lv 0 0) (Qm g w none out) 204 [some (vR l0), some (vI l1), some (vI l2), some (vI l3), some (vI l4), some (vI l5)] [] 312 m 0 0) (h : X11_ahead_J293 N r204 l0 l1 l2 l3 l4 l5 m = some out) : Jd g w 6 (rmL lv 0 0) (Qm g w none out) 293 [some (vR l0), some (vI l1), some (vI l2), some (vI l3), some (vI l4), some (vI l5)] [] 312 m 0 0 := by
  unfold X11_ahead_J293 at h
  refine j_iload C dX11_ahead_293 rfl ?_
  refine j_iload C dX11_ahead_295 rfl ?_
  refine j_icmp_ge C 325 dX11_ahead_297 rfl h (fun c38 h => ?_) (fun c38 h => ?_)
  · exact X11_ahead_J325_ok C hlv hr204 h
  · refine j_iload_n C dX11_ahead_300 rfl ?_
    refine j_if_eq C 325 dX11_ahead_301 rfl h (fun c37 h => ?_) (fun c37 h => ?_)
    · exact X11_ahead_J325_ok C hlv hr204 h
    · refine j_aload_n C dX11_ahead_304 rfl ?_
      refine j_bipush C dX11_ahead_305 rfl ?_
      refine j_aload_n C dX11_ahead_307 rfl ?_
      refine j_getI C dX11_ahead_308 CF11 (by decide) fl_X11_29 rfl rfl h (fun t33 h => ?_)
      refine j_imul C dX11_ahead_311 ?_
      refine j_aload_n C dX11_ahead_312 rfl ?_
      refine j_getR C dX11_ahead_313 CF11 (by decide) fl_X11_7 rfl rfl h (fun t34 h => ?_)
      refine j_iload_n C dX11_ahead_316 rfl ?_
      refine j_iald C dX11_ahead_317 rfl h (fun t35 h => ?_)
      refine j_iadd C dX11_ahead_318 ?_
      refine j_bipush C dX11_ahead_319 rfl ?_
      refine j_isub C dX11_ahead_321 ?_
      refine j_putI C dX11_ahead_322 CF11 (by decide) fl_X11_29 rfl rfl rfl rfl h (fun m36 h => ?_)
      exact X11_ahead_J325_ok C hlv hr204 h
set_option maxRecDepth 100000 in
set_option maxHeartbeats 4000000 in
theorem X11_ahead_J263_ok {g : Gm} {w : Wd} (C : Cx g w RX11 cX11_ahead 6 none) {lv : Nat} (hlv : 1 < lv) {N : Nat} {r204 : Nat → Int → Int → Int → Int → Int → Mem → Option Mem } {l0 : Nat} {l1 : Int} {l2 : Int} {l3 : Int} {l4 : Int} {l5 : Int} {m : Mem} {out : Mem} (hr204 : ∀ l0 l1 l2 l3 l4 l5 m, r204 l0 l1 l2 l3 l4 l5 m = some out → Jd g w 6 (rmL lv 0 0) (Qm g w none out) 204 [some (vR l0), some (vI l1), some (vI l2), some (vI l3), some (vI l4), some (vI l5)] [] 312 m 0 0) (h : X11_ahead_J263 N r204 l0 l1 l2 l3 l4 l5 m = some out) : Jd g w 6 (rmL lv 0 0) (Qm g w none out) 263 [some (vR l0), some (vI l1), some (vI l2), some (vI l3), some (vI l4), some (vI l5)] [] 312 m 0 0 := by
  unfold X11_ahead_J263 at h
  refine j_iload C dX11_ahead_263 rfl ?_
  refine j_bipush C dX11_ahead_265 rfl ?_
  refine j_icmp_ge C 293 dX11_ahead_267 rfl h (fun c44 h => ?_) (fun c44 h => ?_)
  · exact X11_ahead_J293_ok C hlv hr204 h
  · refine j_iload_n C dX11_ahead_270 rfl ?_
    refine j_if_eq C 293 dX11_ahead_271 rfl h (fun c43 h => ?_) (fun c43 h => ?_)
    · exact X11_ahead_J293_ok C hlv hr204 h
    · refine j_aload_n C dX11_ahead_274 rfl ?_
      refine j_aload_n C dX11_ahead_275 rfl ?_
      refine j_getL C dX11_ahead_276 CF11 (by decide) fl_X11_32 rfl rfl h (fun t39 h => ?_)
      refine j_bipush C dX11_ahead_279 rfl ?_
      refine j_lshl C dX11_ahead_281 ?_
      refine j_aload_n C dX11_ahead_282 rfl ?_
      refine j_getR C dX11_ahead_283 CF11 (by decide) fl_X11_7 rfl rfl h (fun t40 h => ?_)
      refine j_iload_n C dX11_ahead_286 rfl ?_
      refine j_iald C dX11_ahead_287 rfl h (fun t41 h => ?_)
      refine j_i2l C dX11_ahead_288 ?_
      refine j_lor C dX11_ahead_289 ?_
      refine j_putL C dX11_ahead_290 CF11 (by decide) fl_X11_32 rfl rfl rfl rfl h (fun m42 h => ?_)
      exact X11_ahead_J293_ok C hlv hr204 h
set_option maxRecDepth 100000 in
set_option maxHeartbeats 4000000 in
theorem X11_ahead_J243_ok {g : Gm} {w : Wd} (C : Cx g w RX11 cX11_ahead 6 none) {lv : Nat} (hlv : 1 < lv) {N : Nat} {r204 : Nat → Int → Int → Int → Int → Int → Mem → Option Mem } {l0 : Nat} {l1 : Int} {l2 : Int} {l3 : Int} {l4 : Int} {l5 : Int} {m : Mem} {out : Mem} (hr204 : ∀ l0 l1 l2 l3 l4 l5 m, r204 l0 l1 l2 l3 l4 l5 m = some out → Jd g w 6 (rmL lv 0 0) (Qm g w none out) 204 [some (vR l0), some (vI l1), some (vI l2), some (vI l3), some (vI l4), some (vI l5)] [] 312 m 0 0) (h : X11_ahead_J243 N r204 l0 l1 l2 l3 l4 l5 m = some out) : Jd g w 6 (rmL lv 0 0) (Qm g w none out) 243 [some (vR l0), some (vI l1), some (vI l2), some (vI l3), some (vI l4), some (vI l5)] [] 312 m 0 0 := by
  unfold X11_ahead_J243 at h
  refine j_iload C dX11_ahead_243 rfl ?_
  refine j_iload C dX11_ahead_245 rfl ?_
  refine j_icmp_ne C 263 dX11_ahead_247 rfl h (fun c48 h => ?_) (fun c48 h => ?_)
  · exact X11_ahead_J263_ok C hlv hr204 h
  · refine j_aload_n C dX11_ahead_250 rfl ?_
    refine j_getI C dX11_ahead_251 CF11 (by decide) fl_X11_48 rfl rfl h (fun t45 h => ?_)
    refine j_iconst C dX11_ahead_254 rfl ?_
    refine j_icmp_ne C 263 dX11_ahead_255 rfl h (fun c47 h => ?_) (fun c47 h => ?_)
    · exact X11_ahead_J263_ok C hlv hr204 h
    · refine j_aload_n C dX11_ahead_258 rfl ?_
      refine j_iload_n C dX11_ahead_259 rfl ?_
      refine j_putI C dX11_ahead_260 CF11 (by decide) fl_X11_48 rfl rfl rfl rfl h (fun m46 h => ?_)
      exact X11_ahead_J263_ok C hlv hr204 h
set_option maxRecDepth 100000 in
set_option maxHeartbeats 4000000 in
theorem X11_ahead_L204_bok {g : Gm} {w : Wd} (C : Cx g w RX11 cX11_ahead 6 none) {lv : Nat} (hlv : 1 < lv) {N : Nat} {k334 : Nat → Int → Int → Int → Int → Mem → Option Mem} {r204 : Nat → Int → Int → Int → Int → Int → Mem → Option Mem} {l0 : Nat} {l1 : Int} {l2 : Int} {l3 : Int} {l4 : Int} {l5 : Int} {m : Mem} {out : Mem} (hk334 : ∀ l0 l1 l2 l4 l5 m, k334 l0 l1 l2 l4 l5 m = some out → Jd g w 6 (rmL lv 0 0) (Qm g w none out) 334 [some (vR l0), some (vI l1), some (vI l2), none, some (vI l4), some (vI l5)] [] 312 m 0 0) (hr204 : ∀ l0 l1 l2 l3 l4 l5 m, r204 l0 l1 l2 l3 l4 l5 m = some out → Jd g w 6 (rmL lv 0 0) (Qm g w none out) 204 [some (vR l0), some (vI l1), some (vI l2), some (vI l3), some (vI l4), some (vI l5)] [] 312 m 0 0) (h : X11_ahead_L204_b N k334 r204 l0 l1 l2 l3 l4 l5 m = some out) : Jd g w 6 (rmL lv 0 0) (Qm g w none out) 204 [some (vR l0), some (vI l1), some (vI l2), some (vI l3), some (vI l4), some (vI l5)] [] 312 m 0 0 := by
  unfold X11_ahead_L204_b at h
  refine j_iload_n C dX11_ahead_204 rfl ?_
  refine j_aload_n C dX11_ahead_205 rfl ?_
  refine j_getI C dX11_ahead_206 CF11 (by decide) fl_X11_17 rfl rfl h (fun t29 h => ?_)
  refine j_icmp_ge C 334 dX11_ahead_209 rfl h (fun c55 h => ?_) (fun c55 h => ?_)
  · refine j_mask [true, true, true, false, true, true] (ls' := [some (vR _), some (vI _), some (vI _), none, some (vI _), some (vI _)]) rfl ?_
    exact hk334 _ _ _ _ _ _ h
  · refine j_iload_n C dX11_ahead_212 rfl ?_
    refine j_if_eq C 231 dX11_ahead_213 rfl h (fun c54 h => ?_) (fun c54 h => ?_)
    · refine j_aload_n C dX11_ahead_231 rfl ?_
      refine j_getR C dX11_ahead_232 CF11 (by decide) fl_X11_7 rfl rfl h (fun t30 h => ?_)
      refine j_iload_n C dX11_ahead_235 rfl ?_
      refine j_iald C dX11_ahead_236 rfl h (fun t31 h => ?_)
      obtain ⟨p32, ep32, h⟩ := bind_some h
      have qp32 := X11_isDigit_ct ep32
      refine j_cSI C dX11_ahead_237 sl_X11_264 qp32 (by omega) rfl rfl (Nat.le_of_ble_eq_true rfl) ?_
      refine j_if_eq C 334 dX11_ahead_240 rfl h (fun c49 h => ?_) (fun c49 h => ?_)
      · refine j_mask [true, true, true, false, true, true] (ls' := [some (vR _), some (vI _), some (vI _), none, some (vI _), some (vI _)]) rfl ?_
        exact hk334 _ _ _ _ _ _ h
      · exact X11_ahead_J243_ok C hlv hr204 h
    · refine j_aload_n C dX11_ahead_216 rfl ?_
      refine j_getR C dX11_ahead_217 CF11 (by decide) fl_X11_7 rfl rfl h (fun t50 h => ?_)
      refine j_iload_n C dX11_ahead_220 rfl ?_
      refine j_iald C dX11_ahead_221 rfl h (fun t51 h => ?_)
      obtain ⟨p52, ep52, h⟩ := bind_some h
      have qp52 := X11_isLetter_ct ep52
      refine j_cSI C dX11_ahead_222 sl_X11_260 qp52 (by omega) rfl rfl (Nat.le_of_ble_eq_true rfl) ?_
      refine j_if_eq C 334 dX11_ahead_225 rfl h (fun c53 h => ?_) (fun c53 h => ?_)
      · refine j_mask [true, true, true, false, true, true] (ls' := [some (vR _), some (vI _), some (vI _), none, some (vI _), some (vI _)]) rfl ?_
        exact hk334 _ _ _ _ _ _ h
      · refine j_goto C 243 dX11_ahead_228 rfl ?_
        exact X11_ahead_J243_ok C hlv hr204 h
set_option maxRecDepth 100000 in
set_option maxHeartbeats 4000000 in
theorem X11_ahead_L204_ok {g : Gm} {w : Wd} (C : Cx g w RX11 cX11_ahead 6 none) {lv : Nat} (hlv : 1 < lv) {N : Nat} {k334 : Nat → Int → Int → Int → Int → Mem → Option Mem} {out : Mem} (hk334 : ∀ l0 l1 l2 l4 l5 m, k334 l0 l1 l2 l4 l5 m = some out → Jd g w 6 (rmL lv 0 0) (Qm g w none out) 334 [some (vR l0), some (vI l1), some (vI l2), none, some (vI l4), some (vI l5)] [] 312 m 0 0) (f : Nat) : ∀ {l0 : Nat} {l1 : Int} {l2 : Int} {l3 : Int} {l4 : Int} {l5 : Int} {m : Mem}, X11_ahead_L204 N k334 f l0 l1 l2 l3 l4 l5 m = some out → Jd g w 6 (rmL lv 0 0) (Qm g w none out) 204 [some (vR l0), some (vI l1), some (vI l2), some (vI l3), some (vI l4), some (vI l5)] [] 312 m 0 0 := by
  induction f with
  | zero => intro l0 l1 l2 l3 l4 l5 m h; exact none_ne (α := Mem) h
  | succ f ih => intro l0 l1 l2 l3 l4 l5 m h; exact X11_ahead_L204_bok C hlv hk334 (fun l0 l1 l2 l3 l4 l5 m h => ih h) h
set_option maxRecDepth 100000 in
set_option maxHeartbeats 4000000 in
theorem X11_ahead_J199_ok {g : Gm} {w : Wd} (C : Cx g w RX11 cX11_ahead 6 none) {lv : Nat} (hlv : 1 < lv) {N : Nat} {l0 : Nat} {l1 : Int} {l2 : Int} {l3 : Int} {s0 : Int} {m : Mem} {out : Mem} (h : X11_ahead_J199 N l0 l1 l2 l3 s0 m = some out) : Jd g w 6 (rmL lv 0 0) (Qm g w none out) 199 [some (vR l0), some (vI l1), some (vI l2), some (vI l3), none, none] [vI s0] 312 m 0 0 := by
  unfold X11_ahead_J199 at h
  refine j_istore (ls' := [some (vR _), some (vI _), some (vI _), some (vI _), some (vI _), none]) C dX11_ahead_199 (by decide) rfl ?_
  refine j_iconst C dX11_ahead_201 rfl ?_
  refine j_istore (ls' := [some (vR _), some (vI _), some (vI _), some (vI _), some (vI _), some (vI _)]) C dX11_ahead_202 (by decide) rfl ?_
  refine X11_ahead_L204_ok C hlv (fun z56 z57 z58 z59 z60 m61 h => ?_) N h
  refine j_aload_n C dX11_ahead_334 rfl ?_
  refine j_iload_n C dX11_ahead_335 rfl ?_
  refine j_putI C dX11_ahead_336 CF11 (by decide) fl_X11_26 rfl rfl rfl rfl h (fun m62 h => ?_)
  refine j_iload_n C dX11_ahead_339 rfl ?_
  refine j_if_eq C 380 dX11_ahead_340 rfl h (fun c71 h => ?_) (fun c71 h => ?_)
  · have e := Option.some.inj h
    subst e
    exact j_rv C dX11_ahead_380 rfl rfl
  · refine j_iload C dX11_ahead_343 rfl ?_
    refine j_bipush C dX11_ahead_345 rfl ?_
    refine j_icmp_gt C 380 dX11_ahead_347 rfl h (fun c70 h => ?_) (fun c70 h => ?_)
    · have e := Option.some.inj h
      subst e
      exact j_rv C dX11_ahead_380 rfl rfl
    · refine j_aload_n C dX11_ahead_350 rfl ?_
      refine j_getI C dX11_ahead_351 CF11 (by decide) fl_X11_48 rfl rfl h (fun t63 h => ?_)
      refine j_aload_n C dX11_ahead_354 rfl ?_
      refine j_getI C dX11_ahead_355 CF11 (by decide) fl_X11_23 rfl rfl h (fun t64 h => ?_)
      refine j_iload C dX11_ahead_358 rfl ?_
      refine j_iadd C dX11_ahead_360 ?_
      refine j_icmp_ne C 380 dX11_ahead_361 rfl h (fun c69 h => ?_) (fun c69 h => ?_)
      · have e := Option.some.inj h
        subst e
        exact j_rv C dX11_ahead_380 rfl rfl
      · refine j_aload_n C dX11_ahead_364 rfl ?_
        refine j_aload_n C dX11_ahead_365 rfl ?_
        refine j_getL C dX11_ahead_366 CF11 (by decide) fl_X11_32 rfl rfl h (fun t65 h => ?_)
        obtain ⟨p66, ep66, h⟩ := bind_some h
        have qp66 := X11_isOwn_ct ep66
        refine j_cVI C dX11_ahead_369 vl_X11_267 CF11 rfl qp66.1 qp66.2 (by omega) rfl rfl (Nat.le_of_ble_eq_true rfl) ?_
        refine j_if_eq C 380 dX11_ahead_372 rfl h (fun c68 h => ?_) (fun c68 h => ?_)
        · have e := Option.some.inj h
          subst e
          exact j_rv C dX11_ahead_380 rfl rfl
        · refine j_aload_n C dX11_ahead_375 rfl ?_
          refine j_iconst C dX11_ahead_376 rfl ?_
          refine j_putI C dX11_ahead_377 CF11 (by decide) fl_X11_48 rfl rfl rfl rfl h (fun m67 h => ?_)
          have e := Option.some.inj h
          subst e
          exact j_rv C dX11_ahead_380 rfl rfl
set_option maxRecDepth 100000 in
set_option maxHeartbeats 4000000 in
theorem X11_ahead_J186_ok {g : Gm} {w : Wd} (C : Cx g w RX11 cX11_ahead 6 none) {lv : Nat} (hlv : 1 < lv) {N : Nat} {l0 : Nat} {l1 : Int} {l2 : Int} {l3 : Int} {s0 : Nat} {s1 : Int} {m : Mem} {out : Mem} (h : X11_ahead_J186 N l0 l1 l2 l3 s0 s1 m = some out) : Jd g w 6 (rmL lv 0 0) (Qm g w none out) 186 [some (vR l0), some (vI l1), some (vI l2), some (vI l3), none, none] [vI s1, vR s0] 312 m 0 0 := by
  unfold X11_ahead_J186 at h
  refine j_putI C dX11_ahead_186 CF11 (by decide) fl_X11_20 rfl rfl rfl rfl h (fun m28 h => ?_)
  refine j_iload_n C dX11_ahead_189 rfl ?_
  refine j_if_eq C 198 dX11_ahead_190 rfl h (fun c72 h => ?_) (fun c72 h => ?_)
  · refine j_iconst C dX11_ahead_198 rfl ?_
    exact X11_ahead_J199_ok C hlv h
  · refine j_bipush C dX11_ahead_193 rfl ?_
    refine j_goto C 199 dX11_ahead_195 rfl ?_
    exact X11_ahead_J199_ok C hlv h
set_option maxRecDepth 100000 in
set_option maxHeartbeats 4000000 in
theorem X11_ahead_J176_ok {g : Gm} {w : Wd} (C : Cx g w RX11 cX11_ahead 6 none) {lv : Nat} (hlv : 1 < lv) {N : Nat} {l0 : Nat} {l1 : Int} {l2 : Int} {l3 : Int} {m : Mem} {out : Mem} (h : X11_ahead_J176 N l0 l1 l2 l3 m = some out) : Jd g w 6 (rmL lv 0 0) (Qm g w none out) 176 [some (vR l0), some (vI l1), some (vI l2), some (vI l3), none, none] [] 312 m 0 0 := by
  unfold X11_ahead_J176 at h
  refine j_aload_n C dX11_ahead_176 rfl ?_
  refine j_iload_n C dX11_ahead_177 rfl ?_
  refine j_if_eq C 185 dX11_ahead_178 rfl h (fun c73 h => ?_) (fun c73 h => ?_)
  · refine j_iconst C dX11_ahead_185 rfl ?_
    exact X11_ahead_J186_ok C hlv h
  · refine j_iconst C dX11_ahead_181 rfl ?_
    refine j_goto C 186 dX11_ahead_182 rfl ?_
    exact X11_ahead_J186_ok C hlv h
set_option maxRecDepth 100000 in
set_option maxHeartbeats 4000000 in
theorem X11_ahead_J135_ok {g : Gm} {w : Wd} (C : Cx g w RX11 cX11_ahead 6 none) {lv : Nat} (hlv : 1 < lv) {N : Nat} {l0 : Nat} {l1 : Int} {l2 : Int} {l3 : Int} {m : Mem} {out : Mem} (h : X11_ahead_J135 N l0 l1 l2 l3 m = some out) : Jd g w 6 (rmL lv 0 0) (Qm g w none out) 135 [some (vR l0), some (vI l1), some (vI l2), some (vI l3), none, none] [] 312 m 0 0 := by
  unfold X11_ahead_J135 at h
  refine j_aload_n C dX11_ahead_135 rfl ?_
  refine j_iconst C dX11_ahead_136 rfl ?_
  refine j_putI C dX11_ahead_137 CF11 (by decide) fl_X11_29 rfl rfl rfl rfl h (fun m24 h => ?_)
  refine j_aload_n C dX11_ahead_140 rfl ?_
  refine j_lconst (v := 0) C dX11_ahead_141 rfl rfl ?_
  refine j_putL C dX11_ahead_142 CF11 (by decide) fl_X11_32 rfl rfl rfl rfl h (fun m25 h => ?_)
  refine j_aload_n C dX11_ahead_145 rfl ?_
  refine j_iconst C dX11_ahead_146 rfl ?_
  refine j_putI C dX11_ahead_147 CF11 (by decide) fl_X11_20 rfl rfl rfl rfl h (fun m26 h => ?_)
  refine j_aload_n C dX11_ahead_150 rfl ?_
  refine j_iload_n C dX11_ahead_151 rfl ?_
  refine j_iconst C dX11_ahead_152 rfl ?_
  refine j_iadd C dX11_ahead_153 ?_
  refine j_putI C dX11_ahead_154 CF11 (by decide) fl_X11_26 rfl rfl rfl rfl h (fun m27 h => ?_)
  refine j_iload_n C dX11_ahead_157 rfl ?_
  refine j_if_ne C 176 dX11_ahead_158 rfl h (fun c78 h => ?_) (fun c78 h => ?_)
  · exact X11_ahead_J176_ok C hlv h
  · refine j_iload_n C dX11_ahead_161 rfl ?_
    refine j_if_ne C 176 dX11_ahead_162 rfl h (fun c77 h => ?_) (fun c77 h => ?_)
    · exact X11_ahead_J176_ok C hlv h
    · refine j_aload_n C dX11_ahead_165 rfl ?_
      refine j_aload_n C dX11_ahead_166 rfl ?_
      refine j_getR C dX11_ahead_167 CF11 (by decide) fl_X11_7 rfl rfl h (fun t74 h => ?_)
      refine j_iload_n C dX11_ahead_170 rfl ?_
      refine j_iald C dX11_ahead_171 rfl h (fun t75 h => ?_)
      refine j_putI C dX11_ahead_172 CF11 (by decide) fl_X11_29 rfl rfl rfl rfl h (fun m76 h => ?_)
      have e := Option.some.inj h
      subst e
      exact j_rv C dX11_ahead_175 rfl rfl
set_option maxRecDepth 100000 in
set_option maxHeartbeats 4000000 in
theorem X11_ahead_J130_ok {g : Gm} {w : Wd} (C : Cx g w RX11 cX11_ahead 6 none) {lv : Nat} (hlv : 1 < lv) {N : Nat} {l0 : Nat} {l1 : Int} {l2 : Int} {l3 : Int} {m : Mem} {out : Mem} (h : X11_ahead_J130 N l0 l1 l2 l3 m = some out) : Jd g w 6 (rmL lv 0 0) (Qm g w none out) 130 [some (vR l0), some (vI l1), some (vI l2), some (vI l3), none, none] [] 312 m 0 0 := by
  unfold X11_ahead_J130 at h
  refine j_aload_n C dX11_ahead_130 rfl ?_
  refine j_iload_n C dX11_ahead_131 rfl ?_
  refine j_putI C dX11_ahead_132 CF11 (by decide) fl_X11_48 rfl rfl rfl rfl h (fun m82 h => ?_)
  exact X11_ahead_J135_ok C hlv h
set_option maxRecDepth 100000 in
set_option maxHeartbeats 4000000 in
theorem X11_ahead_J98_ok {g : Gm} {w : Wd} (C : Cx g w RX11 cX11_ahead 6 none) {lv : Nat} (hlv : 1 < lv) {N : Nat} {l0 : Nat} {l1 : Int} {l2 : Int} {l3 : Int} {m : Mem} {out : Mem} (h : X11_ahead_J98 N l0 l1 l2 l3 m = some out) : Jd g w 6 (rmL lv 0 0) (Qm g w none out) 98 [some (vR l0), some (vI l1), some (vI l2), some (vI l3), none, none] [] 312 m 0 0 := by
  unfold X11_ahead_J98 at h
  refine j_iload_n C dX11_ahead_98 rfl ?_
  refine j_if_le C 135 dX11_ahead_99 rfl h (fun c88 h => ?_) (fun c88 h => ?_)
  · exact X11_ahead_J135_ok C hlv h
  · refine j_aload_n C dX11_ahead_102 rfl ?_
    refine j_getR C dX11_ahead_103 CF11 (by decide) fl_X11_7 rfl rfl h (fun t79 h => ?_)
    refine j_iload_n C dX11_ahead_106 rfl ?_
    refine j_iconst C dX11_ahead_107 rfl ?_
    refine j_isub C dX11_ahead_108 ?_
    refine j_iald C dX11_ahead_109 rfl h (fun t80 h => ?_)
    obtain ⟨p81, ep81, h⟩ := bind_some h
    have qp81 := X11_isLetter_ct ep81
    refine j_cSI C dX11_ahead_110 sl_X11_260 qp81 (by omega) rfl rfl (Nat.le_of_ble_eq_true rfl) ?_
    refine j_if_ne C 130 dX11_ahead_113 rfl h (fun c87 h => ?_) (fun c87 h => ?_)
    · exact X11_ahead_J130_ok C hlv h
    · refine j_aload_n C dX11_ahead_116 rfl ?_
      refine j_getR C dX11_ahead_117 CF11 (by decide) fl_X11_7 rfl rfl h (fun t83 h => ?_)
      refine j_iload_n C dX11_ahead_120 rfl ?_
      refine j_iconst C dX11_ahead_121 rfl ?_
      refine j_isub C dX11_ahead_122 ?_
      refine j_iald C dX11_ahead_123 rfl h (fun t84 h => ?_)
      obtain ⟨p85, ep85, h⟩ := bind_some h
      have qp85 := X11_isDigit_ct ep85
      refine j_cSI C dX11_ahead_124 sl_X11_264 qp85 (by omega) rfl rfl (Nat.le_of_ble_eq_true rfl) ?_
      refine j_if_eq C 135 dX11_ahead_127 rfl h (fun c86 h => ?_) (fun c86 h => ?_)
      · exact X11_ahead_J135_ok C hlv h
      · exact X11_ahead_J130_ok C hlv h
set_option maxRecDepth 100000 in
set_option maxHeartbeats 4000000 in
theorem X11_ahead_ct {N : Nat} {l0 : Nat} {m : Mem} {out : Mem} (h : X11_ahead N l0 m = some out) : shK l0 = 11 + 10 ∧ CT yX11_ahead cX11_ahead 6 none 2 0 0 [vR l0] 312 m none 312 out := by
  unfold X11_ahead at h
  obtain ⟨hK, h⟩ := ite_some h
  have hlv : 1 < 2 := by decide
  refine ⟨hK, CT.of (by decide +kernel) rfl (Nat.le_of_ble_eq_true rfl) (ls := [some (vR l0), none, none, none, none, none]) rfl fun g w C _ => ?_⟩
  refine j_aload_n C dX11_ahead_0 rfl ?_
  refine j_getI C dX11_ahead_1 CF11 (by decide) fl_X11_26 rfl rfl h (fun t1 h => ?_)
  refine j_istore_n (ls' := [some (vR _), some (vI _), none, none, none, none]) C dX11_ahead_4 (by decide) rfl ?_
  refine X11_ahead_L5_ok C hlv (fun z10 z11 m12 h => ?_) N h
  refine j_aload_n C dX11_ahead_41 rfl ?_
  refine j_iload_n C dX11_ahead_42 rfl ?_
  refine j_putI C dX11_ahead_43 CF11 (by decide) fl_X11_23 rfl rfl rfl rfl h (fun m13 h => ?_)
  refine j_aload_n C dX11_ahead_46 rfl ?_
  refine j_iload_n C dX11_ahead_47 rfl ?_
  refine j_putI C dX11_ahead_48 CF11 (by decide) fl_X11_26 rfl rfl rfl rfl h (fun m14 h => ?_)
  refine j_aload_n C dX11_ahead_51 rfl ?_
  refine j_iconst C dX11_ahead_52 rfl ?_
  refine j_putI C dX11_ahead_53 CF11 (by decide) fl_X11_20 rfl rfl rfl rfl h (fun m15 h => ?_)
  refine j_aload_n C dX11_ahead_56 rfl ?_
  refine j_iconst C dX11_ahead_57 rfl ?_
  refine j_putI C dX11_ahead_58 CF11 (by decide) fl_X11_48 rfl rfl rfl rfl h (fun m16 h => ?_)
  refine j_iload_n C dX11_ahead_61 rfl ?_
  refine j_aload_n C dX11_ahead_62 rfl ?_
  refine j_getI C dX11_ahead_63 CF11 (by decide) fl_X11_17 rfl rfl h (fun t17 h => ?_)
  refine j_icmp_lt C 70 dX11_ahead_66 rfl h (fun c91 h => ?_) (fun c91 h => ?_)
  · refine j_aload_n C dX11_ahead_70 rfl ?_
    refine j_getR C dX11_ahead_71 CF11 (by decide) fl_X11_7 rfl rfl h (fun t18 h => ?_)
    refine j_iload_n C dX11_ahead_74 rfl ?_
    refine j_iald C dX11_ahead_75 rfl h (fun t19 h => ?_)
    obtain ⟨p20, ep20, h⟩ := bind_some h
    have qp20 := X11_isLetter_ct ep20
    refine j_cSI C dX11_ahead_76 sl_X11_260 qp20 (by omega) rfl rfl (Nat.le_of_ble_eq_true rfl) ?_
    refine j_istore_n (ls' := [some (vR _), some (vI _), some (vI _), none, none, none]) C dX11_ahead_79 (by decide) rfl ?_
    refine j_aload_n C dX11_ahead_80 rfl ?_
    refine j_getR C dX11_ahead_81 CF11 (by decide) fl_X11_7 rfl rfl h (fun t21 h => ?_)
    refine j_iload_n C dX11_ahead_84 rfl ?_
    refine j_iald C dX11_ahead_85 rfl h (fun t22 h => ?_)
    obtain ⟨p23, ep23, h⟩ := bind_some h
    have qp23 := X11_isDigit_ct ep23
    refine j_cSI C dX11_ahead_86 sl_X11_264 qp23 (by omega) rfl rfl (Nat.le_of_ble_eq_true rfl) ?_
    refine j_istore_n (ls' := [some (vR _), some (vI _), some (vI _), some (vI _), none, none]) C dX11_ahead_89 (by decide) rfl ?_
    refine j_iload_n C dX11_ahead_90 rfl ?_
    refine j_if_ne C 98 dX11_ahead_91 rfl h (fun c90 h => ?_) (fun c90 h => ?_)
    · exact X11_ahead_J98_ok C hlv h
    · refine j_iload_n C dX11_ahead_94 rfl ?_
      refine j_if_eq C 135 dX11_ahead_95 rfl h (fun c89 h => ?_) (fun c89 h => ?_)
      · exact X11_ahead_J135_ok C hlv h
      · exact X11_ahead_J98_ok C hlv h
  · have e := Option.some.inj h
    subst e
    exact j_rv C dX11_ahead_69 rfl rfl
theorem dX11_is_0 : decode cX11_is 0 = .ok (.iload_n 0, 1) := by decide +kernel
theorem dX11_is_1 : decode cX11_is 1 = .ok (.iload_n 1, 1) := by decide +kernel
theorem dX11_is_2 : decode cX11_is 2 = .ok (.if_icmp .lt 12, 3) := by decide +kernel
theorem dX11_is_5 : decode cX11_is 5 = .ok (.iload_n 0, 1) := by decide +kernel
theorem dX11_is_6 : decode cX11_is 6 = .ok (.iload_n 2, 1) := by decide +kernel
theorem dX11_is_7 : decode cX11_is 7 = .ok (.if_icmp .gt 7, 3) := by decide +kernel
theorem dX11_is_10 : decode cX11_is 10 = .ok (.iconst 1, 1) := by decide +kernel
theorem dX11_is_11 : decode cX11_is 11 = .ok (.goto 4, 3) := by decide +kernel
theorem dX11_is_14 : decode cX11_is 14 = .ok (.iconst 0, 1) := by decide +kernel
theorem dX11_is_15 : decode cX11_is 15 = .ok (.ireturn, 1) := by decide +kernel
set_option maxRecDepth 100000 in
set_option maxHeartbeats 4000000 in
theorem X11_is_ct {l0 : Int} {l1 : Int} {l2 : Int} {m : Mem} {out : Int} (h : X11_is l0 l1 l2 m = some out) : CT yX11_is cX11_is 3 (some .boolean) 1 0 0 [vI l0, vI l1, vI l2] 312 m (some (vI out)) 312 m := by
  unfold X11_is at h
  have hlv : 0 < 1 := by decide
  refine CT.of (by decide +kernel) rfl (Nat.le_of_ble_eq_true rfl) (ls := [some (vI l0), some (vI l1), some (vI l2)]) rfl fun g w C _ => ?_
  refine j_iload_n C dX11_is_0 rfl ?_
  refine j_iload_n C dX11_is_1 rfl ?_
  refine j_icmp_lt C 14 dX11_is_2 rfl h (fun c2 h => ?_) (fun c2 h => ?_)
  · refine j_iconst C dX11_is_14 rfl ?_
    exact j_rz C dX11_is_15 rfl (retZ_some h) rfl
  · refine j_iload_n C dX11_is_5 rfl ?_
    refine j_iload_n C dX11_is_6 rfl ?_
    refine j_icmp_gt C 14 dX11_is_7 rfl h (fun c1 h => ?_) (fun c1 h => ?_)
    · refine j_iconst C dX11_is_14 rfl ?_
      exact j_rz C dX11_is_15 rfl (retZ_some h) rfl
    · refine j_iconst C dX11_is_10 rfl ?_
      refine j_goto C 15 dX11_is_11 rfl ?_
      exact j_rz C dX11_is_15 rfl (retZ_some h) rfl
theorem dX11_sortOf_0 : decode cX11_sortOf 0 = .ok (.aload_n 0, 1) := by decide +kernel
theorem dX11_sortOf_1 : decode cX11_sortOf 1 = .ok (.getfield 84, 3) := by decide +kernel
theorem dX11_sortOf_4 : decode cX11_sortOf 4 = .ok (.bipush 10, 2) := by decide +kernel
theorem dX11_sortOf_6 : decode cX11_sortOf 6 = .ok (.aload_n 0, 1) := by decide +kernel
theorem dX11_sortOf_7 : decode cX11_sortOf 7 = .ok (.getfield 51, 3) := by decide +kernel
theorem dX11_sortOf_10 : decode cX11_sortOf 10 = .ok (.imul, 1) := by decide +kernel
theorem dX11_sortOf_11 : decode cX11_sortOf 11 = .ok (.iload_n 1, 1) := by decide +kernel
theorem dX11_sortOf_12 : decode cX11_sortOf 12 = .ok (.iadd, 1) := by decide +kernel
theorem dX11_sortOf_13 : decode cX11_sortOf 13 = .ok (.iaload, 1) := by decide +kernel
theorem dX11_sortOf_14 : decode cX11_sortOf 14 = .ok (.ireturn, 1) := by decide +kernel
set_option maxRecDepth 100000 in
set_option maxHeartbeats 4000000 in
theorem X11_sortOf_ct {l0 : Nat} {l1 : Int} {m : Mem} {out : Int} (h : X11_sortOf l0 l1 m = some out) : shK l0 = 11 + 10 ∧ CT yX11_sortOf cX11_sortOf 2 (some .int) 1 0 0 [vR l0, vI l1] 312 m (some (vI out)) 312 m := by
  unfold X11_sortOf at h
  obtain ⟨hK, h⟩ := ite_some h
  have hlv : 0 < 1 := by decide
  refine ⟨hK, CT.of (by decide +kernel) rfl (Nat.le_of_ble_eq_true rfl) (ls := [some (vR l0), some (vI l1)]) rfl fun g w C _ => ?_⟩
  refine j_aload_n C dX11_sortOf_0 rfl ?_
  refine j_getR C dX11_sortOf_1 CF11 (by decide) fl_X11_84 rfl rfl h (fun t1 h => ?_)
  refine j_bipush C dX11_sortOf_4 rfl ?_
  refine j_aload_n C dX11_sortOf_6 rfl ?_
  refine j_getI C dX11_sortOf_7 CF11 (by decide) fl_X11_51 rfl rfl h (fun t2 h => ?_)
  refine j_imul C dX11_sortOf_10 ?_
  refine j_iload_n C dX11_sortOf_11 rfl ?_
  refine j_iadd C dX11_sortOf_12 ?_
  refine j_iald C dX11_sortOf_13 rfl h (fun t3 h => ?_)
  exact j_ri C dX11_sortOf_14 rfl (Option.some.inj h).symm rfl
theorem dX11_cloths_0 : decode cX11_cloths 0 = .ok (.iconst 0, 1) := by decide +kernel
theorem dX11_cloths_1 : decode cX11_cloths 1 = .ok (.istore_n 1, 1) := by decide +kernel
theorem dX11_cloths_2 : decode cX11_cloths 2 = .ok (.iconst 0, 1) := by decide +kernel
theorem dX11_cloths_3 : decode cX11_cloths 3 = .ok (.istore_n 2, 1) := by decide +kernel
theorem dX11_cloths_4 : decode cX11_cloths 4 = .ok (.iload_n 2, 1) := by decide +kernel
theorem dX11_cloths_5 : decode cX11_cloths 5 = .ok (.aload_n 0, 1) := by decide +kernel
theorem dX11_cloths_6 : decode cX11_cloths 6 = .ok (.getfield 81, 3) := by decide +kernel
theorem dX11_cloths_9 : decode cX11_cloths 9 = .ok (.aload_n 0, 1) := by decide +kernel
theorem dX11_cloths_10 : decode cX11_cloths 10 = .ok (.getfield 51, 3) := by decide +kernel
theorem dX11_cloths_13 : decode cX11_cloths 13 = .ok (.iaload, 1) := by decide +kernel
theorem dX11_cloths_14 : decode cX11_cloths 14 = .ok (.if_icmp .ge 25, 3) := by decide +kernel
theorem dX11_cloths_17 : decode cX11_cloths 17 = .ok (.iload_n 1, 1) := by decide +kernel
theorem dX11_cloths_18 : decode cX11_cloths 18 = .ok (.aload_n 0, 1) := by decide +kernel
theorem dX11_cloths_19 : decode cX11_cloths 19 = .ok (.iload_n 2, 1) := by decide +kernel
theorem dX11_cloths_20 : decode cX11_cloths 20 = .ok (.invokevirtual 442, 3) := by decide +kernel
theorem dX11_cloths_23 : decode cX11_cloths 23 = .ok (.ifCond .ne 7, 3) := by decide +kernel
theorem dX11_cloths_26 : decode cX11_cloths 26 = .ok (.iconst 1, 1) := by decide +kernel
theorem dX11_cloths_27 : decode cX11_cloths 27 = .ok (.goto 4, 3) := by decide +kernel
theorem dX11_cloths_30 : decode cX11_cloths 30 = .ok (.iconst 0, 1) := by decide +kernel
theorem dX11_cloths_31 : decode cX11_cloths 31 = .ok (.iadd, 1) := by decide +kernel
theorem dX11_cloths_32 : decode cX11_cloths 32 = .ok (.istore_n 1, 1) := by decide +kernel
theorem dX11_cloths_33 : decode cX11_cloths 33 = .ok (.iinc 2 1, 3) := by decide +kernel
theorem dX11_cloths_36 : decode cX11_cloths 36 = .ok (.goto (-32), 3) := by decide +kernel
theorem dX11_cloths_39 : decode cX11_cloths 39 = .ok (.iload_n 1, 1) := by decide +kernel
theorem dX11_cloths_40 : decode cX11_cloths 40 = .ok (.ireturn, 1) := by decide +kernel
set_option maxRecDepth 100000 in
set_option maxHeartbeats 4000000 in
theorem X11_cloths_J31_ok {g : Gm} {w : Wd} (C : Cx g w RX11 cX11_cloths 3 (some .int)) {lv : Nat} (hlv : 1 < lv) {N : Nat} {r4 : Nat → Int → Int → Option Int } {l0 : Nat} {l2 : Int} {s0 : Int} {s1 : Int} {m : Mem} {out : Int} (hr4 : ∀ l0 l1 l2, r4 l0 l1 l2 = some out → Jd g w 3 (rmL lv 0 0) (Qm g w (some (vI out)) m) 4 [some (vR l0), some (vI l1), some (vI l2)] [] 312 m 0 0) (h : X11_cloths_J31 N r4 l0 l2 s0 s1 m = some out) : Jd g w 3 (rmL lv 0 0) (Qm g w (some (vI out)) m) 31 [some (vR l0), none, some (vI l2)] [vI s1, vI s0] 312 m 0 0 := by
  unfold X11_cloths_J31 at h
  refine j_iadd C dX11_cloths_31 ?_
  refine j_istore_n (ls' := [some (vR _), some (vI _), some (vI _)]) C dX11_cloths_32 (by decide) rfl ?_
  refine j_iinc (ls' := [some (vR _), some (vI _), some (vI _)]) C dX11_cloths_33 rfl (by decide) rfl ?_
  refine j_goto C 4 dX11_cloths_36 rfl ?_
  exact hr4 _ _ _ h
set_option maxRecDepth 100000 in
set_option maxHeartbeats 4000000 in
theorem X11_cloths_L4_bok {g : Gm} {w : Wd} (C : Cx g w RX11 cX11_cloths 3 (some .int)) {lv : Nat} (hlv : 1 < lv) {N : Nat} {r4 : Nat → Int → Int → Option Int} {l0 : Nat} {l1 : Int} {l2 : Int} {m : Mem} {out : Int} (hr4 : ∀ l0 l1 l2, r4 l0 l1 l2 = some out → Jd g w 3 (rmL lv 0 0) (Qm g w (some (vI out)) m) 4 [some (vR l0), some (vI l1), some (vI l2)] [] 312 m 0 0) (h : X11_cloths_L4_b N m r4 l0 l1 l2 = some out) : Jd g w 3 (rmL lv 0 0) (Qm g w (some (vI out)) m) 4 [some (vR l0), some (vI l1), some (vI l2)] [] 312 m 0 0 := by
  unfold X11_cloths_L4_b at h
  refine j_iload_n C dX11_cloths_4 rfl ?_
  refine j_aload_n C dX11_cloths_5 rfl ?_
  refine j_getR C dX11_cloths_6 CF11 (by decide) fl_X11_81 rfl rfl h (fun t1 h => ?_)
  refine j_aload_n C dX11_cloths_9 rfl ?_
  refine j_getI C dX11_cloths_10 CF11 (by decide) fl_X11_51 rfl rfl h (fun t2 h => ?_)
  refine j_iald C dX11_cloths_13 rfl h (fun t3 h => ?_)
  refine j_icmp_ge C 39 dX11_cloths_14 rfl h (fun c6 h => ?_) (fun c6 h => ?_)
  · refine j_iload_n C dX11_cloths_39 rfl ?_
    exact j_ri C dX11_cloths_40 rfl (Option.some.inj h).symm rfl
  · refine j_iload_n C dX11_cloths_17 rfl ?_
    refine j_aload_n C dX11_cloths_18 rfl ?_
    refine j_iload_n C dX11_cloths_19 rfl ?_
    obtain ⟨p4, ep4, h⟩ := bind_some h
    have qp4 := X11_sortOf_ct ep4
    refine j_cVI C dX11_cloths_20 vl_X11_442 CF11 rfl qp4.1 qp4.2 (by omega) rfl rfl (Nat.le_of_ble_eq_true rfl) ?_
    refine j_if_ne C 30 dX11_cloths_23 rfl h (fun c5 h => ?_) (fun c5 h => ?_)
    · refine j_iconst C dX11_cloths_30 rfl ?_
      refine j_mask [true, false, true] (ls' := [some (vR _), none, some (vI _)]) rfl ?_
      exact X11_cloths_J31_ok C hlv hr4 h
    · refine j_iconst C dX11_cloths_26 rfl ?_
      refine j_goto C 31 dX11_cloths_27 rfl ?_
      refine j_mask [true, false, true] (ls' := [some (vR _), none, some (vI _)]) rfl ?_
      exact X11_cloths_J31_ok C hlv hr4 h
set_option maxRecDepth 100000 in
set_option maxHeartbeats 4000000 in
theorem X11_cloths_L4_ok {g : Gm} {w : Wd} (C : Cx g w RX11 cX11_cloths 3 (some .int)) {lv : Nat} (hlv : 1 < lv) {N : Nat} {m : Mem} {out : Int} (f : Nat) : ∀ {l0 : Nat} {l1 : Int} {l2 : Int}, X11_cloths_L4 N m f l0 l1 l2 = some out → Jd g w 3 (rmL lv 0 0) (Qm g w (some (vI out)) m) 4 [some (vR l0), some (vI l1), some (vI l2)] [] 312 m 0 0 := by
  induction f with
  | zero => intro l0 l1 l2 h; exact none_ne (α := Int) h
  | succ f ih => intro l0 l1 l2 h; exact X11_cloths_L4_bok C hlv (fun l0 l1 l2 h => ih h) h
set_option maxRecDepth 100000 in
set_option maxHeartbeats 4000000 in
theorem X11_cloths_ct {N : Nat} {l0 : Nat} {m : Mem} {out : Int} (h : X11_cloths N l0 m = some out) : shK l0 = 11 + 10 ∧ CT yX11_cloths cX11_cloths 3 (some .int) 2 0 0 [vR l0] 312 m (some (vI out)) 312 m := by
  unfold X11_cloths at h
  obtain ⟨hK, h⟩ := ite_some h
  have hlv : 1 < 2 := by decide
  refine ⟨hK, CT.of (by decide +kernel) rfl (Nat.le_of_ble_eq_true rfl) (ls := [some (vR l0), none, none]) rfl fun g w C _ => ?_⟩
  refine j_iconst C dX11_cloths_0 rfl ?_
  refine j_istore_n (ls' := [some (vR _), some (vI _), none]) C dX11_cloths_1 (by decide) rfl ?_
  refine j_iconst C dX11_cloths_2 rfl ?_
  refine j_istore_n (ls' := [some (vR _), some (vI _), some (vI _)]) C dX11_cloths_3 (by decide) rfl ?_
  exact X11_cloths_L4_ok C hlv N h
theorem dX11_cloth_0 : decode cX11_cloth 0 = .ok (.iload_n 1, 1) := by decide +kernel
theorem dX11_cloth_1 : decode cX11_cloth 1 = .ok (.istore_n 2, 1) := by decide +kernel
theorem dX11_cloth_2 : decode cX11_cloth 2 = .ok (.iconst 0, 1) := by decide +kernel
theorem dX11_cloth_3 : decode cX11_cloth 3 = .ok (.istore_n 3, 1) := by decide +kernel
theorem dX11_cloth_4 : decode cX11_cloth 4 = .ok (.iload_n 3, 1) := by decide +kernel
theorem dX11_cloth_5 : decode cX11_cloth 5 = .ok (.aload_n 0, 1) := by decide +kernel
theorem dX11_cloth_6 : decode cX11_cloth 6 = .ok (.getfield 81, 3) := by decide +kernel
theorem dX11_cloth_9 : decode cX11_cloth 9 = .ok (.aload_n 0, 1) := by decide +kernel
theorem dX11_cloth_10 : decode cX11_cloth 10 = .ok (.getfield 51, 3) := by decide +kernel
theorem dX11_cloth_13 : decode cX11_cloth 13 = .ok (.iaload, 1) := by decide +kernel
theorem dX11_cloth_14 : decode cX11_cloth 14 = .ok (.if_icmp .ge 29, 3) := by decide +kernel
theorem dX11_cloth_17 : decode cX11_cloth 17 = .ok (.aload_n 0, 1) := by decide +kernel
theorem dX11_cloth_18 : decode cX11_cloth 18 = .ok (.iload_n 3, 1) := by decide +kernel
theorem dX11_cloth_19 : decode cX11_cloth 19 = .ok (.invokevirtual 442, 3) := by decide +kernel
theorem dX11_cloth_22 : decode cX11_cloth 22 = .ok (.ifCond .eq 6, 3) := by decide +kernel
theorem dX11_cloth_25 : decode cX11_cloth 25 = .ok (.goto 12, 3) := by decide +kernel
theorem dX11_cloth_28 : decode cX11_cloth 28 = .ok (.iload_n 2, 1) := by decide +kernel
theorem dX11_cloth_29 : decode cX11_cloth 29 = .ok (.ifCond .ne 5, 3) := by decide +kernel
theorem dX11_cloth_32 : decode cX11_cloth 32 = .ok (.iload_n 3, 1) := by decide +kernel
theorem dX11_cloth_33 : decode cX11_cloth 33 = .ok (.ireturn, 1) := by decide +kernel
theorem dX11_cloth_34 : decode cX11_cloth 34 = .ok (.iinc 2 (-1), 3) := by decide +kernel
theorem dX11_cloth_37 : decode cX11_cloth 37 = .ok (.iinc 3 1, 3) := by decide +kernel
theorem dX11_cloth_40 : decode cX11_cloth 40 = .ok (.goto (-36), 3) := by decide +kernel
theorem dX11_cloth_43 : decode cX11_cloth 43 = .ok (.iconst (-1), 1) := by decide +kernel
theorem dX11_cloth_44 : decode cX11_cloth 44 = .ok (.ireturn, 1) := by decide +kernel
set_option maxRecDepth 100000 in
set_option maxHeartbeats 4000000 in
theorem X11_cloth_J37_ok {g : Gm} {w : Wd} (C : Cx g w RX11 cX11_cloth 4 (some .int)) {lv : Nat} (hlv : 1 < lv) {N : Nat} {r4 : Nat → Int → Int → Option Int } {l0 : Nat} {l2 : Int} {l3 : Int} {m : Mem} {out : Int} (hr4 : ∀ l0 l2 l3, r4 l0 l2 l3 = some out → Jd g w 4 (rmL lv 0 0) (Qm g w (some (vI out)) m) 4 [some (vR l0), none, some (vI l2), some (vI l3)] [] 312 m 0 0) (h : X11_cloth_J37 N r4 l0 l2 l3 m = some out) : Jd g w 4 (rmL lv 0 0) (Qm g w (some (vI out)) m) 37 [some (vR l0), none, some (vI l2), some (vI l3)] [] 312 m 0 0 := by
  unfold X11_cloth_J37 at h
  refine j_iinc (ls' := [some (vR _), none, some (vI _), some (vI _)]) C dX11_cloth_37 rfl (by decide) rfl ?_
  refine j_goto C 4 dX11_cloth_40 rfl ?_
  exact hr4 _ _ _ h
set_option maxRecDepth 100000 in
set_option maxHeartbeats 4000000 in
theorem X11_cloth_L4_bok {g : Gm} {w : Wd} (C : Cx g w RX11 cX11_cloth 4 (some .int)) {lv : Nat} (hlv : 1 < lv) {N : Nat} {r4 : Nat → Int → Int → Option Int} {l0 : Nat} {l2 : Int} {l3 : Int} {m : Mem} {out : Int} (hr4 : ∀ l0 l2 l3, r4 l0 l2 l3 = some out → Jd g w 4 (rmL lv 0 0) (Qm g w (some (vI out)) m) 4 [some (vR l0), none, some (vI l2), some (vI l3)] [] 312 m 0 0) (h : X11_cloth_L4_b N m r4 l0 l2 l3 = some out) : Jd g w 4 (rmL lv 0 0) (Qm g w (some (vI out)) m) 4 [some (vR l0), none, some (vI l2), some (vI l3)] [] 312 m 0 0 := by
  unfold X11_cloth_L4_b at h
  refine j_iload_n C dX11_cloth_4 rfl ?_
  refine j_aload_n C dX11_cloth_5 rfl ?_
  refine j_getR C dX11_cloth_6 CF11 (by decide) fl_X11_81 rfl rfl h (fun t1 h => ?_)
  refine j_aload_n C dX11_cloth_9 rfl ?_
  refine j_getI C dX11_cloth_10 CF11 (by decide) fl_X11_51 rfl rfl h (fun t2 h => ?_)
  refine j_iald C dX11_cloth_13 rfl h (fun t3 h => ?_)
  refine j_icmp_ge C 43 dX11_cloth_14 rfl h (fun c7 h => ?_) (fun c7 h => ?_)
  · refine j_iconst C dX11_cloth_43 rfl ?_
    exact j_ri C dX11_cloth_44 rfl (Option.some.inj h).symm rfl
  · refine j_aload_n C dX11_cloth_17 rfl ?_
    refine j_iload_n C dX11_cloth_18 rfl ?_
    obtain ⟨p4, ep4, h⟩ := bind_some h
    have qp4 := X11_sortOf_ct ep4
    refine j_cVI C dX11_cloth_19 vl_X11_442 CF11 rfl qp4.1 qp4.2 (by omega) rfl rfl (Nat.le_of_ble_eq_true rfl) ?_
    refine j_if_eq C 28 dX11_cloth_22 rfl h (fun c6 h => ?_) (fun c6 h => ?_)
    · refine j_iload_n C dX11_cloth_28 rfl ?_
      refine j_if_ne C 34 dX11_cloth_29 rfl h (fun c5 h => ?_) (fun c5 h => ?_)
      · refine j_iinc (ls' := [some (vR _), none, some (vI _), some (vI _)]) C dX11_cloth_34 rfl (by decide) rfl ?_
        exact X11_cloth_J37_ok C hlv hr4 h
      · refine j_iload_n C dX11_cloth_32 rfl ?_
        exact j_ri C dX11_cloth_33 rfl (Option.some.inj h).symm rfl
    · refine j_goto C 37 dX11_cloth_25 rfl ?_
      exact X11_cloth_J37_ok C hlv hr4 h
set_option maxRecDepth 100000 in
set_option maxHeartbeats 4000000 in
theorem X11_cloth_L4_ok {g : Gm} {w : Wd} (C : Cx g w RX11 cX11_cloth 4 (some .int)) {lv : Nat} (hlv : 1 < lv) {N : Nat} {m : Mem} {out : Int} (f : Nat) : ∀ {l0 : Nat} {l2 : Int} {l3 : Int}, X11_cloth_L4 N m f l0 l2 l3 = some out → Jd g w 4 (rmL lv 0 0) (Qm g w (some (vI out)) m) 4 [some (vR l0), none, some (vI l2), some (vI l3)] [] 312 m 0 0 := by
  induction f with
  | zero => intro l0 l2 l3 h; exact none_ne (α := Int) h
  | succ f ih => intro l0 l2 l3 h; exact X11_cloth_L4_bok C hlv (fun l0 l2 l3 h => ih h) h
set_option maxRecDepth 100000 in
set_option maxHeartbeats 4000000 in
theorem X11_cloth_ct {N : Nat} {l0 : Nat} {l1 : Int} {m : Mem} {out : Int} (h : X11_cloth N l0 l1 m = some out) : shK l0 = 11 + 10 ∧ CT yX11_cloth cX11_cloth 4 (some .int) 2 0 0 [vR l0, vI l1] 312 m (some (vI out)) 312 m := by
  unfold X11_cloth at h
  obtain ⟨hK, h⟩ := ite_some h
  have hlv : 1 < 2 := by decide
  refine ⟨hK, CT.of (by decide +kernel) rfl (Nat.le_of_ble_eq_true rfl) (ls := [some (vR l0), some (vI l1), none, none]) rfl fun g w C _ => ?_⟩
  refine j_iload_n C dX11_cloth_0 rfl ?_
  refine j_istore_n (ls' := [some (vR _), some (vI _), some (vI _), none]) C dX11_cloth_1 (by decide) rfl ?_
  refine j_iconst C dX11_cloth_2 rfl ?_
  refine j_istore_n (ls' := [some (vR _), some (vI _), some (vI _), some (vI _)]) C dX11_cloth_3 (by decide) rfl ?_
  refine j_mask [true, false, true, true] (ls' := [some (vR _), none, some (vI _), some (vI _)]) rfl ?_
  exact X11_cloth_L4_ok C hlv N h
theorem dX11_copies_0 : decode cX11_copies 0 = .ok (.aload_n 0, 1) := by decide +kernel
theorem dX11_copies_1 : decode cX11_copies 1 = .ok (.getfield 164, 3) := by decide +kernel
theorem dX11_copies_4 : decode cX11_copies 4 = .ok (.iload_n 1, 1) := by decide +kernel
theorem dX11_copies_5 : decode cX11_copies 5 = .ok (.aload_n 0, 1) := by decide +kernel
theorem dX11_copies_6 : decode cX11_copies 6 = .ok (.getfield 164, 3) := by decide +kernel
theorem dX11_copies_9 : decode cX11_copies 9 = .ok (.iload_n 2, 1) := by decide +kernel
theorem dX11_copies_10 : decode cX11_copies 10 = .ok (.iaload, 1) := by decide +kernel
theorem dX11_copies_11 : decode cX11_copies 11 = .ok (.iastore, 1) := by decide +kernel
theorem dX11_copies_12 : decode cX11_copies 12 = .ok (.iconst 0, 1) := by decide +kernel
theorem dX11_copies_13 : decode cX11_copies 13 = .ok (.istore_n 3, 1) := by decide +kernel
theorem dX11_copies_14 : decode cX11_copies 14 = .ok (.iload_n 3, 1) := by decide +kernel
theorem dX11_copies_15 : decode cX11_copies 15 = .ok (.bipush 42, 2) := by decide +kernel
theorem dX11_copies_17 : decode cX11_copies 17 = .ok (.if_icmp .ge 31, 3) := by decide +kernel
theorem dX11_copies_20 : decode cX11_copies 20 = .ok (.aload_n 0, 1) := by decide +kernel
theorem dX11_copies_21 : decode cX11_copies 21 = .ok (.getfield 167, 3) := by decide +kernel
theorem dX11_copies_24 : decode cX11_copies 24 = .ok (.bipush 42, 2) := by decide +kernel
theorem dX11_copies_26 : decode cX11_copies 26 = .ok (.iload_n 1, 1) := by decide +kernel
theorem dX11_copies_27 : decode cX11_copies 27 = .ok (.imul, 1) := by decide +kernel
theorem dX11_copies_28 : decode cX11_copies 28 = .ok (.iload_n 3, 1) := by decide +kernel
theorem dX11_copies_29 : decode cX11_copies 29 = .ok (.iadd, 1) := by decide +kernel
theorem dX11_copies_30 : decode cX11_copies 30 = .ok (.aload_n 0, 1) := by decide +kernel
theorem dX11_copies_31 : decode cX11_copies 31 = .ok (.getfield 167, 3) := by decide +kernel
theorem dX11_copies_34 : decode cX11_copies 34 = .ok (.bipush 42, 2) := by decide +kernel
theorem dX11_copies_36 : decode cX11_copies 36 = .ok (.iload_n 2, 1) := by decide +kernel
theorem dX11_copies_37 : decode cX11_copies 37 = .ok (.imul, 1) := by decide +kernel
theorem dX11_copies_38 : decode cX11_copies 38 = .ok (.iload_n 3, 1) := by decide +kernel
theorem dX11_copies_39 : decode cX11_copies 39 = .ok (.iadd, 1) := by decide +kernel
theorem dX11_copies_40 : decode cX11_copies 40 = .ok (.iaload, 1) := by decide +kernel
theorem dX11_copies_41 : decode cX11_copies 41 = .ok (.iastore, 1) := by decide +kernel
theorem dX11_copies_42 : decode cX11_copies 42 = .ok (.iinc 3 1, 3) := by decide +kernel
theorem dX11_copies_45 : decode cX11_copies 45 = .ok (.goto (-31), 3) := by decide +kernel
theorem dX11_copies_48 : decode cX11_copies 48 = .ok (.iconst 0, 1) := by decide +kernel
theorem dX11_copies_49 : decode cX11_copies 49 = .ok (.istore_n 3, 1) := by decide +kernel
theorem dX11_copies_50 : decode cX11_copies 50 = .ok (.iload_n 3, 1) := by decide +kernel
theorem dX11_copies_51 : decode cX11_copies 51 = .ok (.bipush 10, 2) := by decide +kernel
theorem dX11_copies_53 : decode cX11_copies 53 = .ok (.if_icmp .ge 31, 3) := by decide +kernel
theorem dX11_copies_56 : decode cX11_copies 56 = .ok (.aload_n 0, 1) := by decide +kernel
theorem dX11_copies_57 : decode cX11_copies 57 = .ok (.getfield 170, 3) := by decide +kernel
theorem dX11_copies_60 : decode cX11_copies 60 = .ok (.bipush 10, 2) := by decide +kernel
theorem dX11_copies_62 : decode cX11_copies 62 = .ok (.iload_n 1, 1) := by decide +kernel
theorem dX11_copies_63 : decode cX11_copies 63 = .ok (.imul, 1) := by decide +kernel
theorem dX11_copies_64 : decode cX11_copies 64 = .ok (.iload_n 3, 1) := by decide +kernel
theorem dX11_copies_65 : decode cX11_copies 65 = .ok (.iadd, 1) := by decide +kernel
theorem dX11_copies_66 : decode cX11_copies 66 = .ok (.aload_n 0, 1) := by decide +kernel
theorem dX11_copies_67 : decode cX11_copies 67 = .ok (.getfield 170, 3) := by decide +kernel
theorem dX11_copies_70 : decode cX11_copies 70 = .ok (.bipush 10, 2) := by decide +kernel
theorem dX11_copies_72 : decode cX11_copies 72 = .ok (.iload_n 2, 1) := by decide +kernel
theorem dX11_copies_73 : decode cX11_copies 73 = .ok (.imul, 1) := by decide +kernel
theorem dX11_copies_74 : decode cX11_copies 74 = .ok (.iload_n 3, 1) := by decide +kernel
theorem dX11_copies_75 : decode cX11_copies 75 = .ok (.iadd, 1) := by decide +kernel
theorem dX11_copies_76 : decode cX11_copies 76 = .ok (.iaload, 1) := by decide +kernel
theorem dX11_copies_77 : decode cX11_copies 77 = .ok (.iastore, 1) := by decide +kernel
theorem dX11_copies_78 : decode cX11_copies 78 = .ok (.iinc 3 1, 3) := by decide +kernel
theorem dX11_copies_81 : decode cX11_copies 81 = .ok (.goto (-31), 3) := by decide +kernel
theorem dX11_copies_84 : decode cX11_copies 84 = .ok (.iconst 0, 1) := by decide +kernel
theorem dX11_copies_85 : decode cX11_copies 85 = .ok (.istore_n 3, 1) := by decide +kernel
theorem dX11_copies_86 : decode cX11_copies 86 = .ok (.iload_n 3, 1) := by decide +kernel
theorem dX11_copies_87 : decode cX11_copies 87 = .ok (.iconst 5, 1) := by decide +kernel
theorem dX11_copies_88 : decode cX11_copies 88 = .ok (.if_icmp .ge 29, 3) := by decide +kernel
theorem dX11_copies_91 : decode cX11_copies 91 = .ok (.aload_n 0, 1) := by decide +kernel
theorem dX11_copies_92 : decode cX11_copies 92 = .ok (.getfield 173, 3) := by decide +kernel
theorem dX11_copies_95 : decode cX11_copies 95 = .ok (.iconst 5, 1) := by decide +kernel
theorem dX11_copies_96 : decode cX11_copies 96 = .ok (.iload_n 1, 1) := by decide +kernel
theorem dX11_copies_97 : decode cX11_copies 97 = .ok (.imul, 1) := by decide +kernel
theorem dX11_copies_98 : decode cX11_copies 98 = .ok (.iload_n 3, 1) := by decide +kernel
theorem dX11_copies_99 : decode cX11_copies 99 = .ok (.iadd, 1) := by decide +kernel
theorem dX11_copies_100 : decode cX11_copies 100 = .ok (.aload_n 0, 1) := by decide +kernel
theorem dX11_copies_101 : decode cX11_copies 101 = .ok (.getfield 173, 3) := by decide +kernel
theorem dX11_copies_104 : decode cX11_copies 104 = .ok (.iconst 5, 1) := by decide +kernel
theorem dX11_copies_105 : decode cX11_copies 105 = .ok (.iload_n 2, 1) := by decide +kernel
theorem dX11_copies_106 : decode cX11_copies 106 = .ok (.imul, 1) := by decide +kernel
theorem dX11_copies_107 : decode cX11_copies 107 = .ok (.iload_n 3, 1) := by decide +kernel
theorem dX11_copies_108 : decode cX11_copies 108 = .ok (.iadd, 1) := by decide +kernel
theorem dX11_copies_109 : decode cX11_copies 109 = .ok (.iaload, 1) := by decide +kernel
theorem dX11_copies_110 : decode cX11_copies 110 = .ok (.iastore, 1) := by decide +kernel
theorem dX11_copies_111 : decode cX11_copies 111 = .ok (.iinc 3 1, 3) := by decide +kernel
theorem dX11_copies_114 : decode cX11_copies 114 = .ok (.goto (-28), 3) := by decide +kernel
theorem dX11_copies_117 : decode cX11_copies 117 = .ok (.return_, 1) := by decide +kernel
set_option maxRecDepth 100000 in
set_option maxHeartbeats 4000000 in
theorem X11_copies_L14_bok {g : Gm} {w : Wd} (C : Cx g w RX11 cX11_copies 4 none) {lv : Nat} (hlv : 0 < lv) {N : Nat} {k48 : Nat → Int → Int → Mem → Option Mem} {r14 : Nat → Int → Int → Int → Mem → Option Mem} {l0 : Nat} {l1 : Int} {l2 : Int} {l3 : Int} {m : Mem} {out : Mem} (hk48 : ∀ l0 l1 l2 m, k48 l0 l1 l2 m = some out → Jd g w 4 (rmL lv 0 0) (Qm g w none out) 48 [some (vR l0), some (vI l1), some (vI l2), none] [] 312 m 0 0) (hr14 : ∀ l0 l1 l2 l3 m, r14 l0 l1 l2 l3 m = some out → Jd g w 4 (rmL lv 0 0) (Qm g w none out) 14 [some (vR l0), some (vI l1), some (vI l2), some (vI l3)] [] 312 m 0 0) (h : X11_copies_L14_b N k48 r14 l0 l1 l2 l3 m = some out) : Jd g w 4 (rmL lv 0 0) (Qm g w none out) 14 [some (vR l0), some (vI l1), some (vI l2), some (vI l3)] [] 312 m 0 0 := by
  unfold X11_copies_L14_b at h
  refine j_iload_n C dX11_copies_14 rfl ?_
  refine j_bipush C dX11_copies_15 rfl ?_
  refine j_icmp_ge C 48 dX11_copies_17 rfl h (fun c9 h => ?_) (fun c9 h => ?_)
  · refine j_mask [true, true, true, false] (ls' := [some (vR _), some (vI _), some (vI _), none]) rfl ?_
    exact hk48 _ _ _ _ h
  · refine j_aload_n C dX11_copies_20 rfl ?_
    refine j_getR C dX11_copies_21 CF11 (by decide) fl_X11_167 rfl rfl h (fun t5 h => ?_)
    refine j_bipush C dX11_copies_24 rfl ?_
    refine j_iload_n C dX11_copies_26 rfl ?_
    refine j_imul C dX11_copies_27 ?_
    refine j_iload_n C dX11_copies_28 rfl ?_
    refine j_iadd C dX11_copies_29 ?_
    refine j_aload_n C dX11_copies_30 rfl ?_
    refine j_getR C dX11_copies_31 CF11 (by decide) fl_X11_167 rfl rfl h (fun t6 h => ?_)
    refine j_bipush C dX11_copies_34 rfl ?_
    refine j_iload_n C dX11_copies_36 rfl ?_
    refine j_imul C dX11_copies_37 ?_
    refine j_iload_n C dX11_copies_38 rfl ?_
    refine j_iadd C dX11_copies_39 ?_
    refine j_iald C dX11_copies_40 rfl h (fun t7 h => ?_)
    refine j_iast C dX11_copies_41 rfl h (fun m8 h => ?_)
    refine j_iinc (ls' := [some (vR _), some (vI _), some (vI _), some (vI _)]) C dX11_copies_42 rfl (by decide) rfl ?_
    refine j_goto C 14 dX11_copies_45 rfl ?_
    exact hr14 _ _ _ _ _ h
set_option maxRecDepth 100000 in
set_option maxHeartbeats 4000000 in
theorem X11_copies_L14_ok {g : Gm} {w : Wd} (C : Cx g w RX11 cX11_copies 4 none) {lv : Nat} (hlv : 0 < lv) {N : Nat} {k48 : Nat → Int → Int → Mem → Option Mem} {out : Mem} (hk48 : ∀ l0 l1 l2 m, k48 l0 l1 l2 m = some out → Jd g w 4 (rmL lv 0 0) (Qm g w none out) 48 [some (vR l0), some (vI l1), some (vI l2), none] [] 312 m 0 0) (f : Nat) : ∀ {l0 : Nat} {l1 : Int} {l2 : Int} {l3 : Int} {m : Mem}, X11_copies_L14 N k48 f l0 l1 l2 l3 m = some out → Jd g w 4 (rmL lv 0 0) (Qm g w none out) 14 [some (vR l0), some (vI l1), some (vI l2), some (vI l3)] [] 312 m 0 0 := by
  induction f with
  | zero => intro l0 l1 l2 l3 m h; exact none_ne (α := Mem) h
  | succ f ih => intro l0 l1 l2 l3 m h; exact X11_copies_L14_bok C hlv hk48 (fun l0 l1 l2 l3 m h => ih h) h
set_option maxRecDepth 100000 in
set_option maxHeartbeats 4000000 in
theorem X11_copies_L50_bok {g : Gm} {w : Wd} (C : Cx g w RX11 cX11_copies 4 none) {lv : Nat} (hlv : 0 < lv) {N : Nat} {k84 : Nat → Int → Int → Mem → Option Mem} {r50 : Nat → Int → Int → Int → Mem → Option Mem} {l0 : Nat} {l1 : Int} {l2 : Int} {l3 : Int} {m : Mem} {out : Mem} (hk84 : ∀ l0 l1 l2 m, k84 l0 l1 l2 m = some out → Jd g w 4 (rmL lv 0 0) (Qm g w none out) 84 [some (vR l0), some (vI l1), some (vI l2), none] [] 312 m 0 0) (hr50 : ∀ l0 l1 l2 l3 m, r50 l0 l1 l2 l3 m = some out → Jd g w 4 (rmL lv 0 0) (Qm g w none out) 50 [some (vR l0), some (vI l1), some (vI l2), some (vI l3)] [] 312 m 0 0) (h : X11_copies_L50_b N k84 r50 l0 l1 l2 l3 m = some out) : Jd g w 4 (rmL lv 0 0) (Qm g w none out) 50 [some (vR l0), some (vI l1), some (vI l2), some (vI l3)] [] 312 m 0 0 := by
  unfold X11_copies_L50_b at h
  refine j_iload_n C dX11_copies_50 rfl ?_
  refine j_bipush C dX11_copies_51 rfl ?_
  refine j_icmp_ge C 84 dX11_copies_53 rfl h (fun c18 h => ?_) (fun c18 h => ?_)
  · refine j_mask [true, true, true, false] (ls' := [some (vR _), some (vI _), some (vI _), none]) rfl ?_
    exact hk84 _ _ _ _ h
  · refine j_aload_n C dX11_copies_56 rfl ?_
    refine j_getR C dX11_copies_57 CF11 (by decide) fl_X11_170 rfl rfl h (fun t14 h => ?_)
    refine j_bipush C dX11_copies_60 rfl ?_
    refine j_iload_n C dX11_copies_62 rfl ?_
    refine j_imul C dX11_copies_63 ?_
    refine j_iload_n C dX11_copies_64 rfl ?_
    refine j_iadd C dX11_copies_65 ?_
    refine j_aload_n C dX11_copies_66 rfl ?_
    refine j_getR C dX11_copies_67 CF11 (by decide) fl_X11_170 rfl rfl h (fun t15 h => ?_)
    refine j_bipush C dX11_copies_70 rfl ?_
    refine j_iload_n C dX11_copies_72 rfl ?_
    refine j_imul C dX11_copies_73 ?_
    refine j_iload_n C dX11_copies_74 rfl ?_
    refine j_iadd C dX11_copies_75 ?_
    refine j_iald C dX11_copies_76 rfl h (fun t16 h => ?_)
    refine j_iast C dX11_copies_77 rfl h (fun m17 h => ?_)
    refine j_iinc (ls' := [some (vR _), some (vI _), some (vI _), some (vI _)]) C dX11_copies_78 rfl (by decide) rfl ?_
    refine j_goto C 50 dX11_copies_81 rfl ?_
    exact hr50 _ _ _ _ _ h
set_option maxRecDepth 100000 in
set_option maxHeartbeats 4000000 in
theorem X11_copies_L50_ok {g : Gm} {w : Wd} (C : Cx g w RX11 cX11_copies 4 none) {lv : Nat} (hlv : 0 < lv) {N : Nat} {k84 : Nat → Int → Int → Mem → Option Mem} {out : Mem} (hk84 : ∀ l0 l1 l2 m, k84 l0 l1 l2 m = some out → Jd g w 4 (rmL lv 0 0) (Qm g w none out) 84 [some (vR l0), some (vI l1), some (vI l2), none] [] 312 m 0 0) (f : Nat) : ∀ {l0 : Nat} {l1 : Int} {l2 : Int} {l3 : Int} {m : Mem}, X11_copies_L50 N k84 f l0 l1 l2 l3 m = some out → Jd g w 4 (rmL lv 0 0) (Qm g w none out) 50 [some (vR l0), some (vI l1), some (vI l2), some (vI l3)] [] 312 m 0 0 := by
  induction f with
  | zero => intro l0 l1 l2 l3 m h; exact none_ne (α := Mem) h
  | succ f ih => intro l0 l1 l2 l3 m h; exact X11_copies_L50_bok C hlv hk84 (fun l0 l1 l2 l3 m h => ih h) h
set_option maxRecDepth 100000 in
set_option maxHeartbeats 4000000 in
theorem X11_copies_L86_bok {g : Gm} {w : Wd} (C : Cx g w RX11 cX11_copies 4 none) {lv : Nat} (hlv : 0 < lv) {N : Nat} {r86 : Nat → Int → Int → Int → Mem → Option Mem} {l0 : Nat} {l1 : Int} {l2 : Int} {l3 : Int} {m : Mem} {out : Mem} (hr86 : ∀ l0 l1 l2 l3 m, r86 l0 l1 l2 l3 m = some out → Jd g w 4 (rmL lv 0 0) (Qm g w none out) 86 [some (vR l0), some (vI l1), some (vI l2), some (vI l3)] [] 312 m 0 0) (h : X11_copies_L86_b N r86 l0 l1 l2 l3 m = some out) : Jd g w 4 (rmL lv 0 0) (Qm g w none out) 86 [some (vR l0), some (vI l1), some (vI l2), some (vI l3)] [] 312 m 0 0 := by
  unfold X11_copies_L86_b at h
  refine j_iload_n C dX11_copies_86 rfl ?_
  refine j_iconst C dX11_copies_87 rfl ?_
  refine j_icmp_ge C 117 dX11_copies_88 rfl h (fun c27 h => ?_) (fun c27 h => ?_)
  · have e := Option.some.inj h
    subst e
    exact j_rv C dX11_copies_117 rfl rfl
  · refine j_aload_n C dX11_copies_91 rfl ?_
    refine j_getR C dX11_copies_92 CF11 (by decide) fl_X11_173 rfl rfl h (fun t23 h => ?_)
    refine j_iconst C dX11_copies_95 rfl ?_
    refine j_iload_n C dX11_copies_96 rfl ?_
    refine j_imul C dX11_copies_97 ?_
    refine j_iload_n C dX11_copies_98 rfl ?_
    refine j_iadd C dX11_copies_99 ?_
    refine j_aload_n C dX11_copies_100 rfl ?_
    refine j_getR C dX11_copies_101 CF11 (by decide) fl_X11_173 rfl rfl h (fun t24 h => ?_)
    refine j_iconst C dX11_copies_104 rfl ?_
    refine j_iload_n C dX11_copies_105 rfl ?_
    refine j_imul C dX11_copies_106 ?_
    refine j_iload_n C dX11_copies_107 rfl ?_
    refine j_iadd C dX11_copies_108 ?_
    refine j_iald C dX11_copies_109 rfl h (fun t25 h => ?_)
    refine j_iast C dX11_copies_110 rfl h (fun m26 h => ?_)
    refine j_iinc (ls' := [some (vR _), some (vI _), some (vI _), some (vI _)]) C dX11_copies_111 rfl (by decide) rfl ?_
    refine j_goto C 86 dX11_copies_114 rfl ?_
    exact hr86 _ _ _ _ _ h
set_option maxRecDepth 100000 in
set_option maxHeartbeats 4000000 in
theorem X11_copies_L86_ok {g : Gm} {w : Wd} (C : Cx g w RX11 cX11_copies 4 none) {lv : Nat} (hlv : 0 < lv) {N : Nat} {out : Mem} (f : Nat) : ∀ {l0 : Nat} {l1 : Int} {l2 : Int} {l3 : Int} {m : Mem}, X11_copies_L86 N f l0 l1 l2 l3 m = some out → Jd g w 4 (rmL lv 0 0) (Qm g w none out) 86 [some (vR l0), some (vI l1), some (vI l2), some (vI l3)] [] 312 m 0 0 := by
  induction f with
  | zero => intro l0 l1 l2 l3 m h; exact none_ne (α := Mem) h
  | succ f ih => intro l0 l1 l2 l3 m h; exact X11_copies_L86_bok C hlv (fun l0 l1 l2 l3 m h => ih h) h
set_option maxRecDepth 100000 in
set_option maxHeartbeats 4000000 in
theorem X11_copies_ct {N : Nat} {l0 : Nat} {l1 : Int} {l2 : Int} {m : Mem} {out : Mem} (h : X11_copies N l0 l1 l2 m = some out) : shK l0 = 11 + 10 ∧ CT yX11_copies cX11_copies 4 none 1 0 0 [vR l0, vI l1, vI l2] 312 m none 312 out := by
  unfold X11_copies at h
  obtain ⟨hK, h⟩ := ite_some h
  have hlv : 0 < 1 := by decide
  refine ⟨hK, CT.of (by decide +kernel) rfl (Nat.le_of_ble_eq_true rfl) (ls := [some (vR l0), some (vI l1), some (vI l2), none]) rfl fun g w C _ => ?_⟩
  refine j_aload_n C dX11_copies_0 rfl ?_
  refine j_getR C dX11_copies_1 CF11 (by decide) fl_X11_164 rfl rfl h (fun t1 h => ?_)
  refine j_iload_n C dX11_copies_4 rfl ?_
  refine j_aload_n C dX11_copies_5 rfl ?_
  refine j_getR C dX11_copies_6 CF11 (by decide) fl_X11_164 rfl rfl h (fun t2 h => ?_)
  refine j_iload_n C dX11_copies_9 rfl ?_
  refine j_iald C dX11_copies_10 rfl h (fun t3 h => ?_)
  refine j_iast C dX11_copies_11 rfl h (fun m4 h => ?_)
  refine j_iconst C dX11_copies_12 rfl ?_
  refine j_istore_n (ls' := [some (vR _), some (vI _), some (vI _), some (vI _)]) C dX11_copies_13 (by decide) rfl ?_
  refine X11_copies_L14_ok C hlv (fun z10 z11 z12 m13 h => ?_) N h
  refine j_iconst C dX11_copies_48 rfl ?_
  refine j_istore_n (ls' := [some (vR _), some (vI _), some (vI _), some (vI _)]) C dX11_copies_49 (by decide) rfl ?_
  refine X11_copies_L50_ok C hlv (fun z19 z20 z21 m22 h => ?_) N h
  refine j_iconst C dX11_copies_84 rfl ?_
  refine j_istore_n (ls' := [some (vR _), some (vI _), some (vI _), some (vI _)]) C dX11_copies_85 (by decide) rfl ?_
  exact X11_copies_L86_ok C hlv N h
